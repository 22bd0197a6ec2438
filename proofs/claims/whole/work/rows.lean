section
-- ===== PART A: goes FIRST, ahead of the names: the tables' words, and 'selects' of the private methods out of them =====
/-- a private method of a class that the tables say can be made, by its rows of tables_1 -/
def lw_okq (q : MethodName × Nat) : Prop := (q.1.cls ≠ "java/lang/invoke/MethodHandle" ∧ q.1.cls ≠ "java/lang/invoke/VarHandle") ∧ Cond.instantiable q.1.cls q.2 ∈ tables_1 ∧ Cond.privateMethod q.1 ∈ tables_1 ∧ Cond.instanceMethod q.1 ∈ tables_1
theorem lw_p0 : lw_okq (⟨"DarkOffice", "isLamp", "(I)Z"⟩, 10) := ⟨⟨by decide +kernel, by decide +kernel⟩, List.mem_of_getElem? (i := 15) (by decide +kernel), List.mem_of_getElem? (i := 296) (by decide +kernel), List.mem_of_getElem? (i := 297) (by decide +kernel)⟩
theorem lw_p1 : lw_okq (⟨"DarkOffice", "isPerson", "(I)Z"⟩, 10) := ⟨⟨by decide +kernel, by decide +kernel⟩, List.mem_of_getElem? (i := 15) (by decide +kernel), List.mem_of_getElem? (i := 331) (by decide +kernel), List.mem_of_getElem? (i := 332) (by decide +kernel)⟩
theorem lw_p2 : lw_okq (⟨"DarkOffice", "hasOffice", "()Z"⟩, 10) := ⟨⟨by decide +kernel, by decide +kernel⟩, List.mem_of_getElem? (i := 15) (by decide +kernel), List.mem_of_getElem? (i := 343) (by decide +kernel), List.mem_of_getElem? (i := 344) (by decide +kernel)⟩
theorem lw_p3 : lw_okq (⟨"DarkOffice", "planWaving", "(I)I"⟩, 10) := ⟨⟨by decide +kernel, by decide +kernel⟩, List.mem_of_getElem? (i := 15) (by decide +kernel), List.mem_of_getElem? (i := 376) (by decide +kernel), List.mem_of_getElem? (i := 377) (by decide +kernel)⟩
theorem lw_p4 : lw_okq (⟨"DarkOffice", "planRound", "(I)I"⟩, 10) := ⟨⟨by decide +kernel, by decide +kernel⟩, List.mem_of_getElem? (i := 15) (by decide +kernel), List.mem_of_getElem? (i := 396) (by decide +kernel), List.mem_of_getElem? (i := 397) (by decide +kernel)⟩
theorem lw_p5 : lw_okq (⟨"DarkOffice$Ways", "endLit", "(I)I"⟩, 2) := ⟨⟨by decide +kernel, by decide +kernel⟩, List.mem_of_getElem? (i := 106) (by decide +kernel), List.mem_of_getElem? (i := 460) (by decide +kernel), List.mem_of_getElem? (i := 461) (by decide +kernel)⟩
theorem lw_p6 : lw_okq (⟨"DarkOffice", "digestPerson", "(JI)J"⟩, 10) := ⟨⟨by decide +kernel, by decide +kernel⟩, List.mem_of_getElem? (i := 15) (by decide +kernel), List.mem_of_getElem? (i := 506) (by decide +kernel), List.mem_of_getElem? (i := 507) (by decide +kernel)⟩
theorem lw_p7 : lw_okq (⟨"DarkOfficeModel", "faultOf", "()I"⟩, 24) := ⟨⟨by decide +kernel, by decide +kernel⟩, List.mem_of_getElem? (i := 514) (by decide +kernel), List.mem_of_getElem? (i := 609) (by decide +kernel), List.mem_of_getElem? (i := 610) (by decide +kernel)⟩
theorem lw_p8 : lw_okq (⟨"DarkOfficeModel", "isLamp", "(I)Z"⟩, 24) := ⟨⟨by decide +kernel, by decide +kernel⟩, List.mem_of_getElem? (i := 514) (by decide +kernel), List.mem_of_getElem? (i := 628) (by decide +kernel), List.mem_of_getElem? (i := 629) (by decide +kernel)⟩
theorem lw_p9 : lw_okq (⟨"DarkOfficeModel", "tellLamp", "(II)I"⟩, 24) := ⟨⟨by decide +kernel, by decide +kernel⟩, List.mem_of_getElem? (i := 514) (by decide +kernel), List.mem_of_getElem? (i := 632) (by decide +kernel), List.mem_of_getElem? (i := 633) (by decide +kernel)⟩
theorem lw_p10 : lw_okq (⟨"DarkOfficeModel", "seesOf", "(I)I"⟩, 24) := ⟨⟨by decide +kernel, by decide +kernel⟩, List.mem_of_getElem? (i := 514) (by decide +kernel), List.mem_of_getElem? (i := 636) (by decide +kernel), List.mem_of_getElem? (i := 637) (by decide +kernel)⟩
theorem lw_p11 : lw_okq (⟨"DarkOfficeModel", "whoSitsIn", "(I)I"⟩, 24) := ⟨⟨by decide +kernel, by decide +kernel⟩, List.mem_of_getElem? (i := 514) (by decide +kernel), List.mem_of_getElem? (i := 640) (by decide +kernel), List.mem_of_getElem? (i := 641) (by decide +kernel)⟩
theorem lw_p12 : lw_okq (⟨"DarkOfficeModel", "seenBy", "(I)I"⟩, 24) := ⟨⟨by decide +kernel, by decide +kernel⟩, List.mem_of_getElem? (i := 514) (by decide +kernel), List.mem_of_getElem? (i := 644) (by decide +kernel), List.mem_of_getElem? (i := 645) (by decide +kernel)⟩
theorem lw_p13 : lw_okq (⟨"DarkOfficeModel", "isPerson", "(I)Z"⟩, 24) := ⟨⟨by decide +kernel, by decide +kernel⟩, List.mem_of_getElem? (i := 514) (by decide +kernel), List.mem_of_getElem? (i := 661) (by decide +kernel), List.mem_of_getElem? (i := 662) (by decide +kernel)⟩
theorem lw_p14 : lw_okq (⟨"DarkOfficeModel", "tell", "(II)I"⟩, 24) := ⟨⟨by decide +kernel, by decide +kernel⟩, List.mem_of_getElem? (i := 514) (by decide +kernel), List.mem_of_getElem? (i := 665) (by decide +kernel), List.mem_of_getElem? (i := 666) (by decide +kernel)⟩
theorem lw_p15 : lw_okq (⟨"DarkOfficeModel", "lacks", "()Z"⟩, 24) := ⟨⟨by decide +kernel, by decide +kernel⟩, List.mem_of_getElem? (i := 514) (by decide +kernel), List.mem_of_getElem? (i := 677) (by decide +kernel), List.mem_of_getElem? (i := 678) (by decide +kernel)⟩
def lw_privs_1 : List (MethodName × Nat) := [(⟨"DarkOffice", "isLamp", "(I)Z"⟩, 10), (⟨"DarkOffice", "isPerson", "(I)Z"⟩, 10), (⟨"DarkOffice", "hasOffice", "()Z"⟩, 10), (⟨"DarkOffice", "planWaving", "(I)I"⟩, 10), (⟨"DarkOffice", "planRound", "(I)I"⟩, 10), (⟨"DarkOffice$Ways", "endLit", "(I)I"⟩, 2), (⟨"DarkOffice", "digestPerson", "(JI)J"⟩, 10), (⟨"DarkOfficeModel", "faultOf", "()I"⟩, 24), (⟨"DarkOfficeModel", "isLamp", "(I)Z"⟩, 24), (⟨"DarkOfficeModel", "tellLamp", "(II)I"⟩, 24), (⟨"DarkOfficeModel", "seesOf", "(I)I"⟩, 24), (⟨"DarkOfficeModel", "whoSitsIn", "(I)I"⟩, 24), (⟨"DarkOfficeModel", "seenBy", "(I)I"⟩, 24), (⟨"DarkOfficeModel", "isPerson", "(I)Z"⟩, 24), (⟨"DarkOfficeModel", "tell", "(II)I"⟩, 24), (⟨"DarkOfficeModel", "lacks", "()Z"⟩, 24)]
theorem lw_r1 : ∀ q ∈ lw_privs_1, lw_okq q := List.forall_mem_cons.mpr ⟨lw_p0, List.forall_mem_cons.mpr ⟨lw_p1, List.forall_mem_cons.mpr ⟨lw_p2, List.forall_mem_cons.mpr ⟨lw_p3, List.forall_mem_cons.mpr ⟨lw_p4, List.forall_mem_cons.mpr ⟨lw_p5, List.forall_mem_cons.mpr ⟨lw_p6, List.forall_mem_cons.mpr ⟨lw_p7, List.forall_mem_cons.mpr ⟨lw_p8, List.forall_mem_cons.mpr ⟨lw_p9, List.forall_mem_cons.mpr ⟨lw_p10, List.forall_mem_cons.mpr ⟨lw_p11, List.forall_mem_cons.mpr ⟨lw_p12, List.forall_mem_cons.mpr ⟨lw_p13, List.forall_mem_cons.mpr ⟨lw_p14, List.forall_mem_cons.mpr ⟨lw_p15, fun _ h => absurd h List.not_mem_nil⟩⟩⟩⟩⟩⟩⟩⟩⟩⟩⟩⟩⟩⟩⟩⟩
theorem lw_p16 : lw_okq (⟨"DarkOfficeModel", "asItIs", "()V"⟩, 24) := ⟨⟨by decide +kernel, by decide +kernel⟩, List.mem_of_getElem? (i := 514) (by decide +kernel), List.mem_of_getElem? (i := 681) (by decide +kernel), List.mem_of_getElem? (i := 682) (by decide +kernel)⟩
theorem lw_p17 : lw_okq (⟨"DarkOfficeModel", "sectionsOf", "(I)I"⟩, 24) := ⟨⟨by decide +kernel, by decide +kernel⟩, List.mem_of_getElem? (i := 514) (by decide +kernel), List.mem_of_getElem? (i := 685) (by decide +kernel), List.mem_of_getElem? (i := 686) (by decide +kernel)⟩
theorem lw_p18 : lw_okq (⟨"DarkOfficeModel", "goesBy", "(I)V"⟩, 24) := ⟨⟨by decide +kernel, by decide +kernel⟩, List.mem_of_getElem? (i := 514) (by decide +kernel), List.mem_of_getElem? (i := 689) (by decide +kernel), List.mem_of_getElem? (i := 690) (by decide +kernel)⟩
theorem lw_p19 : lw_okq (⟨"DarkOfficeModel", "darkNow", "()I"⟩, 24) := ⟨⟨by decide +kernel, by decide +kernel⟩, List.mem_of_getElem? (i := 514) (by decide +kernel), List.mem_of_getElem? (i := 693) (by decide +kernel), List.mem_of_getElem? (i := 694) (by decide +kernel)⟩
theorem lw_p20 : lw_okq (⟨"DarkOfficeModel", "leastOf", "(II)I"⟩, 24) := ⟨⟨by decide +kernel, by decide +kernel⟩, List.mem_of_getElem? (i := 514) (by decide +kernel), List.mem_of_getElem? (i := 704) (by decide +kernel), List.mem_of_getElem? (i := 705) (by decide +kernel)⟩
theorem lw_p21 : lw_okq (⟨"DarkOfficeModel", "layLeast", "(I)I"⟩, 24) := ⟨⟨by decide +kernel, by decide +kernel⟩, List.mem_of_getElem? (i := 514) (by decide +kernel), List.mem_of_getElem? (i := 708) (by decide +kernel), List.mem_of_getElem? (i := 709) (by decide +kernel)⟩
theorem lw_p22 : lw_okq (⟨"DarkOfficeModel", "layRound", "(I)I"⟩, 24) := ⟨⟨by decide +kernel, by decide +kernel⟩, List.mem_of_getElem? (i := 514) (by decide +kernel), List.mem_of_getElem? (i := 720) (by decide +kernel), List.mem_of_getElem? (i := 721) (by decide +kernel)⟩
theorem lw_p23 : lw_okq (⟨"DarkOfficeModel", "isRound", "(III)Z"⟩, 24) := ⟨⟨by decide +kernel, by decide +kernel⟩, List.mem_of_getElem? (i := 514) (by decide +kernel), List.mem_of_getElem? (i := 724) (by decide +kernel), List.mem_of_getElem? (i := 725) (by decide +kernel)⟩
theorem lw_p24 : lw_okq (⟨"DarkOfficeModel", "areAllLit", "()Z"⟩, 24) := ⟨⟨by decide +kernel, by decide +kernel⟩, List.mem_of_getElem? (i := 514) (by decide +kernel), List.mem_of_getElem? (i := 728) (by decide +kernel), List.mem_of_getElem? (i := 729) (by decide +kernel)⟩
theorem lw_p25 : lw_okq (⟨"DarkOfficeModel", "togetherOf", "(I)I"⟩, 24) := ⟨⟨by decide +kernel, by decide +kernel⟩, List.mem_of_getElem? (i := 514) (by decide +kernel), List.mem_of_getElem? (i := 739) (by decide +kernel), List.mem_of_getElem? (i := 740) (by decide +kernel)⟩
theorem lw_p26 : lw_okq (⟨"DarkOfficeModel", "wavedOf", "(III)I"⟩, 24) := ⟨⟨by decide +kernel, by decide +kernel⟩, List.mem_of_getElem? (i := 514) (by decide +kernel), List.mem_of_getElem? (i := 756) (by decide +kernel), List.mem_of_getElem? (i := 757) (by decide +kernel)⟩
theorem lw_p27 : lw_okq (⟨"DarkOfficeModel", "canWave", "(III)Z"⟩, 24) := ⟨⟨by decide +kernel, by decide +kernel⟩, List.mem_of_getElem? (i := 514) (by decide +kernel), List.mem_of_getElem? (i := 760) (by decide +kernel), List.mem_of_getElem? (i := 761) (by decide +kernel)⟩
theorem lw_p28 : lw_okq (⟨"DarkOfficeModel", "isBooked", "(I)Z"⟩, 24) := ⟨⟨by decide +kernel, by decide +kernel⟩, List.mem_of_getElem? (i := 514) (by decide +kernel), List.mem_of_getElem? (i := 764) (by decide +kernel), List.mem_of_getElem? (i := 765) (by decide +kernel)⟩
theorem lw_p29 : lw_okq (⟨"DarkOfficeModel", "lookOf", "(II)I"⟩, 24) := ⟨⟨by decide +kernel, by decide +kernel⟩, List.mem_of_getElem? (i := 514) (by decide +kernel), List.mem_of_getElem? (i := 772) (by decide +kernel), List.mem_of_getElem? (i := 773) (by decide +kernel)⟩
theorem lw_p30 : lw_okq (⟨"DarkOfficeModel", "draw", "(I)I"⟩, 24) := ⟨⟨by decide +kernel, by decide +kernel⟩, List.mem_of_getElem? (i := 514) (by decide +kernel), List.mem_of_getElem? (i := 782) (by decide +kernel), List.mem_of_getElem? (i := 783) (by decide +kernel)⟩
theorem lw_p31 : lw_okq (⟨"DarkOfficeModel", "countOf", "(I)I"⟩, 24) := ⟨⟨by decide +kernel, by decide +kernel⟩, List.mem_of_getElem? (i := 514) (by decide +kernel), List.mem_of_getElem? (i := 802) (by decide +kernel), List.mem_of_getElem? (i := 803) (by decide +kernel)⟩
def lw_privs_2 : List (MethodName × Nat) := [(⟨"DarkOfficeModel", "asItIs", "()V"⟩, 24), (⟨"DarkOfficeModel", "sectionsOf", "(I)I"⟩, 24), (⟨"DarkOfficeModel", "goesBy", "(I)V"⟩, 24), (⟨"DarkOfficeModel", "darkNow", "()I"⟩, 24), (⟨"DarkOfficeModel", "leastOf", "(II)I"⟩, 24), (⟨"DarkOfficeModel", "layLeast", "(I)I"⟩, 24), (⟨"DarkOfficeModel", "layRound", "(I)I"⟩, 24), (⟨"DarkOfficeModel", "isRound", "(III)Z"⟩, 24), (⟨"DarkOfficeModel", "areAllLit", "()Z"⟩, 24), (⟨"DarkOfficeModel", "togetherOf", "(I)I"⟩, 24), (⟨"DarkOfficeModel", "wavedOf", "(III)I"⟩, 24), (⟨"DarkOfficeModel", "canWave", "(III)Z"⟩, 24), (⟨"DarkOfficeModel", "isBooked", "(I)Z"⟩, 24), (⟨"DarkOfficeModel", "lookOf", "(II)I"⟩, 24), (⟨"DarkOfficeModel", "draw", "(I)I"⟩, 24), (⟨"DarkOfficeModel", "countOf", "(I)I"⟩, 24)]
theorem lw_r2 : ∀ q ∈ lw_privs_2, lw_okq q := List.forall_mem_cons.mpr ⟨lw_p16, List.forall_mem_cons.mpr ⟨lw_p17, List.forall_mem_cons.mpr ⟨lw_p18, List.forall_mem_cons.mpr ⟨lw_p19, List.forall_mem_cons.mpr ⟨lw_p20, List.forall_mem_cons.mpr ⟨lw_p21, List.forall_mem_cons.mpr ⟨lw_p22, List.forall_mem_cons.mpr ⟨lw_p23, List.forall_mem_cons.mpr ⟨lw_p24, List.forall_mem_cons.mpr ⟨lw_p25, List.forall_mem_cons.mpr ⟨lw_p26, List.forall_mem_cons.mpr ⟨lw_p27, List.forall_mem_cons.mpr ⟨lw_p28, List.forall_mem_cons.mpr ⟨lw_p29, List.forall_mem_cons.mpr ⟨lw_p30, List.forall_mem_cons.mpr ⟨lw_p31, fun _ h => absurd h List.not_mem_nil⟩⟩⟩⟩⟩⟩⟩⟩⟩⟩⟩⟩⟩⟩⟩⟩
theorem lw_p32 : lw_okq (⟨"DarkOfficeModel", "litMany", "()I"⟩, 24) := ⟨⟨by decide +kernel, by decide +kernel⟩, List.mem_of_getElem? (i := 514) (by decide +kernel), List.mem_of_getElem? (i := 806) (by decide +kernel), List.mem_of_getElem? (i := 807) (by decide +kernel)⟩
theorem lw_p33 : lw_okq (⟨"DarkOfficeModel", "sumBy", "(I)I"⟩, 24) := ⟨⟨by decide +kernel, by decide +kernel⟩, List.mem_of_getElem? (i := 514) (by decide +kernel), List.mem_of_getElem? (i := 810) (by decide +kernel), List.mem_of_getElem? (i := 811) (by decide +kernel)⟩
theorem lw_p34 : lw_okq (⟨"DarkOfficeModel", "say", "(J)V"⟩, 24) := ⟨⟨by decide +kernel, by decide +kernel⟩, List.mem_of_getElem? (i := 514) (by decide +kernel), List.mem_of_getElem? (i := 819) (by decide +kernel), List.mem_of_getElem? (i := 820) (by decide +kernel)⟩
def lw_privs_3 : List (MethodName × Nat) := [(⟨"DarkOfficeModel", "litMany", "()I"⟩, 24), (⟨"DarkOfficeModel", "sumBy", "(I)I"⟩, 24), (⟨"DarkOfficeModel", "say", "(J)V"⟩, 24)]
theorem lw_r3 : ∀ q ∈ lw_privs_3, lw_okq q := List.forall_mem_cons.mpr ⟨lw_p32, List.forall_mem_cons.mpr ⟨lw_p33, List.forall_mem_cons.mpr ⟨lw_p34, fun _ h => absurd h List.not_mem_nil⟩⟩⟩
def lw_privs : List (MethodName × Nat) := lw_privs_1 ++ (lw_privs_2 ++ (lw_privs_3))
def lw_tbl : List Cond := k2_sels lw_privs ++ tables_1
theorem lw_privs_ok : ∀ q ∈ lw_privs, lw_okq q := by
  show ∀ q ∈ lw_privs_1 ++ (lw_privs_2 ++ (lw_privs_3)), lw_okq q
  exact List.forall_mem_append.mpr ⟨lw_r1, List.forall_mem_append.mpr ⟨lw_r2, lw_r3⟩⟩
-- ===== end of PART A; then your names; then what follows =====
end
section
/-! ===== BEGIN words of one list among another's, by their places ===== -/
theorem goodIn_r {big : List Cond} (ws : List Cond) (ps : List Nat) (hp : ws = ps.filterMap (fun i => big[i]?)) (h : ws.all goodWord = true) : GoodIn big ws := by
  intro w hw
  have h1 := List.all_eq_true.mp h w hw
  rw [hp] at hw
  obtain ⟨i, -, hi⟩ := List.mem_filterMap.mp hw
  have hm : w ∈ big := by first | exact List.mem_of_getElem? hi | exact List.getElem?_mem hi
  exact ⟨hm, good_of_word h1⟩
theorem goodIn_app {big a b : List Cond} (ha : GoodIn big a) (hb : GoodIn big b) : GoodIn big (a ++ b) := fun w h => (List.mem_append.mp h).elim (ha w) (hb w)
theorem goodIn_ca {big a b : List Cond} {c : Cond} (ha : GoodIn big (c :: a)) (hb : GoodIn big b) : GoodIn big (c :: (a ++ b)) := fun w h => (List.mem_cons.mp h).elim (fun e => ha w (List.mem_cons.mpr (Or.inl e))) (fun h => (List.mem_append.mp h).elim (fun h => ha w (List.mem_cons.mpr (Or.inr h))) (hb w))
theorem goodIn_sub {big ws : List Cond} (hm : ∀ w ∈ ws, w ∈ big) (h : ws.all goodWord = true) : GoodIn big ws := fun w hw => ⟨hm w hw, good_of_word (List.all_eq_true.mp h w hw)⟩
/-! ===== END ===== -/

/-! ===== BEGIN printed: names, fields, word lists, decode rows ===== -/
def RX0 : String := "DarkOffice$Evening"
def TX0 : u_T := fun k => match k with
  | 0 => ("DarkOffice$Evening", "lit", "I", false)
  | 1 => ("DarkOffice$Evening", "minutes", "I", false)
  | 2 => ("DarkOffice$Evening", "people", "I", false)
  | 3 => ("DarkOffice$Evening", "sections", "[I", true)
  | 4 => ("DarkOffice$Evening", "waves", "[I", true)
  | 5 => ("DarkOffice$Evening", "darks", "[I", true)
  | 6 => ("DarkOffice$Evening", "told", "I", false)
  | 7 => ("DarkOffice$Evening", "toldLit", "[I", true)
  | _ => ("DarkOffice$Evening", "toldDark", "[I", true)
def tyX0 : Nat → FieldType := fun k => match k with
  | 0 => .int
  | 1 => .int
  | 2 => .int
  | 3 => .array .int
  | 4 => .array .int
  | 5 => .array .int
  | 6 => .int
  | 7 => .array .int
  | _ => .array .int
abbrev wsX00 : List Cond := u_ws RX0 TX0 9
theorem nmX0 : ∀ a, a < 9 → ∀ b, b < 9 → a ≠ b → (TX0 a).2.1 ≠ (TX0 b).2.1 := by decide +kernel
theorem tyX0_ok : ∀ k, k < 9 → parseFieldDescriptor (TX0 k).2.2.1 = some (tyX0 k) := by decide +kernel
abbrev cX0_init : ByteArray := prog_2_method_1_code
def yX0_init : MethodName := ⟨RX0, "<init>", "()V"⟩
abbrev cX0_begin : ByteArray := prog_2_method_2_code
def yX0_begin : MethodName := ⟨RX0, "begin", "()V"⟩
abbrev cX0_copy : ByteArray := prog_2_method_3_code
def yX0_copy : MethodName := ⟨RX0, "copy", "(LDarkOffice$Evening;)V"⟩
abbrev cX0_seat : ByteArray := prog_2_method_4_code
def yX0_seat : MethodName := ⟨RX0, "seat", "(I)I"⟩
abbrev cX0_peopleIn : ByteArray := prog_2_method_5_code
def yX0_peopleIn : MethodName := ⟨RX0, "peopleIn", "(I)I"⟩
abbrev cX0_stirred : ByteArray := prog_2_method_6_code
def yX0_stirred : MethodName := ⟨RX0, "stirred", "(I)I"⟩
abbrev cX0_inDark : ByteArray := prog_2_method_7_code
def yX0_inDark : MethodName := ⟨RX0, "inDark", "(I)I"⟩
abbrev cX0_write : ByteArray := prog_2_method_8_code
def yX0_write : MethodName := ⟨RX0, "write", "(II)V"⟩
abbrev cX0_ofAll : ByteArray := prog_2_method_9_code
def yX0_ofAll : MethodName := ⟨RX0, "ofAll", "([I)I"⟩
abbrev cX0_tell : ByteArray := prog_2_method_10_code
def yX0_tell : MethodName := ⟨RX0, "tell", "(IIZ)I"⟩
abbrev cX0_emptyBook : ByteArray := prog_2_method_11_code
def yX0_emptyBook : MethodName := ⟨RX0, "emptyBook", "()V"⟩
abbrev cX0_bookAgrees : ByteArray := prog_2_method_12_code
def yX0_bookAgrees : MethodName := ⟨RX0, "bookAgrees", "(II)Z"⟩
def RX1 : String := "DarkOffice$Lamps"
def TX1 : u_T := fun k => match k with
  | 0 => ("DarkOffice$Lamps", "kinds", "[I", true)
  | 1 => ("DarkOffice$Lamps", "holds", "[I", true)
  | 2 => ("DarkOffice$Lamps", "sees", "[I", true)
  | _ => ("DarkOffice$Lamps", "size", "I", false)
def tyX1 : Nat → FieldType := fun k => match k with
  | 0 => .array .int
  | 1 => .array .int
  | 2 => .array .int
  | _ => .int
abbrev wsX10 : List Cond := u_ws RX1 TX1 4
theorem nmX1 : ∀ a, a < 4 → ∀ b, b < 4 → a ≠ b → (TX1 a).2.1 ≠ (TX1 b).2.1 := by decide +kernel
theorem tyX1_ok : ∀ k, k < 4 → parseFieldDescriptor (TX1 k).2.2.1 = some (tyX1 k) := by decide +kernel
abbrev cX1_init : ByteArray := prog_3_method_1_code
def yX1_init : MethodName := ⟨RX1, "<init>", "()V"⟩
abbrev cX1_read : ByteArray := prog_3_method_2_code
def yX1_read : MethodName := ⟨RX1, "read", "(LDarkOffice$Page;)V"⟩
abbrev cX1_seenBy : ByteArray := prog_3_method_3_code
def yX1_seenBy : MethodName := ⟨RX1, "seenBy", "(II)I"⟩
abbrev cX1_isOf : ByteArray := prog_3_method_4_code
def yX1_isOf : MethodName := ⟨RX1, "isOf", "(II)Z"⟩
abbrev cX1_allOnes : ByteArray := prog_3_method_5_code
def yX1_allOnes : MethodName := ⟨RX1, "allOnes", "()I"⟩
abbrev cX1_left : ByteArray := prog_3_method_6_code
def yX1_left : MethodName := ⟨RX1, "left", "(II)I"⟩
abbrev cX1_litOnes : ByteArray := prog_3_method_7_code
def yX1_litOnes : MethodName := ⟨RX1, "litOnes", "(I)I"⟩
abbrev cX1_after : ByteArray := prog_3_method_8_code
def yX1_after : MethodName := ⟨RX1, "after", "(II)I"⟩
abbrev cX1_seeing : ByteArray := prog_3_method_9_code
def yX1_seeing : MethodName := ⟨RX1, "seeing", "(I)I"⟩
abbrev cX1_mostSeen : ByteArray := prog_3_method_10_code
def yX1_mostSeen : MethodName := ⟨RX1, "mostSeen", "()I"⟩
def RX2 : String := "DarkOffice$Page"
def TX2 : u_T := fun k => match k with
  | 0 => ("DarkOffice$Page", "codes", "[I", true)
  | _ => ("DarkOffice$Page", "length", "I", false)
def tyX2 : Nat → FieldType := fun k => match k with
  | 0 => .array .int
  | _ => .int
abbrev wsX20 : List Cond := u_ws RX2 TX2 2
theorem nmX2 : ∀ a, a < 2 → ∀ b, b < 2 → a ≠ b → (TX2 a).2.1 ≠ (TX2 b).2.1 := by decide +kernel
theorem tyX2_ok : ∀ k, k < 2 → parseFieldDescriptor (TX2 k).2.2.1 = some (tyX2 k) := by decide +kernel
abbrev cX2_init : ByteArray := prog_4_method_1_code
def yX2_init : MethodName := ⟨RX2, "<init>", "()V"⟩
abbrev cX2_put : ByteArray := prog_4_method_2_code
def yX2_put : MethodName := ⟨RX2, "put", "(I)I"⟩
abbrev cX2_firstFault : ByteArray := prog_4_method_3_code
def yX2_firstFault : MethodName := ⟨RX2, "firstFault", "()I"⟩
abbrev cX2_isOffice : ByteArray := prog_4_method_4_code
def yX2_isOffice : MethodName := ⟨RX2, "isOffice", "()Z"⟩
abbrev cX2_fits : ByteArray := prog_4_method_5_code
def yX2_fits : MethodName := ⟨RX2, "fits", "(II)Z"⟩
def RX3 : String := "DarkOffice$Ways"
def TX3 : u_T := fun k => match k with
  | 0 => ("DarkOffice$Ways", "ends", "[I", true)
  | _ => ("DarkOffice$Ways", "size", "I", false)
def tyX3 : Nat → FieldType := fun k => match k with
  | 0 => .array .int
  | _ => .int
abbrev wsX30 : List Cond := u_ws RX3 TX3 2
theorem nmX3 : ∀ a, a < 2 → ∀ b, b < 2 → a ≠ b → (TX3 a).2.1 ≠ (TX3 b).2.1 := by decide +kernel
theorem tyX3_ok : ∀ k, k < 2 → parseFieldDescriptor (TX3 k).2.2.1 = some (tyX3 k) := by decide +kernel
abbrev cX3_init : ByteArray := prog_5_method_1_code
def yX3_init : MethodName := ⟨RX3, "<init>", "()V"⟩
abbrev cX3_follow : ByteArray := prog_5_method_2_code
def yX3_follow : MethodName := ⟨RX3, "follow", "(LDarkOffice$Lamps;LDarkOffice$Evening;II)V"⟩
abbrev cX3_further : ByteArray := prog_5_method_3_code
def yX3_further : MethodName := ⟨RX3, "further", "(LDarkOffice$Lamps;LDarkOffice$Evening;III)I"⟩
abbrev cX3_left : ByteArray := prog_5_method_4_code
def yX3_left : MethodName := ⟨RX3, "left", "()I"⟩
abbrev cX3_first : ByteArray := prog_5_method_5_code
def yX3_first : MethodName := ⟨RX3, "first", "()I"⟩
abbrev cX3_tellingLamp : ByteArray := prog_5_method_6_code
def yX3_tellingLamp : MethodName := ⟨RX3, "tellingLamp", "(I)I"⟩
abbrev cX3_endLit : ByteArray := prog_5_method_7_code
def yX3_endLit : MethodName := ⟨RX3, "endLit", "(I)I"⟩
def RX4 : String := "DarkOffice"
def TX4 : u_T := fun k => match k with
  | 0 => ("DarkOffice", "page", "LDarkOffice$Page;", true)
  | 1 => ("DarkOffice", "lamps", "LDarkOffice$Lamps;", true)
  | 2 => ("DarkOffice", "now", "LDarkOffice$Evening;", true)
  | 3 => ("DarkOffice", "kept", "LDarkOffice$Evening;", true)
  | 4 => ("DarkOffice", "ways", "LDarkOffice$Ways;", true)
  | 5 => ("DarkOffice", "plan", "[I", true)
  | 6 => ("DarkOffice", "steps", "[I", true)
  | 7 => ("DarkOffice", "imageKept", "Z", false)
  | 8 => ("DarkOffice", "officesRead", "I", false)
  | _ => ("DarkOffice", "roundsDone", "I", false)
def tyX4 : Nat → FieldType := fun k => match k with
  | 0 => .object "DarkOffice$Page"
  | 1 => .object "DarkOffice$Lamps"
  | 2 => .object "DarkOffice$Evening"
  | 3 => .object "DarkOffice$Evening"
  | 4 => .object "DarkOffice$Ways"
  | 5 => .array .int
  | 6 => .array .int
  | 7 => .boolean
  | 8 => .int
  | _ => .int
abbrev wsX40 : List Cond := u_ws RX4 TX4 10
theorem nmX4 : ∀ a, a < 10 → ∀ b, b < 10 → a ≠ b → (TX4 a).2.1 ≠ (TX4 b).2.1 := by decide +kernel
theorem tyX4_ok : ∀ k, k < 10 → parseFieldDescriptor (TX4 k).2.2.1 = some (tyX4 k) := by decide +kernel
abbrev cX4_init : ByteArray := prog_1_method_1_code
def yX4_init : MethodName := ⟨RX4, "<init>", "()V"⟩
abbrev cX4_letter : ByteArray := prog_1_method_2_code
def yX4_letter : MethodName := ⟨RX4, "letter", "(I)I"⟩
abbrev cX4_blank : ByteArray := prog_1_method_3_code
def yX4_blank : MethodName := ⟨RX4, "blank", "()I"⟩
abbrev cX4_fault : ByteArray := prog_1_method_4_code
def yX4_fault : MethodName := ⟨RX4, "fault", "()I"⟩
abbrev cX4_office : ByteArray := prog_1_method_5_code
def yX4_office : MethodName := ⟨RX4, "office", "()I"⟩
abbrev cX4_lamp : ByteArray := prog_1_method_6_code
def yX4_lamp : MethodName := ⟨RX4, "lamp", "(II)I"⟩
abbrev cX4_as : ByteArray := prog_1_method_7_code
def yX4_as : MethodName := ⟨RX4, "as", "(II)I"⟩
abbrev cX4_person : ByteArray := prog_1_method_8_code
def yX4_person : MethodName := ⟨RX4, "person", "(I)I"⟩
abbrev cX4_about : ByteArray := prog_1_method_9_code
def yX4_about : MethodName := ⟨RX4, "about", "(II)I"⟩
abbrev cX4_move : ByteArray := prog_1_method_10_code
def yX4_move : MethodName := ⟨RX4, "move", "(II)I"⟩
abbrev cX4_minute : ByteArray := prog_1_method_11_code
def yX4_minute : MethodName := ⟨RX4, "minute", "(I)I"⟩
abbrev cX4_least : ByteArray := prog_1_method_12_code
def yX4_least : MethodName := ⟨RX4, "least", "(II)I"⟩
abbrev cX4_round : ByteArray := prog_1_method_13_code
def yX4_round : MethodName := ⟨RX4, "round", "(II)I"⟩
abbrev cX4_together : ByteArray := prog_1_method_14_code
def yX4_together : MethodName := ⟨RX4, "together", "(I)I"⟩
abbrev cX4_book : ByteArray := prog_1_method_15_code
def yX4_book : MethodName := ⟨RX4, "book", "(IIZ)I"⟩
abbrev cX4_forget : ByteArray := prog_1_method_16_code
def yX4_forget : MethodName := ⟨RX4, "forget", "()I"⟩
abbrev cX4_waved : ByteArray := prog_1_method_17_code
def yX4_waved : MethodName := ⟨RX4, "waved", "(III)I"⟩
abbrev cX4_look : ByteArray := prog_1_method_18_code
def yX4_look : MethodName := ⟨RX4, "look", "(II)I"⟩
abbrev cX4_nights : ByteArray := prog_1_method_19_code
def yX4_nights : MethodName := ⟨RX4, "nights", "(III)I"⟩
abbrev cX4_image : ByteArray := prog_1_method_20_code
def yX4_image : MethodName := ⟨RX4, "image", "()I"⟩
abbrev cX4_restore : ByteArray := prog_1_method_21_code
def yX4_restore : MethodName := ⟨RX4, "restore", "()I"⟩
abbrev cX4_count : ByteArray := prog_1_method_22_code
def yX4_count : MethodName := ⟨RX4, "count", "(I)I"⟩
abbrev cX4_digest : ByteArray := prog_1_method_23_code
def yX4_digest : MethodName := ⟨RX4, "digest", "()J"⟩
abbrev cX4_digestPerson : ByteArray := prog_1_method_24_code
def yX4_digestPerson : MethodName := ⟨RX4, "digestPerson", "(JI)J"⟩
abbrev cX4_hasOffice : ByteArray := prog_1_method_25_code
def yX4_hasOffice : MethodName := ⟨RX4, "hasOffice", "()Z"⟩
abbrev cX4_isLamp : ByteArray := prog_1_method_26_code
def yX4_isLamp : MethodName := ⟨RX4, "isLamp", "(I)Z"⟩
abbrev cX4_isPerson : ByteArray := prog_1_method_27_code
def yX4_isPerson : MethodName := ⟨RX4, "isPerson", "(I)Z"⟩
abbrev cX4_asksMinute : ByteArray := prog_1_method_28_code
def yX4_asksMinute : MethodName := ⟨RX4, "asksMinute", "(II)Z"⟩
abbrev cX4_ofMinute : ByteArray := prog_1_method_29_code
def yX4_ofMinute : MethodName := ⟨RX4, "ofMinute", "([III)I"⟩
abbrev cX4_nextSeed : ByteArray := prog_1_method_30_code
def yX4_nextSeed : MethodName := ⟨RX4, "nextSeed", "(I)I"⟩
abbrev cX4_draw : ByteArray := prog_1_method_31_code
def yX4_draw : MethodName := ⟨RX4, "draw", "(I)I"⟩
abbrev cX4_planWaving : ByteArray := prog_1_method_32_code
def yX4_planWaving : MethodName := ⟨RX4, "planWaving", "(I)I"⟩
abbrev cX4_keepsLit : ByteArray := prog_1_method_33_code
def yX4_keepsLit : MethodName := ⟨RX4, "keepsLit", "(LDarkOffice$Lamps;LDarkOffice$Evening;[IIIII)Z"⟩
abbrev cX4_planRound : ByteArray := prog_1_method_34_code
def yX4_planRound : MethodName := ⟨RX4, "planRound", "(I)I"⟩
abbrev cX4_lightsAll : ByteArray := prog_1_method_35_code
def yX4_lightsAll : MethodName := ⟨RX4, "lightsAll", "(LDarkOffice$Lamps;[IIIII)Z"⟩
def RX5 : String := "DarkOfficeModel"
def TX5 : u_T := fun k => match k with
  | 0 => ("DarkOfficeModel", "page", "[I", true)
  | 1 => ("DarkOfficeModel", "pageMany", "I", false)
  | 2 => ("DarkOfficeModel", "lamps", "I", false)
  | 3 => ("DarkOfficeModel", "minutesNow", "I", false)
  | 4 => ("DarkOfficeModel", "officesRead", "I", false)
  | 5 => ("DarkOfficeModel", "rows", "[I", true)
  | 6 => ("DarkOfficeModel", "people", "I", false)
  | 7 => ("DarkOfficeModel", "seats", "[I", true)
  | 8 => ("DarkOfficeModel", "lit", "[I", true)
  | 9 => ("DarkOfficeModel", "bestCode", "I", false)
  | 10 => ("DarkOfficeModel", "roundMany", "I", false)
  | 11 => ("DarkOfficeModel", "going", "[I", true)
  | 12 => ("DarkOfficeModel", "bestGoing", "[I", true)
  | 13 => ("DarkOfficeModel", "bookMany", "I", false)
  | 14 => ("DarkOfficeModel", "books", "[I", true)
  | 15 => ("DarkOfficeModel", "seedNow", "I", false)
  | 16 => ("DarkOfficeModel", "keptOffice", "I", false)
  | 17 => ("DarkOfficeModel", "keptPeople", "I", false)
  | 18 => ("DarkOfficeModel", "keptMinutes", "I", false)
  | 19 => ("DarkOfficeModel", "keptBookMany", "I", false)
  | 20 => ("DarkOfficeModel", "keptRows", "[I", true)
  | 21 => ("DarkOfficeModel", "keptSeats", "[I", true)
  | 22 => ("DarkOfficeModel", "keptBooks", "[I", true)
  | _ => ("DarkOfficeModel", "hash", "J", false)
def tyX5 : Nat → FieldType := fun k => match k with
  | 0 => .array .int
  | 1 => .int
  | 2 => .int
  | 3 => .int
  | 4 => .int
  | 5 => .array .int
  | 6 => .int
  | 7 => .array .int
  | 8 => .array .int
  | 9 => .int
  | 10 => .int
  | 11 => .array .int
  | 12 => .array .int
  | 13 => .int
  | 14 => .array .int
  | 15 => .int
  | 16 => .int
  | 17 => .int
  | 18 => .int
  | 19 => .int
  | 20 => .array .int
  | 21 => .array .int
  | 22 => .array .int
  | _ => .long
abbrev wsX50 : List Cond := u_ws RX5 TX5 24
theorem nmX5 : ∀ a, a < 24 → ∀ b, b < 24 → a ≠ b → (TX5 a).2.1 ≠ (TX5 b).2.1 := by decide +kernel
theorem tyX5_ok : ∀ k, k < 24 → parseFieldDescriptor (TX5 k).2.2.1 = some (tyX5 k) := by decide +kernel
abbrev cX5_init : ByteArray := prog_7_method_1_code
def yX5_init : MethodName := ⟨RX5, "<init>", "()V"⟩
abbrev cX5_in : ByteArray := prog_7_method_2_code
def yX5_in : MethodName := ⟨RX5, "in", "(JJJ)Z"⟩
abbrev cX5_copy : ByteArray := prog_7_method_3_code
def yX5_copy : MethodName := ⟨RX5, "copy", "([I[I)V"⟩
abbrev cX5_ones : ByteArray := prog_7_method_4_code
def yX5_ones : MethodName := ⟨RX5, "ones", "(I)I"⟩
abbrev cX5_letter : ByteArray := prog_7_method_5_code
def yX5_letter : MethodName := ⟨RX5, "letter", "(I)I"⟩
abbrev cX5_blank : ByteArray := prog_7_method_6_code
def yX5_blank : MethodName := ⟨RX5, "blank", "()I"⟩
abbrev cX5_kindBy : ByteArray := prog_7_method_7_code
def yX5_kindBy : MethodName := ⟨RX5, "kindBy", "(I)I"⟩
abbrev cX5_isGood : ByteArray := prog_7_method_8_code
def yX5_isGood : MethodName := ⟨RX5, "isGood", "(II)Z"⟩
abbrev cX5_faultOf : ByteArray := prog_7_method_9_code
def yX5_faultOf : MethodName := ⟨RX5, "faultOf", "()I"⟩
abbrev cX5_fault : ByteArray := prog_7_method_10_code
def yX5_fault : MethodName := ⟨RX5, "fault", "()I"⟩
abbrev cX5_office : ByteArray := prog_7_method_11_code
def yX5_office : MethodName := ⟨RX5, "office", "()I"⟩
abbrev cX5_lacks : ByteArray := prog_7_method_12_code
def yX5_lacks : MethodName := ⟨RX5, "lacks", "()Z"⟩
abbrev cX5_isLamp : ByteArray := prog_7_method_13_code
def yX5_isLamp : MethodName := ⟨RX5, "isLamp", "(I)Z"⟩
abbrev cX5_isPerson : ByteArray := prog_7_method_14_code
def yX5_isPerson : MethodName := ⟨RX5, "isPerson", "(I)Z"⟩
abbrev cX5_seesOf : ByteArray := prog_7_method_15_code
def yX5_seesOf : MethodName := ⟨RX5, "seesOf", "(I)I"⟩
abbrev cX5_whoSitsIn : ByteArray := prog_7_method_16_code
def yX5_whoSitsIn : MethodName := ⟨RX5, "whoSitsIn", "(I)I"⟩
abbrev cX5_seenBy : ByteArray := prog_7_method_17_code
def yX5_seenBy : MethodName := ⟨RX5, "seenBy", "(I)I"⟩
abbrev cX5_tellLamp : ByteArray := prog_7_method_18_code
def yX5_tellLamp : MethodName := ⟨RX5, "tellLamp", "(II)I"⟩
abbrev cX5_lamp : ByteArray := prog_7_method_19_code
def yX5_lamp : MethodName := ⟨RX5, "lamp", "(II)I"⟩
abbrev cX5_as : ByteArray := prog_7_method_20_code
def yX5_as : MethodName := ⟨RX5, "as", "(II)I"⟩
abbrev cX5_person : ByteArray := prog_7_method_21_code
def yX5_person : MethodName := ⟨RX5, "person", "(I)I"⟩
abbrev cX5_tell : ByteArray := prog_7_method_22_code
def yX5_tell : MethodName := ⟨RX5, "tell", "(II)I"⟩
abbrev cX5_about : ByteArray := prog_7_method_23_code
def yX5_about : MethodName := ⟨RX5, "about", "(II)I"⟩
abbrev cX5_move : ByteArray := prog_7_method_24_code
def yX5_move : MethodName := ⟨RX5, "move", "(II)I"⟩
abbrev cX5_asItIs : ByteArray := prog_7_method_25_code
def yX5_asItIs : MethodName := ⟨RX5, "asItIs", "()V"⟩
abbrev cX5_goesBy : ByteArray := prog_7_method_26_code
def yX5_goesBy : MethodName := ⟨RX5, "goesBy", "(I)V"⟩
abbrev cX5_sectionsOf : ByteArray := prog_7_method_27_code
def yX5_sectionsOf : MethodName := ⟨RX5, "sectionsOf", "(I)I"⟩
abbrev cX5_darkNow : ByteArray := prog_7_method_28_code
def yX5_darkNow : MethodName := ⟨RX5, "darkNow", "()I"⟩
abbrev cX5_minute : ByteArray := prog_7_method_29_code
def yX5_minute : MethodName := ⟨RX5, "minute", "(I)I"⟩
abbrev cX5_layLeast : ByteArray := prog_7_method_30_code
def yX5_layLeast : MethodName := ⟨RX5, "layLeast", "(I)I"⟩
abbrev cX5_leastOf : ByteArray := prog_7_method_31_code
def yX5_leastOf : MethodName := ⟨RX5, "leastOf", "(II)I"⟩
abbrev cX5_least : ByteArray := prog_7_method_32_code
def yX5_least : MethodName := ⟨RX5, "least", "(II)I"⟩
abbrev cX5_areAllLit : ByteArray := prog_7_method_33_code
def yX5_areAllLit : MethodName := ⟨RX5, "areAllLit", "()Z"⟩
abbrev cX5_isRound : ByteArray := prog_7_method_34_code
def yX5_isRound : MethodName := ⟨RX5, "isRound", "(III)Z"⟩
abbrev cX5_layRound : ByteArray := prog_7_method_35_code
def yX5_layRound : MethodName := ⟨RX5, "layRound", "(I)I"⟩
abbrev cX5_round : ByteArray := prog_7_method_36_code
def yX5_round : MethodName := ⟨RX5, "round", "(II)I"⟩
abbrev cX5_togetherOf : ByteArray := prog_7_method_37_code
def yX5_togetherOf : MethodName := ⟨RX5, "togetherOf", "(I)I"⟩
abbrev cX5_together : ByteArray := prog_7_method_38_code
def yX5_together : MethodName := ⟨RX5, "together", "(I)I"⟩
abbrev cX5_book : ByteArray := prog_7_method_39_code
def yX5_book : MethodName := ⟨RX5, "book", "(IIZ)I"⟩
abbrev cX5_forget : ByteArray := prog_7_method_40_code
def yX5_forget : MethodName := ⟨RX5, "forget", "()I"⟩
abbrev cX5_isBooked : ByteArray := prog_7_method_41_code
def yX5_isBooked : MethodName := ⟨RX5, "isBooked", "(I)Z"⟩
abbrev cX5_canWave : ByteArray := prog_7_method_42_code
def yX5_canWave : MethodName := ⟨RX5, "canWave", "(III)Z"⟩
abbrev cX5_wavedOf : ByteArray := prog_7_method_43_code
def yX5_wavedOf : MethodName := ⟨RX5, "wavedOf", "(III)I"⟩
abbrev cX5_waved : ByteArray := prog_7_method_44_code
def yX5_waved : MethodName := ⟨RX5, "waved", "(III)I"⟩
abbrev cX5_lookOf : ByteArray := prog_7_method_45_code
def yX5_lookOf : MethodName := ⟨RX5, "lookOf", "(II)I"⟩
abbrev cX5_look : ByteArray := prog_7_method_46_code
def yX5_look : MethodName := ⟨RX5, "look", "(II)I"⟩
abbrev cX5_draw : ByteArray := prog_7_method_47_code
def yX5_draw : MethodName := ⟨RX5, "draw", "(I)I"⟩
abbrev cX5_nights : ByteArray := prog_7_method_48_code
def yX5_nights : MethodName := ⟨RX5, "nights", "(III)I"⟩
abbrev cX5_image : ByteArray := prog_7_method_49_code
def yX5_image : MethodName := ⟨RX5, "image", "()I"⟩
abbrev cX5_restore : ByteArray := prog_7_method_50_code
def yX5_restore : MethodName := ⟨RX5, "restore", "()I"⟩
abbrev cX5_litMany : ByteArray := prog_7_method_51_code
def yX5_litMany : MethodName := ⟨RX5, "litMany", "()I"⟩
abbrev cX5_sumBy : ByteArray := prog_7_method_52_code
def yX5_sumBy : MethodName := ⟨RX5, "sumBy", "(I)I"⟩
abbrev cX5_countOf : ByteArray := prog_7_method_53_code
def yX5_countOf : MethodName := ⟨RX5, "countOf", "(I)I"⟩
abbrev cX5_count : ByteArray := prog_7_method_54_code
def yX5_count : MethodName := ⟨RX5, "count", "(I)I"⟩
abbrev cX5_say : ByteArray := prog_7_method_55_code
def yX5_say : MethodName := ⟨RX5, "say", "(J)V"⟩
abbrev cX5_digest : ByteArray := prog_7_method_56_code
def yX5_digest : MethodName := ⟨RX5, "digest", "()J"⟩
def RJ11 : String := "java/lang/Character"
def TJ11 : u_T := fun k => match k with
  | _ => ("", "", "", false)
def tyJ11 : Nat → FieldType := fun k => match k with
  | _ => .int
abbrev wsJ110 : List Cond := u_ws RJ11 TJ11 0
theorem nmJ11 : ∀ a, a < 0 → ∀ b, b < 0 → a ≠ b → (TJ11 a).2.1 ≠ (TJ11 b).2.1 := by decide +kernel
theorem tyJ11_ok : ∀ k, k < 0 → parseFieldDescriptor (TJ11 k).2.2.1 = some (tyJ11 k) := by decide +kernel
abbrev cJ11_isValidCodePoint_9a6ad : ByteArray := prog_8_method_11_code
def yJ11_isValidCodePoint_9a6ad : MethodName := ⟨RJ11, "isValidCodePoint", "(I)Z"⟩
abbrev cJ11_highSurrogate_5068e : ByteArray := prog_8_method_28_code
def yJ11_highSurrogate_5068e : MethodName := ⟨RJ11, "highSurrogate", "(I)C"⟩
abbrev cJ11_lowSurrogate_5068e : ByteArray := prog_8_method_29_code
def yJ11_lowSurrogate_5068e : MethodName := ⟨RJ11, "lowSurrogate", "(I)C"⟩
def RJ6 : String := "java/lang/Integer"
def TJ6 : u_T := fun k => match k with
  | _ => ("", "", "", false)
def tyJ6 : Nat → FieldType := fun k => match k with
  | _ => .int
abbrev wsJ60 : List Cond := u_ws RJ6 TJ6 0
theorem nmJ6 : ∀ a, a < 0 → ∀ b, b < 0 → a ≠ b → (TJ6 a).2.1 ≠ (TJ6 b).2.1 := by decide +kernel
theorem tyJ6_ok : ∀ k, k < 0 → parseFieldDescriptor (TJ6 k).2.2.1 = some (tyJ6 k) := by decide +kernel
abbrev cJ6_bitCount_0f7a4 : ByteArray := prog_9_method_49_code
def yJ6_bitCount_0f7a4 : MethodName := ⟨RJ6, "bitCount", "(I)I"⟩
def RJ9 : String := "java/lang/Math"
def TJ9 : u_T := fun k => match k with
  | _ => ("", "", "", false)
def tyJ9 : Nat → FieldType := fun k => match k with
  | _ => .int
abbrev wsJ90 : List Cond := u_ws RJ9 TJ9 0
theorem nmJ9 : ∀ a, a < 0 → ∀ b, b < 0 → a ≠ b → (TJ9 a).2.1 ≠ (TJ9 b).2.1 := by decide +kernel
theorem tyJ9_ok : ∀ k, k < 0 → parseFieldDescriptor (TJ9 k).2.2.1 = some (tyJ9 k) := by decide +kernel
abbrev cJ9_max_7cf53 : ByteArray := prog_10_method_65_code
def yJ9_max_7cf53 : MethodName := ⟨RJ9, "max", "(II)I"⟩
abbrev cJ9_min_7cf53 : ByteArray := prog_10_method_69_code
def yJ9_min_7cf53 : MethodName := ⟨RJ9, "min", "(II)I"⟩
def RJ0 : String := "java/lang/String"
def TJ0 : u_T := fun k => match k with
  | _ => ("", "", "", false)
def tyJ0 : Nat → FieldType := fun k => match k with
  | _ => .int
abbrev wsJ00 : List Cond := u_ws RJ0 TJ0 0
theorem nmJ0 : ∀ a, a < 0 → ∀ b, b < 0 → a ≠ b → (TJ0 a).2.1 ≠ (TJ0 b).2.1 := by decide +kernel
theorem tyJ0_ok : ∀ k, k < 0 → parseFieldDescriptor (TJ0 k).2.2.1 = some (tyJ0 k) := by decide +kernel
abbrev cJ0_length_8abf5 : ByteArray := prog_11_method_54_code
def yJ0_length_8abf5 : MethodName := ⟨RJ0, "length", "()I"⟩
abbrev cJ0_indexOf_0f7a4 : ByteArray := prog_11_method_79_code
def yJ0_indexOf_0f7a4 : MethodName := ⟨RJ0, "indexOf", "(I)I"⟩
abbrev cJ0_indexOf_7cf53 : ByteArray := prog_11_method_80_code
def yJ0_indexOf_7cf53 : MethodName := ⟨RJ0, "indexOf", "(II)I"⟩
abbrev cJ0_coder_7d493 : ByteArray := prog_11_method_152_code
def yJ0_coder_7d493 : MethodName := ⟨RJ0, "coder", "()B"⟩
abbrev cJ0_isLatin1_aae02 : ByteArray := prog_11_method_154_code
def yJ0_isLatin1_aae02 : MethodName := ⟨RJ0, "isLatin1", "()Z"⟩
abbrev cJ0_checkBoundsBeginEnd_23922 : ByteArray := prog_11_method_158_code
def yJ0_checkBoundsBeginEnd_23922 : MethodName := ⟨RJ0, "checkBoundsBeginEnd", "(III)V"⟩
def RJ1 : String := "java/lang/StringLatin1"
def TJ1 : u_T := fun k => match k with
  | _ => ("", "", "", false)
def tyJ1 : Nat → FieldType := fun k => match k with
  | _ => .int
abbrev wsJ10 : List Cond := u_ws RJ1 TJ1 0
theorem nmJ1 : ∀ a, a < 0 → ∀ b, b < 0 → a ≠ b → (TJ1 a).2.1 ≠ (TJ1 b).2.1 := by decide +kernel
theorem tyJ1_ok : ∀ k, k < 0 → parseFieldDescriptor (TJ1 k).2.2.1 = some (tyJ1 k) := by decide +kernel
abbrev cJ1_canEncode_9a6ad : ByteArray := prog_12_method_4_code
def yJ1_canEncode_9a6ad : MethodName := ⟨RJ1, "canEncode", "(I)Z"⟩
abbrev cJ1_indexOf_4cfef : ByteArray := prog_12_method_22_code
def yJ1_indexOf_4cfef : MethodName := ⟨RJ1, "indexOf", "([BIII)I"⟩
abbrev cJ1_indexOfChar_4cfef : ByteArray := prog_12_method_23_code
def yJ1_indexOfChar_4cfef : MethodName := ⟨RJ1, "indexOfChar", "([BIII)I"⟩
def RJ2 : String := "java/lang/StringUTF16"
def TJ2 : u_T := fun k => match k with
  | _ => ("", "", "", false)
def tyJ2 : Nat → FieldType := fun k => match k with
  | _ => .int
abbrev wsJ20 : List Cond := u_ws RJ2 TJ2 0
theorem nmJ2 : ∀ a, a < 0 → ∀ b, b < 0 → a ≠ b → (TJ2 a).2.1 ≠ (TJ2 b).2.1 := by decide +kernel
theorem tyJ2_ok : ∀ k, k < 0 → parseFieldDescriptor (TJ2 k).2.2.1 = some (tyJ2 k) := by decide +kernel
abbrev cJ2_getChar_3b067 : ByteArray := prog_13_method_5_code
def yJ2_getChar_3b067 : MethodName := ⟨RJ2, "getChar", "([BI)C"⟩
abbrev cJ2_length_9d52b : ByteArray := prog_13_method_6_code
def yJ2_length_9d52b : MethodName := ⟨RJ2, "length", "([B)I"⟩
abbrev cJ2_indexOf_4cfef : ByteArray := prog_13_method_40_code
def yJ2_indexOf_4cfef : MethodName := ⟨RJ2, "indexOf", "([BIII)I"⟩
abbrev cJ2_indexOfChar_4cfef : ByteArray := prog_13_method_47_code
def yJ2_indexOfChar_4cfef : MethodName := ⟨RJ2, "indexOfChar", "([BIII)I"⟩
abbrev cJ2_indexOfCharUnsafe_4cfef : ByteArray := prog_13_method_48_code
def yJ2_indexOfCharUnsafe_4cfef : MethodName := ⟨RJ2, "indexOfCharUnsafe", "([BIII)I"⟩
abbrev cJ2_indexOfSupplementary_4cfef : ByteArray := prog_13_method_49_code
def yJ2_indexOfSupplementary_4cfef : MethodName := ⟨RJ2, "indexOfSupplementary", "([BIII)I"⟩
abbrev cJ2_checkBoundsBeginEnd_d044e : ByteArray := prog_13_method_93_code
def yJ2_checkBoundsBeginEnd_d044e : MethodName := ⟨RJ2, "checkBoundsBeginEnd", "(II[B)V"⟩
def RJ3 : String := "jdk/internal/util/Preconditions"
def TJ3 : u_T := fun k => match k with
  | _ => ("", "", "", false)
def tyJ3 : Nat → FieldType := fun k => match k with
  | _ => .int
abbrev wsJ30 : List Cond := u_ws RJ3 TJ3 0
theorem nmJ3 : ∀ a, a < 0 → ∀ b, b < 0 → a ≠ b → (TJ3 a).2.1 ≠ (TJ3 b).2.1 := by decide +kernel
theorem tyJ3_ok : ∀ k, k < 0 → parseFieldDescriptor (TJ3 k).2.2.1 = some (tyJ3 k) := by decide +kernel
abbrev cJ3_checkFromToIndex_8c36e : ByteArray := prog_14_method_12_code
def yJ3_checkFromToIndex_8c36e : MethodName := ⟨RJ3, "checkFromToIndex", "(IIILjava/util/function/BiFunction;)I"⟩
def RL : String := "DarkOfficeLaw"
abbrev cL_law : ByteArray := code
def yL_law : MethodName := ⟨RL, "law", "([I)Z"⟩
def wsX0_init : List Cond := .code yX0_init cX0_init 1 none :: ([.methodLink RX0 3 objectInit, .instanceMethod objectInit, .code objectInit ⟨#[0xb1]⟩ 1 none, .arrayClass .int, .fieldLink RX0 9 "DarkOffice$Evening" "sections" "[I", .fieldLink RX0 15 "DarkOffice$Evening" "waves" "[I", .fieldLink RX0 18 "DarkOffice$Evening" "darks" "[I", .fieldLink RX0 21 "DarkOffice$Evening" "toldLit" "[I", .fieldLink RX0 24 "DarkOffice$Evening" "toldDark" "[I"] ++ wsX00)
def wsX0_emptyBook : List Cond := .code yX0_emptyBook cX0_emptyBook 2 none :: ([.fieldLink RX0 40 "DarkOffice$Evening" "told" "I", .fieldLink RX0 21 "DarkOffice$Evening" "toldLit" "[I", .fieldLink RX0 24 "DarkOffice$Evening" "toldDark" "[I"] ++ wsX00)
def wsX0_begin : List Cond := .code yX0_begin cX0_begin 1 none :: ([.fieldLink RX0 27 "DarkOffice$Evening" "lit" "I", .fieldLink RX0 31 "DarkOffice$Evening" "minutes" "I", .fieldLink RX0 34 "DarkOffice$Evening" "people" "I", .methodLink RX0 37 yX0_emptyBook, .instanceMethod yX0_emptyBook, .selects RX0 yX0_emptyBook yX0_emptyBook, .initialized RX0, .code yX0_emptyBook cX0_emptyBook 2 none, .fieldLink RX0 40 "DarkOffice$Evening" "told" "I", .fieldLink RX0 21 "DarkOffice$Evening" "toldLit" "[I", .fieldLink RX0 24 "DarkOffice$Evening" "toldDark" "[I"] ++ wsX00)
def wsX0_copy : List Cond := .code yX0_copy cX0_copy 3 none :: ([.fieldLink RX0 27 "DarkOffice$Evening" "lit" "I", .fieldLink RX0 31 "DarkOffice$Evening" "minutes" "I", .fieldLink RX0 34 "DarkOffice$Evening" "people" "I", .fieldLink RX0 40 "DarkOffice$Evening" "told" "I", .fieldLink RX0 9 "DarkOffice$Evening" "sections" "[I", .fieldLink RX0 15 "DarkOffice$Evening" "waves" "[I", .fieldLink RX0 18 "DarkOffice$Evening" "darks" "[I", .fieldLink RX0 21 "DarkOffice$Evening" "toldLit" "[I", .fieldLink RX0 24 "DarkOffice$Evening" "toldDark" "[I"] ++ wsX00)
def wsX0_seat : List Cond := .code yX0_seat cX0_seat 3 (some .int) :: ([.fieldLink RX0 34 "DarkOffice$Evening" "people" "I", .fieldLink RX0 9 "DarkOffice$Evening" "sections" "[I", .fieldLink RX0 15 "DarkOffice$Evening" "waves" "[I", .fieldLink RX0 18 "DarkOffice$Evening" "darks" "[I"] ++ wsX00)
def wsX0_peopleIn : List Cond := .code yX0_peopleIn cX0_peopleIn 4 (some .int) :: ([.fieldLink RX0 34 "DarkOffice$Evening" "people" "I", .fieldLink RX0 9 "DarkOffice$Evening" "sections" "[I"] ++ wsX00)
def wsX0_stirred : List Cond := .code yX0_stirred cX0_stirred 4 (some .int) :: ([.fieldLink RX0 34 "DarkOffice$Evening" "people" "I", .fieldLink RX0 9 "DarkOffice$Evening" "sections" "[I"] ++ wsX00)
def wsX0_inDark : List Cond := .code yX0_inDark cX0_inDark 4 (some .int) :: ([.fieldLink RX0 34 "DarkOffice$Evening" "people" "I", .fieldLink RX0 9 "DarkOffice$Evening" "sections" "[I"] ++ wsX00)
def wsX0_write : List Cond := .code yX0_write cX0_write 4 none :: ([.fieldLink RX0 34 "DarkOffice$Evening" "people" "I", .fieldLink RX0 15 "DarkOffice$Evening" "waves" "[I", .fieldLink RX0 18 "DarkOffice$Evening" "darks" "[I", .fieldLink RX0 9 "DarkOffice$Evening" "sections" "[I"] ++ wsX00)
def wsX0_ofAll : List Cond := .code yX0_ofAll cX0_ofAll 4 (some .int) :: ([.fieldLink RX0 34 "DarkOffice$Evening" "people" "I"] ++ wsX00)
def wsX0_tell : List Cond := .code yX0_tell cX0_tell 4 (some .int) :: ([.fieldLink RX0 40 "DarkOffice$Evening" "told" "I", .fieldLink RX0 21 "DarkOffice$Evening" "toldLit" "[I", .fieldLink RX0 24 "DarkOffice$Evening" "toldDark" "[I"] ++ wsX00)
def wsX0_bookAgrees : List Cond := .code yX0_bookAgrees cX0_bookAgrees 3 (some .boolean) :: ([.fieldLink RX0 21 "DarkOffice$Evening" "toldLit" "[I", .fieldLink RX0 24 "DarkOffice$Evening" "toldDark" "[I"] ++ wsX00)
def wsX1_init : List Cond := .code yX1_init cX1_init 1 none :: ([.methodLink RX1 3 objectInit, .instanceMethod objectInit, .code objectInit ⟨#[0xb1]⟩ 1 none, .arrayClass .int, .fieldLink RX1 9 "DarkOffice$Lamps" "kinds" "[I", .fieldLink RX1 15 "DarkOffice$Lamps" "holds" "[I", .fieldLink RX1 18 "DarkOffice$Lamps" "sees" "[I"] ++ wsX10)
def wsJ0_isLatin1_aae02 : List Cond := .code yJ0_isLatin1_aae02 cJ0_isLatin1_aae02 1 (some .boolean) :: ([.fieldLink RJ0 38 "java/lang/String" "COMPACT_STRINGS" "Z", .fieldLink RJ0 15 "java/lang/String" "coder" "B"])
def wsJ0_coder_7d493 : List Cond := .code yJ0_coder_7d493 cJ0_coder_7d493 1 (some .byte) :: ([.fieldLink RJ0 38 "java/lang/String" "COMPACT_STRINGS" "Z", .fieldLink RJ0 15 "java/lang/String" "coder" "B"])
def wsJ0_length_8abf5 : List Cond := .code yJ0_length_8abf5 cJ0_length_8abf5 1 (some .int) :: ([.fieldLink RJ0 9 "java/lang/String" "value" "[B", .methodLink RJ0 335 yJ0_coder_7d493, .instanceMethod yJ0_coder_7d493, .selects RJ0 yJ0_coder_7d493 yJ0_coder_7d493, .initialized RJ0, .code yJ0_coder_7d493 cJ0_coder_7d493 1 (some .byte), .fieldLink RJ0 38 "java/lang/String" "COMPACT_STRINGS" "Z", .fieldLink RJ0 15 "java/lang/String" "coder" "B"])
def wsJ1_canEncode_9a6ad : List Cond := .code yJ1_canEncode_9a6ad cJ1_canEncode_9a6ad 1 (some .boolean) :: ([])
def wsJ1_indexOfChar_4cfef : List Cond := .code yJ1_indexOfChar_4cfef cJ1_indexOfChar_4cfef 6 (some .int) :: ([])
def wsJ1_indexOf_4cfef : List Cond := .code yJ1_indexOf_4cfef cJ1_indexOf_4cfef 4 (some .int) :: ([.methodLink RJ1 92 Lib.Math.max.name, .static Lib.Math.max.name, .initialized "java/lang/Math", .code Lib.Math.max.name Lib.Math.max.code 2 (some .int), .methodLink RJ1 38 Lib.Math.min.name, .static Lib.Math.min.name, .code Lib.Math.min.name Lib.Math.min.code 2 (some .int), .methodLink RJ1 88 yJ1_canEncode_9a6ad, .static yJ1_canEncode_9a6ad, .initialized RJ1, .code yJ1_canEncode_9a6ad cJ1_canEncode_9a6ad 1 (some .boolean), .methodLink RJ1 95 yJ1_indexOfChar_4cfef, .static yJ1_indexOfChar_4cfef, .code yJ1_indexOfChar_4cfef cJ1_indexOfChar_4cfef 6 (some .int)])
def wsJ2_length_9d52b : List Cond := .code yJ2_length_9d52b cJ2_length_9d52b 1 (some .int) :: ([])
def wsJ3_checkFromToIndex_8c36e : List Cond := .code yJ3_checkFromToIndex_8c36e cJ3_checkFromToIndex_8c36e 4 (some .int) :: ([])
def wsJ0_checkBoundsBeginEnd_23922 : List Cond := .code yJ0_checkBoundsBeginEnd_23922 cJ0_checkBoundsBeginEnd_23922 3 none :: ([.fieldLink RJ0 1053 "jdk/internal/util/Preconditions" "SIOOBE_FORMATTER" "Ljava/util/function/BiFunction;", .methodLink RJ0 1062 yJ3_checkFromToIndex_8c36e, .static yJ3_checkFromToIndex_8c36e, .initialized RJ3, .code yJ3_checkFromToIndex_8c36e cJ3_checkFromToIndex_8c36e 4 (some .int)])
def wsJ2_checkBoundsBeginEnd_d044e : List Cond := .code yJ2_checkBoundsBeginEnd_d044e cJ2_checkBoundsBeginEnd_d044e 3 none :: ([.methodLink RJ2 48 yJ2_length_9d52b, .static yJ2_length_9d52b, .initialized RJ2, .code yJ2_length_9d52b cJ2_length_9d52b 1 (some .int), .methodLink RJ2 241 yJ0_checkBoundsBeginEnd_23922, .static yJ0_checkBoundsBeginEnd_23922, .initialized RJ0, .code yJ0_checkBoundsBeginEnd_23922 cJ0_checkBoundsBeginEnd_23922 3 none, .fieldLink RJ0 1053 "jdk/internal/util/Preconditions" "SIOOBE_FORMATTER" "Ljava/util/function/BiFunction;", .methodLink RJ0 1062 yJ3_checkFromToIndex_8c36e, .static yJ3_checkFromToIndex_8c36e, .initialized RJ3, .code yJ3_checkFromToIndex_8c36e cJ3_checkFromToIndex_8c36e 4 (some .int)])
def wsJ2_getChar_3b067 : List Cond := .code yJ2_getChar_3b067 cJ2_getChar_3b067 2 (some .char) :: ([.fieldLink RJ2 44 "java/lang/StringUTF16" "$assertionsDisabled" "Z", .fieldLink RJ2 59 "java/lang/StringUTF16" "HI_BYTE_SHIFT" "I", .fieldLink RJ2 63 "java/lang/StringUTF16" "LO_BYTE_SHIFT" "I", .methodLink RJ2 48 yJ2_length_9d52b, .static yJ2_length_9d52b, .initialized RJ2, .code yJ2_length_9d52b cJ2_length_9d52b 1 (some .int)])
def wsJ2_indexOfCharUnsafe_4cfef : List Cond := .code yJ2_indexOfCharUnsafe_4cfef cJ2_indexOfCharUnsafe_4cfef 5 (some .int) :: ([.methodLink RJ2 71 yJ2_getChar_3b067, .static yJ2_getChar_3b067, .initialized RJ2, .code yJ2_getChar_3b067 cJ2_getChar_3b067 2 (some .char), .fieldLink RJ2 44 "java/lang/StringUTF16" "$assertionsDisabled" "Z", .fieldLink RJ2 59 "java/lang/StringUTF16" "HI_BYTE_SHIFT" "I", .fieldLink RJ2 63 "java/lang/StringUTF16" "LO_BYTE_SHIFT" "I", .methodLink RJ2 48 yJ2_length_9d52b, .static yJ2_length_9d52b, .code yJ2_length_9d52b cJ2_length_9d52b 1 (some .int)])
def wsJ2_indexOfChar_4cfef_r1 : List Cond := [Cond.methodLink RJ2 96 yJ2_checkBoundsBeginEnd_d044e, Cond.static yJ2_checkBoundsBeginEnd_d044e, Cond.initialized RJ2, Cond.code yJ2_checkBoundsBeginEnd_d044e cJ2_checkBoundsBeginEnd_d044e 3 none, Cond.methodLink RJ2 48 yJ2_length_9d52b, Cond.static yJ2_length_9d52b, Cond.code yJ2_length_9d52b cJ2_length_9d52b 1 (some .int), Cond.methodLink RJ2 241 yJ0_checkBoundsBeginEnd_23922, Cond.static yJ0_checkBoundsBeginEnd_23922, Cond.initialized RJ0, Cond.code yJ0_checkBoundsBeginEnd_23922 cJ0_checkBoundsBeginEnd_23922 3 none, Cond.fieldLink RJ0 1053 "jdk/internal/util/Preconditions" "SIOOBE_FORMATTER" "Ljava/util/function/BiFunction;", Cond.methodLink RJ0 1062 yJ3_checkFromToIndex_8c36e, Cond.static yJ3_checkFromToIndex_8c36e, Cond.initialized RJ3, Cond.code yJ3_checkFromToIndex_8c36e cJ3_checkFromToIndex_8c36e 4 (some .int), Cond.methodLink RJ2 244 yJ2_indexOfCharUnsafe_4cfef, Cond.static yJ2_indexOfCharUnsafe_4cfef, Cond.code yJ2_indexOfCharUnsafe_4cfef cJ2_indexOfCharUnsafe_4cfef 5 (some .int), Cond.methodLink RJ2 71 yJ2_getChar_3b067, Cond.static yJ2_getChar_3b067, Cond.code yJ2_getChar_3b067 cJ2_getChar_3b067 2 (some .char), Cond.fieldLink RJ2 44 "java/lang/StringUTF16" "$assertionsDisabled" "Z", Cond.fieldLink RJ2 59 "java/lang/StringUTF16" "HI_BYTE_SHIFT" "I"]
def wsJ2_indexOfChar_4cfef_r2 : List Cond := [Cond.fieldLink RJ2 63 "java/lang/StringUTF16" "LO_BYTE_SHIFT" "I"]
def wsJ2_indexOfChar_4cfef : List Cond := .code yJ2_indexOfChar_4cfef cJ2_indexOfChar_4cfef 4 (some .int) :: ((wsJ2_indexOfChar_4cfef_r1 ++ wsJ2_indexOfChar_4cfef_r2))
def wsJ11_isValidCodePoint_9a6ad : List Cond := .code yJ11_isValidCodePoint_9a6ad cJ11_isValidCodePoint_9a6ad 2 (some .boolean) :: ([])
def wsJ11_highSurrogate_5068e : List Cond := .code yJ11_highSurrogate_5068e cJ11_highSurrogate_5068e 1 (some .char) :: ([.constant RJ11 110 (55232)])
def wsJ11_lowSurrogate_5068e : List Cond := .code yJ11_lowSurrogate_5068e cJ11_lowSurrogate_5068e 1 (some .char) :: ([.constant RJ11 76 (56320)])
def wsJ2_indexOfSupplementary_4cfef_r1 : List Cond := [Cond.methodLink RJ2 164 yJ11_isValidCodePoint_9a6ad, Cond.static yJ11_isValidCodePoint_9a6ad, Cond.initialized RJ11, Cond.code yJ11_isValidCodePoint_9a6ad cJ11_isValidCodePoint_9a6ad 2 (some .boolean), Cond.methodLink RJ2 157 yJ11_highSurrogate_5068e, Cond.static yJ11_highSurrogate_5068e, Cond.code yJ11_highSurrogate_5068e cJ11_highSurrogate_5068e 1 (some .char), Cond.constant RJ11 110 (55232), Cond.methodLink RJ2 161 yJ11_lowSurrogate_5068e, Cond.static yJ11_lowSurrogate_5068e, Cond.code yJ11_lowSurrogate_5068e cJ11_lowSurrogate_5068e 1 (some .char), Cond.constant RJ11 76 (56320), Cond.methodLink RJ2 96 yJ2_checkBoundsBeginEnd_d044e, Cond.static yJ2_checkBoundsBeginEnd_d044e, Cond.initialized RJ2, Cond.code yJ2_checkBoundsBeginEnd_d044e cJ2_checkBoundsBeginEnd_d044e 3 none, Cond.methodLink RJ2 48 yJ2_length_9d52b, Cond.static yJ2_length_9d52b, Cond.code yJ2_length_9d52b cJ2_length_9d52b 1 (some .int), Cond.methodLink RJ2 241 yJ0_checkBoundsBeginEnd_23922, Cond.static yJ0_checkBoundsBeginEnd_23922, Cond.initialized RJ0, Cond.code yJ0_checkBoundsBeginEnd_23922 cJ0_checkBoundsBeginEnd_23922 3 none, Cond.fieldLink RJ0 1053 "jdk/internal/util/Preconditions" "SIOOBE_FORMATTER" "Ljava/util/function/BiFunction;"]
def wsJ2_indexOfSupplementary_4cfef_r2 : List Cond := [Cond.methodLink RJ0 1062 yJ3_checkFromToIndex_8c36e, Cond.static yJ3_checkFromToIndex_8c36e, Cond.initialized RJ3, Cond.code yJ3_checkFromToIndex_8c36e cJ3_checkFromToIndex_8c36e 4 (some .int), Cond.methodLink RJ2 71 yJ2_getChar_3b067, Cond.static yJ2_getChar_3b067, Cond.code yJ2_getChar_3b067 cJ2_getChar_3b067 2 (some .char), Cond.fieldLink RJ2 44 "java/lang/StringUTF16" "$assertionsDisabled" "Z", Cond.fieldLink RJ2 59 "java/lang/StringUTF16" "HI_BYTE_SHIFT" "I", Cond.fieldLink RJ2 63 "java/lang/StringUTF16" "LO_BYTE_SHIFT" "I"]
def wsJ2_indexOfSupplementary_4cfef : List Cond := .code yJ2_indexOfSupplementary_4cfef cJ2_indexOfSupplementary_4cfef 7 (some .int) :: ((wsJ2_indexOfSupplementary_4cfef_r1 ++ wsJ2_indexOfSupplementary_4cfef_r2))
def wsJ2_indexOf_4cfef_r1 : List Cond := [Cond.methodLink RJ2 224 Lib.Math.max.name, Cond.static Lib.Math.max.name, Cond.initialized "java/lang/Math", Cond.code Lib.Math.max.name Lib.Math.max.code 2 (some .int), Cond.methodLink RJ2 183 Lib.Math.min.name, Cond.static Lib.Math.min.name, Cond.code Lib.Math.min.name Lib.Math.min.code 2 (some .int), Cond.constant RJ2 227 (65536), Cond.methodLink RJ2 228 yJ2_indexOfChar_4cfef, Cond.static yJ2_indexOfChar_4cfef, Cond.initialized RJ2, Cond.code yJ2_indexOfChar_4cfef cJ2_indexOfChar_4cfef 4 (some .int), Cond.methodLink RJ2 96 yJ2_checkBoundsBeginEnd_d044e, Cond.static yJ2_checkBoundsBeginEnd_d044e, Cond.code yJ2_checkBoundsBeginEnd_d044e cJ2_checkBoundsBeginEnd_d044e 3 none, Cond.methodLink RJ2 48 yJ2_length_9d52b, Cond.static yJ2_length_9d52b, Cond.code yJ2_length_9d52b cJ2_length_9d52b 1 (some .int), Cond.methodLink RJ2 241 yJ0_checkBoundsBeginEnd_23922, Cond.static yJ0_checkBoundsBeginEnd_23922, Cond.initialized RJ0, Cond.code yJ0_checkBoundsBeginEnd_23922 cJ0_checkBoundsBeginEnd_23922 3 none, Cond.fieldLink RJ0 1053 "jdk/internal/util/Preconditions" "SIOOBE_FORMATTER" "Ljava/util/function/BiFunction;", Cond.methodLink RJ0 1062 yJ3_checkFromToIndex_8c36e]
def wsJ2_indexOf_4cfef_r2 : List Cond := [Cond.static yJ3_checkFromToIndex_8c36e, Cond.initialized RJ3, Cond.code yJ3_checkFromToIndex_8c36e cJ3_checkFromToIndex_8c36e 4 (some .int), Cond.methodLink RJ2 244 yJ2_indexOfCharUnsafe_4cfef, Cond.static yJ2_indexOfCharUnsafe_4cfef, Cond.code yJ2_indexOfCharUnsafe_4cfef cJ2_indexOfCharUnsafe_4cfef 5 (some .int), Cond.methodLink RJ2 71 yJ2_getChar_3b067, Cond.static yJ2_getChar_3b067, Cond.code yJ2_getChar_3b067 cJ2_getChar_3b067 2 (some .char), Cond.fieldLink RJ2 44 "java/lang/StringUTF16" "$assertionsDisabled" "Z", Cond.fieldLink RJ2 59 "java/lang/StringUTF16" "HI_BYTE_SHIFT" "I", Cond.fieldLink RJ2 63 "java/lang/StringUTF16" "LO_BYTE_SHIFT" "I", Cond.methodLink RJ2 232 yJ2_indexOfSupplementary_4cfef, Cond.static yJ2_indexOfSupplementary_4cfef, Cond.code yJ2_indexOfSupplementary_4cfef cJ2_indexOfSupplementary_4cfef 7 (some .int), Cond.methodLink RJ2 164 yJ11_isValidCodePoint_9a6ad, Cond.static yJ11_isValidCodePoint_9a6ad, Cond.initialized RJ11, Cond.code yJ11_isValidCodePoint_9a6ad cJ11_isValidCodePoint_9a6ad 2 (some .boolean), Cond.methodLink RJ2 157 yJ11_highSurrogate_5068e, Cond.static yJ11_highSurrogate_5068e, Cond.code yJ11_highSurrogate_5068e cJ11_highSurrogate_5068e 1 (some .char), Cond.constant RJ11 110 (55232), Cond.methodLink RJ2 161 yJ11_lowSurrogate_5068e]
def wsJ2_indexOf_4cfef_r3 : List Cond := [Cond.static yJ11_lowSurrogate_5068e, Cond.code yJ11_lowSurrogate_5068e cJ11_lowSurrogate_5068e 1 (some .char), Cond.constant RJ11 76 (56320)]
def wsJ2_indexOf_4cfef : List Cond := .code yJ2_indexOf_4cfef cJ2_indexOf_4cfef 4 (some .int) :: ((wsJ2_indexOf_4cfef_r1 ++ (wsJ2_indexOf_4cfef_r2 ++ wsJ2_indexOf_4cfef_r3)))
def wsJ0_indexOf_7cf53_r1 : List Cond := [Cond.fieldLink RJ0 9 "java/lang/String" "value" "[B", Cond.methodLink RJ0 492 yJ0_isLatin1_aae02, Cond.instanceMethod yJ0_isLatin1_aae02, Cond.selects RJ0 yJ0_isLatin1_aae02 yJ0_isLatin1_aae02, Cond.initialized RJ0, Cond.code yJ0_isLatin1_aae02 cJ0_isLatin1_aae02 1 (some .boolean), Cond.fieldLink RJ0 38 "java/lang/String" "COMPACT_STRINGS" "Z", Cond.fieldLink RJ0 15 "java/lang/String" "coder" "B", Cond.methodLink RJ0 505 yJ0_length_8abf5, Cond.instanceMethod yJ0_length_8abf5, Cond.selects RJ0 yJ0_length_8abf5 yJ0_length_8abf5, Cond.code yJ0_length_8abf5 cJ0_length_8abf5 1 (some .int), Cond.methodLink RJ0 335 yJ0_coder_7d493, Cond.instanceMethod yJ0_coder_7d493, Cond.selects RJ0 yJ0_coder_7d493 yJ0_coder_7d493, Cond.code yJ0_coder_7d493 cJ0_coder_7d493 1 (some .byte), Cond.methodLink RJ0 637 yJ1_indexOf_4cfef, Cond.static yJ1_indexOf_4cfef, Cond.initialized RJ1, Cond.code yJ1_indexOf_4cfef cJ1_indexOf_4cfef 4 (some .int), Cond.methodLink RJ1 92 Lib.Math.max.name, Cond.static Lib.Math.max.name, Cond.initialized "java/lang/Math", Cond.code Lib.Math.max.name Lib.Math.max.code 2 (some .int)]
def wsJ0_indexOf_7cf53_r2 : List Cond := [Cond.methodLink RJ1 38 Lib.Math.min.name, Cond.static Lib.Math.min.name, Cond.code Lib.Math.min.name Lib.Math.min.code 2 (some .int), Cond.methodLink RJ1 88 yJ1_canEncode_9a6ad, Cond.static yJ1_canEncode_9a6ad, Cond.code yJ1_canEncode_9a6ad cJ1_canEncode_9a6ad 1 (some .boolean), Cond.methodLink RJ1 95 yJ1_indexOfChar_4cfef, Cond.static yJ1_indexOfChar_4cfef, Cond.code yJ1_indexOfChar_4cfef cJ1_indexOfChar_4cfef 6 (some .int), Cond.methodLink RJ0 640 yJ2_indexOf_4cfef, Cond.static yJ2_indexOf_4cfef, Cond.initialized RJ2, Cond.code yJ2_indexOf_4cfef cJ2_indexOf_4cfef 4 (some .int), Cond.methodLink RJ2 224 Lib.Math.max.name, Cond.methodLink RJ2 183 Lib.Math.min.name, Cond.constant RJ2 227 (65536), Cond.methodLink RJ2 228 yJ2_indexOfChar_4cfef, Cond.static yJ2_indexOfChar_4cfef, Cond.code yJ2_indexOfChar_4cfef cJ2_indexOfChar_4cfef 4 (some .int), Cond.methodLink RJ2 96 yJ2_checkBoundsBeginEnd_d044e, Cond.static yJ2_checkBoundsBeginEnd_d044e, Cond.code yJ2_checkBoundsBeginEnd_d044e cJ2_checkBoundsBeginEnd_d044e 3 none, Cond.methodLink RJ2 48 yJ2_length_9d52b, Cond.static yJ2_length_9d52b]
def wsJ0_indexOf_7cf53_r3 : List Cond := [Cond.code yJ2_length_9d52b cJ2_length_9d52b 1 (some .int), Cond.methodLink RJ2 241 yJ0_checkBoundsBeginEnd_23922, Cond.static yJ0_checkBoundsBeginEnd_23922, Cond.code yJ0_checkBoundsBeginEnd_23922 cJ0_checkBoundsBeginEnd_23922 3 none, Cond.fieldLink RJ0 1053 "jdk/internal/util/Preconditions" "SIOOBE_FORMATTER" "Ljava/util/function/BiFunction;", Cond.methodLink RJ0 1062 yJ3_checkFromToIndex_8c36e, Cond.static yJ3_checkFromToIndex_8c36e, Cond.initialized RJ3, Cond.code yJ3_checkFromToIndex_8c36e cJ3_checkFromToIndex_8c36e 4 (some .int), Cond.methodLink RJ2 244 yJ2_indexOfCharUnsafe_4cfef, Cond.static yJ2_indexOfCharUnsafe_4cfef, Cond.code yJ2_indexOfCharUnsafe_4cfef cJ2_indexOfCharUnsafe_4cfef 5 (some .int), Cond.methodLink RJ2 71 yJ2_getChar_3b067, Cond.static yJ2_getChar_3b067, Cond.code yJ2_getChar_3b067 cJ2_getChar_3b067 2 (some .char), Cond.fieldLink RJ2 44 "java/lang/StringUTF16" "$assertionsDisabled" "Z", Cond.fieldLink RJ2 59 "java/lang/StringUTF16" "HI_BYTE_SHIFT" "I", Cond.fieldLink RJ2 63 "java/lang/StringUTF16" "LO_BYTE_SHIFT" "I", Cond.methodLink RJ2 232 yJ2_indexOfSupplementary_4cfef, Cond.static yJ2_indexOfSupplementary_4cfef, Cond.code yJ2_indexOfSupplementary_4cfef cJ2_indexOfSupplementary_4cfef 7 (some .int), Cond.methodLink RJ2 164 yJ11_isValidCodePoint_9a6ad, Cond.static yJ11_isValidCodePoint_9a6ad, Cond.initialized RJ11]
def wsJ0_indexOf_7cf53_r4 : List Cond := [Cond.code yJ11_isValidCodePoint_9a6ad cJ11_isValidCodePoint_9a6ad 2 (some .boolean), Cond.methodLink RJ2 157 yJ11_highSurrogate_5068e, Cond.static yJ11_highSurrogate_5068e, Cond.code yJ11_highSurrogate_5068e cJ11_highSurrogate_5068e 1 (some .char), Cond.constant RJ11 110 (55232), Cond.methodLink RJ2 161 yJ11_lowSurrogate_5068e, Cond.static yJ11_lowSurrogate_5068e, Cond.code yJ11_lowSurrogate_5068e cJ11_lowSurrogate_5068e 1 (some .char), Cond.constant RJ11 76 (56320)]
def wsJ0_indexOf_7cf53 : List Cond := .code yJ0_indexOf_7cf53 cJ0_indexOf_7cf53 3 (some .int) :: ((wsJ0_indexOf_7cf53_r1 ++ (wsJ0_indexOf_7cf53_r2 ++ (wsJ0_indexOf_7cf53_r3 ++ wsJ0_indexOf_7cf53_r4))))
def wsJ0_indexOf_0f7a4_r1 : List Cond := [Cond.methodLink RJ0 633 yJ0_indexOf_7cf53, Cond.instanceMethod yJ0_indexOf_7cf53, Cond.selects RJ0 yJ0_indexOf_7cf53 yJ0_indexOf_7cf53, Cond.initialized RJ0, Cond.code yJ0_indexOf_7cf53 cJ0_indexOf_7cf53 3 (some .int), Cond.fieldLink RJ0 9 "java/lang/String" "value" "[B", Cond.methodLink RJ0 492 yJ0_isLatin1_aae02, Cond.instanceMethod yJ0_isLatin1_aae02, Cond.selects RJ0 yJ0_isLatin1_aae02 yJ0_isLatin1_aae02, Cond.code yJ0_isLatin1_aae02 cJ0_isLatin1_aae02 1 (some .boolean), Cond.fieldLink RJ0 38 "java/lang/String" "COMPACT_STRINGS" "Z", Cond.fieldLink RJ0 15 "java/lang/String" "coder" "B", Cond.methodLink RJ0 505 yJ0_length_8abf5, Cond.instanceMethod yJ0_length_8abf5, Cond.selects RJ0 yJ0_length_8abf5 yJ0_length_8abf5, Cond.code yJ0_length_8abf5 cJ0_length_8abf5 1 (some .int), Cond.methodLink RJ0 335 yJ0_coder_7d493, Cond.instanceMethod yJ0_coder_7d493, Cond.selects RJ0 yJ0_coder_7d493 yJ0_coder_7d493, Cond.code yJ0_coder_7d493 cJ0_coder_7d493 1 (some .byte), Cond.methodLink RJ0 637 yJ1_indexOf_4cfef, Cond.static yJ1_indexOf_4cfef, Cond.initialized RJ1, Cond.code yJ1_indexOf_4cfef cJ1_indexOf_4cfef 4 (some .int)]
def wsJ0_indexOf_0f7a4_r2 : List Cond := [Cond.methodLink RJ1 92 Lib.Math.max.name, Cond.static Lib.Math.max.name, Cond.initialized "java/lang/Math", Cond.code Lib.Math.max.name Lib.Math.max.code 2 (some .int), Cond.methodLink RJ1 38 Lib.Math.min.name, Cond.static Lib.Math.min.name, Cond.code Lib.Math.min.name Lib.Math.min.code 2 (some .int), Cond.methodLink RJ1 88 yJ1_canEncode_9a6ad, Cond.static yJ1_canEncode_9a6ad, Cond.code yJ1_canEncode_9a6ad cJ1_canEncode_9a6ad 1 (some .boolean), Cond.methodLink RJ1 95 yJ1_indexOfChar_4cfef, Cond.static yJ1_indexOfChar_4cfef, Cond.code yJ1_indexOfChar_4cfef cJ1_indexOfChar_4cfef 6 (some .int), Cond.methodLink RJ0 640 yJ2_indexOf_4cfef, Cond.static yJ2_indexOf_4cfef, Cond.initialized RJ2, Cond.code yJ2_indexOf_4cfef cJ2_indexOf_4cfef 4 (some .int), Cond.methodLink RJ2 224 Lib.Math.max.name, Cond.methodLink RJ2 183 Lib.Math.min.name, Cond.constant RJ2 227 (65536), Cond.methodLink RJ2 228 yJ2_indexOfChar_4cfef, Cond.static yJ2_indexOfChar_4cfef, Cond.code yJ2_indexOfChar_4cfef cJ2_indexOfChar_4cfef 4 (some .int), Cond.methodLink RJ2 96 yJ2_checkBoundsBeginEnd_d044e]
def wsJ0_indexOf_0f7a4_r3 : List Cond := [Cond.static yJ2_checkBoundsBeginEnd_d044e, Cond.code yJ2_checkBoundsBeginEnd_d044e cJ2_checkBoundsBeginEnd_d044e 3 none, Cond.methodLink RJ2 48 yJ2_length_9d52b, Cond.static yJ2_length_9d52b, Cond.code yJ2_length_9d52b cJ2_length_9d52b 1 (some .int), Cond.methodLink RJ2 241 yJ0_checkBoundsBeginEnd_23922, Cond.static yJ0_checkBoundsBeginEnd_23922, Cond.code yJ0_checkBoundsBeginEnd_23922 cJ0_checkBoundsBeginEnd_23922 3 none, Cond.fieldLink RJ0 1053 "jdk/internal/util/Preconditions" "SIOOBE_FORMATTER" "Ljava/util/function/BiFunction;", Cond.methodLink RJ0 1062 yJ3_checkFromToIndex_8c36e, Cond.static yJ3_checkFromToIndex_8c36e, Cond.initialized RJ3, Cond.code yJ3_checkFromToIndex_8c36e cJ3_checkFromToIndex_8c36e 4 (some .int), Cond.methodLink RJ2 244 yJ2_indexOfCharUnsafe_4cfef, Cond.static yJ2_indexOfCharUnsafe_4cfef, Cond.code yJ2_indexOfCharUnsafe_4cfef cJ2_indexOfCharUnsafe_4cfef 5 (some .int), Cond.methodLink RJ2 71 yJ2_getChar_3b067, Cond.static yJ2_getChar_3b067, Cond.code yJ2_getChar_3b067 cJ2_getChar_3b067 2 (some .char), Cond.fieldLink RJ2 44 "java/lang/StringUTF16" "$assertionsDisabled" "Z", Cond.fieldLink RJ2 59 "java/lang/StringUTF16" "HI_BYTE_SHIFT" "I", Cond.fieldLink RJ2 63 "java/lang/StringUTF16" "LO_BYTE_SHIFT" "I", Cond.methodLink RJ2 232 yJ2_indexOfSupplementary_4cfef, Cond.static yJ2_indexOfSupplementary_4cfef]
def wsJ0_indexOf_0f7a4_r4 : List Cond := [Cond.code yJ2_indexOfSupplementary_4cfef cJ2_indexOfSupplementary_4cfef 7 (some .int), Cond.methodLink RJ2 164 yJ11_isValidCodePoint_9a6ad, Cond.static yJ11_isValidCodePoint_9a6ad, Cond.initialized RJ11, Cond.code yJ11_isValidCodePoint_9a6ad cJ11_isValidCodePoint_9a6ad 2 (some .boolean), Cond.methodLink RJ2 157 yJ11_highSurrogate_5068e, Cond.static yJ11_highSurrogate_5068e, Cond.code yJ11_highSurrogate_5068e cJ11_highSurrogate_5068e 1 (some .char), Cond.constant RJ11 110 (55232), Cond.methodLink RJ2 161 yJ11_lowSurrogate_5068e, Cond.static yJ11_lowSurrogate_5068e, Cond.code yJ11_lowSurrogate_5068e cJ11_lowSurrogate_5068e 1 (some .char), Cond.constant RJ11 76 (56320)]
def wsJ0_indexOf_0f7a4 : List Cond := .code yJ0_indexOf_0f7a4 cJ0_indexOf_0f7a4 2 (some .int) :: ((wsJ0_indexOf_0f7a4_r1 ++ (wsJ0_indexOf_0f7a4_r2 ++ (wsJ0_indexOf_0f7a4_r3 ++ wsJ0_indexOf_0f7a4_r4))))
def wsX1_seenBy : List Cond := .code yX1_seenBy cX1_seenBy 2 (some .int) :: ([])
def wsX1_allOnes : List Cond := .code yX1_allOnes cX1_allOnes 1 (some .int) :: ([.fieldLink RX1 33 "DarkOffice$Lamps" "size" "I"] ++ wsX10)
def wsX1_read_r1 : List Cond := [Cond.fieldLink RX1 21 "DarkOffice$Page" "length" "I", Cond.methodLink RX1 27 Lib.Math.min.name, Cond.static Lib.Math.min.name, Cond.initialized "java/lang/Math", Cond.code Lib.Math.min.name Lib.Math.min.code 2 (some .int), Cond.fieldLink RX1 33 "DarkOffice$Lamps" "size" "I", Cond.fieldLink RX1 36 "DarkOffice$Page" "codes" "[I", Cond.fieldLink RX1 9 "DarkOffice$Lamps" "kinds" "[I", Cond.fieldLink RX1 15 "DarkOffice$Lamps" "holds" "[I", Cond.fieldLink RX1 18 "DarkOffice$Lamps" "sees" "[I", Cond.methodLink RX1 41 yJ0_indexOf_0f7a4, Cond.instanceMethod yJ0_indexOf_0f7a4, Cond.selects RJ0 yJ0_indexOf_0f7a4 yJ0_indexOf_0f7a4, Cond.initialized RJ0, Cond.code yJ0_indexOf_0f7a4 cJ0_indexOf_0f7a4 2 (some .int), Cond.methodLink RJ0 633 yJ0_indexOf_7cf53, Cond.instanceMethod yJ0_indexOf_7cf53, Cond.selects RJ0 yJ0_indexOf_7cf53 yJ0_indexOf_7cf53, Cond.code yJ0_indexOf_7cf53 cJ0_indexOf_7cf53 3 (some .int), Cond.fieldLink RJ0 9 "java/lang/String" "value" "[B", Cond.methodLink RJ0 492 yJ0_isLatin1_aae02, Cond.instanceMethod yJ0_isLatin1_aae02, Cond.selects RJ0 yJ0_isLatin1_aae02 yJ0_isLatin1_aae02, Cond.code yJ0_isLatin1_aae02 cJ0_isLatin1_aae02 1 (some .boolean)]
def wsX1_read_r2 : List Cond := [Cond.fieldLink RJ0 38 "java/lang/String" "COMPACT_STRINGS" "Z", Cond.fieldLink RJ0 15 "java/lang/String" "coder" "B", Cond.methodLink RJ0 505 yJ0_length_8abf5, Cond.instanceMethod yJ0_length_8abf5, Cond.selects RJ0 yJ0_length_8abf5 yJ0_length_8abf5, Cond.code yJ0_length_8abf5 cJ0_length_8abf5 1 (some .int), Cond.methodLink RJ0 335 yJ0_coder_7d493, Cond.instanceMethod yJ0_coder_7d493, Cond.selects RJ0 yJ0_coder_7d493 yJ0_coder_7d493, Cond.code yJ0_coder_7d493 cJ0_coder_7d493 1 (some .byte), Cond.methodLink RJ0 637 yJ1_indexOf_4cfef, Cond.static yJ1_indexOf_4cfef, Cond.initialized RJ1, Cond.code yJ1_indexOf_4cfef cJ1_indexOf_4cfef 4 (some .int), Cond.methodLink RJ1 92 Lib.Math.max.name, Cond.static Lib.Math.max.name, Cond.code Lib.Math.max.name Lib.Math.max.code 2 (some .int), Cond.methodLink RJ1 38 Lib.Math.min.name, Cond.methodLink RJ1 88 yJ1_canEncode_9a6ad, Cond.static yJ1_canEncode_9a6ad, Cond.code yJ1_canEncode_9a6ad cJ1_canEncode_9a6ad 1 (some .boolean), Cond.methodLink RJ1 95 yJ1_indexOfChar_4cfef, Cond.static yJ1_indexOfChar_4cfef, Cond.code yJ1_indexOfChar_4cfef cJ1_indexOfChar_4cfef 6 (some .int)]
def wsX1_read_r3 : List Cond := [Cond.methodLink RJ0 640 yJ2_indexOf_4cfef, Cond.static yJ2_indexOf_4cfef, Cond.initialized RJ2, Cond.code yJ2_indexOf_4cfef cJ2_indexOf_4cfef 4 (some .int), Cond.methodLink RJ2 224 Lib.Math.max.name, Cond.methodLink RJ2 183 Lib.Math.min.name, Cond.constant RJ2 227 (65536), Cond.methodLink RJ2 228 yJ2_indexOfChar_4cfef, Cond.static yJ2_indexOfChar_4cfef, Cond.code yJ2_indexOfChar_4cfef cJ2_indexOfChar_4cfef 4 (some .int), Cond.methodLink RJ2 96 yJ2_checkBoundsBeginEnd_d044e, Cond.static yJ2_checkBoundsBeginEnd_d044e, Cond.code yJ2_checkBoundsBeginEnd_d044e cJ2_checkBoundsBeginEnd_d044e 3 none, Cond.methodLink RJ2 48 yJ2_length_9d52b, Cond.static yJ2_length_9d52b, Cond.code yJ2_length_9d52b cJ2_length_9d52b 1 (some .int), Cond.methodLink RJ2 241 yJ0_checkBoundsBeginEnd_23922, Cond.static yJ0_checkBoundsBeginEnd_23922, Cond.code yJ0_checkBoundsBeginEnd_23922 cJ0_checkBoundsBeginEnd_23922 3 none, Cond.fieldLink RJ0 1053 "jdk/internal/util/Preconditions" "SIOOBE_FORMATTER" "Ljava/util/function/BiFunction;", Cond.methodLink RJ0 1062 yJ3_checkFromToIndex_8c36e, Cond.static yJ3_checkFromToIndex_8c36e, Cond.initialized RJ3, Cond.code yJ3_checkFromToIndex_8c36e cJ3_checkFromToIndex_8c36e 4 (some .int)]
def wsX1_read_r4 : List Cond := [Cond.methodLink RJ2 244 yJ2_indexOfCharUnsafe_4cfef, Cond.static yJ2_indexOfCharUnsafe_4cfef, Cond.code yJ2_indexOfCharUnsafe_4cfef cJ2_indexOfCharUnsafe_4cfef 5 (some .int), Cond.methodLink RJ2 71 yJ2_getChar_3b067, Cond.static yJ2_getChar_3b067, Cond.code yJ2_getChar_3b067 cJ2_getChar_3b067 2 (some .char), Cond.fieldLink RJ2 44 "java/lang/StringUTF16" "$assertionsDisabled" "Z", Cond.fieldLink RJ2 59 "java/lang/StringUTF16" "HI_BYTE_SHIFT" "I", Cond.fieldLink RJ2 63 "java/lang/StringUTF16" "LO_BYTE_SHIFT" "I", Cond.methodLink RJ2 232 yJ2_indexOfSupplementary_4cfef, Cond.static yJ2_indexOfSupplementary_4cfef, Cond.code yJ2_indexOfSupplementary_4cfef cJ2_indexOfSupplementary_4cfef 7 (some .int), Cond.methodLink RJ2 164 yJ11_isValidCodePoint_9a6ad, Cond.static yJ11_isValidCodePoint_9a6ad, Cond.initialized RJ11, Cond.code yJ11_isValidCodePoint_9a6ad cJ11_isValidCodePoint_9a6ad 2 (some .boolean), Cond.methodLink RJ2 157 yJ11_highSurrogate_5068e, Cond.static yJ11_highSurrogate_5068e, Cond.code yJ11_highSurrogate_5068e cJ11_highSurrogate_5068e 1 (some .char), Cond.constant RJ11 110 (55232), Cond.methodLink RJ2 161 yJ11_lowSurrogate_5068e, Cond.static yJ11_lowSurrogate_5068e, Cond.code yJ11_lowSurrogate_5068e cJ11_lowSurrogate_5068e 1 (some .char), Cond.constant RJ11 76 (56320)]
def wsX1_read_r5 : List Cond := [Cond.methodLink RX1 47 yX1_seenBy, Cond.static yX1_seenBy, Cond.initialized RX1, Cond.code yX1_seenBy cX1_seenBy 2 (some .int), Cond.methodLink RX1 50 yX1_allOnes, Cond.instanceMethod yX1_allOnes, Cond.selects RX1 yX1_allOnes yX1_allOnes, Cond.code yX1_allOnes cX1_allOnes 1 (some .int)]
def wsX1_read : List Cond := .code yX1_read cX1_read 5 none :: ((wsX1_read_r1 ++ (wsX1_read_r2 ++ (wsX1_read_r3 ++ (wsX1_read_r4 ++ wsX1_read_r5)))) ++ wsX20 ++ wsX10)
def wsX1_isOf : List Cond := .code yX1_isOf cX1_isOf 3 (some .boolean) :: ([.fieldLink RX1 9 "DarkOffice$Lamps" "kinds" "[I"] ++ wsX10)
def wsX1_left : List Cond := .code yX1_left cX1_left 2 (some .int) :: ([])
def wsX1_litOnes : List Cond := .code yX1_litOnes cX1_litOnes 4 (some .int) :: ([.fieldLink RX1 33 "DarkOffice$Lamps" "size" "I", .methodLink RX1 54 yX1_left, .static yX1_left, .initialized RX1, .code yX1_left cX1_left 2 (some .int)] ++ wsX10)
def wsX1_after : List Cond := .code yX1_after cX1_after 6 (some .int) :: ([.fieldLink RX1 33 "DarkOffice$Lamps" "size" "I", .fieldLink RX1 18 "DarkOffice$Lamps" "sees" "[I", .fieldLink RX1 15 "DarkOffice$Lamps" "holds" "[I", .methodLink RX1 57 Lib.Math.max.name, .static Lib.Math.max.name, .initialized "java/lang/Math", .code Lib.Math.max.name Lib.Math.max.code 2 (some .int), .methodLink RX1 54 yX1_left, .static yX1_left, .initialized RX1, .code yX1_left cX1_left 2 (some .int)] ++ wsX10)
def wsX1_seeing : List Cond := .code yX1_seeing cX1_seeing 4 (some .int) :: ([.fieldLink RX1 33 "DarkOffice$Lamps" "size" "I", .fieldLink RX1 18 "DarkOffice$Lamps" "sees" "[I"] ++ wsX10)
def wsX1_mostSeen : List Cond := .code yX1_mostSeen cX1_mostSeen 3 (some .int) :: ([.fieldLink RX1 33 "DarkOffice$Lamps" "size" "I", .methodLink RX1 60 yX1_seeing, .instanceMethod yX1_seeing, .selects RX1 yX1_seeing yX1_seeing, .initialized RX1, .code yX1_seeing cX1_seeing 4 (some .int), .fieldLink RX1 18 "DarkOffice$Lamps" "sees" "[I"] ++ wsX10)
def wsX2_init : List Cond := .code yX2_init cX2_init 1 none :: ([.methodLink RX2 3 objectInit, .instanceMethod objectInit, .code objectInit ⟨#[0xb1]⟩ 1 none, .arrayClass .int, .fieldLink RX2 9 "DarkOffice$Page" "codes" "[I"] ++ wsX20)
def wsX2_put : List Cond := .code yX2_put cX2_put 2 (some .int) :: ([.fieldLink RX2 15 "DarkOffice$Page" "length" "I", .fieldLink RX2 9 "DarkOffice$Page" "codes" "[I"] ++ wsX20)
def wsX2_fits_r1 : List Cond := [Cond.methodLink RX2 29 yJ0_indexOf_0f7a4, Cond.instanceMethod yJ0_indexOf_0f7a4, Cond.selects RJ0 yJ0_indexOf_0f7a4 yJ0_indexOf_0f7a4, Cond.initialized RJ0, Cond.code yJ0_indexOf_0f7a4 cJ0_indexOf_0f7a4 2 (some .int), Cond.methodLink RJ0 633 yJ0_indexOf_7cf53, Cond.instanceMethod yJ0_indexOf_7cf53, Cond.selects RJ0 yJ0_indexOf_7cf53 yJ0_indexOf_7cf53, Cond.code yJ0_indexOf_7cf53 cJ0_indexOf_7cf53 3 (some .int), Cond.fieldLink RJ0 9 "java/lang/String" "value" "[B", Cond.methodLink RJ0 492 yJ0_isLatin1_aae02, Cond.instanceMethod yJ0_isLatin1_aae02, Cond.selects RJ0 yJ0_isLatin1_aae02 yJ0_isLatin1_aae02, Cond.code yJ0_isLatin1_aae02 cJ0_isLatin1_aae02 1 (some .boolean), Cond.fieldLink RJ0 38 "java/lang/String" "COMPACT_STRINGS" "Z", Cond.fieldLink RJ0 15 "java/lang/String" "coder" "B", Cond.methodLink RJ0 505 yJ0_length_8abf5, Cond.instanceMethod yJ0_length_8abf5, Cond.selects RJ0 yJ0_length_8abf5 yJ0_length_8abf5, Cond.code yJ0_length_8abf5 cJ0_length_8abf5 1 (some .int), Cond.methodLink RJ0 335 yJ0_coder_7d493, Cond.instanceMethod yJ0_coder_7d493, Cond.selects RJ0 yJ0_coder_7d493 yJ0_coder_7d493, Cond.code yJ0_coder_7d493 cJ0_coder_7d493 1 (some .byte)]
def wsX2_fits_r2 : List Cond := [Cond.methodLink RJ0 637 yJ1_indexOf_4cfef, Cond.static yJ1_indexOf_4cfef, Cond.initialized RJ1, Cond.code yJ1_indexOf_4cfef cJ1_indexOf_4cfef 4 (some .int), Cond.methodLink RJ1 92 Lib.Math.max.name, Cond.static Lib.Math.max.name, Cond.initialized "java/lang/Math", Cond.code Lib.Math.max.name Lib.Math.max.code 2 (some .int), Cond.methodLink RJ1 38 Lib.Math.min.name, Cond.static Lib.Math.min.name, Cond.code Lib.Math.min.name Lib.Math.min.code 2 (some .int), Cond.methodLink RJ1 88 yJ1_canEncode_9a6ad, Cond.static yJ1_canEncode_9a6ad, Cond.code yJ1_canEncode_9a6ad cJ1_canEncode_9a6ad 1 (some .boolean), Cond.methodLink RJ1 95 yJ1_indexOfChar_4cfef, Cond.static yJ1_indexOfChar_4cfef, Cond.code yJ1_indexOfChar_4cfef cJ1_indexOfChar_4cfef 6 (some .int), Cond.methodLink RJ0 640 yJ2_indexOf_4cfef, Cond.static yJ2_indexOf_4cfef, Cond.initialized RJ2, Cond.code yJ2_indexOf_4cfef cJ2_indexOf_4cfef 4 (some .int), Cond.methodLink RJ2 224 Lib.Math.max.name, Cond.methodLink RJ2 183 Lib.Math.min.name, Cond.constant RJ2 227 (65536)]
def wsX2_fits_r3 : List Cond := [Cond.methodLink RJ2 228 yJ2_indexOfChar_4cfef, Cond.static yJ2_indexOfChar_4cfef, Cond.code yJ2_indexOfChar_4cfef cJ2_indexOfChar_4cfef 4 (some .int), Cond.methodLink RJ2 96 yJ2_checkBoundsBeginEnd_d044e, Cond.static yJ2_checkBoundsBeginEnd_d044e, Cond.code yJ2_checkBoundsBeginEnd_d044e cJ2_checkBoundsBeginEnd_d044e 3 none, Cond.methodLink RJ2 48 yJ2_length_9d52b, Cond.static yJ2_length_9d52b, Cond.code yJ2_length_9d52b cJ2_length_9d52b 1 (some .int), Cond.methodLink RJ2 241 yJ0_checkBoundsBeginEnd_23922, Cond.static yJ0_checkBoundsBeginEnd_23922, Cond.code yJ0_checkBoundsBeginEnd_23922 cJ0_checkBoundsBeginEnd_23922 3 none, Cond.fieldLink RJ0 1053 "jdk/internal/util/Preconditions" "SIOOBE_FORMATTER" "Ljava/util/function/BiFunction;", Cond.methodLink RJ0 1062 yJ3_checkFromToIndex_8c36e, Cond.static yJ3_checkFromToIndex_8c36e, Cond.initialized RJ3, Cond.code yJ3_checkFromToIndex_8c36e cJ3_checkFromToIndex_8c36e 4 (some .int), Cond.methodLink RJ2 244 yJ2_indexOfCharUnsafe_4cfef, Cond.static yJ2_indexOfCharUnsafe_4cfef, Cond.code yJ2_indexOfCharUnsafe_4cfef cJ2_indexOfCharUnsafe_4cfef 5 (some .int), Cond.methodLink RJ2 71 yJ2_getChar_3b067, Cond.static yJ2_getChar_3b067, Cond.code yJ2_getChar_3b067 cJ2_getChar_3b067 2 (some .char), Cond.fieldLink RJ2 44 "java/lang/StringUTF16" "$assertionsDisabled" "Z"]
def wsX2_fits_r4 : List Cond := [Cond.fieldLink RJ2 59 "java/lang/StringUTF16" "HI_BYTE_SHIFT" "I", Cond.fieldLink RJ2 63 "java/lang/StringUTF16" "LO_BYTE_SHIFT" "I", Cond.methodLink RJ2 232 yJ2_indexOfSupplementary_4cfef, Cond.static yJ2_indexOfSupplementary_4cfef, Cond.code yJ2_indexOfSupplementary_4cfef cJ2_indexOfSupplementary_4cfef 7 (some .int), Cond.methodLink RJ2 164 yJ11_isValidCodePoint_9a6ad, Cond.static yJ11_isValidCodePoint_9a6ad, Cond.initialized RJ11, Cond.code yJ11_isValidCodePoint_9a6ad cJ11_isValidCodePoint_9a6ad 2 (some .boolean), Cond.methodLink RJ2 157 yJ11_highSurrogate_5068e, Cond.static yJ11_highSurrogate_5068e, Cond.code yJ11_highSurrogate_5068e cJ11_highSurrogate_5068e 1 (some .char), Cond.constant RJ11 110 (55232), Cond.methodLink RJ2 161 yJ11_lowSurrogate_5068e, Cond.static yJ11_lowSurrogate_5068e, Cond.code yJ11_lowSurrogate_5068e cJ11_lowSurrogate_5068e 1 (some .char), Cond.constant RJ11 76 (56320)]
def wsX2_fits : List Cond := .code yX2_fits cX2_fits 2 (some .boolean) :: ((wsX2_fits_r1 ++ (wsX2_fits_r2 ++ (wsX2_fits_r3 ++ wsX2_fits_r4))))
def wsX2_firstFault_r1 : List Cond := [Cond.fieldLink RX2 15 "DarkOffice$Page" "length" "I", Cond.fieldLink RX2 9 "DarkOffice$Page" "codes" "[I", Cond.methodLink RX2 19 yX2_fits, Cond.static yX2_fits, Cond.initialized RX2, Cond.code yX2_fits cX2_fits 2 (some .boolean), Cond.methodLink RX2 29 yJ0_indexOf_0f7a4, Cond.instanceMethod yJ0_indexOf_0f7a4, Cond.selects RJ0 yJ0_indexOf_0f7a4 yJ0_indexOf_0f7a4, Cond.initialized RJ0, Cond.code yJ0_indexOf_0f7a4 cJ0_indexOf_0f7a4 2 (some .int), Cond.methodLink RJ0 633 yJ0_indexOf_7cf53, Cond.instanceMethod yJ0_indexOf_7cf53, Cond.selects RJ0 yJ0_indexOf_7cf53 yJ0_indexOf_7cf53, Cond.code yJ0_indexOf_7cf53 cJ0_indexOf_7cf53 3 (some .int), Cond.fieldLink RJ0 9 "java/lang/String" "value" "[B", Cond.methodLink RJ0 492 yJ0_isLatin1_aae02, Cond.instanceMethod yJ0_isLatin1_aae02, Cond.selects RJ0 yJ0_isLatin1_aae02 yJ0_isLatin1_aae02, Cond.code yJ0_isLatin1_aae02 cJ0_isLatin1_aae02 1 (some .boolean), Cond.fieldLink RJ0 38 "java/lang/String" "COMPACT_STRINGS" "Z", Cond.fieldLink RJ0 15 "java/lang/String" "coder" "B", Cond.methodLink RJ0 505 yJ0_length_8abf5, Cond.instanceMethod yJ0_length_8abf5]
def wsX2_firstFault_r2 : List Cond := [Cond.selects RJ0 yJ0_length_8abf5 yJ0_length_8abf5, Cond.code yJ0_length_8abf5 cJ0_length_8abf5 1 (some .int), Cond.methodLink RJ0 335 yJ0_coder_7d493, Cond.instanceMethod yJ0_coder_7d493, Cond.selects RJ0 yJ0_coder_7d493 yJ0_coder_7d493, Cond.code yJ0_coder_7d493 cJ0_coder_7d493 1 (some .byte), Cond.methodLink RJ0 637 yJ1_indexOf_4cfef, Cond.static yJ1_indexOf_4cfef, Cond.initialized RJ1, Cond.code yJ1_indexOf_4cfef cJ1_indexOf_4cfef 4 (some .int), Cond.methodLink RJ1 92 Lib.Math.max.name, Cond.static Lib.Math.max.name, Cond.initialized "java/lang/Math", Cond.code Lib.Math.max.name Lib.Math.max.code 2 (some .int), Cond.methodLink RJ1 38 Lib.Math.min.name, Cond.static Lib.Math.min.name, Cond.code Lib.Math.min.name Lib.Math.min.code 2 (some .int), Cond.methodLink RJ1 88 yJ1_canEncode_9a6ad, Cond.static yJ1_canEncode_9a6ad, Cond.code yJ1_canEncode_9a6ad cJ1_canEncode_9a6ad 1 (some .boolean), Cond.methodLink RJ1 95 yJ1_indexOfChar_4cfef, Cond.static yJ1_indexOfChar_4cfef, Cond.code yJ1_indexOfChar_4cfef cJ1_indexOfChar_4cfef 6 (some .int), Cond.methodLink RJ0 640 yJ2_indexOf_4cfef]
def wsX2_firstFault_r3 : List Cond := [Cond.static yJ2_indexOf_4cfef, Cond.initialized RJ2, Cond.code yJ2_indexOf_4cfef cJ2_indexOf_4cfef 4 (some .int), Cond.methodLink RJ2 224 Lib.Math.max.name, Cond.methodLink RJ2 183 Lib.Math.min.name, Cond.constant RJ2 227 (65536), Cond.methodLink RJ2 228 yJ2_indexOfChar_4cfef, Cond.static yJ2_indexOfChar_4cfef, Cond.code yJ2_indexOfChar_4cfef cJ2_indexOfChar_4cfef 4 (some .int), Cond.methodLink RJ2 96 yJ2_checkBoundsBeginEnd_d044e, Cond.static yJ2_checkBoundsBeginEnd_d044e, Cond.code yJ2_checkBoundsBeginEnd_d044e cJ2_checkBoundsBeginEnd_d044e 3 none, Cond.methodLink RJ2 48 yJ2_length_9d52b, Cond.static yJ2_length_9d52b, Cond.code yJ2_length_9d52b cJ2_length_9d52b 1 (some .int), Cond.methodLink RJ2 241 yJ0_checkBoundsBeginEnd_23922, Cond.static yJ0_checkBoundsBeginEnd_23922, Cond.code yJ0_checkBoundsBeginEnd_23922 cJ0_checkBoundsBeginEnd_23922 3 none, Cond.fieldLink RJ0 1053 "jdk/internal/util/Preconditions" "SIOOBE_FORMATTER" "Ljava/util/function/BiFunction;", Cond.methodLink RJ0 1062 yJ3_checkFromToIndex_8c36e, Cond.static yJ3_checkFromToIndex_8c36e, Cond.initialized RJ3, Cond.code yJ3_checkFromToIndex_8c36e cJ3_checkFromToIndex_8c36e 4 (some .int), Cond.methodLink RJ2 244 yJ2_indexOfCharUnsafe_4cfef]
def wsX2_firstFault_r4 : List Cond := [Cond.static yJ2_indexOfCharUnsafe_4cfef, Cond.code yJ2_indexOfCharUnsafe_4cfef cJ2_indexOfCharUnsafe_4cfef 5 (some .int), Cond.methodLink RJ2 71 yJ2_getChar_3b067, Cond.static yJ2_getChar_3b067, Cond.code yJ2_getChar_3b067 cJ2_getChar_3b067 2 (some .char), Cond.fieldLink RJ2 44 "java/lang/StringUTF16" "$assertionsDisabled" "Z", Cond.fieldLink RJ2 59 "java/lang/StringUTF16" "HI_BYTE_SHIFT" "I", Cond.fieldLink RJ2 63 "java/lang/StringUTF16" "LO_BYTE_SHIFT" "I", Cond.methodLink RJ2 232 yJ2_indexOfSupplementary_4cfef, Cond.static yJ2_indexOfSupplementary_4cfef, Cond.code yJ2_indexOfSupplementary_4cfef cJ2_indexOfSupplementary_4cfef 7 (some .int), Cond.methodLink RJ2 164 yJ11_isValidCodePoint_9a6ad, Cond.static yJ11_isValidCodePoint_9a6ad, Cond.initialized RJ11, Cond.code yJ11_isValidCodePoint_9a6ad cJ11_isValidCodePoint_9a6ad 2 (some .boolean), Cond.methodLink RJ2 157 yJ11_highSurrogate_5068e, Cond.static yJ11_highSurrogate_5068e, Cond.code yJ11_highSurrogate_5068e cJ11_highSurrogate_5068e 1 (some .char), Cond.constant RJ11 110 (55232), Cond.methodLink RJ2 161 yJ11_lowSurrogate_5068e, Cond.static yJ11_lowSurrogate_5068e, Cond.code yJ11_lowSurrogate_5068e cJ11_lowSurrogate_5068e 1 (some .char), Cond.constant RJ11 76 (56320)]
def wsX2_firstFault : List Cond := .code yX2_firstFault cX2_firstFault 2 (some .int) :: ((wsX2_firstFault_r1 ++ (wsX2_firstFault_r2 ++ (wsX2_firstFault_r3 ++ wsX2_firstFault_r4))) ++ wsX20)
def wsX2_isOffice_r1 : List Cond := [Cond.fieldLink RX2 15 "DarkOffice$Page" "length" "I", Cond.methodLink RX2 23 yX2_firstFault, Cond.instanceMethod yX2_firstFault, Cond.selects RX2 yX2_firstFault yX2_firstFault, Cond.initialized RX2, Cond.code yX2_firstFault cX2_firstFault 2 (some .int), Cond.fieldLink RX2 9 "DarkOffice$Page" "codes" "[I", Cond.methodLink RX2 19 yX2_fits, Cond.static yX2_fits, Cond.code yX2_fits cX2_fits 2 (some .boolean), Cond.methodLink RX2 29 yJ0_indexOf_0f7a4, Cond.instanceMethod yJ0_indexOf_0f7a4, Cond.selects RJ0 yJ0_indexOf_0f7a4 yJ0_indexOf_0f7a4, Cond.initialized RJ0, Cond.code yJ0_indexOf_0f7a4 cJ0_indexOf_0f7a4 2 (some .int), Cond.methodLink RJ0 633 yJ0_indexOf_7cf53, Cond.instanceMethod yJ0_indexOf_7cf53, Cond.selects RJ0 yJ0_indexOf_7cf53 yJ0_indexOf_7cf53, Cond.code yJ0_indexOf_7cf53 cJ0_indexOf_7cf53 3 (some .int), Cond.fieldLink RJ0 9 "java/lang/String" "value" "[B", Cond.methodLink RJ0 492 yJ0_isLatin1_aae02, Cond.instanceMethod yJ0_isLatin1_aae02, Cond.selects RJ0 yJ0_isLatin1_aae02 yJ0_isLatin1_aae02, Cond.code yJ0_isLatin1_aae02 cJ0_isLatin1_aae02 1 (some .boolean)]
def wsX2_isOffice_r2 : List Cond := [Cond.fieldLink RJ0 38 "java/lang/String" "COMPACT_STRINGS" "Z", Cond.fieldLink RJ0 15 "java/lang/String" "coder" "B", Cond.methodLink RJ0 505 yJ0_length_8abf5, Cond.instanceMethod yJ0_length_8abf5, Cond.selects RJ0 yJ0_length_8abf5 yJ0_length_8abf5, Cond.code yJ0_length_8abf5 cJ0_length_8abf5 1 (some .int), Cond.methodLink RJ0 335 yJ0_coder_7d493, Cond.instanceMethod yJ0_coder_7d493, Cond.selects RJ0 yJ0_coder_7d493 yJ0_coder_7d493, Cond.code yJ0_coder_7d493 cJ0_coder_7d493 1 (some .byte), Cond.methodLink RJ0 637 yJ1_indexOf_4cfef, Cond.static yJ1_indexOf_4cfef, Cond.initialized RJ1, Cond.code yJ1_indexOf_4cfef cJ1_indexOf_4cfef 4 (some .int), Cond.methodLink RJ1 92 Lib.Math.max.name, Cond.static Lib.Math.max.name, Cond.initialized "java/lang/Math", Cond.code Lib.Math.max.name Lib.Math.max.code 2 (some .int), Cond.methodLink RJ1 38 Lib.Math.min.name, Cond.static Lib.Math.min.name, Cond.code Lib.Math.min.name Lib.Math.min.code 2 (some .int), Cond.methodLink RJ1 88 yJ1_canEncode_9a6ad, Cond.static yJ1_canEncode_9a6ad, Cond.code yJ1_canEncode_9a6ad cJ1_canEncode_9a6ad 1 (some .boolean)]
def wsX2_isOffice_r3 : List Cond := [Cond.methodLink RJ1 95 yJ1_indexOfChar_4cfef, Cond.static yJ1_indexOfChar_4cfef, Cond.code yJ1_indexOfChar_4cfef cJ1_indexOfChar_4cfef 6 (some .int), Cond.methodLink RJ0 640 yJ2_indexOf_4cfef, Cond.static yJ2_indexOf_4cfef, Cond.initialized RJ2, Cond.code yJ2_indexOf_4cfef cJ2_indexOf_4cfef 4 (some .int), Cond.methodLink RJ2 224 Lib.Math.max.name, Cond.methodLink RJ2 183 Lib.Math.min.name, Cond.constant RJ2 227 (65536), Cond.methodLink RJ2 228 yJ2_indexOfChar_4cfef, Cond.static yJ2_indexOfChar_4cfef, Cond.code yJ2_indexOfChar_4cfef cJ2_indexOfChar_4cfef 4 (some .int), Cond.methodLink RJ2 96 yJ2_checkBoundsBeginEnd_d044e, Cond.static yJ2_checkBoundsBeginEnd_d044e, Cond.code yJ2_checkBoundsBeginEnd_d044e cJ2_checkBoundsBeginEnd_d044e 3 none, Cond.methodLink RJ2 48 yJ2_length_9d52b, Cond.static yJ2_length_9d52b, Cond.code yJ2_length_9d52b cJ2_length_9d52b 1 (some .int), Cond.methodLink RJ2 241 yJ0_checkBoundsBeginEnd_23922, Cond.static yJ0_checkBoundsBeginEnd_23922, Cond.code yJ0_checkBoundsBeginEnd_23922 cJ0_checkBoundsBeginEnd_23922 3 none, Cond.fieldLink RJ0 1053 "jdk/internal/util/Preconditions" "SIOOBE_FORMATTER" "Ljava/util/function/BiFunction;", Cond.methodLink RJ0 1062 yJ3_checkFromToIndex_8c36e]
def wsX2_isOffice_r4 : List Cond := [Cond.static yJ3_checkFromToIndex_8c36e, Cond.initialized RJ3, Cond.code yJ3_checkFromToIndex_8c36e cJ3_checkFromToIndex_8c36e 4 (some .int), Cond.methodLink RJ2 244 yJ2_indexOfCharUnsafe_4cfef, Cond.static yJ2_indexOfCharUnsafe_4cfef, Cond.code yJ2_indexOfCharUnsafe_4cfef cJ2_indexOfCharUnsafe_4cfef 5 (some .int), Cond.methodLink RJ2 71 yJ2_getChar_3b067, Cond.static yJ2_getChar_3b067, Cond.code yJ2_getChar_3b067 cJ2_getChar_3b067 2 (some .char), Cond.fieldLink RJ2 44 "java/lang/StringUTF16" "$assertionsDisabled" "Z", Cond.fieldLink RJ2 59 "java/lang/StringUTF16" "HI_BYTE_SHIFT" "I", Cond.fieldLink RJ2 63 "java/lang/StringUTF16" "LO_BYTE_SHIFT" "I", Cond.methodLink RJ2 232 yJ2_indexOfSupplementary_4cfef, Cond.static yJ2_indexOfSupplementary_4cfef, Cond.code yJ2_indexOfSupplementary_4cfef cJ2_indexOfSupplementary_4cfef 7 (some .int), Cond.methodLink RJ2 164 yJ11_isValidCodePoint_9a6ad, Cond.static yJ11_isValidCodePoint_9a6ad, Cond.initialized RJ11, Cond.code yJ11_isValidCodePoint_9a6ad cJ11_isValidCodePoint_9a6ad 2 (some .boolean), Cond.methodLink RJ2 157 yJ11_highSurrogate_5068e, Cond.static yJ11_highSurrogate_5068e, Cond.code yJ11_highSurrogate_5068e cJ11_highSurrogate_5068e 1 (some .char), Cond.constant RJ11 110 (55232), Cond.methodLink RJ2 161 yJ11_lowSurrogate_5068e]
def wsX2_isOffice_r5 : List Cond := [Cond.static yJ11_lowSurrogate_5068e, Cond.code yJ11_lowSurrogate_5068e cJ11_lowSurrogate_5068e 1 (some .char), Cond.constant RJ11 76 (56320)]
def wsX2_isOffice : List Cond := .code yX2_isOffice cX2_isOffice 1 (some .boolean) :: ((wsX2_isOffice_r1 ++ (wsX2_isOffice_r2 ++ (wsX2_isOffice_r3 ++ (wsX2_isOffice_r4 ++ wsX2_isOffice_r5)))) ++ wsX20)
def wsX3_init : List Cond := .code yX3_init cX3_init 1 none :: ([.methodLink RX3 3 objectInit, .instanceMethod objectInit, .code objectInit ⟨#[0xb1]⟩ 1 none, .arrayClass .int, .fieldLink RX3 9 "DarkOffice$Ways" "ends" "[I"] ++ wsX30)
def wsX3_further_r1 : List Cond := [Cond.methodLink RX3 38 yX1_after, Cond.instanceMethod yX1_after, Cond.selects RX1 yX1_after yX1_after, Cond.initialized RX1, Cond.code yX1_after cX1_after 6 (some .int), Cond.fieldLink RX1 33 "DarkOffice$Lamps" "size" "I", Cond.fieldLink RX1 18 "DarkOffice$Lamps" "sees" "[I", Cond.fieldLink RX1 15 "DarkOffice$Lamps" "holds" "[I", Cond.methodLink RX1 57 Lib.Math.max.name, Cond.static Lib.Math.max.name, Cond.initialized "java/lang/Math", Cond.code Lib.Math.max.name Lib.Math.max.code 2 (some .int), Cond.methodLink RX1 54 yX1_left, Cond.static yX1_left, Cond.code yX1_left cX1_left 2 (some .int), Cond.methodLink RX3 24 yX1_litOnes, Cond.instanceMethod yX1_litOnes, Cond.selects RX1 yX1_litOnes yX1_litOnes, Cond.code yX1_litOnes cX1_litOnes 4 (some .int), Cond.methodLink RX3 30 yX0_bookAgrees, Cond.instanceMethod yX0_bookAgrees, Cond.selects RX0 yX0_bookAgrees yX0_bookAgrees, Cond.initialized RX0, Cond.code yX0_bookAgrees cX0_bookAgrees 3 (some .boolean)]
def wsX3_further_r2 : List Cond := [Cond.fieldLink RX0 21 "DarkOffice$Evening" "toldLit" "[I", Cond.fieldLink RX0 24 "DarkOffice$Evening" "toldDark" "[I"]
def wsX3_further : List Cond := .code yX3_further cX3_further 6 (some .int) :: ((wsX3_further_r1 ++ wsX3_further_r2) ++ wsX10 ++ wsX00)
def wsX3_follow_r1 : List Cond := [Cond.fieldLink RX3 15 "DarkOffice$Ways" "size" "I", Cond.fieldLink RX3 9 "DarkOffice$Ways" "ends" "[I", Cond.fieldLink RX3 19 "DarkOffice$Evening" "lit" "I", Cond.methodLink RX3 24 yX1_litOnes, Cond.instanceMethod yX1_litOnes, Cond.selects RX1 yX1_litOnes yX1_litOnes, Cond.initialized RX1, Cond.code yX1_litOnes cX1_litOnes 4 (some .int), Cond.fieldLink RX1 33 "DarkOffice$Lamps" "size" "I", Cond.methodLink RX1 54 yX1_left, Cond.static yX1_left, Cond.code yX1_left cX1_left 2 (some .int), Cond.methodLink RX3 30 yX0_bookAgrees, Cond.instanceMethod yX0_bookAgrees, Cond.selects RX0 yX0_bookAgrees yX0_bookAgrees, Cond.initialized RX0, Cond.code yX0_bookAgrees cX0_bookAgrees 3 (some .boolean), Cond.fieldLink RX0 21 "DarkOffice$Evening" "toldLit" "[I", Cond.fieldLink RX0 24 "DarkOffice$Evening" "toldDark" "[I", Cond.methodLink RX3 34 yX3_further, Cond.static yX3_further, Cond.initialized RX3, Cond.code yX3_further cX3_further 6 (some .int), Cond.methodLink RX3 38 yX1_after]
def wsX3_follow_r2 : List Cond := [Cond.instanceMethod yX1_after, Cond.selects RX1 yX1_after yX1_after, Cond.code yX1_after cX1_after 6 (some .int), Cond.fieldLink RX1 18 "DarkOffice$Lamps" "sees" "[I", Cond.fieldLink RX1 15 "DarkOffice$Lamps" "holds" "[I", Cond.methodLink RX1 57 Lib.Math.max.name, Cond.static Lib.Math.max.name, Cond.initialized "java/lang/Math", Cond.code Lib.Math.max.name Lib.Math.max.code 2 (some .int)]
def wsX3_follow : List Cond := .code yX3_follow cX3_follow 7 none :: ((wsX3_follow_r1 ++ wsX3_follow_r2) ++ wsX30 ++ wsX00 ++ wsX10)
def wsX3_left : List Cond := .code yX3_left cX3_left 3 (some .int) :: ([.fieldLink RX3 15 "DarkOffice$Ways" "size" "I", .fieldLink RX3 9 "DarkOffice$Ways" "ends" "[I"] ++ wsX30)
def wsX3_first : List Cond := .code yX3_first cX3_first 2 (some .int) :: ([.fieldLink RX3 15 "DarkOffice$Ways" "size" "I", .fieldLink RX3 9 "DarkOffice$Ways" "ends" "[I"] ++ wsX30)
def wsX3_endLit : List Cond := .code yX3_endLit cX3_endLit 4 (some .int) :: ([.fieldLink RX3 15 "DarkOffice$Ways" "size" "I", .fieldLink RX3 9 "DarkOffice$Ways" "ends" "[I", .methodLink RX3 54 yX1_left, .static yX1_left, .initialized RX1, .code yX1_left cX1_left 2 (some .int)] ++ wsX30)
def wsX3_tellingLamp : List Cond := .code yX3_tellingLamp cX3_tellingLamp 8 (some .int) :: ([.methodLink RX3 49 Lib.Math.max.name, .static Lib.Math.max.name, .initialized "java/lang/Math", .code Lib.Math.max.name Lib.Math.max.code 2 (some .int), .methodLink RX3 42 yX3_left, .instanceMethod yX3_left, .selects RX3 yX3_left yX3_left, .initialized RX3, .code yX3_left cX3_left 3 (some .int), .fieldLink RX3 15 "DarkOffice$Ways" "size" "I", .fieldLink RX3 9 "DarkOffice$Ways" "ends" "[I", .methodLink RX3 46 yX3_endLit, .instanceMethod yX3_endLit, .selects RX3 yX3_endLit yX3_endLit, .code yX3_endLit cX3_endLit 4 (some .int), .methodLink RX3 54 yX1_left, .static yX1_left, .initialized RX1, .code yX1_left cX1_left 2 (some .int)] ++ wsX30)
def wsX4_init_r1 : List Cond := [Cond.methodLink RX4 1 objectInit, Cond.instanceMethod objectInit, Cond.code objectInit ⟨#[0xb1]⟩ 1 none, Cond.classLink RX4 7 RX2, Cond.instantiable RX2 2, Cond.initialized RX2, Cond.fieldLink RX4 10 "DarkOffice" "page" "LDarkOffice$Page;", Cond.classLink RX4 16 RX1, Cond.instantiable RX1 4, Cond.initialized RX1, Cond.fieldLink RX4 19 "DarkOffice" "lamps" "LDarkOffice$Lamps;", Cond.classLink RX4 23 RX0, Cond.instantiable RX0 9, Cond.initialized RX0, Cond.fieldLink RX4 26 "DarkOffice" "now" "LDarkOffice$Evening;", Cond.fieldLink RX4 30 "DarkOffice" "kept" "LDarkOffice$Evening;", Cond.classLink RX4 33 RX3, Cond.instantiable RX3 2, Cond.initialized RX3, Cond.fieldLink RX4 36 "DarkOffice" "ways" "LDarkOffice$Ways;", Cond.arrayClass .int, Cond.fieldLink RX4 40 "DarkOffice" "plan" "[I", Cond.fieldLink RX4 44 "DarkOffice" "steps" "[I", Cond.instanceMethod yX2_init]
def wsX4_init_r2 : List Cond := [Cond.code yX2_init cX2_init 1 none, Cond.methodLink RX2 3 objectInit, Cond.fieldLink RX2 9 "DarkOffice$Page" "codes" "[I", Cond.instanceMethod yX1_init, Cond.code yX1_init cX1_init 1 none, Cond.methodLink RX1 3 objectInit, Cond.fieldLink RX1 9 "DarkOffice$Lamps" "kinds" "[I", Cond.fieldLink RX1 15 "DarkOffice$Lamps" "holds" "[I", Cond.fieldLink RX1 18 "DarkOffice$Lamps" "sees" "[I", Cond.instanceMethod yX0_init, Cond.code yX0_init cX0_init 1 none, Cond.methodLink RX0 3 objectInit, Cond.fieldLink RX0 9 "DarkOffice$Evening" "sections" "[I", Cond.fieldLink RX0 15 "DarkOffice$Evening" "waves" "[I", Cond.fieldLink RX0 18 "DarkOffice$Evening" "darks" "[I", Cond.fieldLink RX0 21 "DarkOffice$Evening" "toldLit" "[I", Cond.fieldLink RX0 24 "DarkOffice$Evening" "toldDark" "[I", Cond.instanceMethod yX3_init, Cond.code yX3_init cX3_init 1 none, Cond.methodLink RX3 3 objectInit, Cond.fieldLink RX3 9 "DarkOffice$Ways" "ends" "[I"]
def wsX4_init : List Cond := .code yX4_init cX4_init 1 none :: ((wsX4_init_r1 ++ wsX4_init_r2) ++ wsX20 ++ wsX40 ++ wsX10 ++ wsX00 ++ wsX30)
def wsX4_letter : List Cond := .code yX4_letter cX4_letter 2 (some .int) :: ([.fieldLink RX4 10 "DarkOffice" "page" "LDarkOffice$Page;", .methodLink RX4 47 yX2_put, .instanceMethod yX2_put, .selects RX2 yX2_put yX2_put, .initialized RX2, .code yX2_put cX2_put 2 (some .int), .fieldLink RX2 15 "DarkOffice$Page" "length" "I", .fieldLink RX2 9 "DarkOffice$Page" "codes" "[I"] ++ wsX40 ++ wsX20)
def wsX4_blank : List Cond := .code yX4_blank cX4_blank 2 (some .int) :: ([.fieldLink RX4 10 "DarkOffice" "page" "LDarkOffice$Page;", .fieldLink RX4 51 "DarkOffice$Page" "length" "I"] ++ wsX40 ++ wsX20)
def wsX4_fault_r1 : List Cond := [Cond.fieldLink RX4 10 "DarkOffice" "page" "LDarkOffice$Page;", Cond.methodLink RX4 55 yX2_firstFault, Cond.instanceMethod yX2_firstFault, Cond.selects RX2 yX2_firstFault yX2_firstFault, Cond.initialized RX2, Cond.code yX2_firstFault cX2_firstFault 2 (some .int), Cond.fieldLink RX2 15 "DarkOffice$Page" "length" "I", Cond.fieldLink RX2 9 "DarkOffice$Page" "codes" "[I", Cond.methodLink RX2 19 yX2_fits, Cond.static yX2_fits, Cond.code yX2_fits cX2_fits 2 (some .boolean), Cond.methodLink RX2 29 yJ0_indexOf_0f7a4, Cond.instanceMethod yJ0_indexOf_0f7a4, Cond.selects RJ0 yJ0_indexOf_0f7a4 yJ0_indexOf_0f7a4, Cond.initialized RJ0, Cond.code yJ0_indexOf_0f7a4 cJ0_indexOf_0f7a4 2 (some .int), Cond.methodLink RJ0 633 yJ0_indexOf_7cf53, Cond.instanceMethod yJ0_indexOf_7cf53, Cond.selects RJ0 yJ0_indexOf_7cf53 yJ0_indexOf_7cf53, Cond.code yJ0_indexOf_7cf53 cJ0_indexOf_7cf53 3 (some .int), Cond.fieldLink RJ0 9 "java/lang/String" "value" "[B", Cond.methodLink RJ0 492 yJ0_isLatin1_aae02, Cond.instanceMethod yJ0_isLatin1_aae02, Cond.selects RJ0 yJ0_isLatin1_aae02 yJ0_isLatin1_aae02]
def wsX4_fault_r2 : List Cond := [Cond.code yJ0_isLatin1_aae02 cJ0_isLatin1_aae02 1 (some .boolean), Cond.fieldLink RJ0 38 "java/lang/String" "COMPACT_STRINGS" "Z", Cond.fieldLink RJ0 15 "java/lang/String" "coder" "B", Cond.methodLink RJ0 505 yJ0_length_8abf5, Cond.instanceMethod yJ0_length_8abf5, Cond.selects RJ0 yJ0_length_8abf5 yJ0_length_8abf5, Cond.code yJ0_length_8abf5 cJ0_length_8abf5 1 (some .int), Cond.methodLink RJ0 335 yJ0_coder_7d493, Cond.instanceMethod yJ0_coder_7d493, Cond.selects RJ0 yJ0_coder_7d493 yJ0_coder_7d493, Cond.code yJ0_coder_7d493 cJ0_coder_7d493 1 (some .byte), Cond.methodLink RJ0 637 yJ1_indexOf_4cfef, Cond.static yJ1_indexOf_4cfef, Cond.initialized RJ1, Cond.code yJ1_indexOf_4cfef cJ1_indexOf_4cfef 4 (some .int), Cond.methodLink RJ1 92 Lib.Math.max.name, Cond.static Lib.Math.max.name, Cond.initialized "java/lang/Math", Cond.code Lib.Math.max.name Lib.Math.max.code 2 (some .int), Cond.methodLink RJ1 38 Lib.Math.min.name, Cond.static Lib.Math.min.name, Cond.code Lib.Math.min.name Lib.Math.min.code 2 (some .int), Cond.methodLink RJ1 88 yJ1_canEncode_9a6ad, Cond.static yJ1_canEncode_9a6ad]
def wsX4_fault_r3 : List Cond := [Cond.code yJ1_canEncode_9a6ad cJ1_canEncode_9a6ad 1 (some .boolean), Cond.methodLink RJ1 95 yJ1_indexOfChar_4cfef, Cond.static yJ1_indexOfChar_4cfef, Cond.code yJ1_indexOfChar_4cfef cJ1_indexOfChar_4cfef 6 (some .int), Cond.methodLink RJ0 640 yJ2_indexOf_4cfef, Cond.static yJ2_indexOf_4cfef, Cond.initialized RJ2, Cond.code yJ2_indexOf_4cfef cJ2_indexOf_4cfef 4 (some .int), Cond.methodLink RJ2 224 Lib.Math.max.name, Cond.methodLink RJ2 183 Lib.Math.min.name, Cond.constant RJ2 227 (65536), Cond.methodLink RJ2 228 yJ2_indexOfChar_4cfef, Cond.static yJ2_indexOfChar_4cfef, Cond.code yJ2_indexOfChar_4cfef cJ2_indexOfChar_4cfef 4 (some .int), Cond.methodLink RJ2 96 yJ2_checkBoundsBeginEnd_d044e, Cond.static yJ2_checkBoundsBeginEnd_d044e, Cond.code yJ2_checkBoundsBeginEnd_d044e cJ2_checkBoundsBeginEnd_d044e 3 none, Cond.methodLink RJ2 48 yJ2_length_9d52b, Cond.static yJ2_length_9d52b, Cond.code yJ2_length_9d52b cJ2_length_9d52b 1 (some .int), Cond.methodLink RJ2 241 yJ0_checkBoundsBeginEnd_23922, Cond.static yJ0_checkBoundsBeginEnd_23922, Cond.code yJ0_checkBoundsBeginEnd_23922 cJ0_checkBoundsBeginEnd_23922 3 none, Cond.fieldLink RJ0 1053 "jdk/internal/util/Preconditions" "SIOOBE_FORMATTER" "Ljava/util/function/BiFunction;"]
def wsX4_fault_r4 : List Cond := [Cond.methodLink RJ0 1062 yJ3_checkFromToIndex_8c36e, Cond.static yJ3_checkFromToIndex_8c36e, Cond.initialized RJ3, Cond.code yJ3_checkFromToIndex_8c36e cJ3_checkFromToIndex_8c36e 4 (some .int), Cond.methodLink RJ2 244 yJ2_indexOfCharUnsafe_4cfef, Cond.static yJ2_indexOfCharUnsafe_4cfef, Cond.code yJ2_indexOfCharUnsafe_4cfef cJ2_indexOfCharUnsafe_4cfef 5 (some .int), Cond.methodLink RJ2 71 yJ2_getChar_3b067, Cond.static yJ2_getChar_3b067, Cond.code yJ2_getChar_3b067 cJ2_getChar_3b067 2 (some .char), Cond.fieldLink RJ2 44 "java/lang/StringUTF16" "$assertionsDisabled" "Z", Cond.fieldLink RJ2 59 "java/lang/StringUTF16" "HI_BYTE_SHIFT" "I", Cond.fieldLink RJ2 63 "java/lang/StringUTF16" "LO_BYTE_SHIFT" "I", Cond.methodLink RJ2 232 yJ2_indexOfSupplementary_4cfef, Cond.static yJ2_indexOfSupplementary_4cfef, Cond.code yJ2_indexOfSupplementary_4cfef cJ2_indexOfSupplementary_4cfef 7 (some .int), Cond.methodLink RJ2 164 yJ11_isValidCodePoint_9a6ad, Cond.static yJ11_isValidCodePoint_9a6ad, Cond.initialized RJ11, Cond.code yJ11_isValidCodePoint_9a6ad cJ11_isValidCodePoint_9a6ad 2 (some .boolean), Cond.methodLink RJ2 157 yJ11_highSurrogate_5068e, Cond.static yJ11_highSurrogate_5068e, Cond.code yJ11_highSurrogate_5068e cJ11_highSurrogate_5068e 1 (some .char), Cond.constant RJ11 110 (55232)]
def wsX4_fault_r5 : List Cond := [Cond.methodLink RJ2 161 yJ11_lowSurrogate_5068e, Cond.static yJ11_lowSurrogate_5068e, Cond.code yJ11_lowSurrogate_5068e cJ11_lowSurrogate_5068e 1 (some .char), Cond.constant RJ11 76 (56320)]
def wsX4_fault : List Cond := .code yX4_fault cX4_fault 1 (some .int) :: ((wsX4_fault_r1 ++ (wsX4_fault_r2 ++ (wsX4_fault_r3 ++ (wsX4_fault_r4 ++ wsX4_fault_r5)))) ++ wsX40 ++ wsX20)
def wsX4_office_r1 : List Cond := [Cond.fieldLink RX4 10 "DarkOffice" "page" "LDarkOffice$Page;", Cond.fieldLink RX4 19 "DarkOffice" "lamps" "LDarkOffice$Lamps;", Cond.fieldLink RX4 51 "DarkOffice$Page" "length" "I", Cond.fieldLink RX4 26 "DarkOffice" "now" "LDarkOffice$Evening;", Cond.fieldLink RX4 70 "DarkOffice" "imageKept" "Z", Cond.fieldLink RX4 74 "DarkOffice" "officesRead" "I", Cond.fieldLink RX4 77 "DarkOffice$Lamps" "size" "I", Cond.methodLink RX4 59 yX2_isOffice, Cond.instanceMethod yX2_isOffice, Cond.selects RX2 yX2_isOffice yX2_isOffice, Cond.initialized RX2, Cond.code yX2_isOffice cX2_isOffice 1 (some .boolean), Cond.fieldLink RX2 15 "DarkOffice$Page" "length" "I", Cond.methodLink RX2 23 yX2_firstFault, Cond.instanceMethod yX2_firstFault, Cond.selects RX2 yX2_firstFault yX2_firstFault, Cond.code yX2_firstFault cX2_firstFault 2 (some .int), Cond.fieldLink RX2 9 "DarkOffice$Page" "codes" "[I", Cond.methodLink RX2 19 yX2_fits, Cond.static yX2_fits, Cond.code yX2_fits cX2_fits 2 (some .boolean), Cond.methodLink RX2 29 yJ0_indexOf_0f7a4, Cond.instanceMethod yJ0_indexOf_0f7a4, Cond.selects RJ0 yJ0_indexOf_0f7a4 yJ0_indexOf_0f7a4]
def wsX4_office_r2 : List Cond := [Cond.initialized RJ0, Cond.code yJ0_indexOf_0f7a4 cJ0_indexOf_0f7a4 2 (some .int), Cond.methodLink RJ0 633 yJ0_indexOf_7cf53, Cond.instanceMethod yJ0_indexOf_7cf53, Cond.selects RJ0 yJ0_indexOf_7cf53 yJ0_indexOf_7cf53, Cond.code yJ0_indexOf_7cf53 cJ0_indexOf_7cf53 3 (some .int), Cond.fieldLink RJ0 9 "java/lang/String" "value" "[B", Cond.methodLink RJ0 492 yJ0_isLatin1_aae02, Cond.instanceMethod yJ0_isLatin1_aae02, Cond.selects RJ0 yJ0_isLatin1_aae02 yJ0_isLatin1_aae02, Cond.code yJ0_isLatin1_aae02 cJ0_isLatin1_aae02 1 (some .boolean), Cond.fieldLink RJ0 38 "java/lang/String" "COMPACT_STRINGS" "Z", Cond.fieldLink RJ0 15 "java/lang/String" "coder" "B", Cond.methodLink RJ0 505 yJ0_length_8abf5, Cond.instanceMethod yJ0_length_8abf5, Cond.selects RJ0 yJ0_length_8abf5 yJ0_length_8abf5, Cond.code yJ0_length_8abf5 cJ0_length_8abf5 1 (some .int), Cond.methodLink RJ0 335 yJ0_coder_7d493, Cond.instanceMethod yJ0_coder_7d493, Cond.selects RJ0 yJ0_coder_7d493 yJ0_coder_7d493, Cond.code yJ0_coder_7d493 cJ0_coder_7d493 1 (some .byte), Cond.methodLink RJ0 637 yJ1_indexOf_4cfef, Cond.static yJ1_indexOf_4cfef, Cond.initialized RJ1]
def wsX4_office_r3 : List Cond := [Cond.code yJ1_indexOf_4cfef cJ1_indexOf_4cfef 4 (some .int), Cond.methodLink RJ1 92 Lib.Math.max.name, Cond.static Lib.Math.max.name, Cond.initialized "java/lang/Math", Cond.code Lib.Math.max.name Lib.Math.max.code 2 (some .int), Cond.methodLink RJ1 38 Lib.Math.min.name, Cond.static Lib.Math.min.name, Cond.code Lib.Math.min.name Lib.Math.min.code 2 (some .int), Cond.methodLink RJ1 88 yJ1_canEncode_9a6ad, Cond.static yJ1_canEncode_9a6ad, Cond.code yJ1_canEncode_9a6ad cJ1_canEncode_9a6ad 1 (some .boolean), Cond.methodLink RJ1 95 yJ1_indexOfChar_4cfef, Cond.static yJ1_indexOfChar_4cfef, Cond.code yJ1_indexOfChar_4cfef cJ1_indexOfChar_4cfef 6 (some .int), Cond.methodLink RJ0 640 yJ2_indexOf_4cfef, Cond.static yJ2_indexOf_4cfef, Cond.initialized RJ2, Cond.code yJ2_indexOf_4cfef cJ2_indexOf_4cfef 4 (some .int), Cond.methodLink RJ2 224 Lib.Math.max.name, Cond.methodLink RJ2 183 Lib.Math.min.name, Cond.constant RJ2 227 (65536), Cond.methodLink RJ2 228 yJ2_indexOfChar_4cfef, Cond.static yJ2_indexOfChar_4cfef, Cond.code yJ2_indexOfChar_4cfef cJ2_indexOfChar_4cfef 4 (some .int)]
def wsX4_office_r4 : List Cond := [Cond.methodLink RJ2 96 yJ2_checkBoundsBeginEnd_d044e, Cond.static yJ2_checkBoundsBeginEnd_d044e, Cond.code yJ2_checkBoundsBeginEnd_d044e cJ2_checkBoundsBeginEnd_d044e 3 none, Cond.methodLink RJ2 48 yJ2_length_9d52b, Cond.static yJ2_length_9d52b, Cond.code yJ2_length_9d52b cJ2_length_9d52b 1 (some .int), Cond.methodLink RJ2 241 yJ0_checkBoundsBeginEnd_23922, Cond.static yJ0_checkBoundsBeginEnd_23922, Cond.code yJ0_checkBoundsBeginEnd_23922 cJ0_checkBoundsBeginEnd_23922 3 none, Cond.fieldLink RJ0 1053 "jdk/internal/util/Preconditions" "SIOOBE_FORMATTER" "Ljava/util/function/BiFunction;", Cond.methodLink RJ0 1062 yJ3_checkFromToIndex_8c36e, Cond.static yJ3_checkFromToIndex_8c36e, Cond.initialized RJ3, Cond.code yJ3_checkFromToIndex_8c36e cJ3_checkFromToIndex_8c36e 4 (some .int), Cond.methodLink RJ2 244 yJ2_indexOfCharUnsafe_4cfef, Cond.static yJ2_indexOfCharUnsafe_4cfef, Cond.code yJ2_indexOfCharUnsafe_4cfef cJ2_indexOfCharUnsafe_4cfef 5 (some .int), Cond.methodLink RJ2 71 yJ2_getChar_3b067, Cond.static yJ2_getChar_3b067, Cond.code yJ2_getChar_3b067 cJ2_getChar_3b067 2 (some .char), Cond.fieldLink RJ2 44 "java/lang/StringUTF16" "$assertionsDisabled" "Z", Cond.fieldLink RJ2 59 "java/lang/StringUTF16" "HI_BYTE_SHIFT" "I", Cond.fieldLink RJ2 63 "java/lang/StringUTF16" "LO_BYTE_SHIFT" "I", Cond.methodLink RJ2 232 yJ2_indexOfSupplementary_4cfef]
def wsX4_office_r5 : List Cond := [Cond.static yJ2_indexOfSupplementary_4cfef, Cond.code yJ2_indexOfSupplementary_4cfef cJ2_indexOfSupplementary_4cfef 7 (some .int), Cond.methodLink RJ2 164 yJ11_isValidCodePoint_9a6ad, Cond.static yJ11_isValidCodePoint_9a6ad, Cond.initialized RJ11, Cond.code yJ11_isValidCodePoint_9a6ad cJ11_isValidCodePoint_9a6ad 2 (some .boolean), Cond.methodLink RJ2 157 yJ11_highSurrogate_5068e, Cond.static yJ11_highSurrogate_5068e, Cond.code yJ11_highSurrogate_5068e cJ11_highSurrogate_5068e 1 (some .char), Cond.constant RJ11 110 (55232), Cond.methodLink RJ2 161 yJ11_lowSurrogate_5068e, Cond.static yJ11_lowSurrogate_5068e, Cond.code yJ11_lowSurrogate_5068e cJ11_lowSurrogate_5068e 1 (some .char), Cond.constant RJ11 76 (56320), Cond.methodLink RX4 63 yX1_read, Cond.instanceMethod yX1_read, Cond.selects RX1 yX1_read yX1_read, Cond.initialized RX1, Cond.code yX1_read cX1_read 5 none, Cond.fieldLink RX1 21 "DarkOffice$Page" "length" "I", Cond.methodLink RX1 27 Lib.Math.min.name, Cond.fieldLink RX1 33 "DarkOffice$Lamps" "size" "I", Cond.fieldLink RX1 36 "DarkOffice$Page" "codes" "[I", Cond.fieldLink RX1 9 "DarkOffice$Lamps" "kinds" "[I"]
def wsX4_office_r6 : List Cond := [Cond.fieldLink RX1 15 "DarkOffice$Lamps" "holds" "[I", Cond.fieldLink RX1 18 "DarkOffice$Lamps" "sees" "[I", Cond.methodLink RX1 41 yJ0_indexOf_0f7a4, Cond.methodLink RX1 47 yX1_seenBy, Cond.static yX1_seenBy, Cond.code yX1_seenBy cX1_seenBy 2 (some .int), Cond.methodLink RX1 50 yX1_allOnes, Cond.instanceMethod yX1_allOnes, Cond.selects RX1 yX1_allOnes yX1_allOnes, Cond.code yX1_allOnes cX1_allOnes 1 (some .int), Cond.methodLink RX4 67 yX0_begin, Cond.instanceMethod yX0_begin, Cond.selects RX0 yX0_begin yX0_begin, Cond.initialized RX0, Cond.code yX0_begin cX0_begin 1 none, Cond.fieldLink RX0 27 "DarkOffice$Evening" "lit" "I", Cond.fieldLink RX0 31 "DarkOffice$Evening" "minutes" "I", Cond.fieldLink RX0 34 "DarkOffice$Evening" "people" "I", Cond.methodLink RX0 37 yX0_emptyBook, Cond.instanceMethod yX0_emptyBook, Cond.selects RX0 yX0_emptyBook yX0_emptyBook, Cond.code yX0_emptyBook cX0_emptyBook 2 none, Cond.fieldLink RX0 40 "DarkOffice$Evening" "told" "I", Cond.fieldLink RX0 21 "DarkOffice$Evening" "toldLit" "[I"]
def wsX4_office_r7 : List Cond := [Cond.fieldLink RX0 24 "DarkOffice$Evening" "toldDark" "[I"]
def wsX4_office : List Cond := .code yX4_office cX4_office 1 (some .int) :: ((wsX4_office_r1 ++ (wsX4_office_r2 ++ (wsX4_office_r3 ++ (wsX4_office_r4 ++ (wsX4_office_r5 ++ (wsX4_office_r6 ++ wsX4_office_r7)))))) ++ wsX40 ++ wsX20 ++ wsX10 ++ wsX00)
def wsX4_isLamp : List Cond := .code yX4_isLamp cX4_isLamp 2 (some .boolean) :: ([.fieldLink RX4 19 "DarkOffice" "lamps" "LDarkOffice$Lamps;", .fieldLink RX4 77 "DarkOffice$Lamps" "size" "I"] ++ wsX40 ++ wsX10)
def wsX4_lamp_r1 : List Cond := [Cond.fieldLink RX4 19 "DarkOffice" "lamps" "LDarkOffice$Lamps;", Cond.fieldLink RX4 84 "DarkOffice$Lamps" "kinds" "[I", Cond.fieldLink RX4 87 "DarkOffice$Lamps" "holds" "[I", Cond.fieldLink RX4 26 "DarkOffice" "now" "LDarkOffice$Evening;", Cond.fieldLink RX4 90 "DarkOffice$Evening" "lit" "I", Cond.fieldLink RX4 97 "DarkOffice$Lamps" "sees" "[I", Cond.methodLink RX4 80 yX4_isLamp, Cond.instanceMethod yX4_isLamp, Cond.selects RX4 yX4_isLamp yX4_isLamp, Cond.initialized RX4, Cond.code yX4_isLamp cX4_isLamp 2 (some .boolean), Cond.fieldLink RX4 77 "DarkOffice$Lamps" "size" "I", Cond.methodLink RX4 93 yX1_left, Cond.static yX1_left, Cond.initialized RX1, Cond.code yX1_left cX1_left 2 (some .int), Cond.methodLink RX4 100 yX0_peopleIn, Cond.instanceMethod yX0_peopleIn, Cond.selects RX0 yX0_peopleIn yX0_peopleIn, Cond.initialized RX0, Cond.code yX0_peopleIn cX0_peopleIn 4 (some .int), Cond.fieldLink RX0 34 "DarkOffice$Evening" "people" "I", Cond.fieldLink RX0 9 "DarkOffice$Evening" "sections" "[I", Cond.methodLink RX4 103 yX1_seeing]
def wsX4_lamp_r2 : List Cond := [Cond.instanceMethod yX1_seeing, Cond.selects RX1 yX1_seeing yX1_seeing, Cond.code yX1_seeing cX1_seeing 4 (some .int), Cond.fieldLink RX1 33 "DarkOffice$Lamps" "size" "I", Cond.fieldLink RX1 18 "DarkOffice$Lamps" "sees" "[I"]
def wsX4_lamp : List Cond := .code yX4_lamp cX4_lamp 3 (some .int) :: ((wsX4_lamp_r1 ++ wsX4_lamp_r2) ++ wsX40 ++ wsX10 ++ wsX00)
def wsX4_as : List Cond := .code yX4_as cX4_as 3 (some .int) :: ([.fieldLink RX4 19 "DarkOffice" "lamps" "LDarkOffice$Lamps;", .methodLink RX4 80 yX4_isLamp, .instanceMethod yX4_isLamp, .selects RX4 yX4_isLamp yX4_isLamp, .initialized RX4, .code yX4_isLamp cX4_isLamp 2 (some .boolean), .fieldLink RX4 77 "DarkOffice$Lamps" "size" "I", .methodLink RX4 106 yX1_isOf, .instanceMethod yX1_isOf, .selects RX1 yX1_isOf yX1_isOf, .initialized RX1, .code yX1_isOf cX1_isOf 3 (some .boolean), .fieldLink RX1 9 "DarkOffice$Lamps" "kinds" "[I"] ++ wsX40 ++ wsX10)
def wsX4_person : List Cond := .code yX4_person cX4_person 2 (some .int) :: ([.fieldLink RX4 26 "DarkOffice" "now" "LDarkOffice$Evening;", .methodLink RX4 80 yX4_isLamp, .instanceMethod yX4_isLamp, .selects RX4 yX4_isLamp yX4_isLamp, .initialized RX4, .code yX4_isLamp cX4_isLamp 2 (some .boolean), .fieldLink RX4 19 "DarkOffice" "lamps" "LDarkOffice$Lamps;", .fieldLink RX4 77 "DarkOffice$Lamps" "size" "I", .methodLink RX4 110 yX0_seat, .instanceMethod yX0_seat, .selects RX0 yX0_seat yX0_seat, .initialized RX0, .code yX0_seat cX0_seat 3 (some .int), .fieldLink RX0 34 "DarkOffice$Evening" "people" "I", .fieldLink RX0 9 "DarkOffice$Evening" "sections" "[I", .fieldLink RX0 15 "DarkOffice$Evening" "waves" "[I", .fieldLink RX0 18 "DarkOffice$Evening" "darks" "[I"] ++ wsX40 ++ wsX10 ++ wsX00)
def wsX4_isPerson : List Cond := .code yX4_isPerson cX4_isPerson 2 (some .boolean) :: ([.fieldLink RX4 26 "DarkOffice" "now" "LDarkOffice$Evening;", .fieldLink RX4 125 "DarkOffice$Evening" "people" "I"] ++ wsX40 ++ wsX00)
def wsX4_about : List Cond := .code yX4_about cX4_about 3 (some .int) :: ([.fieldLink RX4 26 "DarkOffice" "now" "LDarkOffice$Evening;", .fieldLink RX4 116 "DarkOffice$Evening" "sections" "[I", .fieldLink RX4 90 "DarkOffice$Evening" "lit" "I", .fieldLink RX4 119 "DarkOffice$Evening" "waves" "[I", .fieldLink RX4 122 "DarkOffice$Evening" "darks" "[I", .methodLink RX4 113 yX4_isPerson, .instanceMethod yX4_isPerson, .selects RX4 yX4_isPerson yX4_isPerson, .initialized RX4, .code yX4_isPerson cX4_isPerson 2 (some .boolean), .fieldLink RX4 125 "DarkOffice$Evening" "people" "I", .methodLink RX4 93 yX1_left, .static yX1_left, .initialized RX1, .code yX1_left cX1_left 2 (some .int)] ++ wsX40 ++ wsX00)
def wsX4_move : List Cond := .code yX4_move cX4_move 4 (some .int) :: ([.fieldLink RX4 26 "DarkOffice" "now" "LDarkOffice$Evening;", .fieldLink RX4 116 "DarkOffice$Evening" "sections" "[I", .methodLink RX4 113 yX4_isPerson, .instanceMethod yX4_isPerson, .selects RX4 yX4_isPerson yX4_isPerson, .initialized RX4, .code yX4_isPerson cX4_isPerson 2 (some .boolean), .fieldLink RX4 125 "DarkOffice$Evening" "people" "I", .methodLink RX4 80 yX4_isLamp, .instanceMethod yX4_isLamp, .selects RX4 yX4_isLamp yX4_isLamp, .code yX4_isLamp cX4_isLamp 2 (some .boolean), .fieldLink RX4 19 "DarkOffice" "lamps" "LDarkOffice$Lamps;", .fieldLink RX4 77 "DarkOffice$Lamps" "size" "I"] ++ wsX40 ++ wsX00 ++ wsX10)
def wsX4_hasOffice : List Cond := .code yX4_hasOffice cX4_hasOffice 1 (some .boolean) :: ([.fieldLink RX4 19 "DarkOffice" "lamps" "LDarkOffice$Lamps;", .fieldLink RX4 77 "DarkOffice$Lamps" "size" "I"] ++ wsX40 ++ wsX10)
def wsX4_minute_r1 : List Cond := [Cond.fieldLink RX4 26 "DarkOffice" "now" "LDarkOffice$Evening;", Cond.fieldLink RX4 125 "DarkOffice$Evening" "people" "I", Cond.fieldLink RX4 19 "DarkOffice" "lamps" "LDarkOffice$Lamps;", Cond.fieldLink RX4 90 "DarkOffice$Evening" "lit" "I", Cond.fieldLink RX4 137 "DarkOffice$Evening" "minutes" "I", Cond.methodLink RX4 128 yX4_hasOffice, Cond.instanceMethod yX4_hasOffice, Cond.selects RX4 yX4_hasOffice yX4_hasOffice, Cond.initialized RX4, Cond.code yX4_hasOffice cX4_hasOffice 1 (some .boolean), Cond.fieldLink RX4 77 "DarkOffice$Lamps" "size" "I", Cond.methodLink RX4 131 yX0_stirred, Cond.instanceMethod yX0_stirred, Cond.selects RX0 yX0_stirred yX0_stirred, Cond.initialized RX0, Cond.code yX0_stirred cX0_stirred 4 (some .int), Cond.fieldLink RX0 34 "DarkOffice$Evening" "people" "I", Cond.fieldLink RX0 9 "DarkOffice$Evening" "sections" "[I", Cond.methodLink RX4 134 yX1_after, Cond.instanceMethod yX1_after, Cond.selects RX1 yX1_after yX1_after, Cond.initialized RX1, Cond.code yX1_after cX1_after 6 (some .int), Cond.fieldLink RX1 33 "DarkOffice$Lamps" "size" "I"]
def wsX4_minute_r2 : List Cond := [Cond.fieldLink RX1 18 "DarkOffice$Lamps" "sees" "[I", Cond.fieldLink RX1 15 "DarkOffice$Lamps" "holds" "[I", Cond.methodLink RX1 57 Lib.Math.max.name, Cond.static Lib.Math.max.name, Cond.initialized "java/lang/Math", Cond.code Lib.Math.max.name Lib.Math.max.code 2 (some .int), Cond.methodLink RX1 54 yX1_left, Cond.static yX1_left, Cond.code yX1_left cX1_left 2 (some .int), Cond.methodLink RX4 140 yX1_litOnes, Cond.instanceMethod yX1_litOnes, Cond.selects RX1 yX1_litOnes yX1_litOnes, Cond.code yX1_litOnes cX1_litOnes 4 (some .int), Cond.methodLink RX4 143 yX0_write, Cond.instanceMethod yX0_write, Cond.selects RX0 yX0_write yX0_write, Cond.code yX0_write cX0_write 4 none, Cond.fieldLink RX0 15 "DarkOffice$Evening" "waves" "[I", Cond.fieldLink RX0 18 "DarkOffice$Evening" "darks" "[I", Cond.methodLink RX4 147 yX0_inDark, Cond.instanceMethod yX0_inDark, Cond.selects RX0 yX0_inDark yX0_inDark, Cond.code yX0_inDark cX0_inDark 4 (some .int)]
def wsX4_minute : List Cond := .code yX4_minute cX4_minute 2 (some .int) :: ((wsX4_minute_r1 ++ wsX4_minute_r2) ++ wsX40 ++ wsX00 ++ wsX10)
def wsX4_asksMinute : List Cond := .code yX4_asksMinute cX4_asksMinute 2 (some .boolean) :: ([])
def wsJ6_bitCount_0f7a4 : List Cond := .code yJ6_bitCount_0f7a4 cJ6_bitCount_0f7a4 1 (some .int) :: ([.constant RJ6 265 (1431655765), .constant RJ6 266 (858993459), .constant RJ6 267 (252645135)])
def wsX4_keepsLit_r1 : List Cond := [Cond.fieldLink RX4 125 "DarkOffice$Evening" "people" "I", Cond.methodLink RX4 197 yJ6_bitCount_0f7a4, Cond.static yJ6_bitCount_0f7a4, Cond.initialized RJ6, Cond.code yJ6_bitCount_0f7a4 cJ6_bitCount_0f7a4 1 (some .int), Cond.constant RJ6 265 (1431655765), Cond.constant RJ6 266 (858993459), Cond.constant RJ6 267 (252645135), Cond.methodLink RX4 131 yX0_stirred, Cond.instanceMethod yX0_stirred, Cond.selects RX0 yX0_stirred yX0_stirred, Cond.initialized RX0, Cond.code yX0_stirred cX0_stirred 4 (some .int), Cond.fieldLink RX0 34 "DarkOffice$Evening" "people" "I", Cond.fieldLink RX0 9 "DarkOffice$Evening" "sections" "[I", Cond.methodLink RX4 134 yX1_after, Cond.instanceMethod yX1_after, Cond.selects RX1 yX1_after yX1_after, Cond.initialized RX1, Cond.code yX1_after cX1_after 6 (some .int), Cond.fieldLink RX1 33 "DarkOffice$Lamps" "size" "I", Cond.fieldLink RX1 18 "DarkOffice$Lamps" "sees" "[I", Cond.fieldLink RX1 15 "DarkOffice$Lamps" "holds" "[I", Cond.methodLink RX1 57 Lib.Math.max.name]
def wsX4_keepsLit_r2 : List Cond := [Cond.static Lib.Math.max.name, Cond.initialized "java/lang/Math", Cond.code Lib.Math.max.name Lib.Math.max.code 2 (some .int), Cond.methodLink RX1 54 yX1_left, Cond.static yX1_left, Cond.code yX1_left cX1_left 2 (some .int), Cond.methodLink RX4 140 yX1_litOnes, Cond.instanceMethod yX1_litOnes, Cond.selects RX1 yX1_litOnes yX1_litOnes, Cond.code yX1_litOnes cX1_litOnes 4 (some .int), Cond.methodLink RX4 147 yX0_inDark, Cond.instanceMethod yX0_inDark, Cond.selects RX0 yX0_inDark yX0_inDark, Cond.code yX0_inDark cX0_inDark 4 (some .int), Cond.methodLink RX4 239 yX4_keepsLit, Cond.static yX4_keepsLit, Cond.initialized RX4]
def wsX4_keepsLit : List Cond := .code yX4_keepsLit cX4_keepsLit 11 (some .boolean) :: ((wsX4_keepsLit_r1 ++ wsX4_keepsLit_r2) ++ wsX00 ++ wsX10)
def wsX4_planWaving_r1 : List Cond := [Cond.fieldLink RX4 26 "DarkOffice" "now" "LDarkOffice$Evening;", Cond.fieldLink RX4 125 "DarkOffice$Evening" "people" "I", Cond.fieldLink RX4 19 "DarkOffice" "lamps" "LDarkOffice$Lamps;", Cond.fieldLink RX4 40 "DarkOffice" "plan" "[I", Cond.fieldLink RX4 90 "DarkOffice$Evening" "lit" "I", Cond.methodLink RX4 239 yX4_keepsLit, Cond.static yX4_keepsLit, Cond.initialized RX4, Cond.code yX4_keepsLit cX4_keepsLit 11 (some .boolean), Cond.methodLink RX4 197 yJ6_bitCount_0f7a4, Cond.static yJ6_bitCount_0f7a4, Cond.initialized RJ6, Cond.code yJ6_bitCount_0f7a4 cJ6_bitCount_0f7a4 1 (some .int), Cond.constant RJ6 265 (1431655765), Cond.constant RJ6 266 (858993459), Cond.constant RJ6 267 (252645135), Cond.methodLink RX4 131 yX0_stirred, Cond.instanceMethod yX0_stirred, Cond.selects RX0 yX0_stirred yX0_stirred, Cond.initialized RX0, Cond.code yX0_stirred cX0_stirred 4 (some .int), Cond.fieldLink RX0 34 "DarkOffice$Evening" "people" "I", Cond.fieldLink RX0 9 "DarkOffice$Evening" "sections" "[I", Cond.methodLink RX4 134 yX1_after]
def wsX4_planWaving_r2 : List Cond := [Cond.instanceMethod yX1_after, Cond.selects RX1 yX1_after yX1_after, Cond.initialized RX1, Cond.code yX1_after cX1_after 6 (some .int), Cond.fieldLink RX1 33 "DarkOffice$Lamps" "size" "I", Cond.fieldLink RX1 18 "DarkOffice$Lamps" "sees" "[I", Cond.fieldLink RX1 15 "DarkOffice$Lamps" "holds" "[I", Cond.methodLink RX1 57 Lib.Math.max.name, Cond.static Lib.Math.max.name, Cond.initialized "java/lang/Math", Cond.code Lib.Math.max.name Lib.Math.max.code 2 (some .int), Cond.methodLink RX1 54 yX1_left, Cond.static yX1_left, Cond.code yX1_left cX1_left 2 (some .int), Cond.methodLink RX4 140 yX1_litOnes, Cond.instanceMethod yX1_litOnes, Cond.selects RX1 yX1_litOnes yX1_litOnes, Cond.code yX1_litOnes cX1_litOnes 4 (some .int), Cond.methodLink RX4 147 yX0_inDark, Cond.instanceMethod yX0_inDark, Cond.selects RX0 yX0_inDark yX0_inDark, Cond.code yX0_inDark cX0_inDark 4 (some .int)]
def wsX4_planWaving : List Cond := .code yX4_planWaving cX4_planWaving 4 (some .int) :: ((wsX4_planWaving_r1 ++ wsX4_planWaving_r2) ++ wsX40 ++ wsX00 ++ wsX10)
def wsX4_ofMinute : List Cond := .code yX4_ofMinute cX4_ofMinute 4 (some .int) :: ([])
def wsX4_least_r1 : List Cond := [Cond.fieldLink RX4 40 "DarkOffice" "plan" "[I", Cond.methodLink RX4 150 yX4_asksMinute, Cond.static yX4_asksMinute, Cond.initialized RX4, Cond.code yX4_asksMinute cX4_asksMinute 2 (some .boolean), Cond.methodLink RX4 128 yX4_hasOffice, Cond.instanceMethod yX4_hasOffice, Cond.selects RX4 yX4_hasOffice yX4_hasOffice, Cond.code yX4_hasOffice cX4_hasOffice 1 (some .boolean), Cond.fieldLink RX4 19 "DarkOffice" "lamps" "LDarkOffice$Lamps;", Cond.fieldLink RX4 77 "DarkOffice$Lamps" "size" "I", Cond.methodLink RX4 153 yX4_planWaving, Cond.instanceMethod yX4_planWaving, Cond.selects RX4 yX4_planWaving yX4_planWaving, Cond.code yX4_planWaving cX4_planWaving 4 (some .int), Cond.fieldLink RX4 26 "DarkOffice" "now" "LDarkOffice$Evening;", Cond.fieldLink RX4 125 "DarkOffice$Evening" "people" "I", Cond.fieldLink RX4 90 "DarkOffice$Evening" "lit" "I", Cond.methodLink RX4 239 yX4_keepsLit, Cond.static yX4_keepsLit, Cond.code yX4_keepsLit cX4_keepsLit 11 (some .boolean), Cond.methodLink RX4 197 yJ6_bitCount_0f7a4, Cond.static yJ6_bitCount_0f7a4, Cond.initialized RJ6]
def wsX4_least_r2 : List Cond := [Cond.code yJ6_bitCount_0f7a4 cJ6_bitCount_0f7a4 1 (some .int), Cond.constant RJ6 265 (1431655765), Cond.constant RJ6 266 (858993459), Cond.constant RJ6 267 (252645135), Cond.methodLink RX4 131 yX0_stirred, Cond.instanceMethod yX0_stirred, Cond.selects RX0 yX0_stirred yX0_stirred, Cond.initialized RX0, Cond.code yX0_stirred cX0_stirred 4 (some .int), Cond.fieldLink RX0 34 "DarkOffice$Evening" "people" "I", Cond.fieldLink RX0 9 "DarkOffice$Evening" "sections" "[I", Cond.methodLink RX4 134 yX1_after, Cond.instanceMethod yX1_after, Cond.selects RX1 yX1_after yX1_after, Cond.initialized RX1, Cond.code yX1_after cX1_after 6 (some .int), Cond.fieldLink RX1 33 "DarkOffice$Lamps" "size" "I", Cond.fieldLink RX1 18 "DarkOffice$Lamps" "sees" "[I", Cond.fieldLink RX1 15 "DarkOffice$Lamps" "holds" "[I", Cond.methodLink RX1 57 Lib.Math.max.name, Cond.static Lib.Math.max.name, Cond.initialized "java/lang/Math", Cond.code Lib.Math.max.name Lib.Math.max.code 2 (some .int), Cond.methodLink RX1 54 yX1_left]
def wsX4_least_r3 : List Cond := [Cond.static yX1_left, Cond.code yX1_left cX1_left 2 (some .int), Cond.methodLink RX4 140 yX1_litOnes, Cond.instanceMethod yX1_litOnes, Cond.selects RX1 yX1_litOnes yX1_litOnes, Cond.code yX1_litOnes cX1_litOnes 4 (some .int), Cond.methodLink RX4 147 yX0_inDark, Cond.instanceMethod yX0_inDark, Cond.selects RX0 yX0_inDark yX0_inDark, Cond.code yX0_inDark cX0_inDark 4 (some .int), Cond.methodLink RX4 156 yX4_ofMinute, Cond.static yX4_ofMinute, Cond.code yX4_ofMinute cX4_ofMinute 4 (some .int)]
def wsX4_least : List Cond := .code yX4_least cX4_least 4 (some .int) :: ((wsX4_least_r1 ++ (wsX4_least_r2 ++ wsX4_least_r3)) ++ wsX40 ++ wsX10 ++ wsX00)
def wsX4_lightsAll_r1 : List Cond := [Cond.fieldLink RX4 77 "DarkOffice$Lamps" "size" "I", Cond.methodLink RX4 134 yX1_after, Cond.instanceMethod yX1_after, Cond.selects RX1 yX1_after yX1_after, Cond.initialized RX1, Cond.code yX1_after cX1_after 6 (some .int), Cond.fieldLink RX1 33 "DarkOffice$Lamps" "size" "I", Cond.fieldLink RX1 18 "DarkOffice$Lamps" "sees" "[I", Cond.fieldLink RX1 15 "DarkOffice$Lamps" "holds" "[I", Cond.methodLink RX1 57 Lib.Math.max.name, Cond.static Lib.Math.max.name, Cond.initialized "java/lang/Math", Cond.code Lib.Math.max.name Lib.Math.max.code 2 (some .int), Cond.methodLink RX1 54 yX1_left, Cond.static yX1_left, Cond.code yX1_left cX1_left 2 (some .int), Cond.methodLink RX4 140 yX1_litOnes, Cond.instanceMethod yX1_litOnes, Cond.selects RX1 yX1_litOnes yX1_litOnes, Cond.code yX1_litOnes cX1_litOnes 4 (some .int), Cond.methodLink RX4 247 yX1_allOnes, Cond.instanceMethod yX1_allOnes, Cond.selects RX1 yX1_allOnes yX1_allOnes, Cond.code yX1_allOnes cX1_allOnes 1 (some .int)]
def wsX4_lightsAll_r2 : List Cond := [Cond.methodLink RX4 243 yX4_lightsAll, Cond.static yX4_lightsAll, Cond.initialized RX4]
def wsX4_lightsAll : List Cond := .code yX4_lightsAll cX4_lightsAll 8 (some .boolean) :: ((wsX4_lightsAll_r1 ++ wsX4_lightsAll_r2) ++ wsX10)
def wsX4_planRound_r1 : List Cond := [Cond.fieldLink RX4 19 "DarkOffice" "lamps" "LDarkOffice$Lamps;", Cond.fieldLink RX4 44 "DarkOffice" "steps" "[I", Cond.fieldLink RX4 26 "DarkOffice" "now" "LDarkOffice$Evening;", Cond.fieldLink RX4 90 "DarkOffice$Evening" "lit" "I", Cond.methodLink RX4 243 yX4_lightsAll, Cond.static yX4_lightsAll, Cond.initialized RX4, Cond.code yX4_lightsAll cX4_lightsAll 8 (some .boolean), Cond.fieldLink RX4 77 "DarkOffice$Lamps" "size" "I", Cond.methodLink RX4 134 yX1_after, Cond.instanceMethod yX1_after, Cond.selects RX1 yX1_after yX1_after, Cond.initialized RX1, Cond.code yX1_after cX1_after 6 (some .int), Cond.fieldLink RX1 33 "DarkOffice$Lamps" "size" "I", Cond.fieldLink RX1 18 "DarkOffice$Lamps" "sees" "[I", Cond.fieldLink RX1 15 "DarkOffice$Lamps" "holds" "[I", Cond.methodLink RX1 57 Lib.Math.max.name, Cond.static Lib.Math.max.name, Cond.initialized "java/lang/Math", Cond.code Lib.Math.max.name Lib.Math.max.code 2 (some .int), Cond.methodLink RX1 54 yX1_left, Cond.static yX1_left, Cond.code yX1_left cX1_left 2 (some .int)]
def wsX4_planRound_r2 : List Cond := [Cond.methodLink RX4 140 yX1_litOnes, Cond.instanceMethod yX1_litOnes, Cond.selects RX1 yX1_litOnes yX1_litOnes, Cond.code yX1_litOnes cX1_litOnes 4 (some .int), Cond.methodLink RX4 247 yX1_allOnes, Cond.instanceMethod yX1_allOnes, Cond.selects RX1 yX1_allOnes yX1_allOnes, Cond.code yX1_allOnes cX1_allOnes 1 (some .int)]
def wsX4_planRound : List Cond := .code yX4_planRound cX4_planRound 3 (some .int) :: ((wsX4_planRound_r1 ++ wsX4_planRound_r2) ++ wsX40 ++ wsX00 ++ wsX10)
def wsX4_round_r1 : List Cond := [Cond.fieldLink RX4 160 "DarkOffice" "roundsDone" "I", Cond.fieldLink RX4 44 "DarkOffice" "steps" "[I", Cond.methodLink RX4 80 yX4_isLamp, Cond.instanceMethod yX4_isLamp, Cond.selects RX4 yX4_isLamp yX4_isLamp, Cond.initialized RX4, Cond.code yX4_isLamp cX4_isLamp 2 (some .boolean), Cond.fieldLink RX4 19 "DarkOffice" "lamps" "LDarkOffice$Lamps;", Cond.fieldLink RX4 77 "DarkOffice$Lamps" "size" "I", Cond.methodLink RX4 150 yX4_asksMinute, Cond.static yX4_asksMinute, Cond.code yX4_asksMinute cX4_asksMinute 2 (some .boolean), Cond.methodLink RX4 163 yX4_planRound, Cond.instanceMethod yX4_planRound, Cond.selects RX4 yX4_planRound yX4_planRound, Cond.code yX4_planRound cX4_planRound 3 (some .int), Cond.fieldLink RX4 26 "DarkOffice" "now" "LDarkOffice$Evening;", Cond.fieldLink RX4 90 "DarkOffice$Evening" "lit" "I", Cond.methodLink RX4 243 yX4_lightsAll, Cond.static yX4_lightsAll, Cond.code yX4_lightsAll cX4_lightsAll 8 (some .boolean), Cond.methodLink RX4 134 yX1_after, Cond.instanceMethod yX1_after, Cond.selects RX1 yX1_after yX1_after]
def wsX4_round_r2 : List Cond := [Cond.initialized RX1, Cond.code yX1_after cX1_after 6 (some .int), Cond.fieldLink RX1 33 "DarkOffice$Lamps" "size" "I", Cond.fieldLink RX1 18 "DarkOffice$Lamps" "sees" "[I", Cond.fieldLink RX1 15 "DarkOffice$Lamps" "holds" "[I", Cond.methodLink RX1 57 Lib.Math.max.name, Cond.static Lib.Math.max.name, Cond.initialized "java/lang/Math", Cond.code Lib.Math.max.name Lib.Math.max.code 2 (some .int), Cond.methodLink RX1 54 yX1_left, Cond.static yX1_left, Cond.code yX1_left cX1_left 2 (some .int), Cond.methodLink RX4 140 yX1_litOnes, Cond.instanceMethod yX1_litOnes, Cond.selects RX1 yX1_litOnes yX1_litOnes, Cond.code yX1_litOnes cX1_litOnes 4 (some .int), Cond.methodLink RX4 247 yX1_allOnes, Cond.instanceMethod yX1_allOnes, Cond.selects RX1 yX1_allOnes yX1_allOnes, Cond.code yX1_allOnes cX1_allOnes 1 (some .int), Cond.methodLink RX4 156 yX4_ofMinute, Cond.static yX4_ofMinute, Cond.code yX4_ofMinute cX4_ofMinute 4 (some .int)]
def wsX4_round : List Cond := .code yX4_round cX4_round 4 (some .int) :: ((wsX4_round_r1 ++ wsX4_round_r2) ++ wsX40 ++ wsX10 ++ wsX00)
def wsX4_together : List Cond := .code yX4_together cX4_together 3 (some .int) :: ([.fieldLink RX4 19 "DarkOffice" "lamps" "LDarkOffice$Lamps;", .methodLink RX4 128 yX4_hasOffice, .instanceMethod yX4_hasOffice, .selects RX4 yX4_hasOffice yX4_hasOffice, .initialized RX4, .code yX4_hasOffice cX4_hasOffice 1 (some .boolean), .fieldLink RX4 77 "DarkOffice$Lamps" "size" "I", .methodLink RX4 166 yX1_mostSeen, .instanceMethod yX1_mostSeen, .selects RX1 yX1_mostSeen yX1_mostSeen, .initialized RX1, .code yX1_mostSeen cX1_mostSeen 3 (some .int), .fieldLink RX1 33 "DarkOffice$Lamps" "size" "I", .methodLink RX1 60 yX1_seeing, .instanceMethod yX1_seeing, .selects RX1 yX1_seeing yX1_seeing, .code yX1_seeing cX1_seeing 4 (some .int), .fieldLink RX1 18 "DarkOffice$Lamps" "sees" "[I", .methodLink RX4 103 yX1_seeing] ++ wsX40 ++ wsX10)
def wsX4_book : List Cond := .code yX4_book cX4_book 4 (some .int) :: ([.fieldLink RX4 26 "DarkOffice" "now" "LDarkOffice$Evening;", .methodLink RX4 80 yX4_isLamp, .instanceMethod yX4_isLamp, .selects RX4 yX4_isLamp yX4_isLamp, .initialized RX4, .code yX4_isLamp cX4_isLamp 2 (some .boolean), .fieldLink RX4 19 "DarkOffice" "lamps" "LDarkOffice$Lamps;", .fieldLink RX4 77 "DarkOffice$Lamps" "size" "I", .methodLink RX4 169 yX0_tell, .instanceMethod yX0_tell, .selects RX0 yX0_tell yX0_tell, .initialized RX0, .code yX0_tell cX0_tell 4 (some .int), .fieldLink RX0 40 "DarkOffice$Evening" "told" "I", .fieldLink RX0 21 "DarkOffice$Evening" "toldLit" "[I", .fieldLink RX0 24 "DarkOffice$Evening" "toldDark" "[I"] ++ wsX40 ++ wsX10 ++ wsX00)
def wsX4_forget : List Cond := .code yX4_forget cX4_forget 2 (some .int) :: ([.fieldLink RX4 26 "DarkOffice" "now" "LDarkOffice$Evening;", .fieldLink RX4 173 "DarkOffice$Evening" "told" "I", .methodLink RX4 176 yX0_emptyBook, .instanceMethod yX0_emptyBook, .selects RX0 yX0_emptyBook yX0_emptyBook, .initialized RX0, .code yX0_emptyBook cX0_emptyBook 2 none, .fieldLink RX0 40 "DarkOffice$Evening" "told" "I", .fieldLink RX0 21 "DarkOffice$Evening" "toldLit" "[I", .fieldLink RX0 24 "DarkOffice$Evening" "toldDark" "[I"] ++ wsX40 ++ wsX00)
def wsX4_waved_r1 : List Cond := [Cond.fieldLink RX4 36 "DarkOffice" "ways" "LDarkOffice$Ways;", Cond.fieldLink RX4 19 "DarkOffice" "lamps" "LDarkOffice$Lamps;", Cond.fieldLink RX4 26 "DarkOffice" "now" "LDarkOffice$Evening;", Cond.fieldLink RX4 116 "DarkOffice$Evening" "sections" "[I", Cond.methodLink RX4 113 yX4_isPerson, Cond.instanceMethod yX4_isPerson, Cond.selects RX4 yX4_isPerson yX4_isPerson, Cond.initialized RX4, Cond.code yX4_isPerson cX4_isPerson 2 (some .boolean), Cond.fieldLink RX4 125 "DarkOffice$Evening" "people" "I", Cond.methodLink RX4 179 yX3_follow, Cond.instanceMethod yX3_follow, Cond.selects RX3 yX3_follow yX3_follow, Cond.initialized RX3, Cond.code yX3_follow cX3_follow 7 none, Cond.fieldLink RX3 15 "DarkOffice$Ways" "size" "I", Cond.fieldLink RX3 9 "DarkOffice$Ways" "ends" "[I", Cond.fieldLink RX3 19 "DarkOffice$Evening" "lit" "I", Cond.methodLink RX3 24 yX1_litOnes, Cond.instanceMethod yX1_litOnes, Cond.selects RX1 yX1_litOnes yX1_litOnes, Cond.initialized RX1, Cond.code yX1_litOnes cX1_litOnes 4 (some .int), Cond.fieldLink RX1 33 "DarkOffice$Lamps" "size" "I"]
def wsX4_waved_r2 : List Cond := [Cond.methodLink RX1 54 yX1_left, Cond.static yX1_left, Cond.code yX1_left cX1_left 2 (some .int), Cond.methodLink RX3 30 yX0_bookAgrees, Cond.instanceMethod yX0_bookAgrees, Cond.selects RX0 yX0_bookAgrees yX0_bookAgrees, Cond.initialized RX0, Cond.code yX0_bookAgrees cX0_bookAgrees 3 (some .boolean), Cond.fieldLink RX0 21 "DarkOffice$Evening" "toldLit" "[I", Cond.fieldLink RX0 24 "DarkOffice$Evening" "toldDark" "[I", Cond.methodLink RX3 34 yX3_further, Cond.static yX3_further, Cond.code yX3_further cX3_further 6 (some .int), Cond.methodLink RX3 38 yX1_after, Cond.instanceMethod yX1_after, Cond.selects RX1 yX1_after yX1_after, Cond.code yX1_after cX1_after 6 (some .int), Cond.fieldLink RX1 18 "DarkOffice$Lamps" "sees" "[I", Cond.fieldLink RX1 15 "DarkOffice$Lamps" "holds" "[I", Cond.methodLink RX1 57 Lib.Math.max.name, Cond.static Lib.Math.max.name, Cond.initialized "java/lang/Math", Cond.code Lib.Math.max.name Lib.Math.max.code 2 (some .int), Cond.methodLink RX4 183 yX3_left]
def wsX4_waved_r3 : List Cond := [Cond.instanceMethod yX3_left, Cond.selects RX3 yX3_left yX3_left, Cond.code yX3_left cX3_left 3 (some .int), Cond.methodLink RX4 185 yX3_first, Cond.instanceMethod yX3_first, Cond.selects RX3 yX3_first yX3_first, Cond.code yX3_first cX3_first 2 (some .int)]
def wsX4_waved : List Cond := .code yX4_waved cX4_waved 4 (some .int) :: ((wsX4_waved_r1 ++ (wsX4_waved_r2 ++ wsX4_waved_r3)) ++ wsX40 ++ wsX00 ++ wsX30 ++ wsX10)
def wsX4_look_r1 : List Cond := [Cond.fieldLink RX4 36 "DarkOffice" "ways" "LDarkOffice$Ways;", Cond.fieldLink RX4 19 "DarkOffice" "lamps" "LDarkOffice$Lamps;", Cond.fieldLink RX4 26 "DarkOffice" "now" "LDarkOffice$Evening;", Cond.fieldLink RX4 116 "DarkOffice$Evening" "sections" "[I", Cond.fieldLink RX4 77 "DarkOffice$Lamps" "size" "I", Cond.methodLink RX4 113 yX4_isPerson, Cond.instanceMethod yX4_isPerson, Cond.selects RX4 yX4_isPerson yX4_isPerson, Cond.initialized RX4, Cond.code yX4_isPerson cX4_isPerson 2 (some .boolean), Cond.fieldLink RX4 125 "DarkOffice$Evening" "people" "I", Cond.methodLink RX4 179 yX3_follow, Cond.instanceMethod yX3_follow, Cond.selects RX3 yX3_follow yX3_follow, Cond.initialized RX3, Cond.code yX3_follow cX3_follow 7 none, Cond.fieldLink RX3 15 "DarkOffice$Ways" "size" "I", Cond.fieldLink RX3 9 "DarkOffice$Ways" "ends" "[I", Cond.fieldLink RX3 19 "DarkOffice$Evening" "lit" "I", Cond.methodLink RX3 24 yX1_litOnes, Cond.instanceMethod yX1_litOnes, Cond.selects RX1 yX1_litOnes yX1_litOnes, Cond.initialized RX1, Cond.code yX1_litOnes cX1_litOnes 4 (some .int)]
def wsX4_look_r2 : List Cond := [Cond.fieldLink RX1 33 "DarkOffice$Lamps" "size" "I", Cond.methodLink RX1 54 yX1_left, Cond.static yX1_left, Cond.code yX1_left cX1_left 2 (some .int), Cond.methodLink RX3 30 yX0_bookAgrees, Cond.instanceMethod yX0_bookAgrees, Cond.selects RX0 yX0_bookAgrees yX0_bookAgrees, Cond.initialized RX0, Cond.code yX0_bookAgrees cX0_bookAgrees 3 (some .boolean), Cond.fieldLink RX0 21 "DarkOffice$Evening" "toldLit" "[I", Cond.fieldLink RX0 24 "DarkOffice$Evening" "toldDark" "[I", Cond.methodLink RX3 34 yX3_further, Cond.static yX3_further, Cond.code yX3_further cX3_further 6 (some .int), Cond.methodLink RX3 38 yX1_after, Cond.instanceMethod yX1_after, Cond.selects RX1 yX1_after yX1_after, Cond.code yX1_after cX1_after 6 (some .int), Cond.fieldLink RX1 18 "DarkOffice$Lamps" "sees" "[I", Cond.fieldLink RX1 15 "DarkOffice$Lamps" "holds" "[I", Cond.methodLink RX1 57 Lib.Math.max.name, Cond.static Lib.Math.max.name, Cond.initialized "java/lang/Math", Cond.code Lib.Math.max.name Lib.Math.max.code 2 (some .int)]
def wsX4_look_r3 : List Cond := [Cond.methodLink RX4 188 yX3_tellingLamp, Cond.instanceMethod yX3_tellingLamp, Cond.selects RX3 yX3_tellingLamp yX3_tellingLamp, Cond.code yX3_tellingLamp cX3_tellingLamp 8 (some .int), Cond.methodLink RX3 49 Lib.Math.max.name, Cond.methodLink RX3 42 yX3_left, Cond.instanceMethod yX3_left, Cond.selects RX3 yX3_left yX3_left, Cond.code yX3_left cX3_left 3 (some .int), Cond.methodLink RX3 46 yX3_endLit, Cond.instanceMethod yX3_endLit, Cond.selects RX3 yX3_endLit yX3_endLit, Cond.code yX3_endLit cX3_endLit 4 (some .int), Cond.methodLink RX3 54 yX1_left]
def wsX4_look : List Cond := .code yX4_look cX4_look 3 (some .int) :: ((wsX4_look_r1 ++ (wsX4_look_r2 ++ wsX4_look_r3)) ++ wsX40 ++ wsX00 ++ wsX10 ++ wsX30)
def wsX4_nextSeed : List Cond := .code yX4_nextSeed cX4_nextSeed 1 (some .int) :: ([.constant RX4 236 (1103515245), .constant RX4 237 (2147483647)])
def wsX4_draw : List Cond := .code yX4_draw cX4_draw 1 (some .int) :: ([.constant RX4 238 (65536)])
def wsX4_nights_r1 : List Cond := [Cond.fieldLink RX4 26 "DarkOffice" "now" "LDarkOffice$Evening;", Cond.fieldLink RX4 90 "DarkOffice$Evening" "lit" "I", Cond.fieldLink RX4 125 "DarkOffice$Evening" "people" "I", Cond.fieldLink RX4 19 "DarkOffice" "lamps" "LDarkOffice$Lamps;", Cond.methodLink RX4 128 yX4_hasOffice, Cond.instanceMethod yX4_hasOffice, Cond.selects RX4 yX4_hasOffice yX4_hasOffice, Cond.initialized RX4, Cond.code yX4_hasOffice cX4_hasOffice 1 (some .boolean), Cond.fieldLink RX4 77 "DarkOffice$Lamps" "size" "I", Cond.methodLink RX4 191 yX4_nextSeed, Cond.static yX4_nextSeed, Cond.code yX4_nextSeed cX4_nextSeed 1 (some .int), Cond.constant RX4 236 (1103515245), Cond.constant RX4 237 (2147483647), Cond.methodLink RX4 194 yX4_draw, Cond.static yX4_draw, Cond.code yX4_draw cX4_draw 1 (some .int), Cond.constant RX4 238 (65536), Cond.methodLink RX4 131 yX0_stirred, Cond.instanceMethod yX0_stirred, Cond.selects RX0 yX0_stirred yX0_stirred, Cond.initialized RX0, Cond.code yX0_stirred cX0_stirred 4 (some .int)]
def wsX4_nights_r2 : List Cond := [Cond.fieldLink RX0 34 "DarkOffice$Evening" "people" "I", Cond.fieldLink RX0 9 "DarkOffice$Evening" "sections" "[I", Cond.methodLink RX4 134 yX1_after, Cond.instanceMethod yX1_after, Cond.selects RX1 yX1_after yX1_after, Cond.initialized RX1, Cond.code yX1_after cX1_after 6 (some .int), Cond.fieldLink RX1 33 "DarkOffice$Lamps" "size" "I", Cond.fieldLink RX1 18 "DarkOffice$Lamps" "sees" "[I", Cond.fieldLink RX1 15 "DarkOffice$Lamps" "holds" "[I", Cond.methodLink RX1 57 Lib.Math.max.name, Cond.static Lib.Math.max.name, Cond.initialized "java/lang/Math", Cond.code Lib.Math.max.name Lib.Math.max.code 2 (some .int), Cond.methodLink RX1 54 yX1_left, Cond.static yX1_left, Cond.code yX1_left cX1_left 2 (some .int), Cond.methodLink RX4 140 yX1_litOnes, Cond.instanceMethod yX1_litOnes, Cond.selects RX1 yX1_litOnes yX1_litOnes, Cond.code yX1_litOnes cX1_litOnes 4 (some .int), Cond.methodLink RX4 147 yX0_inDark, Cond.instanceMethod yX0_inDark, Cond.selects RX0 yX0_inDark yX0_inDark]
def wsX4_nights_r3 : List Cond := [Cond.code yX0_inDark cX0_inDark 4 (some .int), Cond.methodLink RX4 197 yJ6_bitCount_0f7a4, Cond.static yJ6_bitCount_0f7a4, Cond.initialized RJ6, Cond.code yJ6_bitCount_0f7a4 cJ6_bitCount_0f7a4 1 (some .int), Cond.constant RJ6 265 (1431655765), Cond.constant RJ6 266 (858993459), Cond.constant RJ6 267 (252645135)]
def wsX4_nights : List Cond := .code yX4_nights cX4_nights 10 (some .int) :: ((wsX4_nights_r1 ++ (wsX4_nights_r2 ++ wsX4_nights_r3)) ++ wsX40 ++ wsX00 ++ wsX10)
def wsX4_image_r1 : List Cond := [Cond.fieldLink RX4 30 "DarkOffice" "kept" "LDarkOffice$Evening;", Cond.fieldLink RX4 26 "DarkOffice" "now" "LDarkOffice$Evening;", Cond.fieldLink RX4 70 "DarkOffice" "imageKept" "Z", Cond.fieldLink RX4 137 "DarkOffice$Evening" "minutes" "I", Cond.methodLink RX4 128 yX4_hasOffice, Cond.instanceMethod yX4_hasOffice, Cond.selects RX4 yX4_hasOffice yX4_hasOffice, Cond.initialized RX4, Cond.code yX4_hasOffice cX4_hasOffice 1 (some .boolean), Cond.fieldLink RX4 19 "DarkOffice" "lamps" "LDarkOffice$Lamps;", Cond.fieldLink RX4 77 "DarkOffice$Lamps" "size" "I", Cond.methodLink RX4 202 yX0_copy, Cond.instanceMethod yX0_copy, Cond.selects RX0 yX0_copy yX0_copy, Cond.initialized RX0, Cond.code yX0_copy cX0_copy 3 none, Cond.fieldLink RX0 27 "DarkOffice$Evening" "lit" "I", Cond.fieldLink RX0 31 "DarkOffice$Evening" "minutes" "I", Cond.fieldLink RX0 34 "DarkOffice$Evening" "people" "I", Cond.fieldLink RX0 40 "DarkOffice$Evening" "told" "I", Cond.fieldLink RX0 9 "DarkOffice$Evening" "sections" "[I", Cond.fieldLink RX0 15 "DarkOffice$Evening" "waves" "[I", Cond.fieldLink RX0 18 "DarkOffice$Evening" "darks" "[I", Cond.fieldLink RX0 21 "DarkOffice$Evening" "toldLit" "[I"]
def wsX4_image_r2 : List Cond := [Cond.fieldLink RX0 24 "DarkOffice$Evening" "toldDark" "[I"]
def wsX4_image : List Cond := .code yX4_image cX4_image 1 (some .int) :: ((wsX4_image_r1 ++ wsX4_image_r2) ++ wsX40 ++ wsX00 ++ wsX10)
def wsX4_restore : List Cond := .code yX4_restore cX4_restore 1 (some .int) :: ([.fieldLink RX4 70 "DarkOffice" "imageKept" "Z", .fieldLink RX4 26 "DarkOffice" "now" "LDarkOffice$Evening;", .fieldLink RX4 30 "DarkOffice" "kept" "LDarkOffice$Evening;", .fieldLink RX4 137 "DarkOffice$Evening" "minutes" "I", .methodLink RX4 202 yX0_copy, .instanceMethod yX0_copy, .selects RX0 yX0_copy yX0_copy, .initialized RX0, .code yX0_copy cX0_copy 3 none, .fieldLink RX0 27 "DarkOffice$Evening" "lit" "I", .fieldLink RX0 31 "DarkOffice$Evening" "minutes" "I", .fieldLink RX0 34 "DarkOffice$Evening" "people" "I", .fieldLink RX0 40 "DarkOffice$Evening" "told" "I", .fieldLink RX0 9 "DarkOffice$Evening" "sections" "[I", .fieldLink RX0 15 "DarkOffice$Evening" "waves" "[I", .fieldLink RX0 18 "DarkOffice$Evening" "darks" "[I", .fieldLink RX0 21 "DarkOffice$Evening" "toldLit" "[I", .fieldLink RX0 24 "DarkOffice$Evening" "toldDark" "[I"] ++ wsX40 ++ wsX00)
def wsX4_count_r1 : List Cond := [Cond.fieldLink RX4 19 "DarkOffice" "lamps" "LDarkOffice$Lamps;", Cond.fieldLink RX4 77 "DarkOffice$Lamps" "size" "I", Cond.fieldLink RX4 26 "DarkOffice" "now" "LDarkOffice$Evening;", Cond.fieldLink RX4 90 "DarkOffice$Evening" "lit" "I", Cond.fieldLink RX4 125 "DarkOffice$Evening" "people" "I", Cond.fieldLink RX4 137 "DarkOffice$Evening" "minutes" "I", Cond.fieldLink RX4 119 "DarkOffice$Evening" "waves" "[I", Cond.fieldLink RX4 122 "DarkOffice$Evening" "darks" "[I", Cond.fieldLink RX4 173 "DarkOffice$Evening" "told" "I", Cond.fieldLink RX4 10 "DarkOffice" "page" "LDarkOffice$Page;", Cond.fieldLink RX4 51 "DarkOffice$Page" "length" "I", Cond.fieldLink RX4 74 "DarkOffice" "officesRead" "I", Cond.fieldLink RX4 160 "DarkOffice" "roundsDone" "I", Cond.methodLink RX4 140 yX1_litOnes, Cond.instanceMethod yX1_litOnes, Cond.selects RX1 yX1_litOnes yX1_litOnes, Cond.initialized RX1, Cond.code yX1_litOnes cX1_litOnes 4 (some .int), Cond.fieldLink RX1 33 "DarkOffice$Lamps" "size" "I", Cond.methodLink RX1 54 yX1_left, Cond.static yX1_left, Cond.code yX1_left cX1_left 2 (some .int), Cond.methodLink RX4 197 yJ6_bitCount_0f7a4, Cond.static yJ6_bitCount_0f7a4]
def wsX4_count_r2 : List Cond := [Cond.initialized RJ6, Cond.code yJ6_bitCount_0f7a4 cJ6_bitCount_0f7a4 1 (some .int), Cond.constant RJ6 265 (1431655765), Cond.constant RJ6 266 (858993459), Cond.constant RJ6 267 (252645135), Cond.methodLink RX4 147 yX0_inDark, Cond.instanceMethod yX0_inDark, Cond.selects RX0 yX0_inDark yX0_inDark, Cond.initialized RX0, Cond.code yX0_inDark cX0_inDark 4 (some .int), Cond.fieldLink RX0 34 "DarkOffice$Evening" "people" "I", Cond.fieldLink RX0 9 "DarkOffice$Evening" "sections" "[I", Cond.methodLink RX4 206 yX0_ofAll, Cond.instanceMethod yX0_ofAll, Cond.selects RX0 yX0_ofAll yX0_ofAll, Cond.code yX0_ofAll cX0_ofAll 4 (some .int)]
def wsX4_count : List Cond := .code yX4_count cX4_count 2 (some .int) :: ((wsX4_count_r1 ++ wsX4_count_r2) ++ wsX40 ++ wsX10 ++ wsX00 ++ wsX20)
def wsX4_digestPerson_r1 : List Cond := [Cond.constantLong RX4 212 (31), Cond.fieldLink RX4 36 "DarkOffice" "ways" "LDarkOffice$Ways;", Cond.fieldLink RX4 19 "DarkOffice" "lamps" "LDarkOffice$Lamps;", Cond.fieldLink RX4 26 "DarkOffice" "now" "LDarkOffice$Evening;", Cond.fieldLink RX4 116 "DarkOffice$Evening" "sections" "[I", Cond.methodLink RX4 230 yX4_about, Cond.instanceMethod yX4_about, Cond.selects RX4 yX4_about yX4_about, Cond.initialized RX4, Cond.code yX4_about cX4_about 3 (some .int), Cond.fieldLink RX4 90 "DarkOffice$Evening" "lit" "I", Cond.fieldLink RX4 119 "DarkOffice$Evening" "waves" "[I", Cond.fieldLink RX4 122 "DarkOffice$Evening" "darks" "[I", Cond.methodLink RX4 113 yX4_isPerson, Cond.instanceMethod yX4_isPerson, Cond.selects RX4 yX4_isPerson yX4_isPerson, Cond.code yX4_isPerson cX4_isPerson 2 (some .boolean), Cond.fieldLink RX4 125 "DarkOffice$Evening" "people" "I", Cond.methodLink RX4 93 yX1_left, Cond.static yX1_left, Cond.initialized RX1, Cond.code yX1_left cX1_left 2 (some .int), Cond.methodLink RX4 179 yX3_follow, Cond.instanceMethod yX3_follow]
def wsX4_digestPerson_r2 : List Cond := [Cond.selects RX3 yX3_follow yX3_follow, Cond.initialized RX3, Cond.code yX3_follow cX3_follow 7 none, Cond.fieldLink RX3 15 "DarkOffice$Ways" "size" "I", Cond.fieldLink RX3 9 "DarkOffice$Ways" "ends" "[I", Cond.fieldLink RX3 19 "DarkOffice$Evening" "lit" "I", Cond.methodLink RX3 24 yX1_litOnes, Cond.instanceMethod yX1_litOnes, Cond.selects RX1 yX1_litOnes yX1_litOnes, Cond.code yX1_litOnes cX1_litOnes 4 (some .int), Cond.fieldLink RX1 33 "DarkOffice$Lamps" "size" "I", Cond.methodLink RX1 54 yX1_left, Cond.methodLink RX3 30 yX0_bookAgrees, Cond.instanceMethod yX0_bookAgrees, Cond.selects RX0 yX0_bookAgrees yX0_bookAgrees, Cond.initialized RX0, Cond.code yX0_bookAgrees cX0_bookAgrees 3 (some .boolean), Cond.fieldLink RX0 21 "DarkOffice$Evening" "toldLit" "[I", Cond.fieldLink RX0 24 "DarkOffice$Evening" "toldDark" "[I", Cond.methodLink RX3 34 yX3_further, Cond.static yX3_further, Cond.code yX3_further cX3_further 6 (some .int), Cond.methodLink RX3 38 yX1_after, Cond.instanceMethod yX1_after]
def wsX4_digestPerson_r3 : List Cond := [Cond.selects RX1 yX1_after yX1_after, Cond.code yX1_after cX1_after 6 (some .int), Cond.fieldLink RX1 18 "DarkOffice$Lamps" "sees" "[I", Cond.fieldLink RX1 15 "DarkOffice$Lamps" "holds" "[I", Cond.methodLink RX1 57 Lib.Math.max.name, Cond.static Lib.Math.max.name, Cond.initialized "java/lang/Math", Cond.code Lib.Math.max.name Lib.Math.max.code 2 (some .int), Cond.methodLink RX4 183 yX3_left, Cond.instanceMethod yX3_left, Cond.selects RX3 yX3_left yX3_left, Cond.code yX3_left cX3_left 3 (some .int), Cond.methodLink RX4 185 yX3_first, Cond.instanceMethod yX3_first, Cond.selects RX3 yX3_first yX3_first, Cond.code yX3_first cX3_first 2 (some .int), Cond.methodLink RX4 233 yX4_look, Cond.instanceMethod yX4_look, Cond.selects RX4 yX4_look yX4_look, Cond.code yX4_look cX4_look 3 (some .int), Cond.fieldLink RX4 77 "DarkOffice$Lamps" "size" "I", Cond.methodLink RX4 188 yX3_tellingLamp, Cond.instanceMethod yX3_tellingLamp, Cond.selects RX3 yX3_tellingLamp yX3_tellingLamp]
def wsX4_digestPerson_r4 : List Cond := [Cond.code yX3_tellingLamp cX3_tellingLamp 8 (some .int), Cond.methodLink RX3 49 Lib.Math.max.name, Cond.methodLink RX3 42 yX3_left, Cond.methodLink RX3 46 yX3_endLit, Cond.instanceMethod yX3_endLit, Cond.selects RX3 yX3_endLit yX3_endLit, Cond.code yX3_endLit cX3_endLit 4 (some .int), Cond.methodLink RX3 54 yX1_left]
def wsX4_digestPerson : List Cond := .code yX4_digestPerson cX4_digestPerson 7 (some .long) :: ((wsX4_digestPerson_r1 ++ (wsX4_digestPerson_r2 ++ (wsX4_digestPerson_r3 ++ wsX4_digestPerson_r4))) ++ wsX40 ++ wsX00 ++ wsX30 ++ wsX10)
def wsX4_digest_r1 : List Cond := [Cond.constantLong RX4 210 (911), Cond.fieldLink RX4 19 "DarkOffice" "lamps" "LDarkOffice$Lamps;", Cond.fieldLink RX4 77 "DarkOffice$Lamps" "size" "I", Cond.constantLong RX4 212 (31), Cond.fieldLink RX4 26 "DarkOffice" "now" "LDarkOffice$Evening;", Cond.fieldLink RX4 125 "DarkOffice$Evening" "people" "I", Cond.fieldLink RX4 40 "DarkOffice" "plan" "[I", Cond.fieldLink RX4 10 "DarkOffice" "page" "LDarkOffice$Page;", Cond.fieldLink RX4 51 "DarkOffice$Page" "length" "I", Cond.fieldLink RX4 224 "DarkOffice$Page" "codes" "[I", Cond.methodLink RX4 214 yX4_lamp, Cond.instanceMethod yX4_lamp, Cond.selects RX4 yX4_lamp yX4_lamp, Cond.initialized RX4, Cond.code yX4_lamp cX4_lamp 3 (some .int), Cond.fieldLink RX4 84 "DarkOffice$Lamps" "kinds" "[I", Cond.fieldLink RX4 87 "DarkOffice$Lamps" "holds" "[I", Cond.fieldLink RX4 90 "DarkOffice$Evening" "lit" "I", Cond.fieldLink RX4 97 "DarkOffice$Lamps" "sees" "[I", Cond.methodLink RX4 80 yX4_isLamp, Cond.instanceMethod yX4_isLamp, Cond.selects RX4 yX4_isLamp yX4_isLamp, Cond.code yX4_isLamp cX4_isLamp 2 (some .boolean), Cond.methodLink RX4 93 yX1_left]
def wsX4_digest_r2 : List Cond := [Cond.static yX1_left, Cond.initialized RX1, Cond.code yX1_left cX1_left 2 (some .int), Cond.methodLink RX4 100 yX0_peopleIn, Cond.instanceMethod yX0_peopleIn, Cond.selects RX0 yX0_peopleIn yX0_peopleIn, Cond.initialized RX0, Cond.code yX0_peopleIn cX0_peopleIn 4 (some .int), Cond.fieldLink RX0 34 "DarkOffice$Evening" "people" "I", Cond.fieldLink RX0 9 "DarkOffice$Evening" "sections" "[I", Cond.methodLink RX4 103 yX1_seeing, Cond.instanceMethod yX1_seeing, Cond.selects RX1 yX1_seeing yX1_seeing, Cond.code yX1_seeing cX1_seeing 4 (some .int), Cond.fieldLink RX1 33 "DarkOffice$Lamps" "size" "I", Cond.fieldLink RX1 18 "DarkOffice$Lamps" "sees" "[I", Cond.methodLink RX4 217 yX4_digestPerson, Cond.instanceMethod yX4_digestPerson, Cond.selects RX4 yX4_digestPerson yX4_digestPerson, Cond.code yX4_digestPerson cX4_digestPerson 7 (some .long), Cond.fieldLink RX4 36 "DarkOffice" "ways" "LDarkOffice$Ways;", Cond.fieldLink RX4 116 "DarkOffice$Evening" "sections" "[I", Cond.methodLink RX4 230 yX4_about, Cond.instanceMethod yX4_about]
def wsX4_digest_r3 : List Cond := [Cond.selects RX4 yX4_about yX4_about, Cond.code yX4_about cX4_about 3 (some .int), Cond.fieldLink RX4 119 "DarkOffice$Evening" "waves" "[I", Cond.fieldLink RX4 122 "DarkOffice$Evening" "darks" "[I", Cond.methodLink RX4 113 yX4_isPerson, Cond.instanceMethod yX4_isPerson, Cond.selects RX4 yX4_isPerson yX4_isPerson, Cond.code yX4_isPerson cX4_isPerson 2 (some .boolean), Cond.methodLink RX4 179 yX3_follow, Cond.instanceMethod yX3_follow, Cond.selects RX3 yX3_follow yX3_follow, Cond.initialized RX3, Cond.code yX3_follow cX3_follow 7 none, Cond.fieldLink RX3 15 "DarkOffice$Ways" "size" "I", Cond.fieldLink RX3 9 "DarkOffice$Ways" "ends" "[I", Cond.fieldLink RX3 19 "DarkOffice$Evening" "lit" "I", Cond.methodLink RX3 24 yX1_litOnes, Cond.instanceMethod yX1_litOnes, Cond.selects RX1 yX1_litOnes yX1_litOnes, Cond.code yX1_litOnes cX1_litOnes 4 (some .int), Cond.methodLink RX1 54 yX1_left, Cond.methodLink RX3 30 yX0_bookAgrees, Cond.instanceMethod yX0_bookAgrees, Cond.selects RX0 yX0_bookAgrees yX0_bookAgrees]
def wsX4_digest_r4 : List Cond := [Cond.code yX0_bookAgrees cX0_bookAgrees 3 (some .boolean), Cond.fieldLink RX0 21 "DarkOffice$Evening" "toldLit" "[I", Cond.fieldLink RX0 24 "DarkOffice$Evening" "toldDark" "[I", Cond.methodLink RX3 34 yX3_further, Cond.static yX3_further, Cond.code yX3_further cX3_further 6 (some .int), Cond.methodLink RX3 38 yX1_after, Cond.instanceMethod yX1_after, Cond.selects RX1 yX1_after yX1_after, Cond.code yX1_after cX1_after 6 (some .int), Cond.fieldLink RX1 15 "DarkOffice$Lamps" "holds" "[I", Cond.methodLink RX1 57 Lib.Math.max.name, Cond.static Lib.Math.max.name, Cond.initialized "java/lang/Math", Cond.code Lib.Math.max.name Lib.Math.max.code 2 (some .int), Cond.methodLink RX4 183 yX3_left, Cond.instanceMethod yX3_left, Cond.selects RX3 yX3_left yX3_left, Cond.code yX3_left cX3_left 3 (some .int), Cond.methodLink RX4 185 yX3_first, Cond.instanceMethod yX3_first, Cond.selects RX3 yX3_first yX3_first, Cond.code yX3_first cX3_first 2 (some .int), Cond.methodLink RX4 233 yX4_look]
def wsX4_digest_r5 : List Cond := [Cond.instanceMethod yX4_look, Cond.selects RX4 yX4_look yX4_look, Cond.code yX4_look cX4_look 3 (some .int), Cond.methodLink RX4 188 yX3_tellingLamp, Cond.instanceMethod yX3_tellingLamp, Cond.selects RX3 yX3_tellingLamp yX3_tellingLamp, Cond.code yX3_tellingLamp cX3_tellingLamp 8 (some .int), Cond.methodLink RX3 49 Lib.Math.max.name, Cond.methodLink RX3 42 yX3_left, Cond.methodLink RX3 46 yX3_endLit, Cond.instanceMethod yX3_endLit, Cond.selects RX3 yX3_endLit yX3_endLit, Cond.code yX3_endLit cX3_endLit 4 (some .int), Cond.methodLink RX3 54 yX1_left, Cond.methodLink RX4 128 yX4_hasOffice, Cond.instanceMethod yX4_hasOffice, Cond.selects RX4 yX4_hasOffice yX4_hasOffice, Cond.code yX4_hasOffice cX4_hasOffice 1 (some .boolean), Cond.methodLink RX4 153 yX4_planWaving, Cond.instanceMethod yX4_planWaving, Cond.selects RX4 yX4_planWaving yX4_planWaving, Cond.code yX4_planWaving cX4_planWaving 4 (some .int), Cond.methodLink RX4 239 yX4_keepsLit, Cond.static yX4_keepsLit]
def wsX4_digest_r6 : List Cond := [Cond.code yX4_keepsLit cX4_keepsLit 11 (some .boolean), Cond.methodLink RX4 197 yJ6_bitCount_0f7a4, Cond.static yJ6_bitCount_0f7a4, Cond.initialized RJ6, Cond.code yJ6_bitCount_0f7a4 cJ6_bitCount_0f7a4 1 (some .int), Cond.constant RJ6 265 (1431655765), Cond.constant RJ6 266 (858993459), Cond.constant RJ6 267 (252645135), Cond.methodLink RX4 131 yX0_stirred, Cond.instanceMethod yX0_stirred, Cond.selects RX0 yX0_stirred yX0_stirred, Cond.code yX0_stirred cX0_stirred 4 (some .int), Cond.methodLink RX4 134 yX1_after, Cond.methodLink RX4 140 yX1_litOnes, Cond.methodLink RX4 147 yX0_inDark, Cond.instanceMethod yX0_inDark, Cond.selects RX0 yX0_inDark yX0_inDark, Cond.code yX0_inDark cX0_inDark 4 (some .int), Cond.methodLink RX4 221 yX4_together, Cond.instanceMethod yX4_together, Cond.selects RX4 yX4_together yX4_together, Cond.code yX4_together cX4_together 3 (some .int), Cond.methodLink RX4 166 yX1_mostSeen, Cond.instanceMethod yX1_mostSeen]
def wsX4_digest_r7 : List Cond := [Cond.selects RX1 yX1_mostSeen yX1_mostSeen, Cond.code yX1_mostSeen cX1_mostSeen 3 (some .int), Cond.methodLink RX1 60 yX1_seeing, Cond.methodLink RX4 227 yX4_count, Cond.instanceMethod yX4_count, Cond.selects RX4 yX4_count yX4_count, Cond.code yX4_count cX4_count 2 (some .int), Cond.fieldLink RX4 137 "DarkOffice$Evening" "minutes" "I", Cond.fieldLink RX4 173 "DarkOffice$Evening" "told" "I", Cond.fieldLink RX4 74 "DarkOffice" "officesRead" "I", Cond.fieldLink RX4 160 "DarkOffice" "roundsDone" "I", Cond.methodLink RX4 206 yX0_ofAll, Cond.instanceMethod yX0_ofAll, Cond.selects RX0 yX0_ofAll yX0_ofAll, Cond.code yX0_ofAll cX0_ofAll 4 (some .int)]
def wsX4_digest : List Cond := .code yX4_digest cX4_digest 5 (some .long) :: ((wsX4_digest_r1 ++ (wsX4_digest_r2 ++ (wsX4_digest_r3 ++ (wsX4_digest_r4 ++ (wsX4_digest_r5 ++ (wsX4_digest_r6 ++ wsX4_digest_r7)))))) ++ wsX40 ++ wsX10 ++ wsX00 ++ wsX20 ++ wsX30)
def wsX5_init : List Cond := .code yX5_init cX5_init 1 none :: ([.methodLink RX5 1 objectInit, .instanceMethod objectInit, .code objectInit ⟨#[0xb1]⟩ 1 none, .arrayClass .int, .fieldLink RX5 7 "DarkOfficeModel" "page" "[I", .fieldLink RX5 13 "DarkOfficeModel" "rows" "[I", .fieldLink RX5 16 "DarkOfficeModel" "seats" "[I", .fieldLink RX5 19 "DarkOfficeModel" "lit" "[I", .fieldLink RX5 22 "DarkOfficeModel" "going" "[I", .fieldLink RX5 25 "DarkOfficeModel" "bestGoing" "[I", .fieldLink RX5 28 "DarkOfficeModel" "books" "[I", .fieldLink RX5 31 "DarkOfficeModel" "keptRows" "[I", .fieldLink RX5 34 "DarkOfficeModel" "keptSeats" "[I", .fieldLink RX5 37 "DarkOfficeModel" "keptBooks" "[I", .fieldLink RX5 40 "DarkOfficeModel" "keptOffice" "I"] ++ wsX50)
def wsX5_in : List Cond := .code yX5_in cX5_in 6 (some .boolean) :: ([])
def wsX5_copy : List Cond := .code yX5_copy cX5_copy 3 none :: ([])
def wsX5_ones : List Cond := .code yX5_ones cX5_ones 3 (some .int) :: ([])
def wsX5_letter : List Cond := .code yX5_letter cX5_letter 2 (some .int) :: ([.constantLong RX5 44 (126), .fieldLink RX5 50 "DarkOfficeModel" "pageMany" "I", .fieldLink RX5 7 "DarkOfficeModel" "page" "[I", .methodLink RX5 46 yX5_in, .static yX5_in, .initialized RX5, .code yX5_in cX5_in 6 (some .boolean)] ++ wsX50)
def wsX5_blank : List Cond := .code yX5_blank cX5_blank 2 (some .int) :: ([.fieldLink RX5 50 "DarkOfficeModel" "pageMany" "I"] ++ wsX50)
def wsX5_kindBy : List Cond := .code yX5_kindBy cX5_kindBy 1 (some .int) :: ([])
def wsX5_isGood : List Cond := .code yX5_isGood cX5_isGood 2 (some .boolean) :: ([.constantLong RX5 57 (9), .methodLink RX5 53 yX5_kindBy, .static yX5_kindBy, .initialized RX5, .code yX5_kindBy cX5_kindBy 1 (some .int), .methodLink RX5 46 yX5_in, .static yX5_in, .code yX5_in cX5_in 6 (some .boolean)])
def wsX5_faultOf : List Cond := .code yX5_faultOf cX5_faultOf 2 (some .int) :: ([.fieldLink RX5 50 "DarkOfficeModel" "pageMany" "I", .fieldLink RX5 7 "DarkOfficeModel" "page" "[I", .methodLink RX5 59 yX5_isGood, .static yX5_isGood, .initialized RX5, .code yX5_isGood cX5_isGood 2 (some .boolean), .constantLong RX5 57 (9), .methodLink RX5 53 yX5_kindBy, .static yX5_kindBy, .code yX5_kindBy cX5_kindBy 1 (some .int), .methodLink RX5 46 yX5_in, .static yX5_in, .code yX5_in cX5_in 6 (some .boolean)] ++ wsX50)
def wsX5_fault : List Cond := .code yX5_fault cX5_fault 1 (some .int) :: ([.methodLink RX5 63 yX5_faultOf, .instanceMethod yX5_faultOf, .selects RX5 yX5_faultOf yX5_faultOf, .initialized RX5, .code yX5_faultOf cX5_faultOf 2 (some .int), .fieldLink RX5 50 "DarkOfficeModel" "pageMany" "I", .fieldLink RX5 7 "DarkOfficeModel" "page" "[I", .methodLink RX5 59 yX5_isGood, .static yX5_isGood, .code yX5_isGood cX5_isGood 2 (some .boolean), .constantLong RX5 57 (9), .methodLink RX5 53 yX5_kindBy, .static yX5_kindBy, .code yX5_kindBy cX5_kindBy 1 (some .int), .methodLink RX5 46 yX5_in, .static yX5_in, .code yX5_in cX5_in 6 (some .boolean)] ++ wsX50)
def wsX5_office : List Cond := .code yX5_office cX5_office 4 (some .int) :: ([.fieldLink RX5 50 "DarkOfficeModel" "pageMany" "I", .fieldLink RX5 67 "DarkOfficeModel" "lamps" "I", .fieldLink RX5 7 "DarkOfficeModel" "page" "[I", .fieldLink RX5 13 "DarkOfficeModel" "rows" "[I", .fieldLink RX5 70 "DarkOfficeModel" "minutesNow" "I", .fieldLink RX5 73 "DarkOfficeModel" "people" "I", .fieldLink RX5 76 "DarkOfficeModel" "bookMany" "I", .fieldLink RX5 79 "DarkOfficeModel" "officesRead" "I", .methodLink RX5 63 yX5_faultOf, .instanceMethod yX5_faultOf, .selects RX5 yX5_faultOf yX5_faultOf, .initialized RX5, .code yX5_faultOf cX5_faultOf 2 (some .int), .methodLink RX5 59 yX5_isGood, .static yX5_isGood, .code yX5_isGood cX5_isGood 2 (some .boolean), .constantLong RX5 57 (9), .methodLink RX5 53 yX5_kindBy, .static yX5_kindBy, .code yX5_kindBy cX5_kindBy 1 (some .int), .methodLink RX5 46 yX5_in, .static yX5_in, .code yX5_in cX5_in 6 (some .boolean)] ++ wsX50)
def wsX5_lacks : List Cond := .code yX5_lacks cX5_lacks 1 (some .boolean) :: ([.fieldLink RX5 67 "DarkOfficeModel" "lamps" "I"] ++ wsX50)
def wsX5_isLamp : List Cond := .code yX5_isLamp cX5_isLamp 2 (some .boolean) :: ([.fieldLink RX5 67 "DarkOfficeModel" "lamps" "I", .methodLink RX5 46 yX5_in, .static yX5_in, .initialized RX5, .code yX5_in cX5_in 6 (some .boolean)] ++ wsX50)
def wsX5_isPerson : List Cond := .code yX5_isPerson cX5_isPerson 2 (some .boolean) :: ([.fieldLink RX5 73 "DarkOfficeModel" "people" "I", .methodLink RX5 46 yX5_in, .static yX5_in, .initialized RX5, .code yX5_in cX5_in 6 (some .boolean)] ++ wsX50)
def wsX5_seesOf : List Cond := .code yX5_seesOf cX5_seesOf 5 (some .int) :: ([.fieldLink RX5 67 "DarkOfficeModel" "lamps" "I", .fieldLink RX5 13 "DarkOfficeModel" "rows" "[I"] ++ wsX50)
def wsX5_whoSitsIn : List Cond := .code yX5_whoSitsIn cX5_whoSitsIn 4 (some .int) :: ([.fieldLink RX5 73 "DarkOfficeModel" "people" "I", .fieldLink RX5 16 "DarkOfficeModel" "seats" "[I"] ++ wsX50)
def wsX5_seenBy : List Cond := .code yX5_seenBy cX5_seenBy 4 (some .int) :: ([.fieldLink RX5 67 "DarkOfficeModel" "lamps" "I", .methodLink RX5 82 yX5_seesOf, .instanceMethod yX5_seesOf, .selects RX5 yX5_seesOf yX5_seesOf, .initialized RX5, .code yX5_seesOf cX5_seesOf 5 (some .int), .fieldLink RX5 13 "DarkOfficeModel" "rows" "[I"] ++ wsX50)
def wsX5_tellLamp : List Cond := .code yX5_tellLamp cX5_tellLamp 3 (some .int) :: ([.fieldLink RX5 13 "DarkOfficeModel" "rows" "[I", .methodLink RX5 82 yX5_seesOf, .instanceMethod yX5_seesOf, .selects RX5 yX5_seesOf yX5_seesOf, .initialized RX5, .code yX5_seesOf cX5_seesOf 5 (some .int), .fieldLink RX5 67 "DarkOfficeModel" "lamps" "I", .methodLink RX5 85 yX5_whoSitsIn, .instanceMethod yX5_whoSitsIn, .selects RX5 yX5_whoSitsIn yX5_whoSitsIn, .code yX5_whoSitsIn cX5_whoSitsIn 4 (some .int), .fieldLink RX5 73 "DarkOfficeModel" "people" "I", .fieldLink RX5 16 "DarkOfficeModel" "seats" "[I", .methodLink RX5 88 yX5_seenBy, .instanceMethod yX5_seenBy, .selects RX5 yX5_seenBy yX5_seenBy, .code yX5_seenBy cX5_seenBy 4 (some .int)] ++ wsX50)
def wsX5_lamp_r1 : List Cond := [Cond.methodLink RX5 91 yX5_isLamp, Cond.instanceMethod yX5_isLamp, Cond.selects RX5 yX5_isLamp yX5_isLamp, Cond.initialized RX5, Cond.code yX5_isLamp cX5_isLamp 2 (some .boolean), Cond.fieldLink RX5 67 "DarkOfficeModel" "lamps" "I", Cond.methodLink RX5 46 yX5_in, Cond.static yX5_in, Cond.code yX5_in cX5_in 6 (some .boolean), Cond.methodLink RX5 95 yX5_tellLamp, Cond.instanceMethod yX5_tellLamp, Cond.selects RX5 yX5_tellLamp yX5_tellLamp, Cond.code yX5_tellLamp cX5_tellLamp 3 (some .int), Cond.fieldLink RX5 13 "DarkOfficeModel" "rows" "[I", Cond.methodLink RX5 82 yX5_seesOf, Cond.instanceMethod yX5_seesOf, Cond.selects RX5 yX5_seesOf yX5_seesOf, Cond.code yX5_seesOf cX5_seesOf 5 (some .int), Cond.methodLink RX5 85 yX5_whoSitsIn, Cond.instanceMethod yX5_whoSitsIn, Cond.selects RX5 yX5_whoSitsIn yX5_whoSitsIn, Cond.code yX5_whoSitsIn cX5_whoSitsIn 4 (some .int), Cond.fieldLink RX5 73 "DarkOfficeModel" "people" "I", Cond.fieldLink RX5 16 "DarkOfficeModel" "seats" "[I"]
def wsX5_lamp_r2 : List Cond := [Cond.methodLink RX5 88 yX5_seenBy, Cond.instanceMethod yX5_seenBy, Cond.selects RX5 yX5_seenBy yX5_seenBy, Cond.code yX5_seenBy cX5_seenBy 4 (some .int)]
def wsX5_lamp : List Cond := .code yX5_lamp cX5_lamp 3 (some .int) :: ((wsX5_lamp_r1 ++ wsX5_lamp_r2) ++ wsX50)
def wsX5_as : List Cond := .code yX5_as cX5_as 5 (some .int) :: ([.constantLong RX5 99 (4), .fieldLink RX5 13 "DarkOfficeModel" "rows" "[I", .methodLink RX5 91 yX5_isLamp, .instanceMethod yX5_isLamp, .selects RX5 yX5_isLamp yX5_isLamp, .initialized RX5, .code yX5_isLamp cX5_isLamp 2 (some .boolean), .fieldLink RX5 67 "DarkOfficeModel" "lamps" "I", .methodLink RX5 46 yX5_in, .static yX5_in, .code yX5_in cX5_in 6 (some .boolean)] ++ wsX50)
def wsX5_person : List Cond := .code yX5_person cX5_person 2 (some .int) :: ([.fieldLink RX5 73 "DarkOfficeModel" "people" "I", .fieldLink RX5 16 "DarkOfficeModel" "seats" "[I", .methodLink RX5 91 yX5_isLamp, .instanceMethod yX5_isLamp, .selects RX5 yX5_isLamp yX5_isLamp, .initialized RX5, .code yX5_isLamp cX5_isLamp 2 (some .boolean), .fieldLink RX5 67 "DarkOfficeModel" "lamps" "I", .methodLink RX5 46 yX5_in, .static yX5_in, .code yX5_in cX5_in 6 (some .boolean)] ++ wsX50)
def wsX5_tell : List Cond := .code yX5_tell cX5_tell 3 (some .int) :: ([.fieldLink RX5 16 "DarkOfficeModel" "seats" "[I", .fieldLink RX5 13 "DarkOfficeModel" "rows" "[I"] ++ wsX50)
def wsX5_about : List Cond := .code yX5_about cX5_about 3 (some .int) :: ([.methodLink RX5 101 yX5_isPerson, .instanceMethod yX5_isPerson, .selects RX5 yX5_isPerson yX5_isPerson, .initialized RX5, .code yX5_isPerson cX5_isPerson 2 (some .boolean), .fieldLink RX5 73 "DarkOfficeModel" "people" "I", .methodLink RX5 46 yX5_in, .static yX5_in, .code yX5_in cX5_in 6 (some .boolean), .methodLink RX5 104 yX5_tell, .instanceMethod yX5_tell, .selects RX5 yX5_tell yX5_tell, .code yX5_tell cX5_tell 3 (some .int), .fieldLink RX5 16 "DarkOfficeModel" "seats" "[I", .fieldLink RX5 13 "DarkOfficeModel" "rows" "[I"] ++ wsX50)
def wsX5_move : List Cond := .code yX5_move cX5_move 4 (some .int) :: ([.fieldLink RX5 16 "DarkOfficeModel" "seats" "[I", .methodLink RX5 101 yX5_isPerson, .instanceMethod yX5_isPerson, .selects RX5 yX5_isPerson yX5_isPerson, .initialized RX5, .code yX5_isPerson cX5_isPerson 2 (some .boolean), .fieldLink RX5 73 "DarkOfficeModel" "people" "I", .methodLink RX5 46 yX5_in, .static yX5_in, .code yX5_in cX5_in 6 (some .boolean), .methodLink RX5 91 yX5_isLamp, .instanceMethod yX5_isLamp, .selects RX5 yX5_isLamp yX5_isLamp, .code yX5_isLamp cX5_isLamp 2 (some .boolean), .fieldLink RX5 67 "DarkOfficeModel" "lamps" "I"] ++ wsX50)
def wsX5_asItIs : List Cond := .code yX5_asItIs cX5_asItIs 2 none :: ([.fieldLink RX5 67 "DarkOfficeModel" "lamps" "I", .fieldLink RX5 19 "DarkOfficeModel" "lit" "[I", .fieldLink RX5 13 "DarkOfficeModel" "rows" "[I"] ++ wsX50)
def wsX5_goesBy : List Cond := .code yX5_goesBy cX5_goesBy 4 none :: ([.fieldLink RX5 67 "DarkOfficeModel" "lamps" "I", .fieldLink RX5 19 "DarkOfficeModel" "lit" "[I", .fieldLink RX5 13 "DarkOfficeModel" "rows" "[I", .methodLink RX5 82 yX5_seesOf, .instanceMethod yX5_seesOf, .selects RX5 yX5_seesOf yX5_seesOf, .initialized RX5, .code yX5_seesOf cX5_seesOf 5 (some .int)] ++ wsX50)
def wsX5_sectionsOf : List Cond := .code yX5_sectionsOf cX5_sectionsOf 4 (some .int) :: ([.fieldLink RX5 73 "DarkOfficeModel" "people" "I", .fieldLink RX5 16 "DarkOfficeModel" "seats" "[I"] ++ wsX50)
def wsX5_darkNow : List Cond := .code yX5_darkNow cX5_darkNow 3 (some .int) :: ([.fieldLink RX5 73 "DarkOfficeModel" "people" "I", .fieldLink RX5 19 "DarkOfficeModel" "lit" "[I", .fieldLink RX5 16 "DarkOfficeModel" "seats" "[I"] ++ wsX50)
def wsX5_minute_r1 : List Cond := [Cond.fieldLink RX5 73 "DarkOfficeModel" "people" "I", Cond.fieldLink RX5 67 "DarkOfficeModel" "lamps" "I", Cond.fieldLink RX5 13 "DarkOfficeModel" "rows" "[I", Cond.fieldLink RX5 19 "DarkOfficeModel" "lit" "[I", Cond.fieldLink RX5 16 "DarkOfficeModel" "seats" "[I", Cond.fieldLink RX5 70 "DarkOfficeModel" "minutesNow" "I", Cond.methodLink RX5 46 yX5_in, Cond.static yX5_in, Cond.initialized RX5, Cond.code yX5_in cX5_in 6 (some .boolean), Cond.methodLink RX5 107 yX5_lacks, Cond.instanceMethod yX5_lacks, Cond.selects RX5 yX5_lacks yX5_lacks, Cond.code yX5_lacks cX5_lacks 1 (some .boolean), Cond.methodLink RX5 111 yX5_asItIs, Cond.instanceMethod yX5_asItIs, Cond.selects RX5 yX5_asItIs yX5_asItIs, Cond.code yX5_asItIs cX5_asItIs 2 none, Cond.methodLink RX5 114 yX5_sectionsOf, Cond.instanceMethod yX5_sectionsOf, Cond.selects RX5 yX5_sectionsOf yX5_sectionsOf, Cond.code yX5_sectionsOf cX5_sectionsOf 4 (some .int), Cond.methodLink RX5 117 yX5_goesBy, Cond.instanceMethod yX5_goesBy]
def wsX5_minute_r2 : List Cond := [Cond.selects RX5 yX5_goesBy yX5_goesBy, Cond.code yX5_goesBy cX5_goesBy 4 none, Cond.methodLink RX5 82 yX5_seesOf, Cond.instanceMethod yX5_seesOf, Cond.selects RX5 yX5_seesOf yX5_seesOf, Cond.code yX5_seesOf cX5_seesOf 5 (some .int), Cond.methodLink RX5 121 yX5_darkNow, Cond.instanceMethod yX5_darkNow, Cond.selects RX5 yX5_darkNow yX5_darkNow, Cond.code yX5_darkNow cX5_darkNow 3 (some .int)]
def wsX5_minute : List Cond := .code yX5_minute cX5_minute 3 (some .int) :: ((wsX5_minute_r1 ++ wsX5_minute_r2) ++ wsX50)
def wsX5_layLeast_r1 : List Cond := [Cond.fieldLink RX5 73 "DarkOfficeModel" "people" "I", Cond.fieldLink RX5 127 "DarkOfficeModel" "bestCode" "I", Cond.methodLink RX5 111 yX5_asItIs, Cond.instanceMethod yX5_asItIs, Cond.selects RX5 yX5_asItIs yX5_asItIs, Cond.initialized RX5, Cond.code yX5_asItIs cX5_asItIs 2 none, Cond.fieldLink RX5 67 "DarkOfficeModel" "lamps" "I", Cond.fieldLink RX5 19 "DarkOfficeModel" "lit" "[I", Cond.fieldLink RX5 13 "DarkOfficeModel" "rows" "[I", Cond.methodLink RX5 124 yX5_ones, Cond.static yX5_ones, Cond.code yX5_ones cX5_ones 3 (some .int), Cond.methodLink RX5 114 yX5_sectionsOf, Cond.instanceMethod yX5_sectionsOf, Cond.selects RX5 yX5_sectionsOf yX5_sectionsOf, Cond.code yX5_sectionsOf cX5_sectionsOf 4 (some .int), Cond.fieldLink RX5 16 "DarkOfficeModel" "seats" "[I", Cond.methodLink RX5 117 yX5_goesBy, Cond.instanceMethod yX5_goesBy, Cond.selects RX5 yX5_goesBy yX5_goesBy, Cond.code yX5_goesBy cX5_goesBy 4 none, Cond.methodLink RX5 82 yX5_seesOf, Cond.instanceMethod yX5_seesOf]
def wsX5_layLeast_r2 : List Cond := [Cond.selects RX5 yX5_seesOf yX5_seesOf, Cond.code yX5_seesOf cX5_seesOf 5 (some .int), Cond.methodLink RX5 121 yX5_darkNow, Cond.instanceMethod yX5_darkNow, Cond.selects RX5 yX5_darkNow yX5_darkNow, Cond.code yX5_darkNow cX5_darkNow 3 (some .int)]
def wsX5_layLeast : List Cond := .code yX5_layLeast cX5_layLeast 11 (some .int) :: ((wsX5_layLeast_r1 ++ wsX5_layLeast_r2) ++ wsX50)
def wsX5_leastOf_r1 : List Cond := [Cond.fieldLink RX5 127 "DarkOfficeModel" "bestCode" "I", Cond.fieldLink RX5 73 "DarkOfficeModel" "people" "I", Cond.methodLink RX5 130 yX5_layLeast, Cond.instanceMethod yX5_layLeast, Cond.selects RX5 yX5_layLeast yX5_layLeast, Cond.initialized RX5, Cond.code yX5_layLeast cX5_layLeast 11 (some .int), Cond.methodLink RX5 111 yX5_asItIs, Cond.instanceMethod yX5_asItIs, Cond.selects RX5 yX5_asItIs yX5_asItIs, Cond.code yX5_asItIs cX5_asItIs 2 none, Cond.fieldLink RX5 67 "DarkOfficeModel" "lamps" "I", Cond.fieldLink RX5 19 "DarkOfficeModel" "lit" "[I", Cond.fieldLink RX5 13 "DarkOfficeModel" "rows" "[I", Cond.methodLink RX5 124 yX5_ones, Cond.static yX5_ones, Cond.code yX5_ones cX5_ones 3 (some .int), Cond.methodLink RX5 114 yX5_sectionsOf, Cond.instanceMethod yX5_sectionsOf, Cond.selects RX5 yX5_sectionsOf yX5_sectionsOf, Cond.code yX5_sectionsOf cX5_sectionsOf 4 (some .int), Cond.fieldLink RX5 16 "DarkOfficeModel" "seats" "[I", Cond.methodLink RX5 117 yX5_goesBy, Cond.instanceMethod yX5_goesBy]
def wsX5_leastOf_r2 : List Cond := [Cond.selects RX5 yX5_goesBy yX5_goesBy, Cond.code yX5_goesBy cX5_goesBy 4 none, Cond.methodLink RX5 82 yX5_seesOf, Cond.instanceMethod yX5_seesOf, Cond.selects RX5 yX5_seesOf yX5_seesOf, Cond.code yX5_seesOf cX5_seesOf 5 (some .int), Cond.methodLink RX5 121 yX5_darkNow, Cond.instanceMethod yX5_darkNow, Cond.selects RX5 yX5_darkNow yX5_darkNow, Cond.code yX5_darkNow cX5_darkNow 3 (some .int)]
def wsX5_leastOf : List Cond := .code yX5_leastOf cX5_leastOf 5 (some .int) :: ((wsX5_leastOf_r1 ++ wsX5_leastOf_r2) ++ wsX50)
def wsX5_least_r1 : List Cond := [Cond.constantLong RX5 133 (3), Cond.constantLong RX5 135 (10), Cond.constantLong RX5 137 (12), Cond.methodLink RX5 46 yX5_in, Cond.static yX5_in, Cond.initialized RX5, Cond.code yX5_in cX5_in 6 (some .boolean), Cond.methodLink RX5 107 yX5_lacks, Cond.instanceMethod yX5_lacks, Cond.selects RX5 yX5_lacks yX5_lacks, Cond.code yX5_lacks cX5_lacks 1 (some .boolean), Cond.fieldLink RX5 67 "DarkOfficeModel" "lamps" "I", Cond.methodLink RX5 139 yX5_leastOf, Cond.instanceMethod yX5_leastOf, Cond.selects RX5 yX5_leastOf yX5_leastOf, Cond.code yX5_leastOf cX5_leastOf 5 (some .int), Cond.fieldLink RX5 127 "DarkOfficeModel" "bestCode" "I", Cond.fieldLink RX5 73 "DarkOfficeModel" "people" "I", Cond.methodLink RX5 130 yX5_layLeast, Cond.instanceMethod yX5_layLeast, Cond.selects RX5 yX5_layLeast yX5_layLeast, Cond.code yX5_layLeast cX5_layLeast 11 (some .int), Cond.methodLink RX5 111 yX5_asItIs, Cond.instanceMethod yX5_asItIs]
def wsX5_least_r2 : List Cond := [Cond.selects RX5 yX5_asItIs yX5_asItIs, Cond.code yX5_asItIs cX5_asItIs 2 none, Cond.fieldLink RX5 19 "DarkOfficeModel" "lit" "[I", Cond.fieldLink RX5 13 "DarkOfficeModel" "rows" "[I", Cond.methodLink RX5 124 yX5_ones, Cond.static yX5_ones, Cond.code yX5_ones cX5_ones 3 (some .int), Cond.methodLink RX5 114 yX5_sectionsOf, Cond.instanceMethod yX5_sectionsOf, Cond.selects RX5 yX5_sectionsOf yX5_sectionsOf, Cond.code yX5_sectionsOf cX5_sectionsOf 4 (some .int), Cond.fieldLink RX5 16 "DarkOfficeModel" "seats" "[I", Cond.methodLink RX5 117 yX5_goesBy, Cond.instanceMethod yX5_goesBy, Cond.selects RX5 yX5_goesBy yX5_goesBy, Cond.code yX5_goesBy cX5_goesBy 4 none, Cond.methodLink RX5 82 yX5_seesOf, Cond.instanceMethod yX5_seesOf, Cond.selects RX5 yX5_seesOf yX5_seesOf, Cond.code yX5_seesOf cX5_seesOf 5 (some .int), Cond.methodLink RX5 121 yX5_darkNow, Cond.instanceMethod yX5_darkNow, Cond.selects RX5 yX5_darkNow yX5_darkNow, Cond.code yX5_darkNow cX5_darkNow 3 (some .int)]
def wsX5_least : List Cond := .code yX5_least cX5_least 3 (some .int) :: ((wsX5_least_r1 ++ wsX5_least_r2) ++ wsX50)
def wsX5_areAllLit : List Cond := .code yX5_areAllLit cX5_areAllLit 3 (some .boolean) :: ([.fieldLink RX5 67 "DarkOfficeModel" "lamps" "I", .fieldLink RX5 19 "DarkOfficeModel" "lit" "[I"] ++ wsX50)
def wsX5_isRound_r1 : List Cond := [Cond.fieldLink RX5 22 "DarkOfficeModel" "going" "[I", Cond.methodLink RX5 111 yX5_asItIs, Cond.instanceMethod yX5_asItIs, Cond.selects RX5 yX5_asItIs yX5_asItIs, Cond.initialized RX5, Cond.code yX5_asItIs cX5_asItIs 2 none, Cond.fieldLink RX5 67 "DarkOfficeModel" "lamps" "I", Cond.fieldLink RX5 19 "DarkOfficeModel" "lit" "[I", Cond.fieldLink RX5 13 "DarkOfficeModel" "rows" "[I", Cond.methodLink RX5 91 yX5_isLamp, Cond.instanceMethod yX5_isLamp, Cond.selects RX5 yX5_isLamp yX5_isLamp, Cond.code yX5_isLamp cX5_isLamp 2 (some .boolean), Cond.methodLink RX5 46 yX5_in, Cond.static yX5_in, Cond.code yX5_in cX5_in 6 (some .boolean), Cond.methodLink RX5 117 yX5_goesBy, Cond.instanceMethod yX5_goesBy, Cond.selects RX5 yX5_goesBy yX5_goesBy, Cond.code yX5_goesBy cX5_goesBy 4 none, Cond.methodLink RX5 82 yX5_seesOf, Cond.instanceMethod yX5_seesOf, Cond.selects RX5 yX5_seesOf yX5_seesOf, Cond.code yX5_seesOf cX5_seesOf 5 (some .int)]
def wsX5_isRound_r2 : List Cond := [Cond.methodLink RX5 142 yX5_areAllLit, Cond.instanceMethod yX5_areAllLit, Cond.selects RX5 yX5_areAllLit yX5_areAllLit, Cond.code yX5_areAllLit cX5_areAllLit 3 (some .boolean)]
def wsX5_isRound : List Cond := .code yX5_isRound cX5_isRound 7 (some .boolean) :: ((wsX5_isRound_r1 ++ wsX5_isRound_r2) ++ wsX50)
def wsX5_layRound_r1 : List Cond := [Cond.fieldLink RX5 22 "DarkOfficeModel" "going" "[I", Cond.fieldLink RX5 25 "DarkOfficeModel" "bestGoing" "[I", Cond.methodLink RX5 145 yX5_isRound, Cond.instanceMethod yX5_isRound, Cond.selects RX5 yX5_isRound yX5_isRound, Cond.initialized RX5, Cond.code yX5_isRound cX5_isRound 7 (some .boolean), Cond.methodLink RX5 111 yX5_asItIs, Cond.instanceMethod yX5_asItIs, Cond.selects RX5 yX5_asItIs yX5_asItIs, Cond.code yX5_asItIs cX5_asItIs 2 none, Cond.fieldLink RX5 67 "DarkOfficeModel" "lamps" "I", Cond.fieldLink RX5 19 "DarkOfficeModel" "lit" "[I", Cond.fieldLink RX5 13 "DarkOfficeModel" "rows" "[I", Cond.methodLink RX5 91 yX5_isLamp, Cond.instanceMethod yX5_isLamp, Cond.selects RX5 yX5_isLamp yX5_isLamp, Cond.code yX5_isLamp cX5_isLamp 2 (some .boolean), Cond.methodLink RX5 46 yX5_in, Cond.static yX5_in, Cond.code yX5_in cX5_in 6 (some .boolean), Cond.methodLink RX5 117 yX5_goesBy, Cond.instanceMethod yX5_goesBy, Cond.selects RX5 yX5_goesBy yX5_goesBy]
def wsX5_layRound_r2 : List Cond := [Cond.code yX5_goesBy cX5_goesBy 4 none, Cond.methodLink RX5 82 yX5_seesOf, Cond.instanceMethod yX5_seesOf, Cond.selects RX5 yX5_seesOf yX5_seesOf, Cond.code yX5_seesOf cX5_seesOf 5 (some .int), Cond.methodLink RX5 142 yX5_areAllLit, Cond.instanceMethod yX5_areAllLit, Cond.selects RX5 yX5_areAllLit yX5_areAllLit, Cond.code yX5_areAllLit cX5_areAllLit 3 (some .boolean), Cond.methodLink RX5 149 yX5_copy, Cond.static yX5_copy, Cond.code yX5_copy cX5_copy 3 none]
def wsX5_layRound : List Cond := .code yX5_layRound cX5_layRound 5 (some .int) :: ((wsX5_layRound_r1 ++ wsX5_layRound_r2) ++ wsX50)
def wsX5_round_r1 : List Cond := [Cond.constantLong RX5 135 (10), Cond.constantLong RX5 153 (16), Cond.fieldLink RX5 155 "DarkOfficeModel" "roundMany" "I", Cond.fieldLink RX5 25 "DarkOfficeModel" "bestGoing" "[I", Cond.methodLink RX5 91 yX5_isLamp, Cond.instanceMethod yX5_isLamp, Cond.selects RX5 yX5_isLamp yX5_isLamp, Cond.initialized RX5, Cond.code yX5_isLamp cX5_isLamp 2 (some .boolean), Cond.fieldLink RX5 67 "DarkOfficeModel" "lamps" "I", Cond.methodLink RX5 46 yX5_in, Cond.static yX5_in, Cond.code yX5_in cX5_in 6 (some .boolean), Cond.methodLink RX5 158 yX5_layRound, Cond.instanceMethod yX5_layRound, Cond.selects RX5 yX5_layRound yX5_layRound, Cond.code yX5_layRound cX5_layRound 5 (some .int), Cond.fieldLink RX5 22 "DarkOfficeModel" "going" "[I", Cond.methodLink RX5 145 yX5_isRound, Cond.instanceMethod yX5_isRound, Cond.selects RX5 yX5_isRound yX5_isRound, Cond.code yX5_isRound cX5_isRound 7 (some .boolean), Cond.methodLink RX5 111 yX5_asItIs, Cond.instanceMethod yX5_asItIs]
def wsX5_round_r2 : List Cond := [Cond.selects RX5 yX5_asItIs yX5_asItIs, Cond.code yX5_asItIs cX5_asItIs 2 none, Cond.fieldLink RX5 19 "DarkOfficeModel" "lit" "[I", Cond.fieldLink RX5 13 "DarkOfficeModel" "rows" "[I", Cond.methodLink RX5 117 yX5_goesBy, Cond.instanceMethod yX5_goesBy, Cond.selects RX5 yX5_goesBy yX5_goesBy, Cond.code yX5_goesBy cX5_goesBy 4 none, Cond.methodLink RX5 82 yX5_seesOf, Cond.instanceMethod yX5_seesOf, Cond.selects RX5 yX5_seesOf yX5_seesOf, Cond.code yX5_seesOf cX5_seesOf 5 (some .int), Cond.methodLink RX5 142 yX5_areAllLit, Cond.instanceMethod yX5_areAllLit, Cond.selects RX5 yX5_areAllLit yX5_areAllLit, Cond.code yX5_areAllLit cX5_areAllLit 3 (some .boolean), Cond.methodLink RX5 149 yX5_copy, Cond.static yX5_copy, Cond.code yX5_copy cX5_copy 3 none]
def wsX5_round : List Cond := .code yX5_round cX5_round 4 (some .int) :: ((wsX5_round_r1 ++ wsX5_round_r2) ++ wsX50)
def wsX5_togetherOf : List Cond := .code yX5_togetherOf cX5_togetherOf 4 (some .int) :: ([.fieldLink RX5 67 "DarkOfficeModel" "lamps" "I", .methodLink RX5 88 yX5_seenBy, .instanceMethod yX5_seenBy, .selects RX5 yX5_seenBy yX5_seenBy, .initialized RX5, .code yX5_seenBy cX5_seenBy 4 (some .int), .methodLink RX5 82 yX5_seesOf, .instanceMethod yX5_seesOf, .selects RX5 yX5_seesOf yX5_seesOf, .code yX5_seesOf cX5_seesOf 5 (some .int), .fieldLink RX5 13 "DarkOfficeModel" "rows" "[I"] ++ wsX50)
def wsX5_together : List Cond := .code yX5_together cX5_together 2 (some .int) :: ([.methodLink RX5 46 yX5_in, .static yX5_in, .initialized RX5, .code yX5_in cX5_in 6 (some .boolean), .methodLink RX5 107 yX5_lacks, .instanceMethod yX5_lacks, .selects RX5 yX5_lacks yX5_lacks, .code yX5_lacks cX5_lacks 1 (some .boolean), .fieldLink RX5 67 "DarkOfficeModel" "lamps" "I", .methodLink RX5 161 yX5_togetherOf, .instanceMethod yX5_togetherOf, .selects RX5 yX5_togetherOf yX5_togetherOf, .code yX5_togetherOf cX5_togetherOf 4 (some .int), .methodLink RX5 88 yX5_seenBy, .instanceMethod yX5_seenBy, .selects RX5 yX5_seenBy yX5_seenBy, .code yX5_seenBy cX5_seenBy 4 (some .int), .methodLink RX5 82 yX5_seesOf, .instanceMethod yX5_seesOf, .selects RX5 yX5_seesOf yX5_seesOf, .code yX5_seesOf cX5_seesOf 5 (some .int), .fieldLink RX5 13 "DarkOfficeModel" "rows" "[I"] ++ wsX50)
def wsX5_book : List Cond := .code yX5_book cX5_book 4 (some .int) :: ([.constantLong RX5 164 (6), .fieldLink RX5 76 "DarkOfficeModel" "bookMany" "I", .fieldLink RX5 28 "DarkOfficeModel" "books" "[I", .methodLink RX5 46 yX5_in, .static yX5_in, .initialized RX5, .code yX5_in cX5_in 6 (some .boolean), .methodLink RX5 91 yX5_isLamp, .instanceMethod yX5_isLamp, .selects RX5 yX5_isLamp yX5_isLamp, .code yX5_isLamp cX5_isLamp 2 (some .boolean), .fieldLink RX5 67 "DarkOfficeModel" "lamps" "I"] ++ wsX50)
def wsX5_forget : List Cond := .code yX5_forget cX5_forget 2 (some .int) :: ([.fieldLink RX5 76 "DarkOfficeModel" "bookMany" "I"] ++ wsX50)
def wsX5_isBooked : List Cond := .code yX5_isBooked cX5_isBooked 5 (some .boolean) :: ([.fieldLink RX5 76 "DarkOfficeModel" "bookMany" "I", .fieldLink RX5 19 "DarkOfficeModel" "lit" "[I", .fieldLink RX5 28 "DarkOfficeModel" "books" "[I"] ++ wsX50)
def wsX5_canWave : List Cond := .code yX5_canWave cX5_canWave 6 (some .boolean) :: ([.fieldLink RX5 16 "DarkOfficeModel" "seats" "[I", .methodLink RX5 111 yX5_asItIs, .instanceMethod yX5_asItIs, .selects RX5 yX5_asItIs yX5_asItIs, .initialized RX5, .code yX5_asItIs cX5_asItIs 2 none, .fieldLink RX5 67 "DarkOfficeModel" "lamps" "I", .fieldLink RX5 19 "DarkOfficeModel" "lit" "[I", .fieldLink RX5 13 "DarkOfficeModel" "rows" "[I", .methodLink RX5 166 yX5_isBooked, .instanceMethod yX5_isBooked, .selects RX5 yX5_isBooked yX5_isBooked, .code yX5_isBooked cX5_isBooked 5 (some .boolean), .fieldLink RX5 76 "DarkOfficeModel" "bookMany" "I", .fieldLink RX5 28 "DarkOfficeModel" "books" "[I", .methodLink RX5 117 yX5_goesBy, .instanceMethod yX5_goesBy, .selects RX5 yX5_goesBy yX5_goesBy, .code yX5_goesBy cX5_goesBy 4 none, .methodLink RX5 82 yX5_seesOf, .instanceMethod yX5_seesOf, .selects RX5 yX5_seesOf yX5_seesOf, .code yX5_seesOf cX5_seesOf 5 (some .int)] ++ wsX50)
def wsX5_wavedOf_r1 : List Cond := [Cond.methodLink RX5 169 yX5_canWave, Cond.instanceMethod yX5_canWave, Cond.selects RX5 yX5_canWave yX5_canWave, Cond.initialized RX5, Cond.code yX5_canWave cX5_canWave 6 (some .boolean), Cond.fieldLink RX5 16 "DarkOfficeModel" "seats" "[I", Cond.methodLink RX5 111 yX5_asItIs, Cond.instanceMethod yX5_asItIs, Cond.selects RX5 yX5_asItIs yX5_asItIs, Cond.code yX5_asItIs cX5_asItIs 2 none, Cond.fieldLink RX5 67 "DarkOfficeModel" "lamps" "I", Cond.fieldLink RX5 19 "DarkOfficeModel" "lit" "[I", Cond.fieldLink RX5 13 "DarkOfficeModel" "rows" "[I", Cond.methodLink RX5 166 yX5_isBooked, Cond.instanceMethod yX5_isBooked, Cond.selects RX5 yX5_isBooked yX5_isBooked, Cond.code yX5_isBooked cX5_isBooked 5 (some .boolean), Cond.fieldLink RX5 76 "DarkOfficeModel" "bookMany" "I", Cond.fieldLink RX5 28 "DarkOfficeModel" "books" "[I", Cond.methodLink RX5 117 yX5_goesBy, Cond.instanceMethod yX5_goesBy, Cond.selects RX5 yX5_goesBy yX5_goesBy, Cond.code yX5_goesBy cX5_goesBy 4 none, Cond.methodLink RX5 82 yX5_seesOf]
def wsX5_wavedOf_r2 : List Cond := [Cond.instanceMethod yX5_seesOf, Cond.selects RX5 yX5_seesOf yX5_seesOf, Cond.code yX5_seesOf cX5_seesOf 5 (some .int)]
def wsX5_wavedOf : List Cond := .code yX5_wavedOf cX5_wavedOf 7 (some .int) :: ((wsX5_wavedOf_r1 ++ wsX5_wavedOf_r2) ++ wsX50)
def wsX5_waved_r1 : List Cond := [Cond.constantLong RX5 164 (6), Cond.methodLink RX5 101 yX5_isPerson, Cond.instanceMethod yX5_isPerson, Cond.selects RX5 yX5_isPerson yX5_isPerson, Cond.initialized RX5, Cond.code yX5_isPerson cX5_isPerson 2 (some .boolean), Cond.fieldLink RX5 73 "DarkOfficeModel" "people" "I", Cond.methodLink RX5 46 yX5_in, Cond.static yX5_in, Cond.code yX5_in cX5_in 6 (some .boolean), Cond.methodLink RX5 172 yX5_wavedOf, Cond.instanceMethod yX5_wavedOf, Cond.selects RX5 yX5_wavedOf yX5_wavedOf, Cond.code yX5_wavedOf cX5_wavedOf 7 (some .int), Cond.methodLink RX5 169 yX5_canWave, Cond.instanceMethod yX5_canWave, Cond.selects RX5 yX5_canWave yX5_canWave, Cond.code yX5_canWave cX5_canWave 6 (some .boolean), Cond.fieldLink RX5 16 "DarkOfficeModel" "seats" "[I", Cond.methodLink RX5 111 yX5_asItIs, Cond.instanceMethod yX5_asItIs, Cond.selects RX5 yX5_asItIs yX5_asItIs, Cond.code yX5_asItIs cX5_asItIs 2 none, Cond.fieldLink RX5 67 "DarkOfficeModel" "lamps" "I"]
def wsX5_waved_r2 : List Cond := [Cond.fieldLink RX5 19 "DarkOfficeModel" "lit" "[I", Cond.fieldLink RX5 13 "DarkOfficeModel" "rows" "[I", Cond.methodLink RX5 166 yX5_isBooked, Cond.instanceMethod yX5_isBooked, Cond.selects RX5 yX5_isBooked yX5_isBooked, Cond.code yX5_isBooked cX5_isBooked 5 (some .boolean), Cond.fieldLink RX5 76 "DarkOfficeModel" "bookMany" "I", Cond.fieldLink RX5 28 "DarkOfficeModel" "books" "[I", Cond.methodLink RX5 117 yX5_goesBy, Cond.instanceMethod yX5_goesBy, Cond.selects RX5 yX5_goesBy yX5_goesBy, Cond.code yX5_goesBy cX5_goesBy 4 none, Cond.methodLink RX5 82 yX5_seesOf, Cond.instanceMethod yX5_seesOf, Cond.selects RX5 yX5_seesOf yX5_seesOf, Cond.code yX5_seesOf cX5_seesOf 5 (some .int)]
def wsX5_waved : List Cond := .code yX5_waved cX5_waved 4 (some .int) :: ((wsX5_waved_r1 ++ wsX5_waved_r2) ++ wsX50)
def wsX5_lookOf_r1 : List Cond := [Cond.fieldLink RX5 67 "DarkOfficeModel" "lamps" "I", Cond.fieldLink RX5 19 "DarkOfficeModel" "lit" "[I", Cond.methodLink RX5 169 yX5_canWave, Cond.instanceMethod yX5_canWave, Cond.selects RX5 yX5_canWave yX5_canWave, Cond.initialized RX5, Cond.code yX5_canWave cX5_canWave 6 (some .boolean), Cond.fieldLink RX5 16 "DarkOfficeModel" "seats" "[I", Cond.methodLink RX5 111 yX5_asItIs, Cond.instanceMethod yX5_asItIs, Cond.selects RX5 yX5_asItIs yX5_asItIs, Cond.code yX5_asItIs cX5_asItIs 2 none, Cond.fieldLink RX5 13 "DarkOfficeModel" "rows" "[I", Cond.methodLink RX5 166 yX5_isBooked, Cond.instanceMethod yX5_isBooked, Cond.selects RX5 yX5_isBooked yX5_isBooked, Cond.code yX5_isBooked cX5_isBooked 5 (some .boolean), Cond.fieldLink RX5 76 "DarkOfficeModel" "bookMany" "I", Cond.fieldLink RX5 28 "DarkOfficeModel" "books" "[I", Cond.methodLink RX5 117 yX5_goesBy, Cond.instanceMethod yX5_goesBy, Cond.selects RX5 yX5_goesBy yX5_goesBy, Cond.code yX5_goesBy cX5_goesBy 4 none, Cond.methodLink RX5 82 yX5_seesOf]
def wsX5_lookOf_r2 : List Cond := [Cond.instanceMethod yX5_seesOf, Cond.selects RX5 yX5_seesOf yX5_seesOf, Cond.code yX5_seesOf cX5_seesOf 5 (some .int)]
def wsX5_lookOf : List Cond := .code yX5_lookOf cX5_lookOf 10 (some .int) :: ((wsX5_lookOf_r1 ++ wsX5_lookOf_r2) ++ wsX50)
def wsX5_look_r1 : List Cond := [Cond.constantLong RX5 164 (6), Cond.methodLink RX5 101 yX5_isPerson, Cond.instanceMethod yX5_isPerson, Cond.selects RX5 yX5_isPerson yX5_isPerson, Cond.initialized RX5, Cond.code yX5_isPerson cX5_isPerson 2 (some .boolean), Cond.fieldLink RX5 73 "DarkOfficeModel" "people" "I", Cond.methodLink RX5 46 yX5_in, Cond.static yX5_in, Cond.code yX5_in cX5_in 6 (some .boolean), Cond.methodLink RX5 176 yX5_lookOf, Cond.instanceMethod yX5_lookOf, Cond.selects RX5 yX5_lookOf yX5_lookOf, Cond.code yX5_lookOf cX5_lookOf 10 (some .int), Cond.fieldLink RX5 67 "DarkOfficeModel" "lamps" "I", Cond.fieldLink RX5 19 "DarkOfficeModel" "lit" "[I", Cond.methodLink RX5 169 yX5_canWave, Cond.instanceMethod yX5_canWave, Cond.selects RX5 yX5_canWave yX5_canWave, Cond.code yX5_canWave cX5_canWave 6 (some .boolean), Cond.fieldLink RX5 16 "DarkOfficeModel" "seats" "[I", Cond.methodLink RX5 111 yX5_asItIs, Cond.instanceMethod yX5_asItIs, Cond.selects RX5 yX5_asItIs yX5_asItIs]
def wsX5_look_r2 : List Cond := [Cond.code yX5_asItIs cX5_asItIs 2 none, Cond.fieldLink RX5 13 "DarkOfficeModel" "rows" "[I", Cond.methodLink RX5 166 yX5_isBooked, Cond.instanceMethod yX5_isBooked, Cond.selects RX5 yX5_isBooked yX5_isBooked, Cond.code yX5_isBooked cX5_isBooked 5 (some .boolean), Cond.fieldLink RX5 76 "DarkOfficeModel" "bookMany" "I", Cond.fieldLink RX5 28 "DarkOfficeModel" "books" "[I", Cond.methodLink RX5 117 yX5_goesBy, Cond.instanceMethod yX5_goesBy, Cond.selects RX5 yX5_goesBy yX5_goesBy, Cond.code yX5_goesBy cX5_goesBy 4 none, Cond.methodLink RX5 82 yX5_seesOf, Cond.instanceMethod yX5_seesOf, Cond.selects RX5 yX5_seesOf yX5_seesOf, Cond.code yX5_seesOf cX5_seesOf 5 (some .int)]
def wsX5_look : List Cond := .code yX5_look cX5_look 3 (some .int) :: ((wsX5_look_r1 ++ wsX5_look_r2) ++ wsX50)
def wsX5_draw : List Cond := .code yX5_draw cX5_draw 2 (some .int) :: ([.constantLong RX5 179 (1103515245), .fieldLink RX5 181 "DarkOfficeModel" "seedNow" "I", .constantLong RX5 184 (12345), .constantLong RX5 186 (2147483647), .constant RX5 188 (65536)] ++ wsX50)
def wsX5_nights_r1 : List Cond := [Cond.constantLong RX5 189 (60), Cond.constantLong RX5 191 (2), Cond.fieldLink RX5 181 "DarkOfficeModel" "seedNow" "I", Cond.fieldLink RX5 73 "DarkOfficeModel" "people" "I", Cond.fieldLink RX5 67 "DarkOfficeModel" "lamps" "I", Cond.fieldLink RX5 19 "DarkOfficeModel" "lit" "[I", Cond.methodLink RX5 46 yX5_in, Cond.static yX5_in, Cond.initialized RX5, Cond.code yX5_in cX5_in 6 (some .boolean), Cond.methodLink RX5 107 yX5_lacks, Cond.instanceMethod yX5_lacks, Cond.selects RX5 yX5_lacks yX5_lacks, Cond.code yX5_lacks cX5_lacks 1 (some .boolean), Cond.methodLink RX5 111 yX5_asItIs, Cond.instanceMethod yX5_asItIs, Cond.selects RX5 yX5_asItIs yX5_asItIs, Cond.code yX5_asItIs cX5_asItIs 2 none, Cond.fieldLink RX5 13 "DarkOfficeModel" "rows" "[I", Cond.methodLink RX5 193 yX5_draw, Cond.instanceMethod yX5_draw, Cond.selects RX5 yX5_draw yX5_draw, Cond.code yX5_draw cX5_draw 2 (some .int), Cond.constantLong RX5 179 (1103515245)]
def wsX5_nights_r2 : List Cond := [Cond.constantLong RX5 184 (12345), Cond.constantLong RX5 186 (2147483647), Cond.constant RX5 188 (65536), Cond.methodLink RX5 114 yX5_sectionsOf, Cond.instanceMethod yX5_sectionsOf, Cond.selects RX5 yX5_sectionsOf yX5_sectionsOf, Cond.code yX5_sectionsOf cX5_sectionsOf 4 (some .int), Cond.fieldLink RX5 16 "DarkOfficeModel" "seats" "[I", Cond.methodLink RX5 117 yX5_goesBy, Cond.instanceMethod yX5_goesBy, Cond.selects RX5 yX5_goesBy yX5_goesBy, Cond.code yX5_goesBy cX5_goesBy 4 none, Cond.methodLink RX5 82 yX5_seesOf, Cond.instanceMethod yX5_seesOf, Cond.selects RX5 yX5_seesOf yX5_seesOf, Cond.code yX5_seesOf cX5_seesOf 5 (some .int), Cond.methodLink RX5 121 yX5_darkNow, Cond.instanceMethod yX5_darkNow, Cond.selects RX5 yX5_darkNow yX5_darkNow, Cond.code yX5_darkNow cX5_darkNow 3 (some .int)]
def wsX5_nights : List Cond := .code yX5_nights cX5_nights 8 (some .int) :: ((wsX5_nights_r1 ++ wsX5_nights_r2) ++ wsX50)
def wsX5_image : List Cond := .code yX5_image cX5_image 1 (some .int) :: ([.fieldLink RX5 13 "DarkOfficeModel" "rows" "[I", .fieldLink RX5 31 "DarkOfficeModel" "keptRows" "[I", .fieldLink RX5 16 "DarkOfficeModel" "seats" "[I", .fieldLink RX5 34 "DarkOfficeModel" "keptSeats" "[I", .fieldLink RX5 28 "DarkOfficeModel" "books" "[I", .fieldLink RX5 37 "DarkOfficeModel" "keptBooks" "[I", .fieldLink RX5 73 "DarkOfficeModel" "people" "I", .fieldLink RX5 196 "DarkOfficeModel" "keptPeople" "I", .fieldLink RX5 70 "DarkOfficeModel" "minutesNow" "I", .fieldLink RX5 199 "DarkOfficeModel" "keptMinutes" "I", .fieldLink RX5 76 "DarkOfficeModel" "bookMany" "I", .fieldLink RX5 202 "DarkOfficeModel" "keptBookMany" "I", .fieldLink RX5 79 "DarkOfficeModel" "officesRead" "I", .fieldLink RX5 40 "DarkOfficeModel" "keptOffice" "I", .methodLink RX5 107 yX5_lacks, .instanceMethod yX5_lacks, .selects RX5 yX5_lacks yX5_lacks, .initialized RX5, .code yX5_lacks cX5_lacks 1 (some .boolean), .fieldLink RX5 67 "DarkOfficeModel" "lamps" "I", .methodLink RX5 149 yX5_copy, .static yX5_copy, .code yX5_copy cX5_copy 3 none] ++ wsX50)
def wsX5_restore : List Cond := .code yX5_restore cX5_restore 1 (some .int) :: ([.fieldLink RX5 40 "DarkOfficeModel" "keptOffice" "I", .fieldLink RX5 79 "DarkOfficeModel" "officesRead" "I", .fieldLink RX5 31 "DarkOfficeModel" "keptRows" "[I", .fieldLink RX5 13 "DarkOfficeModel" "rows" "[I", .fieldLink RX5 34 "DarkOfficeModel" "keptSeats" "[I", .fieldLink RX5 16 "DarkOfficeModel" "seats" "[I", .fieldLink RX5 37 "DarkOfficeModel" "keptBooks" "[I", .fieldLink RX5 28 "DarkOfficeModel" "books" "[I", .fieldLink RX5 196 "DarkOfficeModel" "keptPeople" "I", .fieldLink RX5 73 "DarkOfficeModel" "people" "I", .fieldLink RX5 199 "DarkOfficeModel" "keptMinutes" "I", .fieldLink RX5 70 "DarkOfficeModel" "minutesNow" "I", .fieldLink RX5 202 "DarkOfficeModel" "keptBookMany" "I", .fieldLink RX5 76 "DarkOfficeModel" "bookMany" "I", .methodLink RX5 149 yX5_copy, .static yX5_copy, .initialized RX5, .code yX5_copy cX5_copy 3 none] ++ wsX50)
def wsX5_litMany : List Cond := .code yX5_litMany cX5_litMany 3 (some .int) :: ([.fieldLink RX5 67 "DarkOfficeModel" "lamps" "I", .fieldLink RX5 13 "DarkOfficeModel" "rows" "[I"] ++ wsX50)
def wsX5_sumBy : List Cond := .code yX5_sumBy cX5_sumBy 4 (some .int) :: ([.fieldLink RX5 73 "DarkOfficeModel" "people" "I", .methodLink RX5 104 yX5_tell, .instanceMethod yX5_tell, .selects RX5 yX5_tell yX5_tell, .initialized RX5, .code yX5_tell cX5_tell 3 (some .int), .fieldLink RX5 16 "DarkOfficeModel" "seats" "[I", .fieldLink RX5 13 "DarkOfficeModel" "rows" "[I"] ++ wsX50)
def wsX5_countOf : List Cond := .code yX5_countOf cX5_countOf 2 (some .int) :: ([.fieldLink RX5 67 "DarkOfficeModel" "lamps" "I", .fieldLink RX5 73 "DarkOfficeModel" "people" "I", .fieldLink RX5 70 "DarkOfficeModel" "minutesNow" "I", .fieldLink RX5 76 "DarkOfficeModel" "bookMany" "I", .fieldLink RX5 50 "DarkOfficeModel" "pageMany" "I", .fieldLink RX5 79 "DarkOfficeModel" "officesRead" "I", .fieldLink RX5 155 "DarkOfficeModel" "roundMany" "I", .methodLink RX5 205 yX5_litMany, .instanceMethod yX5_litMany, .selects RX5 yX5_litMany yX5_litMany, .initialized RX5, .code yX5_litMany cX5_litMany 3 (some .int), .fieldLink RX5 13 "DarkOfficeModel" "rows" "[I", .methodLink RX5 208 yX5_sumBy, .instanceMethod yX5_sumBy, .selects RX5 yX5_sumBy yX5_sumBy, .code yX5_sumBy cX5_sumBy 4 (some .int), .methodLink RX5 104 yX5_tell, .instanceMethod yX5_tell, .selects RX5 yX5_tell yX5_tell, .code yX5_tell cX5_tell 3 (some .int), .fieldLink RX5 16 "DarkOfficeModel" "seats" "[I"] ++ wsX50)
def wsX5_count_r1 : List Cond := [Cond.methodLink RX5 211 yX5_countOf, Cond.instanceMethod yX5_countOf, Cond.selects RX5 yX5_countOf yX5_countOf, Cond.initialized RX5, Cond.code yX5_countOf cX5_countOf 2 (some .int), Cond.fieldLink RX5 67 "DarkOfficeModel" "lamps" "I", Cond.fieldLink RX5 73 "DarkOfficeModel" "people" "I", Cond.fieldLink RX5 70 "DarkOfficeModel" "minutesNow" "I", Cond.fieldLink RX5 76 "DarkOfficeModel" "bookMany" "I", Cond.fieldLink RX5 50 "DarkOfficeModel" "pageMany" "I", Cond.fieldLink RX5 79 "DarkOfficeModel" "officesRead" "I", Cond.fieldLink RX5 155 "DarkOfficeModel" "roundMany" "I", Cond.methodLink RX5 205 yX5_litMany, Cond.instanceMethod yX5_litMany, Cond.selects RX5 yX5_litMany yX5_litMany, Cond.code yX5_litMany cX5_litMany 3 (some .int), Cond.fieldLink RX5 13 "DarkOfficeModel" "rows" "[I", Cond.methodLink RX5 208 yX5_sumBy, Cond.instanceMethod yX5_sumBy, Cond.selects RX5 yX5_sumBy yX5_sumBy, Cond.code yX5_sumBy cX5_sumBy 4 (some .int), Cond.methodLink RX5 104 yX5_tell, Cond.instanceMethod yX5_tell, Cond.selects RX5 yX5_tell yX5_tell]
def wsX5_count_r2 : List Cond := [Cond.code yX5_tell cX5_tell 3 (some .int), Cond.fieldLink RX5 16 "DarkOfficeModel" "seats" "[I"]
def wsX5_count : List Cond := .code yX5_count cX5_count 2 (some .int) :: ((wsX5_count_r1 ++ wsX5_count_r2) ++ wsX50)
def wsX5_say : List Cond := .code yX5_say cX5_say 3 none :: ([.constantLong RX5 214 (31), .fieldLink RX5 216 "DarkOfficeModel" "hash" "J"] ++ wsX50)
def wsX5_digest_r1 : List Cond := [Cond.constantLong RX5 220 (911), Cond.fieldLink RX5 216 "DarkOfficeModel" "hash" "J", Cond.fieldLink RX5 67 "DarkOfficeModel" "lamps" "I", Cond.fieldLink RX5 73 "DarkOfficeModel" "people" "I", Cond.fieldLink RX5 50 "DarkOfficeModel" "pageMany" "I", Cond.fieldLink RX5 7 "DarkOfficeModel" "page" "[I", Cond.methodLink RX5 95 yX5_tellLamp, Cond.instanceMethod yX5_tellLamp, Cond.selects RX5 yX5_tellLamp yX5_tellLamp, Cond.initialized RX5, Cond.code yX5_tellLamp cX5_tellLamp 3 (some .int), Cond.fieldLink RX5 13 "DarkOfficeModel" "rows" "[I", Cond.methodLink RX5 82 yX5_seesOf, Cond.instanceMethod yX5_seesOf, Cond.selects RX5 yX5_seesOf yX5_seesOf, Cond.code yX5_seesOf cX5_seesOf 5 (some .int), Cond.methodLink RX5 85 yX5_whoSitsIn, Cond.instanceMethod yX5_whoSitsIn, Cond.selects RX5 yX5_whoSitsIn yX5_whoSitsIn, Cond.code yX5_whoSitsIn cX5_whoSitsIn 4 (some .int), Cond.fieldLink RX5 16 "DarkOfficeModel" "seats" "[I", Cond.methodLink RX5 88 yX5_seenBy, Cond.instanceMethod yX5_seenBy, Cond.selects RX5 yX5_seenBy yX5_seenBy]
def wsX5_digest_r2 : List Cond := [Cond.code yX5_seenBy cX5_seenBy 4 (some .int), Cond.methodLink RX5 222 yX5_say, Cond.instanceMethod yX5_say, Cond.selects RX5 yX5_say yX5_say, Cond.code yX5_say cX5_say 3 none, Cond.constantLong RX5 214 (31), Cond.methodLink RX5 104 yX5_tell, Cond.instanceMethod yX5_tell, Cond.selects RX5 yX5_tell yX5_tell, Cond.code yX5_tell cX5_tell 3 (some .int), Cond.methodLink RX5 172 yX5_wavedOf, Cond.instanceMethod yX5_wavedOf, Cond.selects RX5 yX5_wavedOf yX5_wavedOf, Cond.code yX5_wavedOf cX5_wavedOf 7 (some .int), Cond.methodLink RX5 169 yX5_canWave, Cond.instanceMethod yX5_canWave, Cond.selects RX5 yX5_canWave yX5_canWave, Cond.code yX5_canWave cX5_canWave 6 (some .boolean), Cond.methodLink RX5 111 yX5_asItIs, Cond.instanceMethod yX5_asItIs, Cond.selects RX5 yX5_asItIs yX5_asItIs, Cond.code yX5_asItIs cX5_asItIs 2 none, Cond.fieldLink RX5 19 "DarkOfficeModel" "lit" "[I", Cond.methodLink RX5 166 yX5_isBooked]
def wsX5_digest_r3 : List Cond := [Cond.instanceMethod yX5_isBooked, Cond.selects RX5 yX5_isBooked yX5_isBooked, Cond.code yX5_isBooked cX5_isBooked 5 (some .boolean), Cond.fieldLink RX5 76 "DarkOfficeModel" "bookMany" "I", Cond.fieldLink RX5 28 "DarkOfficeModel" "books" "[I", Cond.methodLink RX5 117 yX5_goesBy, Cond.instanceMethod yX5_goesBy, Cond.selects RX5 yX5_goesBy yX5_goesBy, Cond.code yX5_goesBy cX5_goesBy 4 none, Cond.methodLink RX5 176 yX5_lookOf, Cond.instanceMethod yX5_lookOf, Cond.selects RX5 yX5_lookOf yX5_lookOf, Cond.code yX5_lookOf cX5_lookOf 10 (some .int), Cond.methodLink RX5 107 yX5_lacks, Cond.instanceMethod yX5_lacks, Cond.selects RX5 yX5_lacks yX5_lacks, Cond.code yX5_lacks cX5_lacks 1 (some .boolean), Cond.methodLink RX5 139 yX5_leastOf, Cond.instanceMethod yX5_leastOf, Cond.selects RX5 yX5_leastOf yX5_leastOf, Cond.code yX5_leastOf cX5_leastOf 5 (some .int), Cond.fieldLink RX5 127 "DarkOfficeModel" "bestCode" "I", Cond.methodLink RX5 130 yX5_layLeast, Cond.instanceMethod yX5_layLeast]
def wsX5_digest_r4 : List Cond := [Cond.selects RX5 yX5_layLeast yX5_layLeast, Cond.code yX5_layLeast cX5_layLeast 11 (some .int), Cond.methodLink RX5 124 yX5_ones, Cond.static yX5_ones, Cond.code yX5_ones cX5_ones 3 (some .int), Cond.methodLink RX5 114 yX5_sectionsOf, Cond.instanceMethod yX5_sectionsOf, Cond.selects RX5 yX5_sectionsOf yX5_sectionsOf, Cond.code yX5_sectionsOf cX5_sectionsOf 4 (some .int), Cond.methodLink RX5 121 yX5_darkNow, Cond.instanceMethod yX5_darkNow, Cond.selects RX5 yX5_darkNow yX5_darkNow, Cond.code yX5_darkNow cX5_darkNow 3 (some .int), Cond.methodLink RX5 161 yX5_togetherOf, Cond.instanceMethod yX5_togetherOf, Cond.selects RX5 yX5_togetherOf yX5_togetherOf, Cond.code yX5_togetherOf cX5_togetherOf 4 (some .int), Cond.methodLink RX5 211 yX5_countOf, Cond.instanceMethod yX5_countOf, Cond.selects RX5 yX5_countOf yX5_countOf, Cond.code yX5_countOf cX5_countOf 2 (some .int), Cond.fieldLink RX5 70 "DarkOfficeModel" "minutesNow" "I", Cond.fieldLink RX5 79 "DarkOfficeModel" "officesRead" "I", Cond.fieldLink RX5 155 "DarkOfficeModel" "roundMany" "I"]
def wsX5_digest_r5 : List Cond := [Cond.methodLink RX5 205 yX5_litMany, Cond.instanceMethod yX5_litMany, Cond.selects RX5 yX5_litMany yX5_litMany, Cond.code yX5_litMany cX5_litMany 3 (some .int), Cond.methodLink RX5 208 yX5_sumBy, Cond.instanceMethod yX5_sumBy, Cond.selects RX5 yX5_sumBy yX5_sumBy, Cond.code yX5_sumBy cX5_sumBy 4 (some .int)]
def wsX5_digest : List Cond := .code yX5_digest cX5_digest 3 (some .long) :: ((wsX5_digest_r1 ++ (wsX5_digest_r2 ++ (wsX5_digest_r3 ++ (wsX5_digest_r4 ++ wsX5_digest_r5)))) ++ wsX50)
def wsJ9_max_7cf53 : List Cond := .code yJ9_max_7cf53 cJ9_max_7cf53 2 (some .int) :: ([])
def wsJ9_min_7cf53 : List Cond := .code yJ9_min_7cf53 cJ9_min_7cf53 2 (some .int) :: ([])
abbrev vwCl : List vw_C := [(RX0, TX0, 9), (RX1, TX1, 4), (RX2, TX2, 2), (RX3, TX3, 2), (RX4, TX4, 10), (RX5, TX5, 24)]
end
section
theorem dX0_init_0 : decode cX0_init 0 = .ok (.aload_n 0, 1) := by decide +kernel
theorem dX0_init_1 : decode cX0_init 1 = .ok (.invokespecial 3, 3) := by decide +kernel
theorem dX0_init_4 : decode cX0_init 4 = .ok (.aload_n 0, 1) := by decide +kernel
theorem dX0_init_5 : decode cX0_init 5 = .ok (.iconst 4, 1) := by decide +kernel
theorem dX0_init_6 : decode cX0_init 6 = .ok (.newarray .int, 2) := by decide +kernel
theorem dX0_init_8 : decode cX0_init 8 = .ok (.putfield 9, 3) := by decide +kernel
theorem dX0_init_11 : decode cX0_init 11 = .ok (.aload_n 0, 1) := by decide +kernel
theorem dX0_init_12 : decode cX0_init 12 = .ok (.iconst 4, 1) := by decide +kernel
theorem dX0_init_13 : decode cX0_init 13 = .ok (.newarray .int, 2) := by decide +kernel
theorem dX0_init_15 : decode cX0_init 15 = .ok (.putfield 15, 3) := by decide +kernel
theorem dX0_init_18 : decode cX0_init 18 = .ok (.aload_n 0, 1) := by decide +kernel
theorem dX0_init_19 : decode cX0_init 19 = .ok (.iconst 4, 1) := by decide +kernel
theorem dX0_init_20 : decode cX0_init 20 = .ok (.newarray .int, 2) := by decide +kernel
theorem dX0_init_22 : decode cX0_init 22 = .ok (.putfield 18, 3) := by decide +kernel
theorem dX0_init_25 : decode cX0_init 25 = .ok (.aload_n 0, 1) := by decide +kernel
theorem dX0_init_26 : decode cX0_init 26 = .ok (.bipush 7, 2) := by decide +kernel
theorem dX0_init_28 : decode cX0_init 28 = .ok (.newarray .int, 2) := by decide +kernel
theorem dX0_init_30 : decode cX0_init 30 = .ok (.putfield 21, 3) := by decide +kernel
theorem dX0_init_33 : decode cX0_init 33 = .ok (.aload_n 0, 1) := by decide +kernel
theorem dX0_init_34 : decode cX0_init 34 = .ok (.bipush 7, 2) := by decide +kernel
theorem dX0_init_36 : decode cX0_init 36 = .ok (.newarray .int, 2) := by decide +kernel
theorem dX0_init_38 : decode cX0_init 38 = .ok (.putfield 24, 3) := by decide +kernel
theorem dX0_init_41 : decode cX0_init 41 = .ok (.return_, 1) := by decide +kernel
set_option maxRecDepth 20000 in
theorem ggX0_begin_X0_emptyBook : GoodIn wsX0_begin wsX0_emptyBook := goodIn_r _ [8, 9, 10, 11, 12, 13, 14, 15, 16, 17, 18, 19, 20] (by decide +kernel) (by decide +kernel)
set_option maxRecDepth 20000 in
theorem gX0_begin_X0_emptyBook : GoodIn wsX0_begin (wsV RX0 37 RX0 yX0_emptyBook wsX0_emptyBook) := goodIn_app (goodIn_of _ (by decide +kernel)) ggX0_begin_X0_emptyBook
theorem dX0_begin_0 : decode cX0_begin 0 = .ok (.aload_n 0, 1) := by decide +kernel
theorem dX0_begin_1 : decode cX0_begin 1 = .ok (.iconst 0, 1) := by decide +kernel
theorem dX0_begin_2 : decode cX0_begin 2 = .ok (.putfield 27, 3) := by decide +kernel
theorem dX0_begin_5 : decode cX0_begin 5 = .ok (.aload_n 0, 1) := by decide +kernel
theorem dX0_begin_6 : decode cX0_begin 6 = .ok (.iconst 0, 1) := by decide +kernel
theorem dX0_begin_7 : decode cX0_begin 7 = .ok (.putfield 31, 3) := by decide +kernel
theorem dX0_begin_10 : decode cX0_begin 10 = .ok (.aload_n 0, 1) := by decide +kernel
theorem dX0_begin_11 : decode cX0_begin 11 = .ok (.iconst 0, 1) := by decide +kernel
theorem dX0_begin_12 : decode cX0_begin 12 = .ok (.putfield 34, 3) := by decide +kernel
theorem dX0_begin_15 : decode cX0_begin 15 = .ok (.aload_n 0, 1) := by decide +kernel
theorem dX0_begin_16 : decode cX0_begin 16 = .ok (.invokevirtual 37, 3) := by decide +kernel
theorem dX0_begin_19 : decode cX0_begin 19 = .ok (.return_, 1) := by decide +kernel
theorem dX0_copy_0 : decode cX0_copy 0 = .ok (.aload_n 0, 1) := by decide +kernel
theorem dX0_copy_1 : decode cX0_copy 1 = .ok (.aload_n 1, 1) := by decide +kernel
theorem dX0_copy_2 : decode cX0_copy 2 = .ok (.getfield 27, 3) := by decide +kernel
theorem dX0_copy_5 : decode cX0_copy 5 = .ok (.putfield 27, 3) := by decide +kernel
theorem dX0_copy_8 : decode cX0_copy 8 = .ok (.aload_n 0, 1) := by decide +kernel
theorem dX0_copy_9 : decode cX0_copy 9 = .ok (.aload_n 1, 1) := by decide +kernel
theorem dX0_copy_10 : decode cX0_copy 10 = .ok (.getfield 31, 3) := by decide +kernel
theorem dX0_copy_13 : decode cX0_copy 13 = .ok (.putfield 31, 3) := by decide +kernel
theorem dX0_copy_16 : decode cX0_copy 16 = .ok (.aload_n 0, 1) := by decide +kernel
theorem dX0_copy_17 : decode cX0_copy 17 = .ok (.aload_n 1, 1) := by decide +kernel
theorem dX0_copy_18 : decode cX0_copy 18 = .ok (.getfield 34, 3) := by decide +kernel
theorem dX0_copy_21 : decode cX0_copy 21 = .ok (.putfield 34, 3) := by decide +kernel
theorem dX0_copy_24 : decode cX0_copy 24 = .ok (.aload_n 0, 1) := by decide +kernel
theorem dX0_copy_25 : decode cX0_copy 25 = .ok (.aload_n 1, 1) := by decide +kernel
theorem dX0_copy_26 : decode cX0_copy 26 = .ok (.getfield 40, 3) := by decide +kernel
theorem dX0_copy_29 : decode cX0_copy 29 = .ok (.putfield 40, 3) := by decide +kernel
theorem dX0_copy_32 : decode cX0_copy 32 = .ok (.iconst 0, 1) := by decide +kernel
theorem dX0_copy_33 : decode cX0_copy 33 = .ok (.istore_n 2, 1) := by decide +kernel
theorem dX0_copy_34 : decode cX0_copy 34 = .ok (.iload_n 2, 1) := by decide +kernel
theorem dX0_copy_35 : decode cX0_copy 35 = .ok (.iconst 4, 1) := by decide +kernel
theorem dX0_copy_36 : decode cX0_copy 36 = .ok (.if_icmp .ge 45, 3) := by decide +kernel
theorem dX0_copy_39 : decode cX0_copy 39 = .ok (.aload_n 0, 1) := by decide +kernel
theorem dX0_copy_40 : decode cX0_copy 40 = .ok (.getfield 9, 3) := by decide +kernel
theorem dX0_copy_43 : decode cX0_copy 43 = .ok (.iload_n 2, 1) := by decide +kernel
theorem dX0_copy_44 : decode cX0_copy 44 = .ok (.aload_n 1, 1) := by decide +kernel
theorem dX0_copy_45 : decode cX0_copy 45 = .ok (.getfield 9, 3) := by decide +kernel
theorem dX0_copy_48 : decode cX0_copy 48 = .ok (.iload_n 2, 1) := by decide +kernel
theorem dX0_copy_49 : decode cX0_copy 49 = .ok (.iaload, 1) := by decide +kernel
theorem dX0_copy_50 : decode cX0_copy 50 = .ok (.iastore, 1) := by decide +kernel
theorem dX0_copy_51 : decode cX0_copy 51 = .ok (.aload_n 0, 1) := by decide +kernel
theorem dX0_copy_52 : decode cX0_copy 52 = .ok (.getfield 15, 3) := by decide +kernel
theorem dX0_copy_55 : decode cX0_copy 55 = .ok (.iload_n 2, 1) := by decide +kernel
theorem dX0_copy_56 : decode cX0_copy 56 = .ok (.aload_n 1, 1) := by decide +kernel
theorem dX0_copy_57 : decode cX0_copy 57 = .ok (.getfield 15, 3) := by decide +kernel
theorem dX0_copy_60 : decode cX0_copy 60 = .ok (.iload_n 2, 1) := by decide +kernel
theorem dX0_copy_61 : decode cX0_copy 61 = .ok (.iaload, 1) := by decide +kernel
theorem dX0_copy_62 : decode cX0_copy 62 = .ok (.iastore, 1) := by decide +kernel
theorem dX0_copy_63 : decode cX0_copy 63 = .ok (.aload_n 0, 1) := by decide +kernel
theorem dX0_copy_64 : decode cX0_copy 64 = .ok (.getfield 18, 3) := by decide +kernel
theorem dX0_copy_67 : decode cX0_copy 67 = .ok (.iload_n 2, 1) := by decide +kernel
theorem dX0_copy_68 : decode cX0_copy 68 = .ok (.aload_n 1, 1) := by decide +kernel
theorem dX0_copy_69 : decode cX0_copy 69 = .ok (.getfield 18, 3) := by decide +kernel
theorem dX0_copy_72 : decode cX0_copy 72 = .ok (.iload_n 2, 1) := by decide +kernel
theorem dX0_copy_73 : decode cX0_copy 73 = .ok (.iaload, 1) := by decide +kernel
theorem dX0_copy_74 : decode cX0_copy 74 = .ok (.iastore, 1) := by decide +kernel
theorem dX0_copy_75 : decode cX0_copy 75 = .ok (.iinc 2 1, 3) := by decide +kernel
theorem dX0_copy_78 : decode cX0_copy 78 = .ok (.goto (-44), 3) := by decide +kernel
theorem dX0_copy_81 : decode cX0_copy 81 = .ok (.iconst 0, 1) := by decide +kernel
theorem dX0_copy_82 : decode cX0_copy 82 = .ok (.istore_n 2, 1) := by decide +kernel
theorem dX0_copy_83 : decode cX0_copy 83 = .ok (.iload_n 2, 1) := by decide +kernel
theorem dX0_copy_84 : decode cX0_copy 84 = .ok (.bipush 6, 2) := by decide +kernel
theorem dX0_copy_86 : decode cX0_copy 86 = .ok (.if_icmp .gt 33, 3) := by decide +kernel
theorem dX0_copy_89 : decode cX0_copy 89 = .ok (.aload_n 0, 1) := by decide +kernel
theorem dX0_copy_90 : decode cX0_copy 90 = .ok (.getfield 21, 3) := by decide +kernel
theorem dX0_copy_93 : decode cX0_copy 93 = .ok (.iload_n 2, 1) := by decide +kernel
theorem dX0_copy_94 : decode cX0_copy 94 = .ok (.aload_n 1, 1) := by decide +kernel
theorem dX0_copy_95 : decode cX0_copy 95 = .ok (.getfield 21, 3) := by decide +kernel
theorem dX0_copy_98 : decode cX0_copy 98 = .ok (.iload_n 2, 1) := by decide +kernel
theorem dX0_copy_99 : decode cX0_copy 99 = .ok (.iaload, 1) := by decide +kernel
theorem dX0_copy_100 : decode cX0_copy 100 = .ok (.iastore, 1) := by decide +kernel
theorem dX0_copy_101 : decode cX0_copy 101 = .ok (.aload_n 0, 1) := by decide +kernel
theorem dX0_copy_102 : decode cX0_copy 102 = .ok (.getfield 24, 3) := by decide +kernel
theorem dX0_copy_105 : decode cX0_copy 105 = .ok (.iload_n 2, 1) := by decide +kernel
theorem dX0_copy_106 : decode cX0_copy 106 = .ok (.aload_n 1, 1) := by decide +kernel
theorem dX0_copy_107 : decode cX0_copy 107 = .ok (.getfield 24, 3) := by decide +kernel
theorem dX0_copy_110 : decode cX0_copy 110 = .ok (.iload_n 2, 1) := by decide +kernel
theorem dX0_copy_111 : decode cX0_copy 111 = .ok (.iaload, 1) := by decide +kernel
theorem dX0_copy_112 : decode cX0_copy 112 = .ok (.iastore, 1) := by decide +kernel
theorem dX0_copy_113 : decode cX0_copy 113 = .ok (.iinc 2 1, 3) := by decide +kernel
theorem dX0_copy_116 : decode cX0_copy 116 = .ok (.goto (-33), 3) := by decide +kernel
theorem dX0_copy_119 : decode cX0_copy 119 = .ok (.return_, 1) := by decide +kernel
theorem dX0_seat_0 : decode cX0_seat 0 = .ok (.aload_n 0, 1) := by decide +kernel
theorem dX0_seat_1 : decode cX0_seat 1 = .ok (.getfield 34, 3) := by decide +kernel
theorem dX0_seat_4 : decode cX0_seat 4 = .ok (.iconst 4, 1) := by decide +kernel
theorem dX0_seat_5 : decode cX0_seat 5 = .ok (.if_icmp .lt 6, 3) := by decide +kernel
theorem dX0_seat_8 : decode cX0_seat 8 = .ok (.bipush (-104), 2) := by decide +kernel
theorem dX0_seat_10 : decode cX0_seat 10 = .ok (.ireturn, 1) := by decide +kernel
theorem dX0_seat_11 : decode cX0_seat 11 = .ok (.aload_n 0, 1) := by decide +kernel
theorem dX0_seat_12 : decode cX0_seat 12 = .ok (.getfield 34, 3) := by decide +kernel
theorem dX0_seat_15 : decode cX0_seat 15 = .ok (.istore_n 2, 1) := by decide +kernel
theorem dX0_seat_16 : decode cX0_seat 16 = .ok (.aload_n 0, 1) := by decide +kernel
theorem dX0_seat_17 : decode cX0_seat 17 = .ok (.getfield 9, 3) := by decide +kernel
theorem dX0_seat_20 : decode cX0_seat 20 = .ok (.iload_n 2, 1) := by decide +kernel
theorem dX0_seat_21 : decode cX0_seat 21 = .ok (.iload_n 1, 1) := by decide +kernel
theorem dX0_seat_22 : decode cX0_seat 22 = .ok (.iastore, 1) := by decide +kernel
theorem dX0_seat_23 : decode cX0_seat 23 = .ok (.aload_n 0, 1) := by decide +kernel
theorem dX0_seat_24 : decode cX0_seat 24 = .ok (.getfield 15, 3) := by decide +kernel
theorem dX0_seat_27 : decode cX0_seat 27 = .ok (.iload_n 2, 1) := by decide +kernel
theorem dX0_seat_28 : decode cX0_seat 28 = .ok (.iconst 0, 1) := by decide +kernel
theorem dX0_seat_29 : decode cX0_seat 29 = .ok (.iastore, 1) := by decide +kernel
theorem dX0_seat_30 : decode cX0_seat 30 = .ok (.aload_n 0, 1) := by decide +kernel
theorem dX0_seat_31 : decode cX0_seat 31 = .ok (.getfield 18, 3) := by decide +kernel
theorem dX0_seat_34 : decode cX0_seat 34 = .ok (.iload_n 2, 1) := by decide +kernel
theorem dX0_seat_35 : decode cX0_seat 35 = .ok (.iconst 0, 1) := by decide +kernel
theorem dX0_seat_36 : decode cX0_seat 36 = .ok (.iastore, 1) := by decide +kernel
theorem dX0_seat_37 : decode cX0_seat 37 = .ok (.aload_n 0, 1) := by decide +kernel
theorem dX0_seat_38 : decode cX0_seat 38 = .ok (.dup, 1) := by decide +kernel
theorem dX0_seat_39 : decode cX0_seat 39 = .ok (.getfield 34, 3) := by decide +kernel
theorem dX0_seat_42 : decode cX0_seat 42 = .ok (.iconst 1, 1) := by decide +kernel
theorem dX0_seat_43 : decode cX0_seat 43 = .ok (.iadd, 1) := by decide +kernel
theorem dX0_seat_44 : decode cX0_seat 44 = .ok (.putfield 34, 3) := by decide +kernel
theorem dX0_seat_47 : decode cX0_seat 47 = .ok (.iload_n 2, 1) := by decide +kernel
theorem dX0_seat_48 : decode cX0_seat 48 = .ok (.ireturn, 1) := by decide +kernel
theorem dX0_peopleIn_0 : decode cX0_peopleIn 0 = .ok (.iconst 0, 1) := by decide +kernel
theorem dX0_peopleIn_1 : decode cX0_peopleIn 1 = .ok (.istore_n 2, 1) := by decide +kernel
theorem dX0_peopleIn_2 : decode cX0_peopleIn 2 = .ok (.iconst 0, 1) := by decide +kernel
theorem dX0_peopleIn_3 : decode cX0_peopleIn 3 = .ok (.istore_n 3, 1) := by decide +kernel
theorem dX0_peopleIn_4 : decode cX0_peopleIn 4 = .ok (.iload_n 3, 1) := by decide +kernel
theorem dX0_peopleIn_5 : decode cX0_peopleIn 5 = .ok (.aload_n 0, 1) := by decide +kernel
theorem dX0_peopleIn_6 : decode cX0_peopleIn 6 = .ok (.getfield 34, 3) := by decide +kernel
theorem dX0_peopleIn_9 : decode cX0_peopleIn 9 = .ok (.if_icmp .ge 29, 3) := by decide +kernel
theorem dX0_peopleIn_12 : decode cX0_peopleIn 12 = .ok (.iload_n 2, 1) := by decide +kernel
theorem dX0_peopleIn_13 : decode cX0_peopleIn 13 = .ok (.aload_n 0, 1) := by decide +kernel
theorem dX0_peopleIn_14 : decode cX0_peopleIn 14 = .ok (.getfield 9, 3) := by decide +kernel
theorem dX0_peopleIn_17 : decode cX0_peopleIn 17 = .ok (.iload_n 3, 1) := by decide +kernel
theorem dX0_peopleIn_18 : decode cX0_peopleIn 18 = .ok (.iaload, 1) := by decide +kernel
theorem dX0_peopleIn_19 : decode cX0_peopleIn 19 = .ok (.iload_n 1, 1) := by decide +kernel
theorem dX0_peopleIn_20 : decode cX0_peopleIn 20 = .ok (.if_icmp .ne 9, 3) := by decide +kernel
theorem dX0_peopleIn_23 : decode cX0_peopleIn 23 = .ok (.iconst 1, 1) := by decide +kernel
theorem dX0_peopleIn_24 : decode cX0_peopleIn 24 = .ok (.iload_n 3, 1) := by decide +kernel
theorem dX0_peopleIn_25 : decode cX0_peopleIn 25 = .ok (.ishl, 1) := by decide +kernel
theorem dX0_peopleIn_26 : decode cX0_peopleIn 26 = .ok (.goto 4, 3) := by decide +kernel
theorem dX0_peopleIn_29 : decode cX0_peopleIn 29 = .ok (.iconst 0, 1) := by decide +kernel
theorem dX0_peopleIn_30 : decode cX0_peopleIn 30 = .ok (.ior, 1) := by decide +kernel
theorem dX0_peopleIn_31 : decode cX0_peopleIn 31 = .ok (.istore_n 2, 1) := by decide +kernel
theorem dX0_peopleIn_32 : decode cX0_peopleIn 32 = .ok (.iinc 3 1, 3) := by decide +kernel
theorem dX0_peopleIn_35 : decode cX0_peopleIn 35 = .ok (.goto (-31), 3) := by decide +kernel
theorem dX0_peopleIn_38 : decode cX0_peopleIn 38 = .ok (.iload_n 2, 1) := by decide +kernel
theorem dX0_peopleIn_39 : decode cX0_peopleIn 39 = .ok (.ireturn, 1) := by decide +kernel
theorem dX0_stirred_0 : decode cX0_stirred 0 = .ok (.iconst 0, 1) := by decide +kernel
theorem dX0_stirred_1 : decode cX0_stirred 1 = .ok (.istore_n 2, 1) := by decide +kernel
theorem dX0_stirred_2 : decode cX0_stirred 2 = .ok (.iconst 0, 1) := by decide +kernel
theorem dX0_stirred_3 : decode cX0_stirred 3 = .ok (.istore_n 3, 1) := by decide +kernel
theorem dX0_stirred_4 : decode cX0_stirred 4 = .ok (.iload_n 3, 1) := by decide +kernel
theorem dX0_stirred_5 : decode cX0_stirred 5 = .ok (.aload_n 0, 1) := by decide +kernel
theorem dX0_stirred_6 : decode cX0_stirred 6 = .ok (.getfield 34, 3) := by decide +kernel
theorem dX0_stirred_9 : decode cX0_stirred 9 = .ok (.if_icmp .ge 24, 3) := by decide +kernel
theorem dX0_stirred_12 : decode cX0_stirred 12 = .ok (.iload_n 2, 1) := by decide +kernel
theorem dX0_stirred_13 : decode cX0_stirred 13 = .ok (.iload_n 1, 1) := by decide +kernel
theorem dX0_stirred_14 : decode cX0_stirred 14 = .ok (.iload_n 3, 1) := by decide +kernel
theorem dX0_stirred_15 : decode cX0_stirred 15 = .ok (.ishr, 1) := by decide +kernel
theorem dX0_stirred_16 : decode cX0_stirred 16 = .ok (.iconst 1, 1) := by decide +kernel
theorem dX0_stirred_17 : decode cX0_stirred 17 = .ok (.iand, 1) := by decide +kernel
theorem dX0_stirred_18 : decode cX0_stirred 18 = .ok (.aload_n 0, 1) := by decide +kernel
theorem dX0_stirred_19 : decode cX0_stirred 19 = .ok (.getfield 9, 3) := by decide +kernel
theorem dX0_stirred_22 : decode cX0_stirred 22 = .ok (.iload_n 3, 1) := by decide +kernel
theorem dX0_stirred_23 : decode cX0_stirred 23 = .ok (.iaload, 1) := by decide +kernel
theorem dX0_stirred_24 : decode cX0_stirred 24 = .ok (.ishl, 1) := by decide +kernel
theorem dX0_stirred_25 : decode cX0_stirred 25 = .ok (.ior, 1) := by decide +kernel
theorem dX0_stirred_26 : decode cX0_stirred 26 = .ok (.istore_n 2, 1) := by decide +kernel
theorem dX0_stirred_27 : decode cX0_stirred 27 = .ok (.iinc 3 1, 3) := by decide +kernel
theorem dX0_stirred_30 : decode cX0_stirred 30 = .ok (.goto (-26), 3) := by decide +kernel
theorem dX0_stirred_33 : decode cX0_stirred 33 = .ok (.iload_n 2, 1) := by decide +kernel
theorem dX0_stirred_34 : decode cX0_stirred 34 = .ok (.ireturn, 1) := by decide +kernel
theorem dX0_inDark_0 : decode cX0_inDark 0 = .ok (.iconst 0, 1) := by decide +kernel
theorem dX0_inDark_1 : decode cX0_inDark 1 = .ok (.istore_n 2, 1) := by decide +kernel
theorem dX0_inDark_2 : decode cX0_inDark 2 = .ok (.iconst 0, 1) := by decide +kernel
theorem dX0_inDark_3 : decode cX0_inDark 3 = .ok (.istore_n 3, 1) := by decide +kernel
theorem dX0_inDark_4 : decode cX0_inDark 4 = .ok (.iload_n 3, 1) := by decide +kernel
theorem dX0_inDark_5 : decode cX0_inDark 5 = .ok (.aload_n 0, 1) := by decide +kernel
theorem dX0_inDark_6 : decode cX0_inDark 6 = .ok (.getfield 34, 3) := by decide +kernel
theorem dX0_inDark_9 : decode cX0_inDark 9 = .ok (.if_icmp .ge 24, 3) := by decide +kernel
theorem dX0_inDark_12 : decode cX0_inDark 12 = .ok (.iload_n 2, 1) := by decide +kernel
theorem dX0_inDark_13 : decode cX0_inDark 13 = .ok (.iconst 1, 1) := by decide +kernel
theorem dX0_inDark_14 : decode cX0_inDark 14 = .ok (.iload_n 1, 1) := by decide +kernel
theorem dX0_inDark_15 : decode cX0_inDark 15 = .ok (.aload_n 0, 1) := by decide +kernel
theorem dX0_inDark_16 : decode cX0_inDark 16 = .ok (.getfield 9, 3) := by decide +kernel
theorem dX0_inDark_19 : decode cX0_inDark 19 = .ok (.iload_n 3, 1) := by decide +kernel
theorem dX0_inDark_20 : decode cX0_inDark 20 = .ok (.iaload, 1) := by decide +kernel
theorem dX0_inDark_21 : decode cX0_inDark 21 = .ok (.ishr, 1) := by decide +kernel
theorem dX0_inDark_22 : decode cX0_inDark 22 = .ok (.iconst 1, 1) := by decide +kernel
theorem dX0_inDark_23 : decode cX0_inDark 23 = .ok (.iand, 1) := by decide +kernel
theorem dX0_inDark_24 : decode cX0_inDark 24 = .ok (.isub, 1) := by decide +kernel
theorem dX0_inDark_25 : decode cX0_inDark 25 = .ok (.iadd, 1) := by decide +kernel
theorem dX0_inDark_26 : decode cX0_inDark 26 = .ok (.istore_n 2, 1) := by decide +kernel
theorem dX0_inDark_27 : decode cX0_inDark 27 = .ok (.iinc 3 1, 3) := by decide +kernel
theorem dX0_inDark_30 : decode cX0_inDark 30 = .ok (.goto (-26), 3) := by decide +kernel
theorem dX0_inDark_33 : decode cX0_inDark 33 = .ok (.iload_n 2, 1) := by decide +kernel
theorem dX0_inDark_34 : decode cX0_inDark 34 = .ok (.ireturn, 1) := by decide +kernel
theorem dX0_write_0 : decode cX0_write 0 = .ok (.iconst 0, 1) := by decide +kernel
theorem dX0_write_1 : decode cX0_write 1 = .ok (.istore_n 3, 1) := by decide +kernel
theorem dX0_write_2 : decode cX0_write 2 = .ok (.iload_n 3, 1) := by decide +kernel
theorem dX0_write_3 : decode cX0_write 3 = .ok (.aload_n 0, 1) := by decide +kernel
theorem dX0_write_4 : decode cX0_write 4 = .ok (.getfield 34, 3) := by decide +kernel
theorem dX0_write_7 : decode cX0_write 7 = .ok (.if_icmp .ge 44, 3) := by decide +kernel
theorem dX0_write_10 : decode cX0_write 10 = .ok (.aload_n 0, 1) := by decide +kernel
theorem dX0_write_11 : decode cX0_write 11 = .ok (.getfield 15, 3) := by decide +kernel
theorem dX0_write_14 : decode cX0_write 14 = .ok (.iload_n 3, 1) := by decide +kernel
theorem dX0_write_15 : decode cX0_write 15 = .ok (.dup2, 1) := by decide +kernel
theorem dX0_write_16 : decode cX0_write 16 = .ok (.iaload, 1) := by decide +kernel
theorem dX0_write_17 : decode cX0_write 17 = .ok (.iload_n 1, 1) := by decide +kernel
theorem dX0_write_18 : decode cX0_write 18 = .ok (.iload_n 3, 1) := by decide +kernel
theorem dX0_write_19 : decode cX0_write 19 = .ok (.ishr, 1) := by decide +kernel
theorem dX0_write_20 : decode cX0_write 20 = .ok (.iconst 1, 1) := by decide +kernel
theorem dX0_write_21 : decode cX0_write 21 = .ok (.iand, 1) := by decide +kernel
theorem dX0_write_22 : decode cX0_write 22 = .ok (.iadd, 1) := by decide +kernel
theorem dX0_write_23 : decode cX0_write 23 = .ok (.iastore, 1) := by decide +kernel
theorem dX0_write_24 : decode cX0_write 24 = .ok (.aload_n 0, 1) := by decide +kernel
theorem dX0_write_25 : decode cX0_write 25 = .ok (.getfield 18, 3) := by decide +kernel
theorem dX0_write_28 : decode cX0_write 28 = .ok (.iload_n 3, 1) := by decide +kernel
theorem dX0_write_29 : decode cX0_write 29 = .ok (.dup2, 1) := by decide +kernel
theorem dX0_write_30 : decode cX0_write 30 = .ok (.iaload, 1) := by decide +kernel
theorem dX0_write_31 : decode cX0_write 31 = .ok (.iconst 1, 1) := by decide +kernel
theorem dX0_write_32 : decode cX0_write 32 = .ok (.iload_n 2, 1) := by decide +kernel
theorem dX0_write_33 : decode cX0_write 33 = .ok (.aload_n 0, 1) := by decide +kernel
theorem dX0_write_34 : decode cX0_write 34 = .ok (.getfield 9, 3) := by decide +kernel
theorem dX0_write_37 : decode cX0_write 37 = .ok (.iload_n 3, 1) := by decide +kernel
theorem dX0_write_38 : decode cX0_write 38 = .ok (.iaload, 1) := by decide +kernel
theorem dX0_write_39 : decode cX0_write 39 = .ok (.ishr, 1) := by decide +kernel
theorem dX0_write_40 : decode cX0_write 40 = .ok (.iconst 1, 1) := by decide +kernel
theorem dX0_write_41 : decode cX0_write 41 = .ok (.iand, 1) := by decide +kernel
theorem dX0_write_42 : decode cX0_write 42 = .ok (.isub, 1) := by decide +kernel
theorem dX0_write_43 : decode cX0_write 43 = .ok (.iadd, 1) := by decide +kernel
theorem dX0_write_44 : decode cX0_write 44 = .ok (.iastore, 1) := by decide +kernel
theorem dX0_write_45 : decode cX0_write 45 = .ok (.iinc 3 1, 3) := by decide +kernel
theorem dX0_write_48 : decode cX0_write 48 = .ok (.goto (-46), 3) := by decide +kernel
theorem dX0_write_51 : decode cX0_write 51 = .ok (.return_, 1) := by decide +kernel
theorem dX0_ofAll_0 : decode cX0_ofAll 0 = .ok (.iconst 0, 1) := by decide +kernel
theorem dX0_ofAll_1 : decode cX0_ofAll 1 = .ok (.istore_n 2, 1) := by decide +kernel
theorem dX0_ofAll_2 : decode cX0_ofAll 2 = .ok (.iconst 0, 1) := by decide +kernel
theorem dX0_ofAll_3 : decode cX0_ofAll 3 = .ok (.istore_n 3, 1) := by decide +kernel
theorem dX0_ofAll_4 : decode cX0_ofAll 4 = .ok (.iload_n 3, 1) := by decide +kernel
theorem dX0_ofAll_5 : decode cX0_ofAll 5 = .ok (.aload_n 0, 1) := by decide +kernel
theorem dX0_ofAll_6 : decode cX0_ofAll 6 = .ok (.getfield 34, 3) := by decide +kernel
theorem dX0_ofAll_9 : decode cX0_ofAll 9 = .ok (.if_icmp .ge 21, 3) := by decide +kernel
theorem dX0_ofAll_12 : decode cX0_ofAll 12 = .ok (.iload_n 3, 1) := by decide +kernel
theorem dX0_ofAll_13 : decode cX0_ofAll 13 = .ok (.aload_n 1, 1) := by decide +kernel
theorem dX0_ofAll_14 : decode cX0_ofAll 14 = .ok (.arraylength, 1) := by decide +kernel
theorem dX0_ofAll_15 : decode cX0_ofAll 15 = .ok (.if_icmp .ge 15, 3) := by decide +kernel
theorem dX0_ofAll_18 : decode cX0_ofAll 18 = .ok (.iload_n 2, 1) := by decide +kernel
theorem dX0_ofAll_19 : decode cX0_ofAll 19 = .ok (.aload_n 1, 1) := by decide +kernel
theorem dX0_ofAll_20 : decode cX0_ofAll 20 = .ok (.iload_n 3, 1) := by decide +kernel
theorem dX0_ofAll_21 : decode cX0_ofAll 21 = .ok (.iaload, 1) := by decide +kernel
theorem dX0_ofAll_22 : decode cX0_ofAll 22 = .ok (.iadd, 1) := by decide +kernel
theorem dX0_ofAll_23 : decode cX0_ofAll 23 = .ok (.istore_n 2, 1) := by decide +kernel
theorem dX0_ofAll_24 : decode cX0_ofAll 24 = .ok (.iinc 3 1, 3) := by decide +kernel
theorem dX0_ofAll_27 : decode cX0_ofAll 27 = .ok (.goto (-23), 3) := by decide +kernel
theorem dX0_ofAll_30 : decode cX0_ofAll 30 = .ok (.iload_n 2, 1) := by decide +kernel
theorem dX0_ofAll_31 : decode cX0_ofAll 31 = .ok (.ireturn, 1) := by decide +kernel
theorem dX0_tell_0 : decode cX0_tell 0 = .ok (.aload_n 0, 1) := by decide +kernel
theorem dX0_tell_1 : decode cX0_tell 1 = .ok (.getfield 40, 3) := by decide +kernel
theorem dX0_tell_4 : decode cX0_tell 4 = .ok (.bipush 8, 2) := by decide +kernel
theorem dX0_tell_6 : decode cX0_tell 6 = .ok (.if_icmp .lt 6, 3) := by decide +kernel
theorem dX0_tell_9 : decode cX0_tell 9 = .ok (.bipush (-104), 2) := by decide +kernel
theorem dX0_tell_11 : decode cX0_tell 11 = .ok (.ireturn, 1) := by decide +kernel
theorem dX0_tell_12 : decode cX0_tell 12 = .ok (.iload_n 3, 1) := by decide +kernel
theorem dX0_tell_13 : decode cX0_tell 13 = .ok (.ifCond .eq 18, 3) := by decide +kernel
theorem dX0_tell_16 : decode cX0_tell 16 = .ok (.aload_n 0, 1) := by decide +kernel
theorem dX0_tell_17 : decode cX0_tell 17 = .ok (.getfield 21, 3) := by decide +kernel
theorem dX0_tell_20 : decode cX0_tell 20 = .ok (.iload_n 1, 1) := by decide +kernel
theorem dX0_tell_21 : decode cX0_tell 21 = .ok (.dup2, 1) := by decide +kernel
theorem dX0_tell_22 : decode cX0_tell 22 = .ok (.iaload, 1) := by decide +kernel
theorem dX0_tell_23 : decode cX0_tell 23 = .ok (.iconst 1, 1) := by decide +kernel
theorem dX0_tell_24 : decode cX0_tell 24 = .ok (.iload_n 2, 1) := by decide +kernel
theorem dX0_tell_25 : decode cX0_tell 25 = .ok (.ishl, 1) := by decide +kernel
theorem dX0_tell_26 : decode cX0_tell 26 = .ok (.ior, 1) := by decide +kernel
theorem dX0_tell_27 : decode cX0_tell 27 = .ok (.iastore, 1) := by decide +kernel
theorem dX0_tell_28 : decode cX0_tell 28 = .ok (.goto 15, 3) := by decide +kernel
theorem dX0_tell_31 : decode cX0_tell 31 = .ok (.aload_n 0, 1) := by decide +kernel
theorem dX0_tell_32 : decode cX0_tell 32 = .ok (.getfield 24, 3) := by decide +kernel
theorem dX0_tell_35 : decode cX0_tell 35 = .ok (.iload_n 1, 1) := by decide +kernel
theorem dX0_tell_36 : decode cX0_tell 36 = .ok (.dup2, 1) := by decide +kernel
theorem dX0_tell_37 : decode cX0_tell 37 = .ok (.iaload, 1) := by decide +kernel
theorem dX0_tell_38 : decode cX0_tell 38 = .ok (.iconst 1, 1) := by decide +kernel
theorem dX0_tell_39 : decode cX0_tell 39 = .ok (.iload_n 2, 1) := by decide +kernel
theorem dX0_tell_40 : decode cX0_tell 40 = .ok (.ishl, 1) := by decide +kernel
theorem dX0_tell_41 : decode cX0_tell 41 = .ok (.ior, 1) := by decide +kernel
theorem dX0_tell_42 : decode cX0_tell 42 = .ok (.iastore, 1) := by decide +kernel
theorem dX0_tell_43 : decode cX0_tell 43 = .ok (.aload_n 0, 1) := by decide +kernel
theorem dX0_tell_44 : decode cX0_tell 44 = .ok (.dup, 1) := by decide +kernel
theorem dX0_tell_45 : decode cX0_tell 45 = .ok (.getfield 40, 3) := by decide +kernel
theorem dX0_tell_48 : decode cX0_tell 48 = .ok (.iconst 1, 1) := by decide +kernel
theorem dX0_tell_49 : decode cX0_tell 49 = .ok (.iadd, 1) := by decide +kernel
theorem dX0_tell_50 : decode cX0_tell 50 = .ok (.putfield 40, 3) := by decide +kernel
theorem dX0_tell_53 : decode cX0_tell 53 = .ok (.aload_n 0, 1) := by decide +kernel
theorem dX0_tell_54 : decode cX0_tell 54 = .ok (.getfield 40, 3) := by decide +kernel
theorem dX0_tell_57 : decode cX0_tell 57 = .ok (.ireturn, 1) := by decide +kernel
theorem dX0_emptyBook_0 : decode cX0_emptyBook 0 = .ok (.aload_n 0, 1) := by decide +kernel
theorem dX0_emptyBook_1 : decode cX0_emptyBook 1 = .ok (.iconst 0, 1) := by decide +kernel
theorem dX0_emptyBook_2 : decode cX0_emptyBook 2 = .ok (.putfield 40, 3) := by decide +kernel
theorem dX0_emptyBook_5 : decode cX0_emptyBook 5 = .ok (.iconst 0, 1) := by decide +kernel
theorem dX0_emptyBook_6 : decode cX0_emptyBook 6 = .ok (.istore_n 1, 1) := by decide +kernel
theorem dX0_emptyBook_7 : decode cX0_emptyBook 7 = .ok (.iload_n 1, 1) := by decide +kernel
theorem dX0_emptyBook_8 : decode cX0_emptyBook 8 = .ok (.bipush 6, 2) := by decide +kernel
theorem dX0_emptyBook_10 : decode cX0_emptyBook 10 = .ok (.if_icmp .gt 23, 3) := by decide +kernel
theorem dX0_emptyBook_13 : decode cX0_emptyBook 13 = .ok (.aload_n 0, 1) := by decide +kernel
theorem dX0_emptyBook_14 : decode cX0_emptyBook 14 = .ok (.getfield 21, 3) := by decide +kernel
theorem dX0_emptyBook_17 : decode cX0_emptyBook 17 = .ok (.iload_n 1, 1) := by decide +kernel
theorem dX0_emptyBook_18 : decode cX0_emptyBook 18 = .ok (.iconst 0, 1) := by decide +kernel
theorem dX0_emptyBook_19 : decode cX0_emptyBook 19 = .ok (.iastore, 1) := by decide +kernel
theorem dX0_emptyBook_20 : decode cX0_emptyBook 20 = .ok (.aload_n 0, 1) := by decide +kernel
theorem dX0_emptyBook_21 : decode cX0_emptyBook 21 = .ok (.getfield 24, 3) := by decide +kernel
theorem dX0_emptyBook_24 : decode cX0_emptyBook 24 = .ok (.iload_n 1, 1) := by decide +kernel
theorem dX0_emptyBook_25 : decode cX0_emptyBook 25 = .ok (.iconst 0, 1) := by decide +kernel
theorem dX0_emptyBook_26 : decode cX0_emptyBook 26 = .ok (.iastore, 1) := by decide +kernel
theorem dX0_emptyBook_27 : decode cX0_emptyBook 27 = .ok (.iinc 1 1, 3) := by decide +kernel
theorem dX0_emptyBook_30 : decode cX0_emptyBook 30 = .ok (.goto (-23), 3) := by decide +kernel
theorem dX0_emptyBook_33 : decode cX0_emptyBook 33 = .ok (.return_, 1) := by decide +kernel
theorem dX0_bookAgrees_0 : decode cX0_bookAgrees 0 = .ok (.iload_n 1, 1) := by decide +kernel
theorem dX0_bookAgrees_1 : decode cX0_bookAgrees 1 = .ok (.ifCond .lt 9, 3) := by decide +kernel
theorem dX0_bookAgrees_4 : decode cX0_bookAgrees 4 = .ok (.iload_n 1, 1) := by decide +kernel
theorem dX0_bookAgrees_5 : decode cX0_bookAgrees 5 = .ok (.bipush 6, 2) := by decide +kernel
theorem dX0_bookAgrees_7 : decode cX0_bookAgrees 7 = .ok (.if_icmp .le 5, 3) := by decide +kernel
theorem dX0_bookAgrees_10 : decode cX0_bookAgrees 10 = .ok (.iconst 1, 1) := by decide +kernel
theorem dX0_bookAgrees_11 : decode cX0_bookAgrees 11 = .ok (.ireturn, 1) := by decide +kernel
theorem dX0_bookAgrees_12 : decode cX0_bookAgrees 12 = .ok (.aload_n 0, 1) := by decide +kernel
theorem dX0_bookAgrees_13 : decode cX0_bookAgrees 13 = .ok (.getfield 21, 3) := by decide +kernel
theorem dX0_bookAgrees_16 : decode cX0_bookAgrees 16 = .ok (.iload_n 1, 1) := by decide +kernel
theorem dX0_bookAgrees_17 : decode cX0_bookAgrees 17 = .ok (.iaload, 1) := by decide +kernel
theorem dX0_bookAgrees_18 : decode cX0_bookAgrees 18 = .ok (.iload_n 2, 1) := by decide +kernel
theorem dX0_bookAgrees_19 : decode cX0_bookAgrees 19 = .ok (.iconst (-1), 1) := by decide +kernel
theorem dX0_bookAgrees_20 : decode cX0_bookAgrees 20 = .ok (.ixor, 1) := by decide +kernel
theorem dX0_bookAgrees_21 : decode cX0_bookAgrees 21 = .ok (.iand, 1) := by decide +kernel
theorem dX0_bookAgrees_22 : decode cX0_bookAgrees 22 = .ok (.ifCond .ne 18, 3) := by decide +kernel
theorem dX0_bookAgrees_25 : decode cX0_bookAgrees 25 = .ok (.aload_n 0, 1) := by decide +kernel
theorem dX0_bookAgrees_26 : decode cX0_bookAgrees 26 = .ok (.getfield 24, 3) := by decide +kernel
theorem dX0_bookAgrees_29 : decode cX0_bookAgrees 29 = .ok (.iload_n 1, 1) := by decide +kernel
theorem dX0_bookAgrees_30 : decode cX0_bookAgrees 30 = .ok (.iaload, 1) := by decide +kernel
theorem dX0_bookAgrees_31 : decode cX0_bookAgrees 31 = .ok (.iload_n 2, 1) := by decide +kernel
theorem dX0_bookAgrees_32 : decode cX0_bookAgrees 32 = .ok (.iand, 1) := by decide +kernel
theorem dX0_bookAgrees_33 : decode cX0_bookAgrees 33 = .ok (.ifCond .ne 7, 3) := by decide +kernel
theorem dX0_bookAgrees_36 : decode cX0_bookAgrees 36 = .ok (.iconst 1, 1) := by decide +kernel
theorem dX0_bookAgrees_37 : decode cX0_bookAgrees 37 = .ok (.goto 4, 3) := by decide +kernel
theorem dX0_bookAgrees_40 : decode cX0_bookAgrees 40 = .ok (.iconst 0, 1) := by decide +kernel
theorem dX0_bookAgrees_41 : decode cX0_bookAgrees 41 = .ok (.ireturn, 1) := by decide +kernel
theorem dX1_init_0 : decode cX1_init 0 = .ok (.aload_n 0, 1) := by decide +kernel
theorem dX1_init_1 : decode cX1_init 1 = .ok (.invokespecial 3, 3) := by decide +kernel
theorem dX1_init_4 : decode cX1_init 4 = .ok (.aload_n 0, 1) := by decide +kernel
theorem dX1_init_5 : decode cX1_init 5 = .ok (.bipush 6, 2) := by decide +kernel
theorem dX1_init_7 : decode cX1_init 7 = .ok (.newarray .int, 2) := by decide +kernel
theorem dX1_init_9 : decode cX1_init 9 = .ok (.putfield 9, 3) := by decide +kernel
theorem dX1_init_12 : decode cX1_init 12 = .ok (.aload_n 0, 1) := by decide +kernel
theorem dX1_init_13 : decode cX1_init 13 = .ok (.bipush 6, 2) := by decide +kernel
theorem dX1_init_15 : decode cX1_init 15 = .ok (.newarray .int, 2) := by decide +kernel
theorem dX1_init_17 : decode cX1_init 17 = .ok (.putfield 15, 3) := by decide +kernel
theorem dX1_init_20 : decode cX1_init 20 = .ok (.aload_n 0, 1) := by decide +kernel
theorem dX1_init_21 : decode cX1_init 21 = .ok (.bipush 6, 2) := by decide +kernel
theorem dX1_init_23 : decode cX1_init 23 = .ok (.newarray .int, 2) := by decide +kernel
theorem dX1_init_25 : decode cX1_init 25 = .ok (.putfield 18, 3) := by decide +kernel
theorem dX1_init_28 : decode cX1_init 28 = .ok (.return_, 1) := by decide +kernel
set_option maxRecDepth 20000 in
theorem ggX1_read_J0_indexOf_0f7a4 : GoodIn wsX1_read wsJ0_indexOf_0f7a4 := goodIn_r _ [15, 16, 17, 18, 14, 19, 20, 21, 22, 23, 24, 25, 26, 27, 28, 29, 30, 31, 32, 33, 34, 35, 36, 37, 38, 39, 40, 4, 41, 42, 3, 5, 43, 44, 45, 46, 47, 48, 49, 50, 51, 52, 53, 54, 55, 56, 57, 58, 59, 60, 61, 62, 63, 64, 65, 66, 67, 68, 69, 70, 71, 72, 73, 74, 75, 76, 77, 78, 79, 80, 81, 82, 83, 84, 85, 86, 87, 88, 89, 90, 91, 92, 93, 94, 95, 96] (by decide +kernel) (by decide +kernel)
set_option maxRecDepth 20000 in
theorem gX1_read_J0_indexOf_0f7a4 : GoodIn wsX1_read (wsV RX1 41 RJ0 yJ0_indexOf_0f7a4 wsJ0_indexOf_0f7a4) := goodIn_app (goodIn_of _ (by decide +kernel)) ggX1_read_J0_indexOf_0f7a4
set_option maxRecDepth 20000 in
theorem ggX1_read_X1_seenBy : GoodIn wsX1_read wsX1_seenBy := goodIn_r _ [100] (by decide +kernel) (by decide +kernel)
set_option maxRecDepth 20000 in
theorem gX1_read_X1_seenBy : GoodIn wsX1_read (va_wsS RX1 47 yX1_seenBy wsX1_seenBy) := goodIn_app (goodIn_of _ (by decide +kernel)) ggX1_read_X1_seenBy
set_option maxRecDepth 20000 in
theorem ggX1_read_X1_allOnes : GoodIn wsX1_read wsX1_allOnes := goodIn_r _ [104, 6, 107, 108, 109, 110] (by decide +kernel) (by decide +kernel)
set_option maxRecDepth 20000 in
theorem gX1_read_X1_allOnes : GoodIn wsX1_read (wsV RX1 50 RX1 yX1_allOnes wsX1_allOnes) := goodIn_app (goodIn_of _ (by decide +kernel)) ggX1_read_X1_allOnes
theorem dX1_read_0 : decode cX1_read 0 = .ok (.aload_n 0, 1) := by decide +kernel
theorem dX1_read_1 : decode cX1_read 1 = .ok (.bipush 6, 2) := by decide +kernel
theorem dX1_read_3 : decode cX1_read 3 = .ok (.aload_n 1, 1) := by decide +kernel
theorem dX1_read_4 : decode cX1_read 4 = .ok (.getfield 21, 3) := by decide +kernel
theorem dX1_read_7 : decode cX1_read 7 = .ok (.iconst 1, 1) := by decide +kernel
theorem dX1_read_8 : decode cX1_read 8 = .ok (.iadd, 1) := by decide +kernel
theorem dX1_read_9 : decode cX1_read 9 = .ok (.iconst 3, 1) := by decide +kernel
theorem dX1_read_10 : decode cX1_read 10 = .ok (.idiv, 1) := by decide +kernel
theorem dX1_read_11 : decode cX1_read 11 = .ok (.invokestatic 27, 3) := by decide +kernel
theorem dX1_read_14 : decode cX1_read 14 = .ok (.putfield 33, 3) := by decide +kernel
theorem dX1_read_17 : decode cX1_read 17 = .ok (.iconst 0, 1) := by decide +kernel
theorem dX1_read_18 : decode cX1_read 18 = .ok (.istore_n 2, 1) := by decide +kernel
theorem dX1_read_19 : decode cX1_read 19 = .ok (.iload_n 2, 1) := by decide +kernel
theorem dX1_read_20 : decode cX1_read 20 = .ok (.aload_n 0, 1) := by decide +kernel
theorem dX1_read_21 : decode cX1_read 21 = .ok (.getfield 33, 3) := by decide +kernel
theorem dX1_read_24 : decode cX1_read 24 = .ok (.if_icmp .ge 94, 3) := by decide +kernel
theorem dX1_read_27 : decode cX1_read 27 = .ok (.iload_n 2, 1) := by decide +kernel
theorem dX1_read_28 : decode cX1_read 28 = .ok (.iconst 3, 1) := by decide +kernel
theorem dX1_read_29 : decode cX1_read 29 = .ok (.imul, 1) := by decide +kernel
theorem dX1_read_30 : decode cX1_read 30 = .ok (.istore_n 3, 1) := by decide +kernel
theorem dX1_read_31 : decode cX1_read 31 = .ok (.aload_n 1, 1) := by decide +kernel
theorem dX1_read_32 : decode cX1_read 32 = .ok (.getfield 36, 3) := by decide +kernel
theorem dX1_read_35 : decode cX1_read 35 = .ok (.iload_n 3, 1) := by decide +kernel
theorem dX1_read_36 : decode cX1_read 36 = .ok (.iconst 1, 1) := by decide +kernel
theorem dX1_read_37 : decode cX1_read 37 = .ok (.iadd, 1) := by decide +kernel
theorem dX1_read_38 : decode cX1_read 38 = .ok (.iaload, 1) := by decide +kernel
theorem dX1_read_39 : decode cX1_read 39 = .ok (.bipush 48, 2) := by decide +kernel
theorem dX1_read_41 : decode cX1_read 41 = .ok (.isub, 1) := by decide +kernel
theorem dX1_read_42 : decode cX1_read 42 = .ok (.istore 4, 2) := by decide +kernel
theorem dX1_read_44 : decode cX1_read 44 = .ok (.aload_n 0, 1) := by decide +kernel
theorem dX1_read_45 : decode cX1_read 45 = .ok (.getfield 9, 3) := by decide +kernel
theorem dX1_read_48 : decode cX1_read 48 = .ok (.iload_n 2, 1) := by decide +kernel
theorem dX1_read_49 : decode cX1_read 49 = .ok (.ldc 39, 2) := by decide +kernel
theorem dX1_read_51 : decode cX1_read 51 = .ok (.aload_n 1, 1) := by decide +kernel
theorem dX1_read_52 : decode cX1_read 52 = .ok (.getfield 36, 3) := by decide +kernel
theorem dX1_read_55 : decode cX1_read 55 = .ok (.iload_n 3, 1) := by decide +kernel
theorem dX1_read_56 : decode cX1_read 56 = .ok (.iaload, 1) := by decide +kernel
theorem dX1_read_57 : decode cX1_read 57 = .ok (.i2c, 1) := by decide +kernel
theorem dX1_read_58 : decode cX1_read 58 = .ok (.invokevirtual 41, 3) := by decide +kernel
theorem dX1_read_61 : decode cX1_read 61 = .ok (.iastore, 1) := by decide +kernel
theorem dX1_read_62 : decode cX1_read 62 = .ok (.aload_n 0, 1) := by decide +kernel
theorem dX1_read_63 : decode cX1_read 63 = .ok (.getfield 15, 3) := by decide +kernel
theorem dX1_read_66 : decode cX1_read 66 = .ok (.iload_n 2, 1) := by decide +kernel
theorem dX1_read_67 : decode cX1_read 67 = .ok (.aload_n 0, 1) := by decide +kernel
theorem dX1_read_68 : decode cX1_read 68 = .ok (.getfield 9, 3) := by decide +kernel
theorem dX1_read_71 : decode cX1_read 71 = .ok (.iload_n 2, 1) := by decide +kernel
theorem dX1_read_72 : decode cX1_read 72 = .ok (.iaload, 1) := by decide +kernel
theorem dX1_read_73 : decode cX1_read 73 = .ok (.iconst 3, 1) := by decide +kernel
theorem dX1_read_74 : decode cX1_read 74 = .ok (.if_icmp .ne 12, 3) := by decide +kernel
theorem dX1_read_77 : decode cX1_read 77 = .ok (.iload 4, 2) := by decide +kernel
theorem dX1_read_79 : decode cX1_read 79 = .ok (.iconst 1, 1) := by decide +kernel
theorem dX1_read_80 : decode cX1_read 80 = .ok (.iadd, 1) := by decide +kernel
theorem dX1_read_81 : decode cX1_read 81 = .ok (.iconst 2, 1) := by decide +kernel
theorem dX1_read_82 : decode cX1_read 82 = .ok (.idiv, 1) := by decide +kernel
theorem dX1_read_83 : decode cX1_read 83 = .ok (.goto 5, 3) := by decide +kernel
theorem dX1_read_86 : decode cX1_read 86 = .ok (.iload 4, 2) := by decide +kernel
theorem dX1_read_88 : decode cX1_read 88 = .ok (.iastore, 1) := by decide +kernel
theorem dX1_read_89 : decode cX1_read 89 = .ok (.aload_n 0, 1) := by decide +kernel
theorem dX1_read_90 : decode cX1_read 90 = .ok (.getfield 18, 3) := by decide +kernel
theorem dX1_read_93 : decode cX1_read 93 = .ok (.iload_n 2, 1) := by decide +kernel
theorem dX1_read_94 : decode cX1_read 94 = .ok (.aload_n 0, 1) := by decide +kernel
theorem dX1_read_95 : decode cX1_read 95 = .ok (.getfield 9, 3) := by decide +kernel
theorem dX1_read_98 : decode cX1_read 98 = .ok (.iload_n 2, 1) := by decide +kernel
theorem dX1_read_99 : decode cX1_read 99 = .ok (.iaload, 1) := by decide +kernel
theorem dX1_read_100 : decode cX1_read 100 = .ok (.iconst 1, 1) := by decide +kernel
theorem dX1_read_101 : decode cX1_read 101 = .ok (.iload_n 2, 1) := by decide +kernel
theorem dX1_read_102 : decode cX1_read 102 = .ok (.ishl, 1) := by decide +kernel
theorem dX1_read_103 : decode cX1_read 103 = .ok (.invokestatic 47, 3) := by decide +kernel
theorem dX1_read_106 : decode cX1_read 106 = .ok (.aload_n 0, 1) := by decide +kernel
theorem dX1_read_107 : decode cX1_read 107 = .ok (.invokevirtual 50, 3) := by decide +kernel
theorem dX1_read_110 : decode cX1_read 110 = .ok (.iand, 1) := by decide +kernel
theorem dX1_read_111 : decode cX1_read 111 = .ok (.iastore, 1) := by decide +kernel
theorem dX1_read_112 : decode cX1_read 112 = .ok (.iinc 2 1, 3) := by decide +kernel
theorem dX1_read_115 : decode cX1_read 115 = .ok (.goto (-96), 3) := by decide +kernel
theorem dX1_read_118 : decode cX1_read 118 = .ok (.return_, 1) := by decide +kernel
theorem dX1_seenBy_0 : decode cX1_seenBy 0 = .ok (.iload_n 0, 1) := by decide +kernel
theorem dX1_seenBy_1 : decode cX1_seenBy 1 = .ok (.tableswitch 49 1 4 #[31, 41, 49, 47], 31) := by decide +kernel
theorem dX1_seenBy_32 : decode cX1_seenBy 32 = .ok (.iload_n 1, 1) := by decide +kernel
theorem dX1_seenBy_33 : decode cX1_seenBy 33 = .ok (.iconst 1, 1) := by decide +kernel
theorem dX1_seenBy_34 : decode cX1_seenBy 34 = .ok (.ishr, 1) := by decide +kernel
theorem dX1_seenBy_35 : decode cX1_seenBy 35 = .ok (.iload_n 1, 1) := by decide +kernel
theorem dX1_seenBy_36 : decode cX1_seenBy 36 = .ok (.ior, 1) := by decide +kernel
theorem dX1_seenBy_37 : decode cX1_seenBy 37 = .ok (.iload_n 1, 1) := by decide +kernel
theorem dX1_seenBy_38 : decode cX1_seenBy 38 = .ok (.iconst 1, 1) := by decide +kernel
theorem dX1_seenBy_39 : decode cX1_seenBy 39 = .ok (.ishl, 1) := by decide +kernel
theorem dX1_seenBy_40 : decode cX1_seenBy 40 = .ok (.ior, 1) := by decide +kernel
theorem dX1_seenBy_41 : decode cX1_seenBy 41 = .ok (.ireturn, 1) := by decide +kernel
theorem dX1_seenBy_42 : decode cX1_seenBy 42 = .ok (.iload_n 1, 1) := by decide +kernel
theorem dX1_seenBy_43 : decode cX1_seenBy 43 = .ok (.iload_n 1, 1) := by decide +kernel
theorem dX1_seenBy_44 : decode cX1_seenBy 44 = .ok (.iconst 1, 1) := by decide +kernel
theorem dX1_seenBy_45 : decode cX1_seenBy 45 = .ok (.ishl, 1) := by decide +kernel
theorem dX1_seenBy_46 : decode cX1_seenBy 46 = .ok (.ior, 1) := by decide +kernel
theorem dX1_seenBy_47 : decode cX1_seenBy 47 = .ok (.ireturn, 1) := by decide +kernel
theorem dX1_seenBy_48 : decode cX1_seenBy 48 = .ok (.iconst (-1), 1) := by decide +kernel
theorem dX1_seenBy_49 : decode cX1_seenBy 49 = .ok (.ireturn, 1) := by decide +kernel
theorem dX1_seenBy_50 : decode cX1_seenBy 50 = .ok (.iload_n 1, 1) := by decide +kernel
theorem dX1_seenBy_51 : decode cX1_seenBy 51 = .ok (.ireturn, 1) := by decide +kernel
theorem dX1_isOf_0 : decode cX1_isOf 0 = .ok (.iload_n 2, 1) := by decide +kernel
theorem dX1_isOf_1 : decode cX1_isOf 1 = .ok (.ifCond .eq 28, 3) := by decide +kernel
theorem dX1_isOf_4 : decode cX1_isOf 4 = .ok (.iload_n 2, 1) := by decide +kernel
theorem dX1_isOf_5 : decode cX1_isOf 5 = .ok (.aload_n 0, 1) := by decide +kernel
theorem dX1_isOf_6 : decode cX1_isOf 6 = .ok (.getfield 9, 3) := by decide +kernel
theorem dX1_isOf_9 : decode cX1_isOf 9 = .ok (.iload_n 1, 1) := by decide +kernel
theorem dX1_isOf_10 : decode cX1_isOf 10 = .ok (.iaload, 1) := by decide +kernel
theorem dX1_isOf_11 : decode cX1_isOf 11 = .ok (.if_icmp .eq 18, 3) := by decide +kernel
theorem dX1_isOf_14 : decode cX1_isOf 14 = .ok (.iload_n 2, 1) := by decide +kernel
theorem dX1_isOf_15 : decode cX1_isOf 15 = .ok (.iconst 1, 1) := by decide +kernel
theorem dX1_isOf_16 : decode cX1_isOf 16 = .ok (.if_icmp .ne 17, 3) := by decide +kernel
theorem dX1_isOf_19 : decode cX1_isOf 19 = .ok (.aload_n 0, 1) := by decide +kernel
theorem dX1_isOf_20 : decode cX1_isOf 20 = .ok (.getfield 9, 3) := by decide +kernel
theorem dX1_isOf_23 : decode cX1_isOf 23 = .ok (.iload_n 1, 1) := by decide +kernel
theorem dX1_isOf_24 : decode cX1_isOf 24 = .ok (.iaload, 1) := by decide +kernel
theorem dX1_isOf_25 : decode cX1_isOf 25 = .ok (.iconst 4, 1) := by decide +kernel
theorem dX1_isOf_26 : decode cX1_isOf 26 = .ok (.if_icmp .ne 7, 3) := by decide +kernel
theorem dX1_isOf_29 : decode cX1_isOf 29 = .ok (.iconst 1, 1) := by decide +kernel
theorem dX1_isOf_30 : decode cX1_isOf 30 = .ok (.goto 4, 3) := by decide +kernel
theorem dX1_isOf_33 : decode cX1_isOf 33 = .ok (.iconst 0, 1) := by decide +kernel
theorem dX1_isOf_34 : decode cX1_isOf 34 = .ok (.ireturn, 1) := by decide +kernel
theorem dX1_allOnes_0 : decode cX1_allOnes 0 = .ok (.iconst 1, 1) := by decide +kernel
theorem dX1_allOnes_1 : decode cX1_allOnes 1 = .ok (.aload_n 0, 1) := by decide +kernel
theorem dX1_allOnes_2 : decode cX1_allOnes 2 = .ok (.getfield 33, 3) := by decide +kernel
theorem dX1_allOnes_5 : decode cX1_allOnes 5 = .ok (.ishl, 1) := by decide +kernel
theorem dX1_allOnes_6 : decode cX1_allOnes 6 = .ok (.iconst 1, 1) := by decide +kernel
theorem dX1_allOnes_7 : decode cX1_allOnes 7 = .ok (.isub, 1) := by decide +kernel
theorem dX1_allOnes_8 : decode cX1_allOnes 8 = .ok (.ireturn, 1) := by decide +kernel
theorem dX1_left_0 : decode cX1_left 0 = .ok (.iload_n 0, 1) := by decide +kernel
theorem dX1_left_1 : decode cX1_left 1 = .ok (.iconst 4, 1) := by decide +kernel
theorem dX1_left_2 : decode cX1_left 2 = .ok (.iload_n 1, 1) := by decide +kernel
theorem dX1_left_3 : decode cX1_left 3 = .ok (.imul, 1) := by decide +kernel
theorem dX1_left_4 : decode cX1_left 4 = .ok (.ishr, 1) := by decide +kernel
theorem dX1_left_5 : decode cX1_left 5 = .ok (.bipush 15, 2) := by decide +kernel
theorem dX1_left_7 : decode cX1_left 7 = .ok (.iand, 1) := by decide +kernel
theorem dX1_left_8 : decode cX1_left 8 = .ok (.ireturn, 1) := by decide +kernel
set_option maxRecDepth 20000 in
theorem ggX1_litOnes_X1_left : GoodIn wsX1_litOnes wsX1_left := goodIn_r _ [5] (by decide +kernel) (by decide +kernel)
set_option maxRecDepth 20000 in
theorem gX1_litOnes_X1_left : GoodIn wsX1_litOnes (va_wsS RX1 54 yX1_left wsX1_left) := goodIn_app (goodIn_of _ (by decide +kernel)) ggX1_litOnes_X1_left
theorem dX1_litOnes_0 : decode cX1_litOnes 0 = .ok (.iconst 0, 1) := by decide +kernel
theorem dX1_litOnes_1 : decode cX1_litOnes 1 = .ok (.istore_n 2, 1) := by decide +kernel
theorem dX1_litOnes_2 : decode cX1_litOnes 2 = .ok (.iconst 0, 1) := by decide +kernel
theorem dX1_litOnes_3 : decode cX1_litOnes 3 = .ok (.istore_n 3, 1) := by decide +kernel
theorem dX1_litOnes_4 : decode cX1_litOnes 4 = .ok (.iload_n 3, 1) := by decide +kernel
theorem dX1_litOnes_5 : decode cX1_litOnes 5 = .ok (.aload_n 0, 1) := by decide +kernel
theorem dX1_litOnes_6 : decode cX1_litOnes 6 = .ok (.getfield 33, 3) := by decide +kernel
theorem dX1_litOnes_9 : decode cX1_litOnes 9 = .ok (.if_icmp .ge 27, 3) := by decide +kernel
theorem dX1_litOnes_12 : decode cX1_litOnes 12 = .ok (.iload_n 2, 1) := by decide +kernel
theorem dX1_litOnes_13 : decode cX1_litOnes 13 = .ok (.iload_n 1, 1) := by decide +kernel
theorem dX1_litOnes_14 : decode cX1_litOnes 14 = .ok (.iload_n 3, 1) := by decide +kernel
theorem dX1_litOnes_15 : decode cX1_litOnes 15 = .ok (.invokestatic 54, 3) := by decide +kernel
theorem dX1_litOnes_18 : decode cX1_litOnes 18 = .ok (.ifCond .le 9, 3) := by decide +kernel
theorem dX1_litOnes_21 : decode cX1_litOnes 21 = .ok (.iconst 1, 1) := by decide +kernel
theorem dX1_litOnes_22 : decode cX1_litOnes 22 = .ok (.iload_n 3, 1) := by decide +kernel
theorem dX1_litOnes_23 : decode cX1_litOnes 23 = .ok (.ishl, 1) := by decide +kernel
theorem dX1_litOnes_24 : decode cX1_litOnes 24 = .ok (.goto 4, 3) := by decide +kernel
theorem dX1_litOnes_27 : decode cX1_litOnes 27 = .ok (.iconst 0, 1) := by decide +kernel
theorem dX1_litOnes_28 : decode cX1_litOnes 28 = .ok (.ior, 1) := by decide +kernel
theorem dX1_litOnes_29 : decode cX1_litOnes 29 = .ok (.istore_n 2, 1) := by decide +kernel
theorem dX1_litOnes_30 : decode cX1_litOnes 30 = .ok (.iinc 3 1, 3) := by decide +kernel
theorem dX1_litOnes_33 : decode cX1_litOnes 33 = .ok (.goto (-29), 3) := by decide +kernel
theorem dX1_litOnes_36 : decode cX1_litOnes 36 = .ok (.iload_n 2, 1) := by decide +kernel
theorem dX1_litOnes_37 : decode cX1_litOnes 37 = .ok (.ireturn, 1) := by decide +kernel
set_option maxRecDepth 20000 in
theorem ggX1_after_X1_left : GoodIn wsX1_after wsX1_left := goodIn_r _ [11] (by decide +kernel) (by decide +kernel)
set_option maxRecDepth 20000 in
theorem gX1_after_X1_left : GoodIn wsX1_after (va_wsS RX1 54 yX1_left wsX1_left) := goodIn_app (goodIn_of _ (by decide +kernel)) ggX1_after_X1_left
theorem dX1_after_0 : decode cX1_after 0 = .ok (.iconst 0, 1) := by decide +kernel
theorem dX1_after_1 : decode cX1_after 1 = .ok (.istore_n 3, 1) := by decide +kernel
theorem dX1_after_2 : decode cX1_after 2 = .ok (.iconst 0, 1) := by decide +kernel
theorem dX1_after_3 : decode cX1_after 3 = .ok (.istore 4, 2) := by decide +kernel
theorem dX1_after_5 : decode cX1_after 5 = .ok (.iload 4, 2) := by decide +kernel
theorem dX1_after_7 : decode cX1_after 7 = .ok (.aload_n 0, 1) := by decide +kernel
theorem dX1_after_8 : decode cX1_after 8 = .ok (.getfield 33, 3) := by decide +kernel
theorem dX1_after_11 : decode cX1_after 11 = .ok (.if_icmp .ge 55, 3) := by decide +kernel
theorem dX1_after_14 : decode cX1_after 14 = .ok (.aload_n 0, 1) := by decide +kernel
theorem dX1_after_15 : decode cX1_after 15 = .ok (.getfield 18, 3) := by decide +kernel
theorem dX1_after_18 : decode cX1_after 18 = .ok (.iload 4, 2) := by decide +kernel
theorem dX1_after_20 : decode cX1_after 20 = .ok (.iaload, 1) := by decide +kernel
theorem dX1_after_21 : decode cX1_after 21 = .ok (.iload_n 2, 1) := by decide +kernel
theorem dX1_after_22 : decode cX1_after 22 = .ok (.iand, 1) := by decide +kernel
theorem dX1_after_23 : decode cX1_after 23 = .ok (.ifCond .eq 13, 3) := by decide +kernel
theorem dX1_after_26 : decode cX1_after 26 = .ok (.aload_n 0, 1) := by decide +kernel
theorem dX1_after_27 : decode cX1_after 27 = .ok (.getfield 15, 3) := by decide +kernel
theorem dX1_after_30 : decode cX1_after 30 = .ok (.iload 4, 2) := by decide +kernel
theorem dX1_after_32 : decode cX1_after 32 = .ok (.iaload, 1) := by decide +kernel
theorem dX1_after_33 : decode cX1_after 33 = .ok (.goto 15, 3) := by decide +kernel
theorem dX1_after_36 : decode cX1_after 36 = .ok (.iconst 0, 1) := by decide +kernel
theorem dX1_after_37 : decode cX1_after 37 = .ok (.iload_n 1, 1) := by decide +kernel
theorem dX1_after_38 : decode cX1_after 38 = .ok (.iload 4, 2) := by decide +kernel
theorem dX1_after_40 : decode cX1_after 40 = .ok (.invokestatic 54, 3) := by decide +kernel
theorem dX1_after_43 : decode cX1_after 43 = .ok (.iconst 1, 1) := by decide +kernel
theorem dX1_after_44 : decode cX1_after 44 = .ok (.isub, 1) := by decide +kernel
theorem dX1_after_45 : decode cX1_after 45 = .ok (.invokestatic 57, 3) := by decide +kernel
theorem dX1_after_48 : decode cX1_after 48 = .ok (.istore 5, 2) := by decide +kernel
theorem dX1_after_50 : decode cX1_after 50 = .ok (.iload_n 3, 1) := by decide +kernel
theorem dX1_after_51 : decode cX1_after 51 = .ok (.iload 5, 2) := by decide +kernel
theorem dX1_after_53 : decode cX1_after 53 = .ok (.iconst 4, 1) := by decide +kernel
theorem dX1_after_54 : decode cX1_after 54 = .ok (.iload 4, 2) := by decide +kernel
theorem dX1_after_56 : decode cX1_after 56 = .ok (.imul, 1) := by decide +kernel
theorem dX1_after_57 : decode cX1_after 57 = .ok (.ishl, 1) := by decide +kernel
theorem dX1_after_58 : decode cX1_after 58 = .ok (.ior, 1) := by decide +kernel
theorem dX1_after_59 : decode cX1_after 59 = .ok (.istore_n 3, 1) := by decide +kernel
theorem dX1_after_60 : decode cX1_after 60 = .ok (.iinc 4 1, 3) := by decide +kernel
theorem dX1_after_63 : decode cX1_after 63 = .ok (.goto (-58), 3) := by decide +kernel
theorem dX1_after_66 : decode cX1_after 66 = .ok (.iload_n 3, 1) := by decide +kernel
theorem dX1_after_67 : decode cX1_after 67 = .ok (.ireturn, 1) := by decide +kernel
theorem dX1_seeing_0 : decode cX1_seeing 0 = .ok (.iconst 0, 1) := by decide +kernel
theorem dX1_seeing_1 : decode cX1_seeing 1 = .ok (.istore_n 2, 1) := by decide +kernel
theorem dX1_seeing_2 : decode cX1_seeing 2 = .ok (.iconst 0, 1) := by decide +kernel
theorem dX1_seeing_3 : decode cX1_seeing 3 = .ok (.istore_n 3, 1) := by decide +kernel
theorem dX1_seeing_4 : decode cX1_seeing 4 = .ok (.iload_n 3, 1) := by decide +kernel
theorem dX1_seeing_5 : decode cX1_seeing 5 = .ok (.aload_n 0, 1) := by decide +kernel
theorem dX1_seeing_6 : decode cX1_seeing 6 = .ok (.getfield 33, 3) := by decide +kernel
theorem dX1_seeing_9 : decode cX1_seeing 9 = .ok (.if_icmp .ge 22, 3) := by decide +kernel
theorem dX1_seeing_12 : decode cX1_seeing 12 = .ok (.iload_n 2, 1) := by decide +kernel
theorem dX1_seeing_13 : decode cX1_seeing 13 = .ok (.aload_n 0, 1) := by decide +kernel
theorem dX1_seeing_14 : decode cX1_seeing 14 = .ok (.getfield 18, 3) := by decide +kernel
theorem dX1_seeing_17 : decode cX1_seeing 17 = .ok (.iload_n 3, 1) := by decide +kernel
theorem dX1_seeing_18 : decode cX1_seeing 18 = .ok (.iaload, 1) := by decide +kernel
theorem dX1_seeing_19 : decode cX1_seeing 19 = .ok (.iload_n 1, 1) := by decide +kernel
theorem dX1_seeing_20 : decode cX1_seeing 20 = .ok (.ishr, 1) := by decide +kernel
theorem dX1_seeing_21 : decode cX1_seeing 21 = .ok (.iconst 1, 1) := by decide +kernel
theorem dX1_seeing_22 : decode cX1_seeing 22 = .ok (.iand, 1) := by decide +kernel
theorem dX1_seeing_23 : decode cX1_seeing 23 = .ok (.iadd, 1) := by decide +kernel
theorem dX1_seeing_24 : decode cX1_seeing 24 = .ok (.istore_n 2, 1) := by decide +kernel
theorem dX1_seeing_25 : decode cX1_seeing 25 = .ok (.iinc 3 1, 3) := by decide +kernel
theorem dX1_seeing_28 : decode cX1_seeing 28 = .ok (.goto (-24), 3) := by decide +kernel
theorem dX1_seeing_31 : decode cX1_seeing 31 = .ok (.iload_n 2, 1) := by decide +kernel
theorem dX1_seeing_32 : decode cX1_seeing 32 = .ok (.ireturn, 1) := by decide +kernel
set_option maxRecDepth 20000 in
theorem ggX1_mostSeen_X1_seeing : GoodIn wsX1_mostSeen wsX1_seeing := goodIn_r _ [6, 1, 7, 8, 9, 10, 11] (by decide +kernel) (by decide +kernel)
set_option maxRecDepth 20000 in
theorem gX1_mostSeen_X1_seeing : GoodIn wsX1_mostSeen (wsV RX1 60 RX1 yX1_seeing wsX1_seeing) := goodIn_app (goodIn_of _ (by decide +kernel)) ggX1_mostSeen_X1_seeing
theorem dX1_mostSeen_0 : decode cX1_mostSeen 0 = .ok (.iconst 0, 1) := by decide +kernel
theorem dX1_mostSeen_1 : decode cX1_mostSeen 1 = .ok (.istore_n 1, 1) := by decide +kernel
theorem dX1_mostSeen_2 : decode cX1_mostSeen 2 = .ok (.iconst 1, 1) := by decide +kernel
theorem dX1_mostSeen_3 : decode cX1_mostSeen 3 = .ok (.istore_n 2, 1) := by decide +kernel
theorem dX1_mostSeen_4 : decode cX1_mostSeen 4 = .ok (.iload_n 2, 1) := by decide +kernel
theorem dX1_mostSeen_5 : decode cX1_mostSeen 5 = .ok (.aload_n 0, 1) := by decide +kernel
theorem dX1_mostSeen_6 : decode cX1_mostSeen 6 = .ok (.getfield 33, 3) := by decide +kernel
theorem dX1_mostSeen_9 : decode cX1_mostSeen 9 = .ok (.if_icmp .ge 24, 3) := by decide +kernel
theorem dX1_mostSeen_12 : decode cX1_mostSeen 12 = .ok (.aload_n 0, 1) := by decide +kernel
theorem dX1_mostSeen_13 : decode cX1_mostSeen 13 = .ok (.iload_n 2, 1) := by decide +kernel
theorem dX1_mostSeen_14 : decode cX1_mostSeen 14 = .ok (.invokevirtual 60, 3) := by decide +kernel
theorem dX1_mostSeen_17 : decode cX1_mostSeen 17 = .ok (.aload_n 0, 1) := by decide +kernel
theorem dX1_mostSeen_18 : decode cX1_mostSeen 18 = .ok (.iload_n 1, 1) := by decide +kernel
theorem dX1_mostSeen_19 : decode cX1_mostSeen 19 = .ok (.invokevirtual 60, 3) := by decide +kernel
theorem dX1_mostSeen_22 : decode cX1_mostSeen 22 = .ok (.if_icmp .le 5, 3) := by decide +kernel
theorem dX1_mostSeen_25 : decode cX1_mostSeen 25 = .ok (.iload_n 2, 1) := by decide +kernel
theorem dX1_mostSeen_26 : decode cX1_mostSeen 26 = .ok (.istore_n 1, 1) := by decide +kernel
theorem dX1_mostSeen_27 : decode cX1_mostSeen 27 = .ok (.iinc 2 1, 3) := by decide +kernel
theorem dX1_mostSeen_30 : decode cX1_mostSeen 30 = .ok (.goto (-26), 3) := by decide +kernel
theorem dX1_mostSeen_33 : decode cX1_mostSeen 33 = .ok (.iload_n 1, 1) := by decide +kernel
theorem dX1_mostSeen_34 : decode cX1_mostSeen 34 = .ok (.ireturn, 1) := by decide +kernel
theorem dX2_init_0 : decode cX2_init 0 = .ok (.aload_n 0, 1) := by decide +kernel
theorem dX2_init_1 : decode cX2_init 1 = .ok (.invokespecial 3, 3) := by decide +kernel
theorem dX2_init_4 : decode cX2_init 4 = .ok (.aload_n 0, 1) := by decide +kernel
theorem dX2_init_5 : decode cX2_init 5 = .ok (.bipush 20, 2) := by decide +kernel
theorem dX2_init_7 : decode cX2_init 7 = .ok (.newarray .int, 2) := by decide +kernel
theorem dX2_init_9 : decode cX2_init 9 = .ok (.putfield 9, 3) := by decide +kernel
theorem dX2_init_12 : decode cX2_init 12 = .ok (.return_, 1) := by decide +kernel
theorem dX2_put_0 : decode cX2_put 0 = .ok (.aload_n 0, 1) := by decide +kernel
theorem dX2_put_1 : decode cX2_put 1 = .ok (.getfield 15, 3) := by decide +kernel
theorem dX2_put_4 : decode cX2_put 4 = .ok (.bipush 20, 2) := by decide +kernel
theorem dX2_put_6 : decode cX2_put 6 = .ok (.if_icmp .lt 6, 3) := by decide +kernel
theorem dX2_put_9 : decode cX2_put 9 = .ok (.bipush (-104), 2) := by decide +kernel
theorem dX2_put_11 : decode cX2_put 11 = .ok (.ireturn, 1) := by decide +kernel
theorem dX2_put_12 : decode cX2_put 12 = .ok (.aload_n 0, 1) := by decide +kernel
theorem dX2_put_13 : decode cX2_put 13 = .ok (.getfield 9, 3) := by decide +kernel
theorem dX2_put_16 : decode cX2_put 16 = .ok (.aload_n 0, 1) := by decide +kernel
theorem dX2_put_17 : decode cX2_put 17 = .ok (.getfield 15, 3) := by decide +kernel
theorem dX2_put_20 : decode cX2_put 20 = .ok (.iload_n 1, 1) := by decide +kernel
theorem dX2_put_21 : decode cX2_put 21 = .ok (.iastore, 1) := by decide +kernel
theorem dX2_put_22 : decode cX2_put 22 = .ok (.aload_n 0, 1) := by decide +kernel
theorem dX2_put_23 : decode cX2_put 23 = .ok (.dup, 1) := by decide +kernel
theorem dX2_put_24 : decode cX2_put 24 = .ok (.getfield 15, 3) := by decide +kernel
theorem dX2_put_27 : decode cX2_put 27 = .ok (.iconst 1, 1) := by decide +kernel
theorem dX2_put_28 : decode cX2_put 28 = .ok (.iadd, 1) := by decide +kernel
theorem dX2_put_29 : decode cX2_put 29 = .ok (.putfield 15, 3) := by decide +kernel
theorem dX2_put_32 : decode cX2_put 32 = .ok (.aload_n 0, 1) := by decide +kernel
theorem dX2_put_33 : decode cX2_put 33 = .ok (.getfield 15, 3) := by decide +kernel
theorem dX2_put_36 : decode cX2_put 36 = .ok (.ireturn, 1) := by decide +kernel
set_option maxRecDepth 20000 in
theorem ggX2_firstFault_X2_fits : GoodIn wsX2_firstFault wsX2_fits := goodIn_r _ [6, 7, 8, 9, 10, 11, 12, 13, 14, 15, 16, 17, 18, 19, 20, 21, 22, 23, 24, 25, 26, 27, 28, 29, 30, 31, 32, 33, 34, 35, 36, 37, 38, 39, 40, 41, 42, 43, 44, 45, 46, 47, 48, 49, 50, 51, 52, 53, 54, 55, 56, 57, 58, 59, 60, 61, 62, 63, 64, 65, 66, 67, 68, 69, 70, 71, 72, 73, 74, 75, 76, 77, 78, 79, 80, 81, 82, 83, 84, 85, 86, 87, 88, 89, 90, 91, 92, 93, 94, 95] (by decide +kernel) (by decide +kernel)
set_option maxRecDepth 20000 in
theorem gX2_firstFault_X2_fits : GoodIn wsX2_firstFault (va_wsS RX2 19 yX2_fits wsX2_fits) := goodIn_app (goodIn_of _ (by decide +kernel)) ggX2_firstFault_X2_fits
theorem dX2_firstFault_0 : decode cX2_firstFault 0 = .ok (.iconst 0, 1) := by decide +kernel
theorem dX2_firstFault_1 : decode cX2_firstFault 1 = .ok (.istore_n 1, 1) := by decide +kernel
theorem dX2_firstFault_2 : decode cX2_firstFault 2 = .ok (.iload_n 1, 1) := by decide +kernel
theorem dX2_firstFault_3 : decode cX2_firstFault 3 = .ok (.aload_n 0, 1) := by decide +kernel
theorem dX2_firstFault_4 : decode cX2_firstFault 4 = .ok (.getfield 15, 3) := by decide +kernel
theorem dX2_firstFault_7 : decode cX2_firstFault 7 = .ok (.if_icmp .ge 22, 3) := by decide +kernel
theorem dX2_firstFault_10 : decode cX2_firstFault 10 = .ok (.aload_n 0, 1) := by decide +kernel
theorem dX2_firstFault_11 : decode cX2_firstFault 11 = .ok (.getfield 9, 3) := by decide +kernel
theorem dX2_firstFault_14 : decode cX2_firstFault 14 = .ok (.iload_n 1, 1) := by decide +kernel
theorem dX2_firstFault_15 : decode cX2_firstFault 15 = .ok (.iaload, 1) := by decide +kernel
theorem dX2_firstFault_16 : decode cX2_firstFault 16 = .ok (.iload_n 1, 1) := by decide +kernel
theorem dX2_firstFault_17 : decode cX2_firstFault 17 = .ok (.invokestatic 19, 3) := by decide +kernel
theorem dX2_firstFault_20 : decode cX2_firstFault 20 = .ok (.ifCond .eq 9, 3) := by decide +kernel
theorem dX2_firstFault_23 : decode cX2_firstFault 23 = .ok (.iinc 1 1, 3) := by decide +kernel
theorem dX2_firstFault_26 : decode cX2_firstFault 26 = .ok (.goto (-24), 3) := by decide +kernel
theorem dX2_firstFault_29 : decode cX2_firstFault 29 = .ok (.iload_n 1, 1) := by decide +kernel
theorem dX2_firstFault_30 : decode cX2_firstFault 30 = .ok (.ireturn, 1) := by decide +kernel
set_option maxRecDepth 20000 in
theorem ggX2_isOffice_X2_firstFault : GoodIn wsX2_isOffice wsX2_firstFault := goodIn_r _ [6, 1, 7, 8, 9, 5, 10, 11, 12, 13, 14, 15, 16, 17, 18, 19, 20, 21, 22, 23, 24, 25, 26, 27, 28, 29, 30, 31, 32, 33, 34, 35, 36, 37, 38, 39, 40, 41, 42, 43, 44, 45, 46, 47, 48, 49, 50, 51, 52, 53, 54, 55, 56, 57, 58, 59, 60, 61, 62, 63, 64, 65, 66, 67, 68, 69, 70, 71, 72, 73, 74, 75, 76, 77, 78, 79, 80, 81, 82, 83, 84, 85, 86, 87, 88, 89, 90, 91, 92, 93, 94, 95, 96, 97, 98, 99, 100, 101] (by decide +kernel) (by decide +kernel)
set_option maxRecDepth 20000 in
theorem gX2_isOffice_X2_firstFault : GoodIn wsX2_isOffice (wsV RX2 23 RX2 yX2_firstFault wsX2_firstFault) := goodIn_app (goodIn_of _ (by decide +kernel)) ggX2_isOffice_X2_firstFault
theorem dX2_isOffice_0 : decode cX2_isOffice 0 = .ok (.aload_n 0, 1) := by decide +kernel
theorem dX2_isOffice_1 : decode cX2_isOffice 1 = .ok (.getfield 15, 3) := by decide +kernel
theorem dX2_isOffice_4 : decode cX2_isOffice 4 = .ok (.iconst 5, 1) := by decide +kernel
theorem dX2_isOffice_5 : decode cX2_isOffice 5 = .ok (.if_icmp .lt 28, 3) := by decide +kernel
theorem dX2_isOffice_8 : decode cX2_isOffice 8 = .ok (.aload_n 0, 1) := by decide +kernel
theorem dX2_isOffice_9 : decode cX2_isOffice 9 = .ok (.getfield 15, 3) := by decide +kernel
theorem dX2_isOffice_12 : decode cX2_isOffice 12 = .ok (.iconst 3, 1) := by decide +kernel
theorem dX2_isOffice_13 : decode cX2_isOffice 13 = .ok (.irem, 1) := by decide +kernel
theorem dX2_isOffice_14 : decode cX2_isOffice 14 = .ok (.iconst 2, 1) := by decide +kernel
theorem dX2_isOffice_15 : decode cX2_isOffice 15 = .ok (.if_icmp .ne 18, 3) := by decide +kernel
theorem dX2_isOffice_18 : decode cX2_isOffice 18 = .ok (.aload_n 0, 1) := by decide +kernel
theorem dX2_isOffice_19 : decode cX2_isOffice 19 = .ok (.invokevirtual 23, 3) := by decide +kernel
theorem dX2_isOffice_22 : decode cX2_isOffice 22 = .ok (.aload_n 0, 1) := by decide +kernel
theorem dX2_isOffice_23 : decode cX2_isOffice 23 = .ok (.getfield 15, 3) := by decide +kernel
theorem dX2_isOffice_26 : decode cX2_isOffice 26 = .ok (.if_icmp .ne 7, 3) := by decide +kernel
theorem dX2_isOffice_29 : decode cX2_isOffice 29 = .ok (.iconst 1, 1) := by decide +kernel
theorem dX2_isOffice_30 : decode cX2_isOffice 30 = .ok (.goto 4, 3) := by decide +kernel
theorem dX2_isOffice_33 : decode cX2_isOffice 33 = .ok (.iconst 0, 1) := by decide +kernel
theorem dX2_isOffice_34 : decode cX2_isOffice 34 = .ok (.ireturn, 1) := by decide +kernel
set_option maxRecDepth 20000 in
theorem ggX2_fits_J0_indexOf_0f7a4 : GoodIn wsX2_fits wsJ0_indexOf_0f7a4 := goodIn_r _ [5, 6, 7, 8, 4, 9, 10, 11, 12, 13, 14, 15, 16, 17, 18, 19, 20, 21, 22, 23, 24, 25, 26, 27, 28, 29, 30, 31, 32, 33, 34, 35, 36, 37, 38, 39, 40, 41, 42, 43, 44, 45, 46, 47, 48, 49, 50, 51, 52, 53, 54, 55, 56, 57, 58, 59, 60, 61, 62, 63, 64, 65, 66, 67, 68, 69, 70, 71, 72, 73, 74, 75, 76, 77, 78, 79, 80, 81, 82, 83, 84, 85, 86, 87, 88, 89] (by decide +kernel) (by decide +kernel)
set_option maxRecDepth 20000 in
theorem gX2_fits_J0_indexOf_0f7a4 : GoodIn wsX2_fits (wsV RX2 29 RJ0 yJ0_indexOf_0f7a4 wsJ0_indexOf_0f7a4) := goodIn_app (goodIn_of _ (by decide +kernel)) ggX2_fits_J0_indexOf_0f7a4
theorem dX2_fits_0 : decode cX2_fits 0 = .ok (.iload_n 1, 1) := by decide +kernel
theorem dX2_fits_1 : decode cX2_fits 1 = .ok (.bipush 17, 2) := by decide +kernel
theorem dX2_fits_3 : decode cX2_fits 3 = .ok (.if_icmp .lt 5, 3) := by decide +kernel
theorem dX2_fits_6 : decode cX2_fits 6 = .ok (.iconst 0, 1) := by decide +kernel
theorem dX2_fits_7 : decode cX2_fits 7 = .ok (.ireturn, 1) := by decide +kernel
theorem dX2_fits_8 : decode cX2_fits 8 = .ok (.iload_n 1, 1) := by decide +kernel
theorem dX2_fits_9 : decode cX2_fits 9 = .ok (.iconst 3, 1) := by decide +kernel
theorem dX2_fits_10 : decode cX2_fits 10 = .ok (.irem, 1) := by decide +kernel
theorem dX2_fits_11 : decode cX2_fits 11 = .ok (.lookupswitch 59 #[(0, 25), (1, 41)], 25) := by decide +kernel
theorem dX2_fits_36 : decode cX2_fits 36 = .ok (.ldc 27, 2) := by decide +kernel
theorem dX2_fits_38 : decode cX2_fits 38 = .ok (.iload_n 0, 1) := by decide +kernel
theorem dX2_fits_39 : decode cX2_fits 39 = .ok (.i2c, 1) := by decide +kernel
theorem dX2_fits_40 : decode cX2_fits 40 = .ok (.invokevirtual 29, 3) := by decide +kernel
theorem dX2_fits_43 : decode cX2_fits 43 = .ok (.ifCond .lt 7, 3) := by decide +kernel
theorem dX2_fits_46 : decode cX2_fits 46 = .ok (.iconst 1, 1) := by decide +kernel
theorem dX2_fits_47 : decode cX2_fits 47 = .ok (.goto 4, 3) := by decide +kernel
theorem dX2_fits_50 : decode cX2_fits 50 = .ok (.iconst 0, 1) := by decide +kernel
theorem dX2_fits_51 : decode cX2_fits 51 = .ok (.ireturn, 1) := by decide +kernel
theorem dX2_fits_52 : decode cX2_fits 52 = .ok (.iload_n 0, 1) := by decide +kernel
theorem dX2_fits_53 : decode cX2_fits 53 = .ok (.bipush 49, 2) := by decide +kernel
theorem dX2_fits_55 : decode cX2_fits 55 = .ok (.if_icmp .lt 13, 3) := by decide +kernel
theorem dX2_fits_58 : decode cX2_fits 58 = .ok (.iload_n 0, 1) := by decide +kernel
theorem dX2_fits_59 : decode cX2_fits 59 = .ok (.bipush 57, 2) := by decide +kernel
theorem dX2_fits_61 : decode cX2_fits 61 = .ok (.if_icmp .gt 7, 3) := by decide +kernel
theorem dX2_fits_64 : decode cX2_fits 64 = .ok (.iconst 1, 1) := by decide +kernel
theorem dX2_fits_65 : decode cX2_fits 65 = .ok (.goto 4, 3) := by decide +kernel
theorem dX2_fits_68 : decode cX2_fits 68 = .ok (.iconst 0, 1) := by decide +kernel
theorem dX2_fits_69 : decode cX2_fits 69 = .ok (.ireturn, 1) := by decide +kernel
theorem dX2_fits_70 : decode cX2_fits 70 = .ok (.iload_n 0, 1) := by decide +kernel
theorem dX2_fits_71 : decode cX2_fits 71 = .ok (.bipush 44, 2) := by decide +kernel
theorem dX2_fits_73 : decode cX2_fits 73 = .ok (.if_icmp .ne 7, 3) := by decide +kernel
theorem dX2_fits_76 : decode cX2_fits 76 = .ok (.iconst 1, 1) := by decide +kernel
theorem dX2_fits_77 : decode cX2_fits 77 = .ok (.goto 4, 3) := by decide +kernel
theorem dX2_fits_80 : decode cX2_fits 80 = .ok (.iconst 0, 1) := by decide +kernel
theorem dX2_fits_81 : decode cX2_fits 81 = .ok (.ireturn, 1) := by decide +kernel
theorem dX3_init_0 : decode cX3_init 0 = .ok (.aload_n 0, 1) := by decide +kernel
theorem dX3_init_1 : decode cX3_init 1 = .ok (.invokespecial 3, 3) := by decide +kernel
theorem dX3_init_4 : decode cX3_init 4 = .ok (.aload_n 0, 1) := by decide +kernel
theorem dX3_init_5 : decode cX3_init 5 = .ok (.bipush 64, 2) := by decide +kernel
theorem dX3_init_7 : decode cX3_init 7 = .ok (.newarray .int, 2) := by decide +kernel
theorem dX3_init_9 : decode cX3_init 9 = .ok (.putfield 9, 3) := by decide +kernel
theorem dX3_init_12 : decode cX3_init 12 = .ok (.return_, 1) := by decide +kernel
set_option maxRecDepth 20000 in
theorem ggX3_follow_X1_litOnes : GoodIn wsX3_follow wsX1_litOnes := goodIn_r _ [8, 9, 10, 11, 7, 12, 45, 46, 47, 48] (by decide +kernel) (by decide +kernel)
set_option maxRecDepth 20000 in
theorem gX3_follow_X1_litOnes : GoodIn wsX3_follow (wsV RX3 24 RX1 yX1_litOnes wsX1_litOnes) := goodIn_app (goodIn_of _ (by decide +kernel)) ggX3_follow_X1_litOnes
set_option maxRecDepth 20000 in
theorem ggX3_follow_X0_bookAgrees : GoodIn wsX3_follow wsX0_bookAgrees := goodIn_r _ [17, 18, 19, 36, 37, 38, 39, 40, 41, 42, 43, 44] (by decide +kernel) (by decide +kernel)
set_option maxRecDepth 20000 in
theorem gX3_follow_X0_bookAgrees : GoodIn wsX3_follow (wsV RX3 30 RX0 yX0_bookAgrees wsX0_bookAgrees) := goodIn_app (goodIn_of _ (by decide +kernel)) ggX3_follow_X0_bookAgrees
set_option maxRecDepth 20000 in
theorem ggX3_follow_X3_further : GoodIn wsX3_follow wsX3_further := goodIn_r _ [23, 24, 25, 26, 7, 27, 9, 28, 29, 30, 31, 32, 33, 10, 11, 12, 4, 5, 6, 8, 13, 14, 15, 16, 17, 18, 19, 45, 46, 47, 48, 36, 37, 38, 39, 40, 41, 42, 43, 44] (by decide +kernel) (by decide +kernel)
set_option maxRecDepth 20000 in
theorem gX3_follow_X3_further : GoodIn wsX3_follow (va_wsS RX3 34 yX3_further wsX3_further) := goodIn_app (goodIn_of _ (by decide +kernel)) ggX3_follow_X3_further
theorem dX3_follow_0 : decode cX3_follow 0 = .ok (.aload_n 0, 1) := by decide +kernel
theorem dX3_follow_1 : decode cX3_follow 1 = .ok (.iconst 1, 1) := by decide +kernel
theorem dX3_follow_2 : decode cX3_follow 2 = .ok (.putfield 15, 3) := by decide +kernel
theorem dX3_follow_5 : decode cX3_follow 5 = .ok (.aload_n 0, 1) := by decide +kernel
theorem dX3_follow_6 : decode cX3_follow 6 = .ok (.getfield 9, 3) := by decide +kernel
theorem dX3_follow_9 : decode cX3_follow 9 = .ok (.iconst 0, 1) := by decide +kernel
theorem dX3_follow_10 : decode cX3_follow 10 = .ok (.aload_n 2, 1) := by decide +kernel
theorem dX3_follow_11 : decode cX3_follow 11 = .ok (.iconst 0, 1) := by decide +kernel
theorem dX3_follow_12 : decode cX3_follow 12 = .ok (.aload_n 1, 1) := by decide +kernel
theorem dX3_follow_13 : decode cX3_follow 13 = .ok (.aload_n 2, 1) := by decide +kernel
theorem dX3_follow_14 : decode cX3_follow 14 = .ok (.getfield 19, 3) := by decide +kernel
theorem dX3_follow_17 : decode cX3_follow 17 = .ok (.invokevirtual 24, 3) := by decide +kernel
theorem dX3_follow_20 : decode cX3_follow 20 = .ok (.invokevirtual 30, 3) := by decide +kernel
theorem dX3_follow_23 : decode cX3_follow 23 = .ok (.ifCond .eq 10, 3) := by decide +kernel
theorem dX3_follow_26 : decode cX3_follow 26 = .ok (.aload_n 2, 1) := by decide +kernel
theorem dX3_follow_27 : decode cX3_follow 27 = .ok (.getfield 19, 3) := by decide +kernel
theorem dX3_follow_30 : decode cX3_follow 30 = .ok (.goto 4, 3) := by decide +kernel
theorem dX3_follow_33 : decode cX3_follow 33 = .ok (.iconst (-1), 1) := by decide +kernel
theorem dX3_follow_34 : decode cX3_follow 34 = .ok (.iastore, 1) := by decide +kernel
theorem dX3_follow_35 : decode cX3_follow 35 = .ok (.iconst 1, 1) := by decide +kernel
theorem dX3_follow_36 : decode cX3_follow 36 = .ok (.istore 5, 2) := by decide +kernel
theorem dX3_follow_38 : decode cX3_follow 38 = .ok (.iload 5, 2) := by decide +kernel
theorem dX3_follow_40 : decode cX3_follow 40 = .ok (.iload 4, 2) := by decide +kernel
theorem dX3_follow_42 : decode cX3_follow 42 = .ok (.if_icmp .gt 95, 3) := by decide +kernel
theorem dX3_follow_45 : decode cX3_follow 45 = .ok (.iload 5, 2) := by decide +kernel
theorem dX3_follow_47 : decode cX3_follow 47 = .ok (.bipush 6, 2) := by decide +kernel
theorem dX3_follow_49 : decode cX3_follow 49 = .ok (.if_icmp .gt 88, 3) := by decide +kernel
theorem dX3_follow_52 : decode cX3_follow 52 = .ok (.iconst 0, 1) := by decide +kernel
theorem dX3_follow_53 : decode cX3_follow 53 = .ok (.istore 6, 2) := by decide +kernel
theorem dX3_follow_55 : decode cX3_follow 55 = .ok (.iload 6, 2) := by decide +kernel
theorem dX3_follow_57 : decode cX3_follow 57 = .ok (.aload_n 0, 1) := by decide +kernel
theorem dX3_follow_58 : decode cX3_follow 58 = .ok (.getfield 15, 3) := by decide +kernel
theorem dX3_follow_61 : decode cX3_follow 61 = .ok (.if_icmp .ge 60, 3) := by decide +kernel
theorem dX3_follow_64 : decode cX3_follow 64 = .ok (.aload_n 0, 1) := by decide +kernel
theorem dX3_follow_65 : decode cX3_follow 65 = .ok (.getfield 9, 3) := by decide +kernel
theorem dX3_follow_68 : decode cX3_follow 68 = .ok (.aload_n 0, 1) := by decide +kernel
theorem dX3_follow_69 : decode cX3_follow 69 = .ok (.getfield 15, 3) := by decide +kernel
theorem dX3_follow_72 : decode cX3_follow 72 = .ok (.iload 6, 2) := by decide +kernel
theorem dX3_follow_74 : decode cX3_follow 74 = .ok (.iadd, 1) := by decide +kernel
theorem dX3_follow_75 : decode cX3_follow 75 = .ok (.aload_n 1, 1) := by decide +kernel
theorem dX3_follow_76 : decode cX3_follow 76 = .ok (.aload_n 2, 1) := by decide +kernel
theorem dX3_follow_77 : decode cX3_follow 77 = .ok (.aload_n 0, 1) := by decide +kernel
theorem dX3_follow_78 : decode cX3_follow 78 = .ok (.getfield 9, 3) := by decide +kernel
theorem dX3_follow_81 : decode cX3_follow 81 = .ok (.iload 6, 2) := by decide +kernel
theorem dX3_follow_83 : decode cX3_follow 83 = .ok (.iaload, 1) := by decide +kernel
theorem dX3_follow_84 : decode cX3_follow 84 = .ok (.iconst 1, 1) := by decide +kernel
theorem dX3_follow_85 : decode cX3_follow 85 = .ok (.iload_n 3, 1) := by decide +kernel
theorem dX3_follow_86 : decode cX3_follow 86 = .ok (.ishl, 1) := by decide +kernel
theorem dX3_follow_87 : decode cX3_follow 87 = .ok (.iload 5, 2) := by decide +kernel
theorem dX3_follow_89 : decode cX3_follow 89 = .ok (.invokestatic 34, 3) := by decide +kernel
theorem dX3_follow_92 : decode cX3_follow 92 = .ok (.iastore, 1) := by decide +kernel
theorem dX3_follow_93 : decode cX3_follow 93 = .ok (.aload_n 0, 1) := by decide +kernel
theorem dX3_follow_94 : decode cX3_follow 94 = .ok (.getfield 9, 3) := by decide +kernel
theorem dX3_follow_97 : decode cX3_follow 97 = .ok (.iload 6, 2) := by decide +kernel
theorem dX3_follow_99 : decode cX3_follow 99 = .ok (.aload_n 1, 1) := by decide +kernel
theorem dX3_follow_100 : decode cX3_follow 100 = .ok (.aload_n 2, 1) := by decide +kernel
theorem dX3_follow_101 : decode cX3_follow 101 = .ok (.aload_n 0, 1) := by decide +kernel
theorem dX3_follow_102 : decode cX3_follow 102 = .ok (.getfield 9, 3) := by decide +kernel
theorem dX3_follow_105 : decode cX3_follow 105 = .ok (.iload 6, 2) := by decide +kernel
theorem dX3_follow_107 : decode cX3_follow 107 = .ok (.iaload, 1) := by decide +kernel
theorem dX3_follow_108 : decode cX3_follow 108 = .ok (.iconst 0, 1) := by decide +kernel
theorem dX3_follow_109 : decode cX3_follow 109 = .ok (.iload 5, 2) := by decide +kernel
theorem dX3_follow_111 : decode cX3_follow 111 = .ok (.invokestatic 34, 3) := by decide +kernel
theorem dX3_follow_114 : decode cX3_follow 114 = .ok (.iastore, 1) := by decide +kernel
theorem dX3_follow_115 : decode cX3_follow 115 = .ok (.iinc 6 1, 3) := by decide +kernel
theorem dX3_follow_118 : decode cX3_follow 118 = .ok (.goto (-63), 3) := by decide +kernel
theorem dX3_follow_121 : decode cX3_follow 121 = .ok (.aload_n 0, 1) := by decide +kernel
theorem dX3_follow_122 : decode cX3_follow 122 = .ok (.dup, 1) := by decide +kernel
theorem dX3_follow_123 : decode cX3_follow 123 = .ok (.getfield 15, 3) := by decide +kernel
theorem dX3_follow_126 : decode cX3_follow 126 = .ok (.iconst 2, 1) := by decide +kernel
theorem dX3_follow_127 : decode cX3_follow 127 = .ok (.imul, 1) := by decide +kernel
theorem dX3_follow_128 : decode cX3_follow 128 = .ok (.putfield 15, 3) := by decide +kernel
theorem dX3_follow_131 : decode cX3_follow 131 = .ok (.iinc 5 1, 3) := by decide +kernel
theorem dX3_follow_134 : decode cX3_follow 134 = .ok (.goto (-96), 3) := by decide +kernel
theorem dX3_follow_137 : decode cX3_follow 137 = .ok (.return_, 1) := by decide +kernel
set_option maxRecDepth 20000 in
theorem ggX3_further_X1_after : GoodIn wsX3_further wsX1_after := goodIn_r _ [5, 6, 7, 8, 9, 10, 11, 12, 13, 14, 4, 15, 27, 28, 29, 30] (by decide +kernel) (by decide +kernel)
set_option maxRecDepth 20000 in
theorem gX3_further_X1_after : GoodIn wsX3_further (wsV RX3 38 RX1 yX1_after wsX1_after) := goodIn_app (goodIn_of _ (by decide +kernel)) ggX3_further_X1_after
set_option maxRecDepth 20000 in
theorem ggX3_further_X1_litOnes : GoodIn wsX3_further wsX1_litOnes := goodIn_r _ [19, 6, 13, 14, 4, 15, 27, 28, 29, 30] (by decide +kernel) (by decide +kernel)
set_option maxRecDepth 20000 in
theorem gX3_further_X1_litOnes : GoodIn wsX3_further (wsV RX3 24 RX1 yX1_litOnes wsX1_litOnes) := goodIn_app (goodIn_of _ (by decide +kernel)) ggX3_further_X1_litOnes
set_option maxRecDepth 20000 in
theorem ggX3_further_X0_bookAgrees : GoodIn wsX3_further wsX0_bookAgrees := goodIn_r _ [24, 25, 26, 31, 32, 33, 34, 35, 36, 37, 38, 39] (by decide +kernel) (by decide +kernel)
set_option maxRecDepth 20000 in
theorem gX3_further_X0_bookAgrees : GoodIn wsX3_further (wsV RX3 30 RX0 yX0_bookAgrees wsX0_bookAgrees) := goodIn_app (goodIn_of _ (by decide +kernel)) ggX3_further_X0_bookAgrees
theorem dX3_further_0 : decode cX3_further 0 = .ok (.iload_n 2, 1) := by decide +kernel
theorem dX3_further_1 : decode cX3_further 1 = .ok (.iconst (-1), 1) := by decide +kernel
theorem dX3_further_2 : decode cX3_further 2 = .ok (.if_icmp .ne 5, 3) := by decide +kernel
theorem dX3_further_5 : decode cX3_further 5 = .ok (.iconst (-1), 1) := by decide +kernel
theorem dX3_further_6 : decode cX3_further 6 = .ok (.ireturn, 1) := by decide +kernel
theorem dX3_further_7 : decode cX3_further 7 = .ok (.aload_n 0, 1) := by decide +kernel
theorem dX3_further_8 : decode cX3_further 8 = .ok (.iload_n 2, 1) := by decide +kernel
theorem dX3_further_9 : decode cX3_further 9 = .ok (.iload_n 3, 1) := by decide +kernel
theorem dX3_further_10 : decode cX3_further 10 = .ok (.invokevirtual 38, 3) := by decide +kernel
theorem dX3_further_13 : decode cX3_further 13 = .ok (.istore 5, 2) := by decide +kernel
theorem dX3_further_15 : decode cX3_further 15 = .ok (.aload_n 1, 1) := by decide +kernel
theorem dX3_further_16 : decode cX3_further 16 = .ok (.iload 4, 2) := by decide +kernel
theorem dX3_further_18 : decode cX3_further 18 = .ok (.aload_n 0, 1) := by decide +kernel
theorem dX3_further_19 : decode cX3_further 19 = .ok (.iload 5, 2) := by decide +kernel
theorem dX3_further_21 : decode cX3_further 21 = .ok (.invokevirtual 24, 3) := by decide +kernel
theorem dX3_further_24 : decode cX3_further 24 = .ok (.invokevirtual 30, 3) := by decide +kernel
theorem dX3_further_27 : decode cX3_further 27 = .ok (.ifCond .eq 8, 3) := by decide +kernel
theorem dX3_further_30 : decode cX3_further 30 = .ok (.iload 5, 2) := by decide +kernel
theorem dX3_further_32 : decode cX3_further 32 = .ok (.goto 4, 3) := by decide +kernel
theorem dX3_further_35 : decode cX3_further 35 = .ok (.iconst (-1), 1) := by decide +kernel
theorem dX3_further_36 : decode cX3_further 36 = .ok (.ireturn, 1) := by decide +kernel
theorem dX3_left_0 : decode cX3_left 0 = .ok (.iconst 0, 1) := by decide +kernel
theorem dX3_left_1 : decode cX3_left 1 = .ok (.istore_n 1, 1) := by decide +kernel
theorem dX3_left_2 : decode cX3_left 2 = .ok (.iconst 0, 1) := by decide +kernel
theorem dX3_left_3 : decode cX3_left 3 = .ok (.istore_n 2, 1) := by decide +kernel
end
section
theorem dX3_left_4 : decode cX3_left 4 = .ok (.iload_n 2, 1) := by decide +kernel
theorem dX3_left_5 : decode cX3_left 5 = .ok (.aload_n 0, 1) := by decide +kernel
theorem dX3_left_6 : decode cX3_left 6 = .ok (.getfield 15, 3) := by decide +kernel
theorem dX3_left_9 : decode cX3_left 9 = .ok (.if_icmp .ge 27, 3) := by decide +kernel
theorem dX3_left_12 : decode cX3_left 12 = .ok (.iload_n 1, 1) := by decide +kernel
theorem dX3_left_13 : decode cX3_left 13 = .ok (.aload_n 0, 1) := by decide +kernel
theorem dX3_left_14 : decode cX3_left 14 = .ok (.getfield 9, 3) := by decide +kernel
theorem dX3_left_17 : decode cX3_left 17 = .ok (.iload_n 2, 1) := by decide +kernel
theorem dX3_left_18 : decode cX3_left 18 = .ok (.iaload, 1) := by decide +kernel
theorem dX3_left_19 : decode cX3_left 19 = .ok (.iconst (-1), 1) := by decide +kernel
theorem dX3_left_20 : decode cX3_left 20 = .ok (.if_icmp .eq 7, 3) := by decide +kernel
theorem dX3_left_23 : decode cX3_left 23 = .ok (.iconst 1, 1) := by decide +kernel
theorem dX3_left_24 : decode cX3_left 24 = .ok (.goto 4, 3) := by decide +kernel
theorem dX3_left_27 : decode cX3_left 27 = .ok (.iconst 0, 1) := by decide +kernel
theorem dX3_left_28 : decode cX3_left 28 = .ok (.iadd, 1) := by decide +kernel
theorem dX3_left_29 : decode cX3_left 29 = .ok (.istore_n 1, 1) := by decide +kernel
theorem dX3_left_30 : decode cX3_left 30 = .ok (.iinc 2 1, 3) := by decide +kernel
theorem dX3_left_33 : decode cX3_left 33 = .ok (.goto (-29), 3) := by decide +kernel
theorem dX3_left_36 : decode cX3_left 36 = .ok (.iload_n 1, 1) := by decide +kernel
theorem dX3_left_37 : decode cX3_left 37 = .ok (.ireturn, 1) := by decide +kernel
theorem dX3_first_0 : decode cX3_first 0 = .ok (.iconst 0, 1) := by decide +kernel
theorem dX3_first_1 : decode cX3_first 1 = .ok (.istore_n 1, 1) := by decide +kernel
theorem dX3_first_2 : decode cX3_first 2 = .ok (.iload_n 1, 1) := by decide +kernel
theorem dX3_first_3 : decode cX3_first 3 = .ok (.aload_n 0, 1) := by decide +kernel
theorem dX3_first_4 : decode cX3_first 4 = .ok (.getfield 15, 3) := by decide +kernel
theorem dX3_first_7 : decode cX3_first 7 = .ok (.if_icmp .ge 21, 3) := by decide +kernel
theorem dX3_first_10 : decode cX3_first 10 = .ok (.aload_n 0, 1) := by decide +kernel
theorem dX3_first_11 : decode cX3_first 11 = .ok (.getfield 9, 3) := by decide +kernel
theorem dX3_first_14 : decode cX3_first 14 = .ok (.iload_n 1, 1) := by decide +kernel
theorem dX3_first_15 : decode cX3_first 15 = .ok (.iaload, 1) := by decide +kernel
theorem dX3_first_16 : decode cX3_first 16 = .ok (.iconst (-1), 1) := by decide +kernel
theorem dX3_first_17 : decode cX3_first 17 = .ok (.if_icmp .eq 5, 3) := by decide +kernel
theorem dX3_first_20 : decode cX3_first 20 = .ok (.iload_n 1, 1) := by decide +kernel
theorem dX3_first_21 : decode cX3_first 21 = .ok (.ireturn, 1) := by decide +kernel
theorem dX3_first_22 : decode cX3_first 22 = .ok (.iinc 1 1, 3) := by decide +kernel
theorem dX3_first_25 : decode cX3_first 25 = .ok (.goto (-23), 3) := by decide +kernel
theorem dX3_first_28 : decode cX3_first 28 = .ok (.iconst (-1), 1) := by decide +kernel
theorem dX3_first_29 : decode cX3_first 29 = .ok (.ireturn, 1) := by decide +kernel
set_option maxRecDepth 20000 in
theorem ggX3_tellingLamp_X3_left : GoodIn wsX3_tellingLamp wsX3_left := goodIn_r _ [9, 10, 11, 20, 21] (by decide +kernel) (by decide +kernel)
set_option maxRecDepth 20000 in
theorem gX3_tellingLamp_X3_left : GoodIn wsX3_tellingLamp (wsV RX3 42 RX3 yX3_left wsX3_left) := goodIn_app (goodIn_of _ (by decide +kernel)) ggX3_tellingLamp_X3_left
set_option maxRecDepth 20000 in
theorem ggX3_tellingLamp_X3_endLit : GoodIn wsX3_tellingLamp wsX3_endLit := goodIn_r _ [15, 10, 11, 16, 17, 18, 19, 20, 21] (by decide +kernel) (by decide +kernel)
set_option maxRecDepth 20000 in
theorem gX3_tellingLamp_X3_endLit : GoodIn wsX3_tellingLamp (wsV RX3 46 RX3 yX3_endLit wsX3_endLit) := goodIn_app (goodIn_of _ (by decide +kernel)) ggX3_tellingLamp_X3_endLit
theorem dX3_tellingLamp_0 : decode cX3_tellingLamp 0 = .ok (.aload_n 0, 1) := by decide +kernel
theorem dX3_tellingLamp_1 : decode cX3_tellingLamp 1 = .ok (.invokevirtual 42, 3) := by decide +kernel
theorem dX3_tellingLamp_4 : decode cX3_tellingLamp 4 = .ok (.istore_n 2, 1) := by decide +kernel
theorem dX3_tellingLamp_5 : decode cX3_tellingLamp 5 = .ok (.iconst (-1), 1) := by decide +kernel
theorem dX3_tellingLamp_6 : decode cX3_tellingLamp 6 = .ok (.istore_n 3, 1) := by decide +kernel
theorem dX3_tellingLamp_7 : decode cX3_tellingLamp 7 = .ok (.iload_n 2, 1) := by decide +kernel
theorem dX3_tellingLamp_8 : decode cX3_tellingLamp 8 = .ok (.iconst 1, 1) := by decide +kernel
theorem dX3_tellingLamp_9 : decode cX3_tellingLamp 9 = .ok (.iadd, 1) := by decide +kernel
theorem dX3_tellingLamp_10 : decode cX3_tellingLamp 10 = .ok (.istore 4, 2) := by decide +kernel
theorem dX3_tellingLamp_12 : decode cX3_tellingLamp 12 = .ok (.iconst 0, 1) := by decide +kernel
theorem dX3_tellingLamp_13 : decode cX3_tellingLamp 13 = .ok (.istore 5, 2) := by decide +kernel
theorem dX3_tellingLamp_15 : decode cX3_tellingLamp 15 = .ok (.iload 5, 2) := by decide +kernel
theorem dX3_tellingLamp_17 : decode cX3_tellingLamp 17 = .ok (.iload_n 1, 1) := by decide +kernel
theorem dX3_tellingLamp_18 : decode cX3_tellingLamp 18 = .ok (.if_icmp .ge 46, 3) := by decide +kernel
theorem dX3_tellingLamp_21 : decode cX3_tellingLamp 21 = .ok (.iload_n 2, 1) := by decide +kernel
theorem dX3_tellingLamp_22 : decode cX3_tellingLamp 22 = .ok (.ifCond .le 42, 3) := by decide +kernel
theorem dX3_tellingLamp_25 : decode cX3_tellingLamp 25 = .ok (.aload_n 0, 1) := by decide +kernel
theorem dX3_tellingLamp_26 : decode cX3_tellingLamp 26 = .ok (.iload 5, 2) := by decide +kernel
theorem dX3_tellingLamp_28 : decode cX3_tellingLamp 28 = .ok (.invokevirtual 46, 3) := by decide +kernel
theorem dX3_tellingLamp_31 : decode cX3_tellingLamp 31 = .ok (.istore 6, 2) := by decide +kernel
theorem dX3_tellingLamp_33 : decode cX3_tellingLamp 33 = .ok (.iload 6, 2) := by decide +kernel
theorem dX3_tellingLamp_35 : decode cX3_tellingLamp 35 = .ok (.iload_n 2, 1) := by decide +kernel
theorem dX3_tellingLamp_36 : decode cX3_tellingLamp 36 = .ok (.iload 6, 2) := by decide +kernel
theorem dX3_tellingLamp_38 : decode cX3_tellingLamp 38 = .ok (.isub, 1) := by decide +kernel
theorem dX3_tellingLamp_39 : decode cX3_tellingLamp 39 = .ok (.invokestatic 49, 3) := by decide +kernel
theorem dX3_tellingLamp_42 : decode cX3_tellingLamp 42 = .ok (.istore 7, 2) := by decide +kernel
theorem dX3_tellingLamp_44 : decode cX3_tellingLamp 44 = .ok (.iload 7, 2) := by decide +kernel
theorem dX3_tellingLamp_46 : decode cX3_tellingLamp 46 = .ok (.iload 4, 2) := by decide +kernel
theorem dX3_tellingLamp_48 : decode cX3_tellingLamp 48 = .ok (.if_icmp .ge 10, 3) := by decide +kernel
theorem dX3_tellingLamp_51 : decode cX3_tellingLamp 51 = .ok (.iload 7, 2) := by decide +kernel
theorem dX3_tellingLamp_53 : decode cX3_tellingLamp 53 = .ok (.istore 4, 2) := by decide +kernel
theorem dX3_tellingLamp_55 : decode cX3_tellingLamp 55 = .ok (.iload 5, 2) := by decide +kernel
theorem dX3_tellingLamp_57 : decode cX3_tellingLamp 57 = .ok (.istore_n 3, 1) := by decide +kernel
theorem dX3_tellingLamp_58 : decode cX3_tellingLamp 58 = .ok (.iinc 5 1, 3) := by decide +kernel
theorem dX3_tellingLamp_61 : decode cX3_tellingLamp 61 = .ok (.goto (-46), 3) := by decide +kernel
theorem dX3_tellingLamp_64 : decode cX3_tellingLamp 64 = .ok (.iload_n 3, 1) := by decide +kernel
theorem dX3_tellingLamp_65 : decode cX3_tellingLamp 65 = .ok (.ireturn, 1) := by decide +kernel
set_option maxRecDepth 20000 in
theorem ggX3_endLit_X1_left : GoodIn wsX3_endLit wsX1_left := goodIn_r _ [6] (by decide +kernel) (by decide +kernel)
set_option maxRecDepth 20000 in
theorem gX3_endLit_X1_left : GoodIn wsX3_endLit (va_wsS RX3 54 yX1_left wsX1_left) := goodIn_app (goodIn_of _ (by decide +kernel)) ggX3_endLit_X1_left
theorem dX3_endLit_0 : decode cX3_endLit 0 = .ok (.iconst 0, 1) := by decide +kernel
theorem dX3_endLit_1 : decode cX3_endLit 1 = .ok (.istore_n 2, 1) := by decide +kernel
theorem dX3_endLit_2 : decode cX3_endLit 2 = .ok (.iconst 0, 1) := by decide +kernel
theorem dX3_endLit_3 : decode cX3_endLit 3 = .ok (.istore_n 3, 1) := by decide +kernel
theorem dX3_endLit_4 : decode cX3_endLit 4 = .ok (.iload_n 3, 1) := by decide +kernel
theorem dX3_endLit_5 : decode cX3_endLit 5 = .ok (.aload_n 0, 1) := by decide +kernel
theorem dX3_endLit_6 : decode cX3_endLit 6 = .ok (.getfield 15, 3) := by decide +kernel
theorem dX3_endLit_9 : decode cX3_endLit 9 = .ok (.if_icmp .ge 40, 3) := by decide +kernel
theorem dX3_endLit_12 : decode cX3_endLit 12 = .ok (.iload_n 2, 1) := by decide +kernel
theorem dX3_endLit_13 : decode cX3_endLit 13 = .ok (.aload_n 0, 1) := by decide +kernel
theorem dX3_endLit_14 : decode cX3_endLit 14 = .ok (.getfield 9, 3) := by decide +kernel
theorem dX3_endLit_17 : decode cX3_endLit 17 = .ok (.iload_n 3, 1) := by decide +kernel
theorem dX3_endLit_18 : decode cX3_endLit 18 = .ok (.iaload, 1) := by decide +kernel
theorem dX3_endLit_19 : decode cX3_endLit 19 = .ok (.iconst (-1), 1) := by decide +kernel
theorem dX3_endLit_20 : decode cX3_endLit 20 = .ok (.if_icmp .eq 20, 3) := by decide +kernel
theorem dX3_endLit_23 : decode cX3_endLit 23 = .ok (.aload_n 0, 1) := by decide +kernel
theorem dX3_endLit_24 : decode cX3_endLit 24 = .ok (.getfield 9, 3) := by decide +kernel
theorem dX3_endLit_27 : decode cX3_endLit 27 = .ok (.iload_n 3, 1) := by decide +kernel
theorem dX3_endLit_28 : decode cX3_endLit 28 = .ok (.iaload, 1) := by decide +kernel
theorem dX3_endLit_29 : decode cX3_endLit 29 = .ok (.iload_n 1, 1) := by decide +kernel
theorem dX3_endLit_30 : decode cX3_endLit 30 = .ok (.invokestatic 54, 3) := by decide +kernel
theorem dX3_endLit_33 : decode cX3_endLit 33 = .ok (.ifCond .le 7, 3) := by decide +kernel
theorem dX3_endLit_36 : decode cX3_endLit 36 = .ok (.iconst 1, 1) := by decide +kernel
theorem dX3_endLit_37 : decode cX3_endLit 37 = .ok (.goto 4, 3) := by decide +kernel
theorem dX3_endLit_40 : decode cX3_endLit 40 = .ok (.iconst 0, 1) := by decide +kernel
theorem dX3_endLit_41 : decode cX3_endLit 41 = .ok (.iadd, 1) := by decide +kernel
theorem dX3_endLit_42 : decode cX3_endLit 42 = .ok (.istore_n 2, 1) := by decide +kernel
theorem dX3_endLit_43 : decode cX3_endLit 43 = .ok (.iinc 3 1, 3) := by decide +kernel
theorem dX3_endLit_46 : decode cX3_endLit 46 = .ok (.goto (-42), 3) := by decide +kernel
theorem dX3_endLit_49 : decode cX3_endLit 49 = .ok (.iload_n 2, 1) := by decide +kernel
theorem dX3_endLit_50 : decode cX3_endLit 50 = .ok (.ireturn, 1) := by decide +kernel
set_option maxRecDepth 20000 in
theorem ggX4_init_X2_init : GoodIn wsX4_init wsX2_init := goodIn_r _ [25, 26, 2, 3, 21, 27, 46, 47] (by decide +kernel) (by decide +kernel)
set_option maxRecDepth 20000 in
theorem gX4_init_X2_init_n9 : GoodIn wsX4_init (wsX2_init) := ggX4_init_X2_init
set_option maxRecDepth 20000 in
theorem ggX4_init_X1_init : GoodIn wsX4_init wsX1_init := goodIn_r _ [29, 30, 2, 3, 21, 31, 32, 33, 58, 59, 60, 61] (by decide +kernel) (by decide +kernel)
set_option maxRecDepth 20000 in
theorem gX4_init_X1_init_n18 : GoodIn wsX4_init (wsX1_init) := ggX4_init_X1_init
set_option maxRecDepth 20000 in
theorem ggX4_init_X0_init : GoodIn wsX4_init wsX0_init := goodIn_r _ [35, 36, 2, 3, 21, 37, 38, 39, 40, 41, 62, 63, 64, 65, 66, 67, 68, 69, 70] (by decide +kernel) (by decide +kernel)
set_option maxRecDepth 20000 in
theorem gX4_init_X0_init_n25 : GoodIn wsX4_init (wsX0_init) := ggX4_init_X0_init
set_option maxRecDepth 20000 in
theorem ggX4_init_X3_init : GoodIn wsX4_init wsX3_init := goodIn_r _ [43, 44, 2, 3, 21, 45, 71, 72] (by decide +kernel) (by decide +kernel)
set_option maxRecDepth 20000 in
theorem gX4_init_X3_init_n35 : GoodIn wsX4_init (wsX3_init) := ggX4_init_X3_init
theorem dX4_init_0 : decode cX4_init 0 = .ok (.aload_n 0, 1) := by decide +kernel
theorem dX4_init_1 : decode cX4_init 1 = .ok (.invokespecial 1, 3) := by decide +kernel
theorem dX4_init_4 : decode cX4_init 4 = .ok (.aload_n 0, 1) := by decide +kernel
theorem dX4_init_5 : decode cX4_init 5 = .ok (.new 7, 3) := by decide +kernel
theorem dX4_init_8 : decode cX4_init 8 = .ok (.dup, 1) := by decide +kernel
theorem dX4_init_9 : decode cX4_init 9 = .ok (.invokespecial 9, 3) := by decide +kernel
theorem dX4_init_12 : decode cX4_init 12 = .ok (.putfield 10, 3) := by decide +kernel
theorem dX4_init_15 : decode cX4_init 15 = .ok (.aload_n 0, 1) := by decide +kernel
theorem dX4_init_16 : decode cX4_init 16 = .ok (.new 16, 3) := by decide +kernel
theorem dX4_init_19 : decode cX4_init 19 = .ok (.dup, 1) := by decide +kernel
theorem dX4_init_20 : decode cX4_init 20 = .ok (.invokespecial 18, 3) := by decide +kernel
theorem dX4_init_23 : decode cX4_init 23 = .ok (.putfield 19, 3) := by decide +kernel
theorem dX4_init_26 : decode cX4_init 26 = .ok (.aload_n 0, 1) := by decide +kernel
theorem dX4_init_27 : decode cX4_init 27 = .ok (.new 23, 3) := by decide +kernel
theorem dX4_init_30 : decode cX4_init 30 = .ok (.dup, 1) := by decide +kernel
theorem dX4_init_31 : decode cX4_init 31 = .ok (.invokespecial 25, 3) := by decide +kernel
theorem dX4_init_34 : decode cX4_init 34 = .ok (.putfield 26, 3) := by decide +kernel
theorem dX4_init_37 : decode cX4_init 37 = .ok (.aload_n 0, 1) := by decide +kernel
theorem dX4_init_38 : decode cX4_init 38 = .ok (.new 23, 3) := by decide +kernel
theorem dX4_init_41 : decode cX4_init 41 = .ok (.dup, 1) := by decide +kernel
theorem dX4_init_42 : decode cX4_init 42 = .ok (.invokespecial 25, 3) := by decide +kernel
theorem dX4_init_45 : decode cX4_init 45 = .ok (.putfield 30, 3) := by decide +kernel
theorem dX4_init_48 : decode cX4_init 48 = .ok (.aload_n 0, 1) := by decide +kernel
theorem dX4_init_49 : decode cX4_init 49 = .ok (.new 33, 3) := by decide +kernel
theorem dX4_init_52 : decode cX4_init 52 = .ok (.dup, 1) := by decide +kernel
theorem dX4_init_53 : decode cX4_init 53 = .ok (.invokespecial 35, 3) := by decide +kernel
theorem dX4_init_56 : decode cX4_init 56 = .ok (.putfield 36, 3) := by decide +kernel
theorem dX4_init_59 : decode cX4_init 59 = .ok (.aload_n 0, 1) := by decide +kernel
theorem dX4_init_60 : decode cX4_init 60 = .ok (.iconst 3, 1) := by decide +kernel
theorem dX4_init_61 : decode cX4_init 61 = .ok (.newarray .int, 2) := by decide +kernel
theorem dX4_init_63 : decode cX4_init 63 = .ok (.putfield 40, 3) := by decide +kernel
theorem dX4_init_66 : decode cX4_init 66 = .ok (.aload_n 0, 1) := by decide +kernel
theorem dX4_init_67 : decode cX4_init 67 = .ok (.bipush 7, 2) := by decide +kernel
theorem dX4_init_69 : decode cX4_init 69 = .ok (.newarray .int, 2) := by decide +kernel
theorem dX4_init_71 : decode cX4_init 71 = .ok (.putfield 44, 3) := by decide +kernel
theorem dX4_init_74 : decode cX4_init 74 = .ok (.return_, 1) := by decide +kernel
set_option maxRecDepth 20000 in
theorem ggX4_letter_X2_put : GoodIn wsX4_letter wsX2_put := goodIn_r _ [6, 7, 8, 19, 20] (by decide +kernel) (by decide +kernel)
set_option maxRecDepth 20000 in
theorem gX4_letter_X2_put : GoodIn wsX4_letter (wsV RX4 47 RX2 yX2_put wsX2_put) := goodIn_app (goodIn_of _ (by decide +kernel)) ggX4_letter_X2_put
theorem dX4_letter_0 : decode cX4_letter 0 = .ok (.iload_n 1, 1) := by decide +kernel
theorem dX4_letter_1 : decode cX4_letter 1 = .ok (.iconst 1, 1) := by decide +kernel
theorem dX4_letter_2 : decode cX4_letter 2 = .ok (.if_icmp .lt 9, 3) := by decide +kernel
theorem dX4_letter_5 : decode cX4_letter 5 = .ok (.iload_n 1, 1) := by decide +kernel
theorem dX4_letter_6 : decode cX4_letter 6 = .ok (.bipush 126, 2) := by decide +kernel
theorem dX4_letter_8 : decode cX4_letter 8 = .ok (.if_icmp .le 6, 3) := by decide +kernel
theorem dX4_letter_11 : decode cX4_letter 11 = .ok (.bipush (-102), 2) := by decide +kernel
theorem dX4_letter_13 : decode cX4_letter 13 = .ok (.ireturn, 1) := by decide +kernel
theorem dX4_letter_14 : decode cX4_letter 14 = .ok (.aload_n 0, 1) := by decide +kernel
theorem dX4_letter_15 : decode cX4_letter 15 = .ok (.getfield 10, 3) := by decide +kernel
theorem dX4_letter_18 : decode cX4_letter 18 = .ok (.iload_n 1, 1) := by decide +kernel
theorem dX4_letter_19 : decode cX4_letter 19 = .ok (.invokevirtual 47, 3) := by decide +kernel
theorem dX4_letter_22 : decode cX4_letter 22 = .ok (.ireturn, 1) := by decide +kernel
theorem dX4_blank_0 : decode cX4_blank 0 = .ok (.aload_n 0, 1) := by decide +kernel
theorem dX4_blank_1 : decode cX4_blank 1 = .ok (.getfield 10, 3) := by decide +kernel
theorem dX4_blank_4 : decode cX4_blank 4 = .ok (.getfield 51, 3) := by decide +kernel
theorem dX4_blank_7 : decode cX4_blank 7 = .ok (.istore_n 1, 1) := by decide +kernel
theorem dX4_blank_8 : decode cX4_blank 8 = .ok (.aload_n 0, 1) := by decide +kernel
theorem dX4_blank_9 : decode cX4_blank 9 = .ok (.getfield 10, 3) := by decide +kernel
theorem dX4_blank_12 : decode cX4_blank 12 = .ok (.iconst 0, 1) := by decide +kernel
theorem dX4_blank_13 : decode cX4_blank 13 = .ok (.putfield 51, 3) := by decide +kernel
theorem dX4_blank_16 : decode cX4_blank 16 = .ok (.iload_n 1, 1) := by decide +kernel
theorem dX4_blank_17 : decode cX4_blank 17 = .ok (.ireturn, 1) := by decide +kernel
set_option maxRecDepth 20000 in
theorem ggX4_fault_X2_firstFault : GoodIn wsX4_fault wsX2_firstFault := goodIn_r _ [6, 7, 8, 9, 10, 5, 11, 12, 13, 14, 15, 16, 17, 18, 19, 20, 21, 22, 23, 24, 25, 26, 27, 28, 29, 30, 31, 32, 33, 34, 35, 36, 37, 38, 39, 40, 41, 42, 43, 44, 45, 46, 47, 48, 49, 50, 51, 52, 53, 54, 55, 56, 57, 58, 59, 60, 61, 62, 63, 64, 65, 66, 67, 68, 69, 70, 71, 72, 73, 74, 75, 76, 77, 78, 79, 80, 81, 82, 83, 84, 85, 86, 87, 88, 89, 90, 91, 92, 93, 94, 95, 96, 97, 98, 99, 100, 111, 112] (by decide +kernel) (by decide +kernel)
set_option maxRecDepth 20000 in
theorem gX4_fault_X2_firstFault : GoodIn wsX4_fault (wsV RX4 55 RX2 yX2_firstFault wsX2_firstFault) := goodIn_app (goodIn_of _ (by decide +kernel)) ggX4_fault_X2_firstFault
theorem dX4_fault_0 : decode cX4_fault 0 = .ok (.aload_n 0, 1) := by decide +kernel
theorem dX4_fault_1 : decode cX4_fault 1 = .ok (.getfield 10, 3) := by decide +kernel
theorem dX4_fault_4 : decode cX4_fault 4 = .ok (.invokevirtual 55, 3) := by decide +kernel
theorem dX4_fault_7 : decode cX4_fault 7 = .ok (.ireturn, 1) := by decide +kernel
set_option maxRecDepth 20000 in
theorem ggX4_office_X2_isOffice : GoodIn wsX4_office wsX2_isOffice := goodIn_r _ [12, 13, 14, 15, 16, 11, 17, 18, 19, 20, 21, 22, 23, 24, 25, 26, 27, 28, 29, 30, 31, 32, 33, 34, 35, 36, 37, 38, 39, 40, 41, 42, 43, 44, 45, 46, 47, 48, 49, 50, 51, 52, 53, 54, 55, 56, 57, 58, 59, 60, 61, 62, 63, 64, 65, 66, 67, 68, 69, 70, 71, 72, 73, 74, 75, 76, 77, 78, 79, 80, 81, 82, 83, 84, 85, 86, 87, 88, 89, 90, 91, 92, 93, 94, 95, 96, 97, 98, 99, 100, 101, 102, 103, 104, 105, 106, 107, 108, 109, 110, 156, 157] (by decide +kernel) (by decide +kernel)
set_option maxRecDepth 20000 in
theorem gX4_office_X2_isOffice : GoodIn wsX4_office (wsV RX4 59 RX2 yX2_isOffice wsX2_isOffice) := goodIn_app (goodIn_of _ (by decide +kernel)) ggX4_office_X2_isOffice
set_option maxRecDepth 20000 in
theorem ggX4_office_X1_read : GoodIn wsX4_office wsX1_read := goodIn_r _ [115, 116, 117, 55, 52, 56, 118, 119, 120, 121, 122, 123, 23, 24, 25, 26, 27, 28, 29, 30, 31, 32, 33, 34, 35, 36, 37, 38, 39, 40, 41, 42, 43, 44, 45, 46, 47, 48, 49, 50, 51, 53, 54, 57, 58, 59, 60, 61, 62, 63, 64, 65, 66, 67, 68, 69, 70, 71, 72, 73, 74, 75, 76, 77, 78, 79, 80, 81, 82, 83, 84, 85, 86, 87, 88, 89, 90, 91, 92, 93, 94, 95, 96, 97, 98, 99, 100, 101, 102, 103, 104, 105, 106, 107, 108, 109, 110, 124, 125, 114, 126, 127, 128, 129, 130, 156, 157, 158, 159, 160, 161] (by decide +kernel) (by decide +kernel)
set_option maxRecDepth 20000 in
theorem gX4_office_X1_read : GoodIn wsX4_office (wsV RX4 63 RX1 yX1_read wsX1_read) := goodIn_app (goodIn_of _ (by decide +kernel)) ggX4_office_X1_read
set_option maxRecDepth 20000 in
theorem ggX4_office_X0_begin : GoodIn wsX4_office wsX0_begin := goodIn_r _ [135, 136, 137, 138, 139, 140, 141, 134, 142, 143, 144, 145, 162, 163, 164, 165, 166, 167, 168, 169, 170] (by decide +kernel) (by decide +kernel)
set_option maxRecDepth 20000 in
theorem gX4_office_X0_begin : GoodIn wsX4_office (wsV RX4 67 RX0 yX0_begin wsX0_begin) := goodIn_app (goodIn_of _ (by decide +kernel)) ggX4_office_X0_begin
theorem dX4_office_0 : decode cX4_office 0 = .ok (.aload_n 0, 1) := by decide +kernel
theorem dX4_office_1 : decode cX4_office 1 = .ok (.getfield 10, 3) := by decide +kernel
theorem dX4_office_4 : decode cX4_office 4 = .ok (.invokevirtual 59, 3) := by decide +kernel
theorem dX4_office_7 : decode cX4_office 7 = .ok (.ifCond .ne 6, 3) := by decide +kernel
theorem dX4_office_10 : decode cX4_office 10 = .ok (.bipush (-103), 2) := by decide +kernel
theorem dX4_office_12 : decode cX4_office 12 = .ok (.ireturn, 1) := by decide +kernel
theorem dX4_office_13 : decode cX4_office 13 = .ok (.aload_n 0, 1) := by decide +kernel
theorem dX4_office_14 : decode cX4_office 14 = .ok (.getfield 19, 3) := by decide +kernel
theorem dX4_office_17 : decode cX4_office 17 = .ok (.aload_n 0, 1) := by decide +kernel
theorem dX4_office_18 : decode cX4_office 18 = .ok (.getfield 10, 3) := by decide +kernel
theorem dX4_office_21 : decode cX4_office 21 = .ok (.invokevirtual 63, 3) := by decide +kernel
theorem dX4_office_24 : decode cX4_office 24 = .ok (.aload_n 0, 1) := by decide +kernel
theorem dX4_office_25 : decode cX4_office 25 = .ok (.getfield 10, 3) := by decide +kernel
theorem dX4_office_28 : decode cX4_office 28 = .ok (.iconst 0, 1) := by decide +kernel
theorem dX4_office_29 : decode cX4_office 29 = .ok (.putfield 51, 3) := by decide +kernel
theorem dX4_office_32 : decode cX4_office 32 = .ok (.aload_n 0, 1) := by decide +kernel
theorem dX4_office_33 : decode cX4_office 33 = .ok (.getfield 26, 3) := by decide +kernel
theorem dX4_office_36 : decode cX4_office 36 = .ok (.invokevirtual 67, 3) := by decide +kernel
theorem dX4_office_39 : decode cX4_office 39 = .ok (.aload_n 0, 1) := by decide +kernel
theorem dX4_office_40 : decode cX4_office 40 = .ok (.iconst 0, 1) := by decide +kernel
theorem dX4_office_41 : decode cX4_office 41 = .ok (.putfield 70, 3) := by decide +kernel
theorem dX4_office_44 : decode cX4_office 44 = .ok (.aload_n 0, 1) := by decide +kernel
theorem dX4_office_45 : decode cX4_office 45 = .ok (.dup, 1) := by decide +kernel
theorem dX4_office_46 : decode cX4_office 46 = .ok (.getfield 74, 3) := by decide +kernel
theorem dX4_office_49 : decode cX4_office 49 = .ok (.iconst 1, 1) := by decide +kernel
theorem dX4_office_50 : decode cX4_office 50 = .ok (.iadd, 1) := by decide +kernel
theorem dX4_office_51 : decode cX4_office 51 = .ok (.putfield 74, 3) := by decide +kernel
theorem dX4_office_54 : decode cX4_office 54 = .ok (.aload_n 0, 1) := by decide +kernel
theorem dX4_office_55 : decode cX4_office 55 = .ok (.getfield 19, 3) := by decide +kernel
theorem dX4_office_58 : decode cX4_office 58 = .ok (.getfield 77, 3) := by decide +kernel
theorem dX4_office_61 : decode cX4_office 61 = .ok (.ireturn, 1) := by decide +kernel
set_option maxRecDepth 20000 in
theorem ggX4_lamp_X4_isLamp : GoodIn wsX4_lamp wsX4_isLamp := goodIn_r _ [11, 1, 12, 30, 31, 32, 33, 34, 35, 36, 37, 38, 39, 40, 41, 42, 43] (by decide +kernel) (by decide +kernel)
set_option maxRecDepth 20000 in
theorem gX4_lamp_X4_isLamp : GoodIn wsX4_lamp (wsV RX4 80 RX4 yX4_isLamp wsX4_isLamp) := goodIn_app (goodIn_of _ (by decide +kernel)) ggX4_lamp_X4_isLamp
set_option maxRecDepth 20000 in
theorem ggX4_lamp_X1_left : GoodIn wsX4_lamp wsX1_left := goodIn_r _ [16] (by decide +kernel) (by decide +kernel)
set_option maxRecDepth 20000 in
theorem gX4_lamp_X1_left : GoodIn wsX4_lamp (va_wsS RX4 93 yX1_left wsX1_left) := goodIn_app (goodIn_of _ (by decide +kernel)) ggX4_lamp_X1_left
set_option maxRecDepth 20000 in
theorem ggX4_lamp_X0_peopleIn : GoodIn wsX4_lamp wsX0_peopleIn := goodIn_r _ [21, 22, 23, 44, 45, 46, 47, 48, 49, 50, 51, 52] (by decide +kernel) (by decide +kernel)
set_option maxRecDepth 20000 in
theorem gX4_lamp_X0_peopleIn : GoodIn wsX4_lamp (wsV RX4 100 RX0 yX0_peopleIn wsX0_peopleIn) := goodIn_app (goodIn_of _ (by decide +kernel)) ggX4_lamp_X0_peopleIn
set_option maxRecDepth 20000 in
theorem ggX4_lamp_X1_seeing : GoodIn wsX4_lamp wsX1_seeing := goodIn_r _ [27, 28, 29, 40, 41, 42, 43] (by decide +kernel) (by decide +kernel)
set_option maxRecDepth 20000 in
theorem gX4_lamp_X1_seeing : GoodIn wsX4_lamp (wsV RX4 103 RX1 yX1_seeing wsX1_seeing) := goodIn_app (goodIn_of _ (by decide +kernel)) ggX4_lamp_X1_seeing
theorem dX4_lamp_0 : decode cX4_lamp 0 = .ok (.aload_n 0, 1) := by decide +kernel
theorem dX4_lamp_1 : decode cX4_lamp 1 = .ok (.iload_n 1, 1) := by decide +kernel
theorem dX4_lamp_2 : decode cX4_lamp 2 = .ok (.invokevirtual 80, 3) := by decide +kernel
theorem dX4_lamp_5 : decode cX4_lamp 5 = .ok (.ifCond .ne 6, 3) := by decide +kernel
theorem dX4_lamp_8 : decode cX4_lamp 8 = .ok (.bipush (-101), 2) := by decide +kernel
theorem dX4_lamp_10 : decode cX4_lamp 10 = .ok (.ireturn, 1) := by decide +kernel
theorem dX4_lamp_11 : decode cX4_lamp 11 = .ok (.iload_n 2, 1) := by decide +kernel
theorem dX4_lamp_12 : decode cX4_lamp 12 = .ok (.tableswitch 100 0 5 #[40, 50, 60, 72, 82, 91], 40) := by decide +kernel
theorem dX4_lamp_52 : decode cX4_lamp 52 = .ok (.aload_n 0, 1) := by decide +kernel
theorem dX4_lamp_53 : decode cX4_lamp 53 = .ok (.getfield 19, 3) := by decide +kernel
theorem dX4_lamp_56 : decode cX4_lamp 56 = .ok (.getfield 84, 3) := by decide +kernel
theorem dX4_lamp_59 : decode cX4_lamp 59 = .ok (.iload_n 1, 1) := by decide +kernel
theorem dX4_lamp_60 : decode cX4_lamp 60 = .ok (.iaload, 1) := by decide +kernel
theorem dX4_lamp_61 : decode cX4_lamp 61 = .ok (.ireturn, 1) := by decide +kernel
theorem dX4_lamp_62 : decode cX4_lamp 62 = .ok (.aload_n 0, 1) := by decide +kernel
theorem dX4_lamp_63 : decode cX4_lamp 63 = .ok (.getfield 19, 3) := by decide +kernel
theorem dX4_lamp_66 : decode cX4_lamp 66 = .ok (.getfield 87, 3) := by decide +kernel
theorem dX4_lamp_69 : decode cX4_lamp 69 = .ok (.iload_n 1, 1) := by decide +kernel
theorem dX4_lamp_70 : decode cX4_lamp 70 = .ok (.iaload, 1) := by decide +kernel
theorem dX4_lamp_71 : decode cX4_lamp 71 = .ok (.ireturn, 1) := by decide +kernel
theorem dX4_lamp_72 : decode cX4_lamp 72 = .ok (.aload_n 0, 1) := by decide +kernel
theorem dX4_lamp_73 : decode cX4_lamp 73 = .ok (.getfield 26, 3) := by decide +kernel
theorem dX4_lamp_76 : decode cX4_lamp 76 = .ok (.getfield 90, 3) := by decide +kernel
theorem dX4_lamp_79 : decode cX4_lamp 79 = .ok (.iload_n 1, 1) := by decide +kernel
theorem dX4_lamp_80 : decode cX4_lamp 80 = .ok (.invokestatic 93, 3) := by decide +kernel
theorem dX4_lamp_83 : decode cX4_lamp 83 = .ok (.ireturn, 1) := by decide +kernel
theorem dX4_lamp_84 : decode cX4_lamp 84 = .ok (.aload_n 0, 1) := by decide +kernel
theorem dX4_lamp_85 : decode cX4_lamp 85 = .ok (.getfield 19, 3) := by decide +kernel
theorem dX4_lamp_88 : decode cX4_lamp 88 = .ok (.getfield 97, 3) := by decide +kernel
theorem dX4_lamp_91 : decode cX4_lamp 91 = .ok (.iload_n 1, 1) := by decide +kernel
theorem dX4_lamp_92 : decode cX4_lamp 92 = .ok (.iaload, 1) := by decide +kernel
theorem dX4_lamp_93 : decode cX4_lamp 93 = .ok (.ireturn, 1) := by decide +kernel
theorem dX4_lamp_94 : decode cX4_lamp 94 = .ok (.aload_n 0, 1) := by decide +kernel
theorem dX4_lamp_95 : decode cX4_lamp 95 = .ok (.getfield 26, 3) := by decide +kernel
theorem dX4_lamp_98 : decode cX4_lamp 98 = .ok (.iload_n 1, 1) := by decide +kernel
theorem dX4_lamp_99 : decode cX4_lamp 99 = .ok (.invokevirtual 100, 3) := by decide +kernel
theorem dX4_lamp_102 : decode cX4_lamp 102 = .ok (.ireturn, 1) := by decide +kernel
theorem dX4_lamp_103 : decode cX4_lamp 103 = .ok (.aload_n 0, 1) := by decide +kernel
theorem dX4_lamp_104 : decode cX4_lamp 104 = .ok (.getfield 19, 3) := by decide +kernel
theorem dX4_lamp_107 : decode cX4_lamp 107 = .ok (.iload_n 1, 1) := by decide +kernel
theorem dX4_lamp_108 : decode cX4_lamp 108 = .ok (.invokevirtual 103, 3) := by decide +kernel
theorem dX4_lamp_111 : decode cX4_lamp 111 = .ok (.ireturn, 1) := by decide +kernel
theorem dX4_lamp_112 : decode cX4_lamp 112 = .ok (.bipush (-102), 2) := by decide +kernel
theorem dX4_lamp_114 : decode cX4_lamp 114 = .ok (.ireturn, 1) := by decide +kernel
set_option maxRecDepth 20000 in
theorem ggX4_as_X4_isLamp : GoodIn wsX4_as wsX4_isLamp := goodIn_r _ [6, 1, 7, 14, 15, 16, 17, 18, 19, 20, 21, 22, 23, 24, 25, 26, 27] (by decide +kernel) (by decide +kernel)
set_option maxRecDepth 20000 in
theorem gX4_as_X4_isLamp : GoodIn wsX4_as (wsV RX4 80 RX4 yX4_isLamp wsX4_isLamp) := goodIn_app (goodIn_of _ (by decide +kernel)) ggX4_as_X4_isLamp
set_option maxRecDepth 20000 in
theorem ggX4_as_X1_isOf : GoodIn wsX4_as wsX1_isOf := goodIn_r _ [12, 13, 24, 25, 26, 27] (by decide +kernel) (by decide +kernel)
set_option maxRecDepth 20000 in
theorem gX4_as_X1_isOf : GoodIn wsX4_as (wsV RX4 106 RX1 yX1_isOf wsX1_isOf) := goodIn_app (goodIn_of _ (by decide +kernel)) ggX4_as_X1_isOf
theorem dX4_as_0 : decode cX4_as 0 = .ok (.aload_n 0, 1) := by decide +kernel
theorem dX4_as_1 : decode cX4_as 1 = .ok (.iload_n 1, 1) := by decide +kernel
theorem dX4_as_2 : decode cX4_as 2 = .ok (.invokevirtual 80, 3) := by decide +kernel
theorem dX4_as_5 : decode cX4_as 5 = .ok (.ifCond .ne 6, 3) := by decide +kernel
theorem dX4_as_8 : decode cX4_as 8 = .ok (.bipush (-101), 2) := by decide +kernel
theorem dX4_as_10 : decode cX4_as 10 = .ok (.ireturn, 1) := by decide +kernel
theorem dX4_as_11 : decode cX4_as 11 = .ok (.iload_n 2, 1) := by decide +kernel
theorem dX4_as_12 : decode cX4_as 12 = .ok (.ifCond .lt 8, 3) := by decide +kernel
theorem dX4_as_15 : decode cX4_as 15 = .ok (.iload_n 2, 1) := by decide +kernel
theorem dX4_as_16 : decode cX4_as 16 = .ok (.iconst 5, 1) := by decide +kernel
theorem dX4_as_17 : decode cX4_as 17 = .ok (.if_icmp .lt 6, 3) := by decide +kernel
theorem dX4_as_20 : decode cX4_as 20 = .ok (.bipush (-102), 2) := by decide +kernel
theorem dX4_as_22 : decode cX4_as 22 = .ok (.ireturn, 1) := by decide +kernel
theorem dX4_as_23 : decode cX4_as 23 = .ok (.aload_n 0, 1) := by decide +kernel
theorem dX4_as_24 : decode cX4_as 24 = .ok (.getfield 19, 3) := by decide +kernel
theorem dX4_as_27 : decode cX4_as 27 = .ok (.iload_n 1, 1) := by decide +kernel
theorem dX4_as_28 : decode cX4_as 28 = .ok (.iload_n 2, 1) := by decide +kernel
theorem dX4_as_29 : decode cX4_as 29 = .ok (.invokevirtual 106, 3) := by decide +kernel
theorem dX4_as_32 : decode cX4_as 32 = .ok (.ifCond .eq 7, 3) := by decide +kernel
theorem dX4_as_35 : decode cX4_as 35 = .ok (.iload_n 1, 1) := by decide +kernel
theorem dX4_as_36 : decode cX4_as 36 = .ok (.goto 4, 3) := by decide +kernel
theorem dX4_as_39 : decode cX4_as 39 = .ok (.iconst (-1), 1) := by decide +kernel
theorem dX4_as_40 : decode cX4_as 40 = .ok (.ireturn, 1) := by decide +kernel
set_option maxRecDepth 20000 in
theorem ggX4_person_X4_isLamp : GoodIn wsX4_person wsX4_isLamp := goodIn_r _ [6, 7, 8, 18, 19, 20, 21, 22, 23, 24, 25, 26, 27, 28, 29, 30, 31] (by decide +kernel) (by decide +kernel)
set_option maxRecDepth 20000 in
theorem gX4_person_X4_isLamp : GoodIn wsX4_person (wsV RX4 80 RX4 yX4_isLamp wsX4_isLamp) := goodIn_app (goodIn_of _ (by decide +kernel)) ggX4_person_X4_isLamp
set_option maxRecDepth 20000 in
theorem ggX4_person_X0_seat : GoodIn wsX4_person wsX0_seat := goodIn_r _ [13, 14, 15, 16, 17, 32, 33, 34, 35, 36, 37, 38, 39, 40] (by decide +kernel) (by decide +kernel)
set_option maxRecDepth 20000 in
theorem gX4_person_X0_seat : GoodIn wsX4_person (wsV RX4 110 RX0 yX0_seat wsX0_seat) := goodIn_app (goodIn_of _ (by decide +kernel)) ggX4_person_X0_seat
theorem dX4_person_0 : decode cX4_person 0 = .ok (.aload_n 0, 1) := by decide +kernel
theorem dX4_person_1 : decode cX4_person 1 = .ok (.iload_n 1, 1) := by decide +kernel
theorem dX4_person_2 : decode cX4_person 2 = .ok (.invokevirtual 80, 3) := by decide +kernel
theorem dX4_person_5 : decode cX4_person 5 = .ok (.ifCond .ne 6, 3) := by decide +kernel
theorem dX4_person_8 : decode cX4_person 8 = .ok (.bipush (-101), 2) := by decide +kernel
theorem dX4_person_10 : decode cX4_person 10 = .ok (.ireturn, 1) := by decide +kernel
theorem dX4_person_11 : decode cX4_person 11 = .ok (.aload_n 0, 1) := by decide +kernel
theorem dX4_person_12 : decode cX4_person 12 = .ok (.getfield 26, 3) := by decide +kernel
theorem dX4_person_15 : decode cX4_person 15 = .ok (.iload_n 1, 1) := by decide +kernel
theorem dX4_person_16 : decode cX4_person 16 = .ok (.invokevirtual 110, 3) := by decide +kernel
theorem dX4_person_19 : decode cX4_person 19 = .ok (.ireturn, 1) := by decide +kernel
set_option maxRecDepth 20000 in
theorem ggX4_about_X4_isPerson : GoodIn wsX4_about wsX4_isPerson := goodIn_r _ [10, 1, 11, 16, 17, 18, 19, 20, 21, 22, 23, 24, 25, 26, 27, 28, 29, 30, 31, 32, 33, 34] (by decide +kernel) (by decide +kernel)
set_option maxRecDepth 20000 in
theorem gX4_about_X4_isPerson : GoodIn wsX4_about (wsV RX4 113 RX4 yX4_isPerson wsX4_isPerson) := goodIn_app (goodIn_of _ (by decide +kernel)) ggX4_about_X4_isPerson
set_option maxRecDepth 20000 in
theorem ggX4_about_X1_left : GoodIn wsX4_about wsX1_left := goodIn_r _ [15] (by decide +kernel) (by decide +kernel)
set_option maxRecDepth 20000 in
theorem gX4_about_X1_left : GoodIn wsX4_about (va_wsS RX4 93 yX1_left wsX1_left) := goodIn_app (goodIn_of _ (by decide +kernel)) ggX4_about_X1_left
theorem dX4_about_0 : decode cX4_about 0 = .ok (.aload_n 0, 1) := by decide +kernel
theorem dX4_about_1 : decode cX4_about 1 = .ok (.iload_n 1, 1) := by decide +kernel
theorem dX4_about_2 : decode cX4_about 2 = .ok (.invokevirtual 113, 3) := by decide +kernel
theorem dX4_about_5 : decode cX4_about 5 = .ok (.ifCond .ne 6, 3) := by decide +kernel
theorem dX4_about_8 : decode cX4_about 8 = .ok (.bipush (-101), 2) := by decide +kernel
theorem dX4_about_10 : decode cX4_about 10 = .ok (.ireturn, 1) := by decide +kernel
theorem dX4_about_11 : decode cX4_about 11 = .ok (.iload_n 2, 1) := by decide +kernel
theorem dX4_about_12 : decode cX4_about 12 = .ok (.tableswitch 90 0 3 #[32, 42, 70, 80], 32) := by decide +kernel
theorem dX4_about_44 : decode cX4_about 44 = .ok (.aload_n 0, 1) := by decide +kernel
theorem dX4_about_45 : decode cX4_about 45 = .ok (.getfield 26, 3) := by decide +kernel
theorem dX4_about_48 : decode cX4_about 48 = .ok (.getfield 116, 3) := by decide +kernel
theorem dX4_about_51 : decode cX4_about 51 = .ok (.iload_n 1, 1) := by decide +kernel
theorem dX4_about_52 : decode cX4_about 52 = .ok (.iaload, 1) := by decide +kernel
theorem dX4_about_53 : decode cX4_about 53 = .ok (.ireturn, 1) := by decide +kernel
theorem dX4_about_54 : decode cX4_about 54 = .ok (.aload_n 0, 1) := by decide +kernel
theorem dX4_about_55 : decode cX4_about 55 = .ok (.getfield 26, 3) := by decide +kernel
theorem dX4_about_58 : decode cX4_about 58 = .ok (.getfield 90, 3) := by decide +kernel
theorem dX4_about_61 : decode cX4_about 61 = .ok (.aload_n 0, 1) := by decide +kernel
theorem dX4_about_62 : decode cX4_about 62 = .ok (.getfield 26, 3) := by decide +kernel
theorem dX4_about_65 : decode cX4_about 65 = .ok (.getfield 116, 3) := by decide +kernel
theorem dX4_about_68 : decode cX4_about 68 = .ok (.iload_n 1, 1) := by decide +kernel
theorem dX4_about_69 : decode cX4_about 69 = .ok (.iaload, 1) := by decide +kernel
theorem dX4_about_70 : decode cX4_about 70 = .ok (.invokestatic 93, 3) := by decide +kernel
theorem dX4_about_73 : decode cX4_about 73 = .ok (.ifCond .le 7, 3) := by decide +kernel
theorem dX4_about_76 : decode cX4_about 76 = .ok (.iconst 1, 1) := by decide +kernel
theorem dX4_about_77 : decode cX4_about 77 = .ok (.goto 4, 3) := by decide +kernel
theorem dX4_about_80 : decode cX4_about 80 = .ok (.iconst 0, 1) := by decide +kernel
theorem dX4_about_81 : decode cX4_about 81 = .ok (.ireturn, 1) := by decide +kernel
theorem dX4_about_82 : decode cX4_about 82 = .ok (.aload_n 0, 1) := by decide +kernel
theorem dX4_about_83 : decode cX4_about 83 = .ok (.getfield 26, 3) := by decide +kernel
theorem dX4_about_86 : decode cX4_about 86 = .ok (.getfield 119, 3) := by decide +kernel
theorem dX4_about_89 : decode cX4_about 89 = .ok (.iload_n 1, 1) := by decide +kernel
theorem dX4_about_90 : decode cX4_about 90 = .ok (.iaload, 1) := by decide +kernel
theorem dX4_about_91 : decode cX4_about 91 = .ok (.ireturn, 1) := by decide +kernel
theorem dX4_about_92 : decode cX4_about 92 = .ok (.aload_n 0, 1) := by decide +kernel
theorem dX4_about_93 : decode cX4_about 93 = .ok (.getfield 26, 3) := by decide +kernel
theorem dX4_about_96 : decode cX4_about 96 = .ok (.getfield 122, 3) := by decide +kernel
theorem dX4_about_99 : decode cX4_about 99 = .ok (.iload_n 1, 1) := by decide +kernel
theorem dX4_about_100 : decode cX4_about 100 = .ok (.iaload, 1) := by decide +kernel
theorem dX4_about_101 : decode cX4_about 101 = .ok (.ireturn, 1) := by decide +kernel
theorem dX4_about_102 : decode cX4_about 102 = .ok (.bipush (-102), 2) := by decide +kernel
theorem dX4_about_104 : decode cX4_about 104 = .ok (.ireturn, 1) := by decide +kernel
set_option maxRecDepth 20000 in
theorem ggX4_move_X4_isPerson : GoodIn wsX4_move wsX4_isPerson := goodIn_r _ [7, 1, 8, 15, 16, 17, 18, 19, 20, 21, 22, 23, 24, 25, 26, 27, 28, 29, 30, 31, 32, 33] (by decide +kernel) (by decide +kernel)
set_option maxRecDepth 20000 in
theorem gX4_move_X4_isPerson : GoodIn wsX4_move (wsV RX4 113 RX4 yX4_isPerson wsX4_isPerson) := goodIn_app (goodIn_of _ (by decide +kernel)) ggX4_move_X4_isPerson
set_option maxRecDepth 20000 in
theorem ggX4_move_X4_isLamp : GoodIn wsX4_move wsX4_isLamp := goodIn_r _ [12, 13, 14, 15, 16, 17, 18, 19, 20, 21, 22, 23, 24, 34, 35, 36, 37] (by decide +kernel) (by decide +kernel)
set_option maxRecDepth 20000 in
theorem gX4_move_X4_isLamp : GoodIn wsX4_move (wsV RX4 80 RX4 yX4_isLamp wsX4_isLamp) := goodIn_app (goodIn_of _ (by decide +kernel)) ggX4_move_X4_isLamp
theorem dX4_move_0 : decode cX4_move 0 = .ok (.aload_n 0, 1) := by decide +kernel
theorem dX4_move_1 : decode cX4_move 1 = .ok (.iload_n 1, 1) := by decide +kernel
theorem dX4_move_2 : decode cX4_move 2 = .ok (.invokevirtual 113, 3) := by decide +kernel
theorem dX4_move_5 : decode cX4_move 5 = .ok (.ifCond .eq 11, 3) := by decide +kernel
theorem dX4_move_8 : decode cX4_move 8 = .ok (.aload_n 0, 1) := by decide +kernel
theorem dX4_move_9 : decode cX4_move 9 = .ok (.iload_n 2, 1) := by decide +kernel
theorem dX4_move_10 : decode cX4_move 10 = .ok (.invokevirtual 80, 3) := by decide +kernel
theorem dX4_move_13 : decode cX4_move 13 = .ok (.ifCond .ne 6, 3) := by decide +kernel
theorem dX4_move_16 : decode cX4_move 16 = .ok (.bipush (-101), 2) := by decide +kernel
theorem dX4_move_18 : decode cX4_move 18 = .ok (.ireturn, 1) := by decide +kernel
theorem dX4_move_19 : decode cX4_move 19 = .ok (.aload_n 0, 1) := by decide +kernel
theorem dX4_move_20 : decode cX4_move 20 = .ok (.getfield 26, 3) := by decide +kernel
theorem dX4_move_23 : decode cX4_move 23 = .ok (.getfield 116, 3) := by decide +kernel
theorem dX4_move_26 : decode cX4_move 26 = .ok (.iload_n 1, 1) := by decide +kernel
theorem dX4_move_27 : decode cX4_move 27 = .ok (.iaload, 1) := by decide +kernel
theorem dX4_move_28 : decode cX4_move 28 = .ok (.istore_n 3, 1) := by decide +kernel
theorem dX4_move_29 : decode cX4_move 29 = .ok (.aload_n 0, 1) := by decide +kernel
theorem dX4_move_30 : decode cX4_move 30 = .ok (.getfield 26, 3) := by decide +kernel
theorem dX4_move_33 : decode cX4_move 33 = .ok (.getfield 116, 3) := by decide +kernel
theorem dX4_move_36 : decode cX4_move 36 = .ok (.iload_n 1, 1) := by decide +kernel
theorem dX4_move_37 : decode cX4_move 37 = .ok (.iload_n 2, 1) := by decide +kernel
theorem dX4_move_38 : decode cX4_move 38 = .ok (.iastore, 1) := by decide +kernel
theorem dX4_move_39 : decode cX4_move 39 = .ok (.iload_n 3, 1) := by decide +kernel
theorem dX4_move_40 : decode cX4_move 40 = .ok (.ireturn, 1) := by decide +kernel
set_option maxRecDepth 20000 in
theorem ggX4_minute_X4_hasOffice : GoodIn wsX4_minute wsX4_hasOffice := goodIn_r _ [10, 3, 11, 48, 49, 50, 51, 52, 53, 54, 55, 56, 57, 67, 68, 69, 70] (by decide +kernel) (by decide +kernel)
set_option maxRecDepth 20000 in
theorem gX4_minute_X4_hasOffice : GoodIn wsX4_minute (wsV RX4 128 RX4 yX4_hasOffice wsX4_hasOffice) := goodIn_app (goodIn_of _ (by decide +kernel)) ggX4_minute_X4_hasOffice
set_option maxRecDepth 20000 in
theorem ggX4_minute_X0_stirred : GoodIn wsX4_minute wsX0_stirred := goodIn_r _ [16, 17, 18, 58, 59, 60, 61, 62, 63, 64, 65, 66] (by decide +kernel) (by decide +kernel)
set_option maxRecDepth 20000 in
theorem gX4_minute_X0_stirred : GoodIn wsX4_minute (wsV RX4 131 RX0 yX0_stirred wsX0_stirred) := goodIn_app (goodIn_of _ (by decide +kernel)) ggX4_minute_X0_stirred
set_option maxRecDepth 20000 in
theorem ggX4_minute_X1_after : GoodIn wsX4_minute wsX1_after := goodIn_r _ [23, 24, 25, 26, 27, 28, 29, 30, 31, 32, 22, 33, 67, 68, 69, 70] (by decide +kernel) (by decide +kernel)
set_option maxRecDepth 20000 in
theorem gX4_minute_X1_after : GoodIn wsX4_minute (wsV RX4 134 RX1 yX1_after wsX1_after) := goodIn_app (goodIn_of _ (by decide +kernel)) ggX4_minute_X1_after
set_option maxRecDepth 20000 in
theorem ggX4_minute_X1_litOnes : GoodIn wsX4_minute wsX1_litOnes := goodIn_r _ [37, 24, 31, 32, 22, 33, 67, 68, 69, 70] (by decide +kernel) (by decide +kernel)
set_option maxRecDepth 20000 in
theorem gX4_minute_X1_litOnes : GoodIn wsX4_minute (wsV RX4 140 RX1 yX1_litOnes wsX1_litOnes) := goodIn_app (goodIn_of _ (by decide +kernel)) ggX4_minute_X1_litOnes
set_option maxRecDepth 20000 in
theorem ggX4_minute_X0_write : GoodIn wsX4_minute wsX0_write := goodIn_r _ [41, 17, 42, 43, 18, 58, 59, 60, 61, 62, 63, 64, 65, 66] (by decide +kernel) (by decide +kernel)
set_option maxRecDepth 20000 in
theorem gX4_minute_X0_write : GoodIn wsX4_minute (wsV RX4 143 RX0 yX0_write wsX0_write) := goodIn_app (goodIn_of _ (by decide +kernel)) ggX4_minute_X0_write
set_option maxRecDepth 20000 in
theorem ggX4_minute_X0_inDark : GoodIn wsX4_minute wsX0_inDark := goodIn_r _ [47, 17, 18, 58, 59, 60, 61, 62, 63, 64, 65, 66] (by decide +kernel) (by decide +kernel)
set_option maxRecDepth 20000 in
theorem gX4_minute_X0_inDark : GoodIn wsX4_minute (wsV RX4 147 RX0 yX0_inDark wsX0_inDark) := goodIn_app (goodIn_of _ (by decide +kernel)) ggX4_minute_X0_inDark
theorem dX4_minute_0 : decode cX4_minute 0 = .ok (.iload_n 1, 1) := by decide +kernel
theorem dX4_minute_1 : decode cX4_minute 1 = .ok (.aload_n 0, 1) := by decide +kernel
theorem dX4_minute_2 : decode cX4_minute 2 = .ok (.getfield 26, 3) := by decide +kernel
theorem dX4_minute_5 : decode cX4_minute 5 = .ok (.getfield 125, 3) := by decide +kernel
theorem dX4_minute_8 : decode cX4_minute 8 = .ok (.ishr, 1) := by decide +kernel
theorem dX4_minute_9 : decode cX4_minute 9 = .ok (.ifCond .eq 6, 3) := by decide +kernel
theorem dX4_minute_12 : decode cX4_minute 12 = .ok (.bipush (-102), 2) := by decide +kernel
theorem dX4_minute_14 : decode cX4_minute 14 = .ok (.ireturn, 1) := by decide +kernel
theorem dX4_minute_15 : decode cX4_minute 15 = .ok (.aload_n 0, 1) := by decide +kernel
theorem dX4_minute_16 : decode cX4_minute 16 = .ok (.invokevirtual 128, 3) := by decide +kernel
theorem dX4_minute_19 : decode cX4_minute 19 = .ok (.ifCond .ne 6, 3) := by decide +kernel
theorem dX4_minute_22 : decode cX4_minute 22 = .ok (.bipush (-103), 2) := by decide +kernel
theorem dX4_minute_24 : decode cX4_minute 24 = .ok (.ireturn, 1) := by decide +kernel
theorem dX4_minute_25 : decode cX4_minute 25 = .ok (.aload_n 0, 1) := by decide +kernel
theorem dX4_minute_26 : decode cX4_minute 26 = .ok (.getfield 26, 3) := by decide +kernel
theorem dX4_minute_29 : decode cX4_minute 29 = .ok (.aload_n 0, 1) := by decide +kernel
theorem dX4_minute_30 : decode cX4_minute 30 = .ok (.getfield 19, 3) := by decide +kernel
theorem dX4_minute_33 : decode cX4_minute 33 = .ok (.aload_n 0, 1) := by decide +kernel
theorem dX4_minute_34 : decode cX4_minute 34 = .ok (.getfield 26, 3) := by decide +kernel
theorem dX4_minute_37 : decode cX4_minute 37 = .ok (.getfield 90, 3) := by decide +kernel
theorem dX4_minute_40 : decode cX4_minute 40 = .ok (.aload_n 0, 1) := by decide +kernel
theorem dX4_minute_41 : decode cX4_minute 41 = .ok (.getfield 26, 3) := by decide +kernel
theorem dX4_minute_44 : decode cX4_minute 44 = .ok (.iload_n 1, 1) := by decide +kernel
theorem dX4_minute_45 : decode cX4_minute 45 = .ok (.invokevirtual 131, 3) := by decide +kernel
theorem dX4_minute_48 : decode cX4_minute 48 = .ok (.invokevirtual 134, 3) := by decide +kernel
theorem dX4_minute_51 : decode cX4_minute 51 = .ok (.putfield 90, 3) := by decide +kernel
theorem dX4_minute_54 : decode cX4_minute 54 = .ok (.aload_n 0, 1) := by decide +kernel
theorem dX4_minute_55 : decode cX4_minute 55 = .ok (.getfield 26, 3) := by decide +kernel
theorem dX4_minute_58 : decode cX4_minute 58 = .ok (.dup, 1) := by decide +kernel
theorem dX4_minute_59 : decode cX4_minute 59 = .ok (.getfield 137, 3) := by decide +kernel
theorem dX4_minute_62 : decode cX4_minute 62 = .ok (.iconst 1, 1) := by decide +kernel
theorem dX4_minute_63 : decode cX4_minute 63 = .ok (.iadd, 1) := by decide +kernel
theorem dX4_minute_64 : decode cX4_minute 64 = .ok (.putfield 137, 3) := by decide +kernel
theorem dX4_minute_67 : decode cX4_minute 67 = .ok (.aload_n 0, 1) := by decide +kernel
theorem dX4_minute_68 : decode cX4_minute 68 = .ok (.getfield 26, 3) := by decide +kernel
theorem dX4_minute_71 : decode cX4_minute 71 = .ok (.iload_n 1, 1) := by decide +kernel
theorem dX4_minute_72 : decode cX4_minute 72 = .ok (.aload_n 0, 1) := by decide +kernel
theorem dX4_minute_73 : decode cX4_minute 73 = .ok (.getfield 19, 3) := by decide +kernel
theorem dX4_minute_76 : decode cX4_minute 76 = .ok (.aload_n 0, 1) := by decide +kernel
theorem dX4_minute_77 : decode cX4_minute 77 = .ok (.getfield 26, 3) := by decide +kernel
theorem dX4_minute_80 : decode cX4_minute 80 = .ok (.getfield 90, 3) := by decide +kernel
theorem dX4_minute_83 : decode cX4_minute 83 = .ok (.invokevirtual 140, 3) := by decide +kernel
theorem dX4_minute_86 : decode cX4_minute 86 = .ok (.invokevirtual 143, 3) := by decide +kernel
theorem dX4_minute_89 : decode cX4_minute 89 = .ok (.aload_n 0, 1) := by decide +kernel
theorem dX4_minute_90 : decode cX4_minute 90 = .ok (.getfield 26, 3) := by decide +kernel
theorem dX4_minute_93 : decode cX4_minute 93 = .ok (.aload_n 0, 1) := by decide +kernel
theorem dX4_minute_94 : decode cX4_minute 94 = .ok (.getfield 19, 3) := by decide +kernel
theorem dX4_minute_97 : decode cX4_minute 97 = .ok (.aload_n 0, 1) := by decide +kernel
theorem dX4_minute_98 : decode cX4_minute 98 = .ok (.getfield 26, 3) := by decide +kernel
theorem dX4_minute_101 : decode cX4_minute 101 = .ok (.getfield 90, 3) := by decide +kernel
theorem dX4_minute_104 : decode cX4_minute 104 = .ok (.invokevirtual 140, 3) := by decide +kernel
theorem dX4_minute_107 : decode cX4_minute 107 = .ok (.invokevirtual 147, 3) := by decide +kernel
theorem dX4_minute_110 : decode cX4_minute 110 = .ok (.ireturn, 1) := by decide +kernel
set_option maxRecDepth 20000 in
theorem ggX4_least_X4_asksMinute : GoodIn wsX4_least wsX4_asksMinute := goodIn_r _ [5] (by decide +kernel) (by decide +kernel)
set_option maxRecDepth 20000 in
theorem gX4_least_X4_asksMinute : GoodIn wsX4_least (va_wsS RX4 150 yX4_asksMinute wsX4_asksMinute) := goodIn_app (goodIn_of _ (by decide +kernel)) ggX4_least_X4_asksMinute
set_option maxRecDepth 20000 in
theorem ggX4_least_X4_hasOffice : GoodIn wsX4_least wsX4_hasOffice := goodIn_r _ [9, 10, 11, 62, 63, 64, 65, 66, 67, 68, 69, 70, 71, 72, 73, 74, 75] (by decide +kernel) (by decide +kernel)
set_option maxRecDepth 20000 in
theorem gX4_least_X4_hasOffice : GoodIn wsX4_least (wsV RX4 128 RX4 yX4_hasOffice wsX4_hasOffice) := goodIn_app (goodIn_of _ (by decide +kernel)) ggX4_least_X4_hasOffice
set_option maxRecDepth 20000 in
theorem ggX4_least_X4_planWaving : GoodIn wsX4_least wsX4_planWaving := goodIn_r _ [15, 16, 17, 10, 1, 18, 19, 20, 4, 21, 22, 23, 24, 25, 26, 27, 28, 29, 30, 31, 32, 33, 34, 35, 36, 37, 38, 39, 40, 41, 42, 43, 44, 45, 46, 47, 48, 49, 50, 51, 52, 53, 54, 55, 56, 57, 58, 62, 63, 64, 65, 66, 67, 68, 69, 70, 71, 76, 77, 78, 79, 80, 81, 82, 83, 84, 72, 73, 74, 75] (by decide +kernel) (by decide +kernel)
set_option maxRecDepth 20000 in
theorem gX4_least_X4_planWaving : GoodIn wsX4_least (wsV RX4 153 RX4 yX4_planWaving wsX4_planWaving) := goodIn_app (goodIn_of _ (by decide +kernel)) ggX4_least_X4_planWaving
set_option maxRecDepth 20000 in
theorem ggX4_least_X4_ofMinute : GoodIn wsX4_least wsX4_ofMinute := goodIn_r _ [61] (by decide +kernel) (by decide +kernel)
set_option maxRecDepth 20000 in
theorem gX4_least_X4_ofMinute : GoodIn wsX4_least (va_wsS RX4 156 yX4_ofMinute wsX4_ofMinute) := goodIn_app (goodIn_of _ (by decide +kernel)) ggX4_least_X4_ofMinute
theorem dX4_least_0 : decode cX4_least 0 = .ok (.iload_n 1, 1) := by decide +kernel
theorem dX4_least_1 : decode cX4_least 1 = .ok (.iconst 1, 1) := by decide +kernel
theorem dX4_least_2 : decode cX4_least 2 = .ok (.if_icmp .lt 8, 3) := by decide +kernel
theorem dX4_least_5 : decode cX4_least 5 = .ok (.iload_n 1, 1) := by decide +kernel
theorem dX4_least_6 : decode cX4_least 6 = .ok (.iconst 3, 1) := by decide +kernel
theorem dX4_least_7 : decode cX4_least 7 = .ok (.if_icmp .le 6, 3) := by decide +kernel
theorem dX4_least_10 : decode cX4_least 10 = .ok (.bipush (-102), 2) := by decide +kernel
theorem dX4_least_12 : decode cX4_least 12 = .ok (.ireturn, 1) := by decide +kernel
theorem dX4_least_13 : decode cX4_least 13 = .ok (.iload_n 2, 1) := by decide +kernel
theorem dX4_least_14 : decode cX4_least 14 = .ok (.ifCond .eq 14, 3) := by decide +kernel
theorem dX4_least_17 : decode cX4_least 17 = .ok (.iload_n 2, 1) := by decide +kernel
theorem dX4_least_18 : decode cX4_least 18 = .ok (.iconst 3, 1) := by decide +kernel
theorem dX4_least_19 : decode cX4_least 19 = .ok (.invokestatic 150, 3) := by decide +kernel
theorem dX4_least_22 : decode cX4_least 22 = .ok (.ifCond .ne 6, 3) := by decide +kernel
theorem dX4_least_25 : decode cX4_least 25 = .ok (.bipush (-102), 2) := by decide +kernel
theorem dX4_least_27 : decode cX4_least 27 = .ok (.ireturn, 1) := by decide +kernel
theorem dX4_least_28 : decode cX4_least 28 = .ok (.aload_n 0, 1) := by decide +kernel
theorem dX4_least_29 : decode cX4_least 29 = .ok (.invokevirtual 128, 3) := by decide +kernel
theorem dX4_least_32 : decode cX4_least 32 = .ok (.ifCond .ne 6, 3) := by decide +kernel
theorem dX4_least_35 : decode cX4_least 35 = .ok (.bipush (-103), 2) := by decide +kernel
theorem dX4_least_37 : decode cX4_least 37 = .ok (.ireturn, 1) := by decide +kernel
theorem dX4_least_38 : decode cX4_least 38 = .ok (.aload_n 0, 1) := by decide +kernel
theorem dX4_least_39 : decode cX4_least 39 = .ok (.iload_n 1, 1) := by decide +kernel
theorem dX4_least_40 : decode cX4_least 40 = .ok (.invokevirtual 153, 3) := by decide +kernel
theorem dX4_least_43 : decode cX4_least 43 = .ok (.istore_n 3, 1) := by decide +kernel
theorem dX4_least_44 : decode cX4_least 44 = .ok (.iload_n 2, 1) := by decide +kernel
theorem dX4_least_45 : decode cX4_least 45 = .ok (.ifCond .ne 7, 3) := by decide +kernel
theorem dX4_least_48 : decode cX4_least 48 = .ok (.iload_n 3, 1) := by decide +kernel
theorem dX4_least_49 : decode cX4_least 49 = .ok (.goto 12, 3) := by decide +kernel
theorem dX4_least_52 : decode cX4_least 52 = .ok (.aload_n 0, 1) := by decide +kernel
theorem dX4_least_53 : decode cX4_least 53 = .ok (.getfield 40, 3) := by decide +kernel
theorem dX4_least_56 : decode cX4_least 56 = .ok (.iload_n 1, 1) := by decide +kernel
theorem dX4_least_57 : decode cX4_least 57 = .ok (.iload_n 2, 1) := by decide +kernel
theorem dX4_least_58 : decode cX4_least 58 = .ok (.invokestatic 156, 3) := by decide +kernel
theorem dX4_least_61 : decode cX4_least 61 = .ok (.ireturn, 1) := by decide +kernel
set_option maxRecDepth 20000 in
theorem ggX4_round_X4_isLamp : GoodIn wsX4_round wsX4_isLamp := goodIn_r _ [7, 8, 9, 48, 49, 50, 51, 52, 53, 54, 55, 56, 57, 58, 59, 60, 61] (by decide +kernel) (by decide +kernel)
set_option maxRecDepth 20000 in
theorem gX4_round_X4_isLamp : GoodIn wsX4_round (wsV RX4 80 RX4 yX4_isLamp wsX4_isLamp) := goodIn_app (goodIn_of _ (by decide +kernel)) ggX4_round_X4_isLamp
set_option maxRecDepth 20000 in
theorem ggX4_round_X4_asksMinute : GoodIn wsX4_round wsX4_asksMinute := goodIn_r _ [12] (by decide +kernel) (by decide +kernel)
set_option maxRecDepth 20000 in
theorem gX4_round_X4_asksMinute : GoodIn wsX4_round (va_wsS RX4 150 yX4_asksMinute wsX4_asksMinute) := goodIn_app (goodIn_of _ (by decide +kernel)) ggX4_round_X4_asksMinute
set_option maxRecDepth 20000 in
theorem ggX4_round_X4_planRound : GoodIn wsX4_round wsX4_planRound := goodIn_r _ [16, 8, 2, 17, 18, 19, 20, 6, 21, 9, 22, 23, 24, 25, 26, 27, 28, 29, 30, 31, 32, 33, 34, 35, 36, 37, 38, 39, 40, 41, 42, 43, 44, 48, 49, 50, 51, 52, 53, 54, 55, 56, 57, 62, 63, 64, 65, 66, 67, 68, 69, 70, 58, 59, 60, 61] (by decide +kernel) (by decide +kernel)
set_option maxRecDepth 20000 in
theorem gX4_round_X4_planRound : GoodIn wsX4_round (wsV RX4 163 RX4 yX4_planRound wsX4_planRound) := goodIn_app (goodIn_of _ (by decide +kernel)) ggX4_round_X4_planRound
set_option maxRecDepth 20000 in
theorem ggX4_round_X4_ofMinute : GoodIn wsX4_round wsX4_ofMinute := goodIn_r _ [47] (by decide +kernel) (by decide +kernel)
set_option maxRecDepth 20000 in
theorem gX4_round_X4_ofMinute : GoodIn wsX4_round (va_wsS RX4 156 yX4_ofMinute wsX4_ofMinute) := goodIn_app (goodIn_of _ (by decide +kernel)) ggX4_round_X4_ofMinute
theorem dX4_round_0 : decode cX4_round 0 = .ok (.aload_n 0, 1) := by decide +kernel
theorem dX4_round_1 : decode cX4_round 1 = .ok (.iload_n 1, 1) := by decide +kernel
theorem dX4_round_2 : decode cX4_round 2 = .ok (.invokevirtual 80, 3) := by decide +kernel
theorem dX4_round_5 : decode cX4_round 5 = .ok (.ifCond .ne 6, 3) := by decide +kernel
theorem dX4_round_8 : decode cX4_round 8 = .ok (.bipush (-101), 2) := by decide +kernel
theorem dX4_round_10 : decode cX4_round 10 = .ok (.ireturn, 1) := by decide +kernel
theorem dX4_round_11 : decode cX4_round 11 = .ok (.iload_n 2, 1) := by decide +kernel
theorem dX4_round_12 : decode cX4_round 12 = .ok (.ifCond .eq 15, 3) := by decide +kernel
theorem dX4_round_15 : decode cX4_round 15 = .ok (.iload_n 2, 1) := by decide +kernel
theorem dX4_round_16 : decode cX4_round 16 = .ok (.bipush 7, 2) := by decide +kernel
theorem dX4_round_18 : decode cX4_round 18 = .ok (.invokestatic 150, 3) := by decide +kernel
theorem dX4_round_21 : decode cX4_round 21 = .ok (.ifCond .ne 6, 3) := by decide +kernel
theorem dX4_round_24 : decode cX4_round 24 = .ok (.bipush (-102), 2) := by decide +kernel
theorem dX4_round_26 : decode cX4_round 26 = .ok (.ireturn, 1) := by decide +kernel
theorem dX4_round_27 : decode cX4_round 27 = .ok (.aload_n 0, 1) := by decide +kernel
theorem dX4_round_28 : decode cX4_round 28 = .ok (.getfield 160, 3) := by decide +kernel
theorem dX4_round_31 : decode cX4_round 31 = .ok (.bipush 20, 2) := by decide +kernel
theorem dX4_round_33 : decode cX4_round 33 = .ok (.if_icmp .lt 6, 3) := by decide +kernel
theorem dX4_round_36 : decode cX4_round 36 = .ok (.bipush (-103), 2) := by decide +kernel
theorem dX4_round_38 : decode cX4_round 38 = .ok (.ireturn, 1) := by decide +kernel
theorem dX4_round_39 : decode cX4_round 39 = .ok (.aload_n 0, 1) := by decide +kernel
theorem dX4_round_40 : decode cX4_round 40 = .ok (.dup, 1) := by decide +kernel
theorem dX4_round_41 : decode cX4_round 41 = .ok (.getfield 160, 3) := by decide +kernel
theorem dX4_round_44 : decode cX4_round 44 = .ok (.iconst 1, 1) := by decide +kernel
theorem dX4_round_45 : decode cX4_round 45 = .ok (.iadd, 1) := by decide +kernel
theorem dX4_round_46 : decode cX4_round 46 = .ok (.putfield 160, 3) := by decide +kernel
theorem dX4_round_49 : decode cX4_round 49 = .ok (.aload_n 0, 1) := by decide +kernel
theorem dX4_round_50 : decode cX4_round 50 = .ok (.iload_n 1, 1) := by decide +kernel
theorem dX4_round_51 : decode cX4_round 51 = .ok (.invokevirtual 163, 3) := by decide +kernel
theorem dX4_round_54 : decode cX4_round 54 = .ok (.istore_n 3, 1) := by decide +kernel
theorem dX4_round_55 : decode cX4_round 55 = .ok (.iload_n 2, 1) := by decide +kernel
theorem dX4_round_56 : decode cX4_round 56 = .ok (.ifCond .ne 7, 3) := by decide +kernel
theorem dX4_round_59 : decode cX4_round 59 = .ok (.iload_n 3, 1) := by decide +kernel
theorem dX4_round_60 : decode cX4_round 60 = .ok (.goto 12, 3) := by decide +kernel
theorem dX4_round_63 : decode cX4_round 63 = .ok (.aload_n 0, 1) := by decide +kernel
theorem dX4_round_64 : decode cX4_round 64 = .ok (.getfield 44, 3) := by decide +kernel
theorem dX4_round_67 : decode cX4_round 67 = .ok (.iload_n 3, 1) := by decide +kernel
theorem dX4_round_68 : decode cX4_round 68 = .ok (.iload_n 2, 1) := by decide +kernel
theorem dX4_round_69 : decode cX4_round 69 = .ok (.invokestatic 156, 3) := by decide +kernel
theorem dX4_round_72 : decode cX4_round 72 = .ok (.ireturn, 1) := by decide +kernel
set_option maxRecDepth 20000 in
theorem ggX4_together_X4_hasOffice : GoodIn wsX4_together wsX4_hasOffice := goodIn_r _ [6, 1, 7, 20, 21, 22, 23, 24, 25, 26, 27, 28, 29, 30, 31, 32, 33] (by decide +kernel) (by decide +kernel)
set_option maxRecDepth 20000 in
theorem gX4_together_X4_hasOffice : GoodIn wsX4_together (wsV RX4 128 RX4 yX4_hasOffice wsX4_hasOffice) := goodIn_app (goodIn_of _ (by decide +kernel)) ggX4_together_X4_hasOffice
set_option maxRecDepth 20000 in
theorem ggX4_together_X1_mostSeen : GoodIn wsX4_together wsX1_mostSeen := goodIn_r _ [12, 13, 14, 15, 16, 11, 17, 18, 30, 31, 32, 33] (by decide +kernel) (by decide +kernel)
set_option maxRecDepth 20000 in
theorem gX4_together_X1_mostSeen : GoodIn wsX4_together (wsV RX4 166 RX1 yX1_mostSeen wsX1_mostSeen) := goodIn_app (goodIn_of _ (by decide +kernel)) ggX4_together_X1_mostSeen
set_option maxRecDepth 20000 in
theorem ggX4_together_X1_seeing : GoodIn wsX4_together wsX1_seeing := goodIn_r _ [17, 13, 18, 30, 31, 32, 33] (by decide +kernel) (by decide +kernel)
set_option maxRecDepth 20000 in
theorem gX4_together_X1_seeing : GoodIn wsX4_together (wsV RX4 103 RX1 yX1_seeing wsX1_seeing) := goodIn_app (goodIn_of _ (by decide +kernel)) ggX4_together_X1_seeing
theorem dX4_together_0 : decode cX4_together 0 = .ok (.iload_n 1, 1) := by decide +kernel
theorem dX4_together_1 : decode cX4_together 1 = .ok (.ifCond .lt 8, 3) := by decide +kernel
theorem dX4_together_4 : decode cX4_together 4 = .ok (.iload_n 1, 1) := by decide +kernel
theorem dX4_together_5 : decode cX4_together 5 = .ok (.iconst 1, 1) := by decide +kernel
theorem dX4_together_6 : decode cX4_together 6 = .ok (.if_icmp .le 6, 3) := by decide +kernel
theorem dX4_together_9 : decode cX4_together 9 = .ok (.bipush (-102), 2) := by decide +kernel
theorem dX4_together_11 : decode cX4_together 11 = .ok (.ireturn, 1) := by decide +kernel
theorem dX4_together_12 : decode cX4_together 12 = .ok (.aload_n 0, 1) := by decide +kernel
theorem dX4_together_13 : decode cX4_together 13 = .ok (.invokevirtual 128, 3) := by decide +kernel
theorem dX4_together_16 : decode cX4_together 16 = .ok (.ifCond .ne 6, 3) := by decide +kernel
theorem dX4_together_19 : decode cX4_together 19 = .ok (.bipush (-103), 2) := by decide +kernel
theorem dX4_together_21 : decode cX4_together 21 = .ok (.ireturn, 1) := by decide +kernel
theorem dX4_together_22 : decode cX4_together 22 = .ok (.aload_n 0, 1) := by decide +kernel
theorem dX4_together_23 : decode cX4_together 23 = .ok (.getfield 19, 3) := by decide +kernel
theorem dX4_together_26 : decode cX4_together 26 = .ok (.invokevirtual 166, 3) := by decide +kernel
theorem dX4_together_29 : decode cX4_together 29 = .ok (.istore_n 2, 1) := by decide +kernel
theorem dX4_together_30 : decode cX4_together 30 = .ok (.iload_n 1, 1) := by decide +kernel
theorem dX4_together_31 : decode cX4_together 31 = .ok (.ifCond .ne 7, 3) := by decide +kernel
theorem dX4_together_34 : decode cX4_together 34 = .ok (.iload_n 2, 1) := by decide +kernel
theorem dX4_together_35 : decode cX4_together 35 = .ok (.goto 11, 3) := by decide +kernel
theorem dX4_together_38 : decode cX4_together 38 = .ok (.aload_n 0, 1) := by decide +kernel
theorem dX4_together_39 : decode cX4_together 39 = .ok (.getfield 19, 3) := by decide +kernel
theorem dX4_together_42 : decode cX4_together 42 = .ok (.iload_n 2, 1) := by decide +kernel
theorem dX4_together_43 : decode cX4_together 43 = .ok (.invokevirtual 103, 3) := by decide +kernel
theorem dX4_together_46 : decode cX4_together 46 = .ok (.ireturn, 1) := by decide +kernel
set_option maxRecDepth 20000 in
theorem ggX4_book_X4_isLamp : GoodIn wsX4_book wsX4_isLamp := goodIn_r _ [6, 7, 8, 17, 18, 19, 20, 21, 22, 23, 24, 25, 26, 27, 28, 29, 30] (by decide +kernel) (by decide +kernel)
set_option maxRecDepth 20000 in
theorem gX4_book_X4_isLamp : GoodIn wsX4_book (wsV RX4 80 RX4 yX4_isLamp wsX4_isLamp) := goodIn_app (goodIn_of _ (by decide +kernel)) ggX4_book_X4_isLamp
set_option maxRecDepth 20000 in
theorem ggX4_book_X0_tell : GoodIn wsX4_book wsX0_tell := goodIn_r _ [13, 14, 15, 16, 31, 32, 33, 34, 35, 36, 37, 38, 39] (by decide +kernel) (by decide +kernel)
set_option maxRecDepth 20000 in
theorem gX4_book_X0_tell : GoodIn wsX4_book (wsV RX4 169 RX0 yX0_tell wsX0_tell) := goodIn_app (goodIn_of _ (by decide +kernel)) ggX4_book_X0_tell
theorem dX4_book_0 : decode cX4_book 0 = .ok (.iload_n 1, 1) := by decide +kernel
theorem dX4_book_1 : decode cX4_book 1 = .ok (.ifCond .lt 9, 3) := by decide +kernel
theorem dX4_book_4 : decode cX4_book 4 = .ok (.iload_n 1, 1) := by decide +kernel
theorem dX4_book_5 : decode cX4_book 5 = .ok (.bipush 6, 2) := by decide +kernel
theorem dX4_book_7 : decode cX4_book 7 = .ok (.if_icmp .le 6, 3) := by decide +kernel
theorem dX4_book_10 : decode cX4_book 10 = .ok (.bipush (-102), 2) := by decide +kernel
theorem dX4_book_12 : decode cX4_book 12 = .ok (.ireturn, 1) := by decide +kernel
theorem dX4_book_13 : decode cX4_book 13 = .ok (.aload_n 0, 1) := by decide +kernel
theorem dX4_book_14 : decode cX4_book 14 = .ok (.iload_n 2, 1) := by decide +kernel
theorem dX4_book_15 : decode cX4_book 15 = .ok (.invokevirtual 80, 3) := by decide +kernel
theorem dX4_book_18 : decode cX4_book 18 = .ok (.ifCond .ne 6, 3) := by decide +kernel
theorem dX4_book_21 : decode cX4_book 21 = .ok (.bipush (-101), 2) := by decide +kernel
theorem dX4_book_23 : decode cX4_book 23 = .ok (.ireturn, 1) := by decide +kernel
theorem dX4_book_24 : decode cX4_book 24 = .ok (.aload_n 0, 1) := by decide +kernel
theorem dX4_book_25 : decode cX4_book 25 = .ok (.getfield 26, 3) := by decide +kernel
theorem dX4_book_28 : decode cX4_book 28 = .ok (.iload_n 1, 1) := by decide +kernel
theorem dX4_book_29 : decode cX4_book 29 = .ok (.iload_n 2, 1) := by decide +kernel
theorem dX4_book_30 : decode cX4_book 30 = .ok (.iload_n 3, 1) := by decide +kernel
theorem dX4_book_31 : decode cX4_book 31 = .ok (.invokevirtual 169, 3) := by decide +kernel
theorem dX4_book_34 : decode cX4_book 34 = .ok (.ireturn, 1) := by decide +kernel
set_option maxRecDepth 20000 in
theorem ggX4_forget_X0_emptyBook : GoodIn wsX4_forget wsX0_emptyBook := goodIn_r _ [7, 8, 9, 10, 21, 22, 23, 24, 25, 26, 27, 28, 29] (by decide +kernel) (by decide +kernel)
set_option maxRecDepth 20000 in
theorem gX4_forget_X0_emptyBook : GoodIn wsX4_forget (wsV RX4 176 RX0 yX0_emptyBook wsX0_emptyBook) := goodIn_app (goodIn_of _ (by decide +kernel)) ggX4_forget_X0_emptyBook
theorem dX4_forget_0 : decode cX4_forget 0 = .ok (.aload_n 0, 1) := by decide +kernel
theorem dX4_forget_1 : decode cX4_forget 1 = .ok (.getfield 26, 3) := by decide +kernel
theorem dX4_forget_4 : decode cX4_forget 4 = .ok (.getfield 173, 3) := by decide +kernel
theorem dX4_forget_7 : decode cX4_forget 7 = .ok (.istore_n 1, 1) := by decide +kernel
theorem dX4_forget_8 : decode cX4_forget 8 = .ok (.aload_n 0, 1) := by decide +kernel
theorem dX4_forget_9 : decode cX4_forget 9 = .ok (.getfield 26, 3) := by decide +kernel
theorem dX4_forget_12 : decode cX4_forget 12 = .ok (.invokevirtual 176, 3) := by decide +kernel
theorem dX4_forget_15 : decode cX4_forget 15 = .ok (.iload_n 1, 1) := by decide +kernel
theorem dX4_forget_16 : decode cX4_forget 16 = .ok (.ireturn, 1) := by decide +kernel
set_option maxRecDepth 20000 in
theorem ggX4_waved_X4_isPerson : GoodIn wsX4_waved wsX4_isPerson := goodIn_r _ [9, 3, 10, 56, 57, 58, 59, 60, 61, 62, 63, 64, 65, 66, 67, 68, 69, 70, 71, 72, 73, 74] (by decide +kernel) (by decide +kernel)
set_option maxRecDepth 20000 in
theorem gX4_waved_X4_isPerson : GoodIn wsX4_waved (wsV RX4 113 RX4 yX4_isPerson wsX4_isPerson) := goodIn_app (goodIn_of _ (by decide +kernel)) ggX4_waved_X4_isPerson
set_option maxRecDepth 20000 in
theorem ggX4_waved_X3_follow : GoodIn wsX4_waved wsX3_follow := goodIn_r _ [15, 16, 17, 18, 19, 20, 21, 22, 23, 24, 25, 26, 27, 28, 29, 30, 31, 32, 33, 34, 35, 36, 14, 37, 38, 39, 40, 41, 42, 43, 44, 45, 46, 47, 75, 76, 66, 67, 68, 69, 70, 71, 72, 73, 74, 77, 78, 79, 80] (by decide +kernel) (by decide +kernel)
set_option maxRecDepth 20000 in
theorem gX4_waved_X3_follow : GoodIn wsX4_waved (wsV RX4 179 RX3 yX3_follow wsX3_follow) := goodIn_app (goodIn_of _ (by decide +kernel)) ggX4_waved_X3_follow
set_option maxRecDepth 20000 in
theorem ggX4_waved_X3_left : GoodIn wsX4_waved wsX3_left := goodIn_r _ [51, 16, 17, 75, 76] (by decide +kernel) (by decide +kernel)
set_option maxRecDepth 20000 in
theorem gX4_waved_X3_left : GoodIn wsX4_waved (wsV RX4 183 RX3 yX3_left wsX3_left) := goodIn_app (goodIn_of _ (by decide +kernel)) ggX4_waved_X3_left
set_option maxRecDepth 20000 in
theorem ggX4_waved_X3_first : GoodIn wsX4_waved wsX3_first := goodIn_r _ [55, 16, 17, 75, 76] (by decide +kernel) (by decide +kernel)
set_option maxRecDepth 20000 in
theorem gX4_waved_X3_first : GoodIn wsX4_waved (wsV RX4 185 RX3 yX3_first wsX3_first) := goodIn_app (goodIn_of _ (by decide +kernel)) ggX4_waved_X3_first
theorem dX4_waved_0 : decode cX4_waved 0 = .ok (.aload_n 0, 1) := by decide +kernel
theorem dX4_waved_1 : decode cX4_waved 1 = .ok (.iload_n 1, 1) := by decide +kernel
theorem dX4_waved_2 : decode cX4_waved 2 = .ok (.invokevirtual 113, 3) := by decide +kernel
theorem dX4_waved_5 : decode cX4_waved 5 = .ok (.ifCond .ne 6, 3) := by decide +kernel
theorem dX4_waved_8 : decode cX4_waved 8 = .ok (.bipush (-101), 2) := by decide +kernel
theorem dX4_waved_10 : decode cX4_waved 10 = .ok (.ireturn, 1) := by decide +kernel
theorem dX4_waved_11 : decode cX4_waved 11 = .ok (.iload_n 2, 1) := by decide +kernel
theorem dX4_waved_12 : decode cX4_waved 12 = .ok (.iconst 1, 1) := by decide +kernel
theorem dX4_waved_13 : decode cX4_waved 13 = .ok (.if_icmp .lt 18, 3) := by decide +kernel
theorem dX4_waved_16 : decode cX4_waved 16 = .ok (.iload_n 2, 1) := by decide +kernel
theorem dX4_waved_17 : decode cX4_waved 17 = .ok (.bipush 6, 2) := by decide +kernel
theorem dX4_waved_19 : decode cX4_waved 19 = .ok (.if_icmp .gt 12, 3) := by decide +kernel
theorem dX4_waved_22 : decode cX4_waved 22 = .ok (.iload_n 3, 1) := by decide +kernel
theorem dX4_waved_23 : decode cX4_waved 23 = .ok (.ifCond .lt 8, 3) := by decide +kernel
theorem dX4_waved_26 : decode cX4_waved 26 = .ok (.iload_n 3, 1) := by decide +kernel
theorem dX4_waved_27 : decode cX4_waved 27 = .ok (.iconst 1, 1) := by decide +kernel
theorem dX4_waved_28 : decode cX4_waved 28 = .ok (.if_icmp .le 6, 3) := by decide +kernel
theorem dX4_waved_31 : decode cX4_waved 31 = .ok (.bipush (-102), 2) := by decide +kernel
theorem dX4_waved_33 : decode cX4_waved 33 = .ok (.ireturn, 1) := by decide +kernel
theorem dX4_waved_34 : decode cX4_waved 34 = .ok (.aload_n 0, 1) := by decide +kernel
theorem dX4_waved_35 : decode cX4_waved 35 = .ok (.getfield 36, 3) := by decide +kernel
theorem dX4_waved_38 : decode cX4_waved 38 = .ok (.aload_n 0, 1) := by decide +kernel
theorem dX4_waved_39 : decode cX4_waved 39 = .ok (.getfield 19, 3) := by decide +kernel
theorem dX4_waved_42 : decode cX4_waved 42 = .ok (.aload_n 0, 1) := by decide +kernel
theorem dX4_waved_43 : decode cX4_waved 43 = .ok (.getfield 26, 3) := by decide +kernel
theorem dX4_waved_46 : decode cX4_waved 46 = .ok (.aload_n 0, 1) := by decide +kernel
theorem dX4_waved_47 : decode cX4_waved 47 = .ok (.getfield 26, 3) := by decide +kernel
theorem dX4_waved_50 : decode cX4_waved 50 = .ok (.getfield 116, 3) := by decide +kernel
theorem dX4_waved_53 : decode cX4_waved 53 = .ok (.iload_n 1, 1) := by decide +kernel
theorem dX4_waved_54 : decode cX4_waved 54 = .ok (.iaload, 1) := by decide +kernel
theorem dX4_waved_55 : decode cX4_waved 55 = .ok (.iload_n 2, 1) := by decide +kernel
theorem dX4_waved_56 : decode cX4_waved 56 = .ok (.invokevirtual 179, 3) := by decide +kernel
theorem dX4_waved_59 : decode cX4_waved 59 = .ok (.iload_n 3, 1) := by decide +kernel
theorem dX4_waved_60 : decode cX4_waved 60 = .ok (.ifCond .ne 13, 3) := by decide +kernel
theorem dX4_waved_63 : decode cX4_waved 63 = .ok (.aload_n 0, 1) := by decide +kernel
theorem dX4_waved_64 : decode cX4_waved 64 = .ok (.getfield 36, 3) := by decide +kernel
theorem dX4_waved_67 : decode cX4_waved 67 = .ok (.invokevirtual 183, 3) := by decide +kernel
theorem dX4_waved_70 : decode cX4_waved 70 = .ok (.goto 10, 3) := by decide +kernel
theorem dX4_waved_73 : decode cX4_waved 73 = .ok (.aload_n 0, 1) := by decide +kernel
theorem dX4_waved_74 : decode cX4_waved 74 = .ok (.getfield 36, 3) := by decide +kernel
theorem dX4_waved_77 : decode cX4_waved 77 = .ok (.invokevirtual 185, 3) := by decide +kernel
theorem dX4_waved_80 : decode cX4_waved 80 = .ok (.ireturn, 1) := by decide +kernel
set_option maxRecDepth 20000 in
theorem ggX4_look_X4_isPerson : GoodIn wsX4_look wsX4_isPerson := goodIn_r _ [10, 3, 11, 63, 64, 65, 66, 67, 68, 69, 70, 71, 72, 73, 74, 75, 76, 77, 78, 79, 80, 81] (by decide +kernel) (by decide +kernel)
set_option maxRecDepth 20000 in
theorem gX4_look_X4_isPerson : GoodIn wsX4_look (wsV RX4 113 RX4 yX4_isPerson wsX4_isPerson) := goodIn_app (goodIn_of _ (by decide +kernel)) ggX4_look_X4_isPerson
set_option maxRecDepth 20000 in
theorem ggX4_look_X3_follow : GoodIn wsX4_look wsX3_follow := goodIn_r _ [16, 17, 18, 19, 20, 21, 22, 23, 24, 25, 26, 27, 28, 29, 30, 31, 32, 33, 34, 35, 36, 37, 15, 38, 39, 40, 41, 42, 43, 44, 45, 46, 47, 48, 86, 87, 73, 74, 75, 76, 77, 78, 79, 80, 81, 82, 83, 84, 85] (by decide +kernel) (by decide +kernel)
set_option maxRecDepth 20000 in
theorem gX4_look_X3_follow : GoodIn wsX4_look (wsV RX4 179 RX3 yX3_follow wsX3_follow) := goodIn_app (goodIn_of _ (by decide +kernel)) ggX4_look_X3_follow
set_option maxRecDepth 20000 in
theorem ggX4_look_X3_tellingLamp : GoodIn wsX4_look wsX3_tellingLamp := goodIn_r _ [52, 53, 46, 47, 48, 54, 55, 56, 15, 57, 17, 18, 58, 59, 60, 61, 62, 27, 23, 28, 86, 87] (by decide +kernel) (by decide +kernel)
set_option maxRecDepth 20000 in
theorem gX4_look_X3_tellingLamp : GoodIn wsX4_look (wsV RX4 188 RX3 yX3_tellingLamp wsX3_tellingLamp) := goodIn_app (goodIn_of _ (by decide +kernel)) ggX4_look_X3_tellingLamp
theorem dX4_look_0 : decode cX4_look 0 = .ok (.aload_n 0, 1) := by decide +kernel
theorem dX4_look_1 : decode cX4_look 1 = .ok (.iload_n 1, 1) := by decide +kernel
theorem dX4_look_2 : decode cX4_look 2 = .ok (.invokevirtual 113, 3) := by decide +kernel
theorem dX4_look_5 : decode cX4_look 5 = .ok (.ifCond .ne 6, 3) := by decide +kernel
theorem dX4_look_8 : decode cX4_look 8 = .ok (.bipush (-101), 2) := by decide +kernel
theorem dX4_look_10 : decode cX4_look 10 = .ok (.ireturn, 1) := by decide +kernel
theorem dX4_look_11 : decode cX4_look 11 = .ok (.iload_n 2, 1) := by decide +kernel
theorem dX4_look_12 : decode cX4_look 12 = .ok (.iconst 1, 1) := by decide +kernel
theorem dX4_look_13 : decode cX4_look 13 = .ok (.if_icmp .lt 9, 3) := by decide +kernel
theorem dX4_look_16 : decode cX4_look 16 = .ok (.iload_n 2, 1) := by decide +kernel
theorem dX4_look_17 : decode cX4_look 17 = .ok (.bipush 6, 2) := by decide +kernel
theorem dX4_look_19 : decode cX4_look 19 = .ok (.if_icmp .le 6, 3) := by decide +kernel
theorem dX4_look_22 : decode cX4_look 22 = .ok (.bipush (-102), 2) := by decide +kernel
theorem dX4_look_24 : decode cX4_look 24 = .ok (.ireturn, 1) := by decide +kernel
theorem dX4_look_25 : decode cX4_look 25 = .ok (.aload_n 0, 1) := by decide +kernel
theorem dX4_look_26 : decode cX4_look 26 = .ok (.getfield 36, 3) := by decide +kernel
theorem dX4_look_29 : decode cX4_look 29 = .ok (.aload_n 0, 1) := by decide +kernel
theorem dX4_look_30 : decode cX4_look 30 = .ok (.getfield 19, 3) := by decide +kernel
theorem dX4_look_33 : decode cX4_look 33 = .ok (.aload_n 0, 1) := by decide +kernel
theorem dX4_look_34 : decode cX4_look 34 = .ok (.getfield 26, 3) := by decide +kernel
theorem dX4_look_37 : decode cX4_look 37 = .ok (.aload_n 0, 1) := by decide +kernel
theorem dX4_look_38 : decode cX4_look 38 = .ok (.getfield 26, 3) := by decide +kernel
theorem dX4_look_41 : decode cX4_look 41 = .ok (.getfield 116, 3) := by decide +kernel
theorem dX4_look_44 : decode cX4_look 44 = .ok (.iload_n 1, 1) := by decide +kernel
theorem dX4_look_45 : decode cX4_look 45 = .ok (.iaload, 1) := by decide +kernel
theorem dX4_look_46 : decode cX4_look 46 = .ok (.iload_n 2, 1) := by decide +kernel
theorem dX4_look_47 : decode cX4_look 47 = .ok (.invokevirtual 179, 3) := by decide +kernel
theorem dX4_look_50 : decode cX4_look 50 = .ok (.aload_n 0, 1) := by decide +kernel
theorem dX4_look_51 : decode cX4_look 51 = .ok (.getfield 36, 3) := by decide +kernel
theorem dX4_look_54 : decode cX4_look 54 = .ok (.aload_n 0, 1) := by decide +kernel
theorem dX4_look_55 : decode cX4_look 55 = .ok (.getfield 19, 3) := by decide +kernel
theorem dX4_look_58 : decode cX4_look 58 = .ok (.getfield 77, 3) := by decide +kernel
theorem dX4_look_61 : decode cX4_look 61 = .ok (.invokevirtual 188, 3) := by decide +kernel
theorem dX4_look_64 : decode cX4_look 64 = .ok (.ireturn, 1) := by decide +kernel
set_option maxRecDepth 20000 in
theorem ggX4_nights_X4_hasOffice : GoodIn wsX4_nights wsX4_hasOffice := goodIn_r _ [9, 4, 10, 57, 58, 59, 60, 61, 62, 63, 64, 65, 66, 76, 77, 78, 79] (by decide +kernel) (by decide +kernel)
set_option maxRecDepth 20000 in
theorem gX4_nights_X4_hasOffice : GoodIn wsX4_nights (wsV RX4 128 RX4 yX4_hasOffice wsX4_hasOffice) := goodIn_app (goodIn_of _ (by decide +kernel)) ggX4_nights_X4_hasOffice
set_option maxRecDepth 20000 in
theorem ggX4_nights_X4_nextSeed : GoodIn wsX4_nights wsX4_nextSeed := goodIn_r _ [13, 14, 15] (by decide +kernel) (by decide +kernel)
set_option maxRecDepth 20000 in
theorem gX4_nights_X4_nextSeed : GoodIn wsX4_nights (va_wsS RX4 191 yX4_nextSeed wsX4_nextSeed) := goodIn_app (goodIn_of _ (by decide +kernel)) ggX4_nights_X4_nextSeed
set_option maxRecDepth 20000 in
theorem ggX4_nights_X4_draw : GoodIn wsX4_nights wsX4_draw := goodIn_r _ [18, 19] (by decide +kernel) (by decide +kernel)
set_option maxRecDepth 20000 in
theorem gX4_nights_X4_draw : GoodIn wsX4_nights (va_wsS RX4 194 yX4_draw wsX4_draw) := goodIn_app (goodIn_of _ (by decide +kernel)) ggX4_nights_X4_draw
set_option maxRecDepth 20000 in
theorem ggX4_nights_X0_stirred : GoodIn wsX4_nights wsX0_stirred := goodIn_r _ [24, 25, 26, 67, 68, 69, 70, 71, 72, 73, 74, 75] (by decide +kernel) (by decide +kernel)
set_option maxRecDepth 20000 in
theorem gX4_nights_X0_stirred : GoodIn wsX4_nights (wsV RX4 131 RX0 yX0_stirred wsX0_stirred) := goodIn_app (goodIn_of _ (by decide +kernel)) ggX4_nights_X0_stirred
set_option maxRecDepth 20000 in
theorem ggX4_nights_X1_after : GoodIn wsX4_nights wsX1_after := goodIn_r _ [31, 32, 33, 34, 35, 36, 37, 38, 39, 40, 30, 41, 76, 77, 78, 79] (by decide +kernel) (by decide +kernel)
set_option maxRecDepth 20000 in
theorem gX4_nights_X1_after : GoodIn wsX4_nights (wsV RX4 134 RX1 yX1_after wsX1_after) := goodIn_app (goodIn_of _ (by decide +kernel)) ggX4_nights_X1_after
set_option maxRecDepth 20000 in
theorem ggX4_nights_X1_litOnes : GoodIn wsX4_nights wsX1_litOnes := goodIn_r _ [45, 32, 39, 40, 30, 41, 76, 77, 78, 79] (by decide +kernel) (by decide +kernel)
set_option maxRecDepth 20000 in
theorem gX4_nights_X1_litOnes : GoodIn wsX4_nights (wsV RX4 140 RX1 yX1_litOnes wsX1_litOnes) := goodIn_app (goodIn_of _ (by decide +kernel)) ggX4_nights_X1_litOnes
set_option maxRecDepth 20000 in
theorem ggX4_nights_X0_inDark : GoodIn wsX4_nights wsX0_inDark := goodIn_r _ [49, 25, 26, 67, 68, 69, 70, 71, 72, 73, 74, 75] (by decide +kernel) (by decide +kernel)
set_option maxRecDepth 20000 in
theorem gX4_nights_X0_inDark : GoodIn wsX4_nights (wsV RX4 147 RX0 yX0_inDark wsX0_inDark) := goodIn_app (goodIn_of _ (by decide +kernel)) ggX4_nights_X0_inDark
set_option maxRecDepth 20000 in
theorem ggX4_nights_J6_bitCount_0f7a4 : GoodIn wsX4_nights wsJ6_bitCount_0f7a4 := goodIn_r _ [53, 54, 55, 56] (by decide +kernel) (by decide +kernel)
set_option maxRecDepth 20000 in
theorem gX4_nights_J6_bitCount_0f7a4 : GoodIn wsX4_nights (va_wsS RX4 197 yJ6_bitCount_0f7a4 wsJ6_bitCount_0f7a4) := goodIn_app (goodIn_of _ (by decide +kernel)) ggX4_nights_J6_bitCount_0f7a4
theorem dX4_nights_0 : decode cX4_nights 0 = .ok (.iload_n 1, 1) := by decide +kernel
theorem dX4_nights_1 : decode cX4_nights 1 = .ok (.iconst 1, 1) := by decide +kernel
theorem dX4_nights_2 : decode cX4_nights 2 = .ok (.if_icmp .lt 22, 3) := by decide +kernel
theorem dX4_nights_5 : decode cX4_nights 5 = .ok (.iload_n 1, 1) := by decide +kernel
theorem dX4_nights_6 : decode cX4_nights 6 = .ok (.bipush 60, 2) := by decide +kernel
theorem dX4_nights_8 : decode cX4_nights 8 = .ok (.if_icmp .gt 16, 3) := by decide +kernel
theorem dX4_nights_11 : decode cX4_nights 11 = .ok (.iload_n 2, 1) := by decide +kernel
theorem dX4_nights_12 : decode cX4_nights 12 = .ok (.ifCond .lt 12, 3) := by decide +kernel
theorem dX4_nights_15 : decode cX4_nights 15 = .ok (.iload_n 3, 1) := by decide +kernel
theorem dX4_nights_16 : decode cX4_nights 16 = .ok (.ifCond .lt 8, 3) := by decide +kernel
theorem dX4_nights_19 : decode cX4_nights 19 = .ok (.iload_n 3, 1) := by decide +kernel
theorem dX4_nights_20 : decode cX4_nights 20 = .ok (.iconst 2, 1) := by decide +kernel
theorem dX4_nights_21 : decode cX4_nights 21 = .ok (.if_icmp .le 6, 3) := by decide +kernel
theorem dX4_nights_24 : decode cX4_nights 24 = .ok (.bipush (-102), 2) := by decide +kernel
theorem dX4_nights_26 : decode cX4_nights 26 = .ok (.ireturn, 1) := by decide +kernel
theorem dX4_nights_27 : decode cX4_nights 27 = .ok (.aload_n 0, 1) := by decide +kernel
theorem dX4_nights_28 : decode cX4_nights 28 = .ok (.invokevirtual 128, 3) := by decide +kernel
theorem dX4_nights_31 : decode cX4_nights 31 = .ok (.ifCond .ne 6, 3) := by decide +kernel
theorem dX4_nights_34 : decode cX4_nights 34 = .ok (.bipush (-103), 2) := by decide +kernel
theorem dX4_nights_36 : decode cX4_nights 36 = .ok (.ireturn, 1) := by decide +kernel
theorem dX4_nights_37 : decode cX4_nights 37 = .ok (.aload_n 0, 1) := by decide +kernel
theorem dX4_nights_38 : decode cX4_nights 38 = .ok (.getfield 26, 3) := by decide +kernel
theorem dX4_nights_41 : decode cX4_nights 41 = .ok (.getfield 90, 3) := by decide +kernel
theorem dX4_nights_44 : decode cX4_nights 44 = .ok (.istore 4, 2) := by decide +kernel
theorem dX4_nights_46 : decode cX4_nights 46 = .ok (.iconst 0, 1) := by decide +kernel
theorem dX4_nights_47 : decode cX4_nights 47 = .ok (.istore 5, 2) := by decide +kernel
theorem dX4_nights_49 : decode cX4_nights 49 = .ok (.iload_n 2, 1) := by decide +kernel
theorem dX4_nights_50 : decode cX4_nights 50 = .ok (.istore 6, 2) := by decide +kernel
theorem dX4_nights_52 : decode cX4_nights 52 = .ok (.iconst 0, 1) := by decide +kernel
theorem dX4_nights_53 : decode cX4_nights 53 = .ok (.istore 7, 2) := by decide +kernel
theorem dX4_nights_55 : decode cX4_nights 55 = .ok (.iload 7, 2) := by decide +kernel
theorem dX4_nights_57 : decode cX4_nights 57 = .ok (.iload_n 1, 1) := by decide +kernel
theorem dX4_nights_58 : decode cX4_nights 58 = .ok (.if_icmp .ge 102, 3) := by decide +kernel
theorem dX4_nights_61 : decode cX4_nights 61 = .ok (.iconst 0, 1) := by decide +kernel
theorem dX4_nights_62 : decode cX4_nights 62 = .ok (.istore 8, 2) := by decide +kernel
theorem dX4_nights_64 : decode cX4_nights 64 = .ok (.iconst 0, 1) := by decide +kernel
theorem dX4_nights_65 : decode cX4_nights 65 = .ok (.istore 9, 2) := by decide +kernel
theorem dX4_nights_67 : decode cX4_nights 67 = .ok (.iload 9, 2) := by decide +kernel
theorem dX4_nights_69 : decode cX4_nights 69 = .ok (.aload_n 0, 1) := by decide +kernel
theorem dX4_nights_70 : decode cX4_nights 70 = .ok (.getfield 26, 3) := by decide +kernel
theorem dX4_nights_73 : decode cX4_nights 73 = .ok (.getfield 125, 3) := by decide +kernel
theorem dX4_nights_76 : decode cX4_nights 76 = .ok (.if_icmp .ge 37, 3) := by decide +kernel
theorem dX4_nights_79 : decode cX4_nights 79 = .ok (.iload 6, 2) := by decide +kernel
theorem dX4_nights_81 : decode cX4_nights 81 = .ok (.invokestatic 191, 3) := by decide +kernel
theorem dX4_nights_84 : decode cX4_nights 84 = .ok (.istore 6, 2) := by decide +kernel
theorem dX4_nights_86 : decode cX4_nights 86 = .ok (.iload 8, 2) := by decide +kernel
theorem dX4_nights_88 : decode cX4_nights 88 = .ok (.iload 6, 2) := by decide +kernel
theorem dX4_nights_90 : decode cX4_nights 90 = .ok (.invokestatic 194, 3) := by decide +kernel
theorem dX4_nights_93 : decode cX4_nights 93 = .ok (.ifCond .ne 10, 3) := by decide +kernel
theorem dX4_nights_96 : decode cX4_nights 96 = .ok (.iconst 1, 1) := by decide +kernel
theorem dX4_nights_97 : decode cX4_nights 97 = .ok (.iload 9, 2) := by decide +kernel
theorem dX4_nights_99 : decode cX4_nights 99 = .ok (.ishl, 1) := by decide +kernel
theorem dX4_nights_100 : decode cX4_nights 100 = .ok (.goto 4, 3) := by decide +kernel
theorem dX4_nights_103 : decode cX4_nights 103 = .ok (.iconst 0, 1) := by decide +kernel
theorem dX4_nights_104 : decode cX4_nights 104 = .ok (.ior, 1) := by decide +kernel
theorem dX4_nights_105 : decode cX4_nights 105 = .ok (.istore 8, 2) := by decide +kernel
theorem dX4_nights_107 : decode cX4_nights 107 = .ok (.iinc 9 1, 3) := by decide +kernel
theorem dX4_nights_110 : decode cX4_nights 110 = .ok (.goto (-43), 3) := by decide +kernel
theorem dX4_nights_113 : decode cX4_nights 113 = .ok (.aload_n 0, 1) := by decide +kernel
theorem dX4_nights_114 : decode cX4_nights 114 = .ok (.getfield 19, 3) := by decide +kernel
theorem dX4_nights_117 : decode cX4_nights 117 = .ok (.iload 4, 2) := by decide +kernel
theorem dX4_nights_119 : decode cX4_nights 119 = .ok (.aload_n 0, 1) := by decide +kernel
theorem dX4_nights_120 : decode cX4_nights 120 = .ok (.getfield 26, 3) := by decide +kernel
theorem dX4_nights_123 : decode cX4_nights 123 = .ok (.iload 8, 2) := by decide +kernel
theorem dX4_nights_125 : decode cX4_nights 125 = .ok (.invokevirtual 131, 3) := by decide +kernel
theorem dX4_nights_128 : decode cX4_nights 128 = .ok (.invokevirtual 134, 3) := by decide +kernel
theorem dX4_nights_131 : decode cX4_nights 131 = .ok (.istore 4, 2) := by decide +kernel
theorem dX4_nights_133 : decode cX4_nights 133 = .ok (.iload 5, 2) := by decide +kernel
theorem dX4_nights_135 : decode cX4_nights 135 = .ok (.aload_n 0, 1) := by decide +kernel
theorem dX4_nights_136 : decode cX4_nights 136 = .ok (.getfield 26, 3) := by decide +kernel
theorem dX4_nights_139 : decode cX4_nights 139 = .ok (.aload_n 0, 1) := by decide +kernel
theorem dX4_nights_140 : decode cX4_nights 140 = .ok (.getfield 19, 3) := by decide +kernel
theorem dX4_nights_143 : decode cX4_nights 143 = .ok (.iload 4, 2) := by decide +kernel
theorem dX4_nights_145 : decode cX4_nights 145 = .ok (.invokevirtual 140, 3) := by decide +kernel
theorem dX4_nights_148 : decode cX4_nights 148 = .ok (.invokevirtual 147, 3) := by decide +kernel
theorem dX4_nights_151 : decode cX4_nights 151 = .ok (.iadd, 1) := by decide +kernel
theorem dX4_nights_152 : decode cX4_nights 152 = .ok (.istore 5, 2) := by decide +kernel
theorem dX4_nights_154 : decode cX4_nights 154 = .ok (.iinc 7 1, 3) := by decide +kernel
theorem dX4_nights_157 : decode cX4_nights 157 = .ok (.goto (-102), 3) := by decide +kernel
theorem dX4_nights_160 : decode cX4_nights 160 = .ok (.iload_n 3, 1) := by decide +kernel
theorem dX4_nights_161 : decode cX4_nights 161 = .ok (.ifCond .ne 6, 3) := by decide +kernel
theorem dX4_nights_164 : decode cX4_nights 164 = .ok (.iload 5, 2) := by decide +kernel
theorem dX4_nights_166 : decode cX4_nights 166 = .ok (.ireturn, 1) := by decide +kernel
theorem dX4_nights_167 : decode cX4_nights 167 = .ok (.iload_n 3, 1) := by decide +kernel
theorem dX4_nights_168 : decode cX4_nights 168 = .ok (.iconst 1, 1) := by decide +kernel
theorem dX4_nights_169 : decode cX4_nights 169 = .ok (.if_icmp .ne 18, 3) := by decide +kernel
theorem dX4_nights_172 : decode cX4_nights 172 = .ok (.aload_n 0, 1) := by decide +kernel
theorem dX4_nights_173 : decode cX4_nights 173 = .ok (.getfield 19, 3) := by decide +kernel
theorem dX4_nights_176 : decode cX4_nights 176 = .ok (.iload 4, 2) := by decide +kernel
theorem dX4_nights_178 : decode cX4_nights 178 = .ok (.invokevirtual 140, 3) := by decide +kernel
theorem dX4_nights_181 : decode cX4_nights 181 = .ok (.invokestatic 197, 3) := by decide +kernel
theorem dX4_nights_184 : decode cX4_nights 184 = .ok (.goto 5, 3) := by decide +kernel
theorem dX4_nights_187 : decode cX4_nights 187 = .ok (.iload 6, 2) := by decide +kernel
theorem dX4_nights_189 : decode cX4_nights 189 = .ok (.ireturn, 1) := by decide +kernel
set_option maxRecDepth 20000 in
theorem ggX4_image_X4_hasOffice : GoodIn wsX4_image wsX4_hasOffice := goodIn_r _ [9, 10, 11, 26, 27, 28, 29, 30, 31, 32, 33, 34, 35, 45, 46, 47, 48] (by decide +kernel) (by decide +kernel)
set_option maxRecDepth 20000 in
theorem gX4_image_X4_hasOffice : GoodIn wsX4_image (wsV RX4 128 RX4 yX4_hasOffice wsX4_hasOffice) := goodIn_app (goodIn_of _ (by decide +kernel)) ggX4_image_X4_hasOffice
set_option maxRecDepth 20000 in
theorem ggX4_image_X0_copy : GoodIn wsX4_image wsX0_copy := goodIn_r _ [16, 17, 18, 19, 20, 21, 22, 23, 24, 25, 36, 37, 38, 39, 40, 41, 42, 43, 44] (by decide +kernel) (by decide +kernel)
set_option maxRecDepth 20000 in
theorem gX4_image_X0_copy : GoodIn wsX4_image (wsV RX4 202 RX0 yX0_copy wsX0_copy) := goodIn_app (goodIn_of _ (by decide +kernel)) ggX4_image_X0_copy
theorem dX4_image_0 : decode cX4_image 0 = .ok (.aload_n 0, 1) := by decide +kernel
theorem dX4_image_1 : decode cX4_image 1 = .ok (.invokevirtual 128, 3) := by decide +kernel
theorem dX4_image_4 : decode cX4_image 4 = .ok (.ifCond .ne 6, 3) := by decide +kernel
theorem dX4_image_7 : decode cX4_image 7 = .ok (.bipush (-103), 2) := by decide +kernel
theorem dX4_image_9 : decode cX4_image 9 = .ok (.ireturn, 1) := by decide +kernel
theorem dX4_image_10 : decode cX4_image 10 = .ok (.aload_n 0, 1) := by decide +kernel
theorem dX4_image_11 : decode cX4_image 11 = .ok (.getfield 30, 3) := by decide +kernel
theorem dX4_image_14 : decode cX4_image 14 = .ok (.aload_n 0, 1) := by decide +kernel
theorem dX4_image_15 : decode cX4_image 15 = .ok (.getfield 26, 3) := by decide +kernel
theorem dX4_image_18 : decode cX4_image 18 = .ok (.invokevirtual 202, 3) := by decide +kernel
theorem dX4_image_21 : decode cX4_image 21 = .ok (.aload_n 0, 1) := by decide +kernel
theorem dX4_image_22 : decode cX4_image 22 = .ok (.iconst 1, 1) := by decide +kernel
theorem dX4_image_23 : decode cX4_image 23 = .ok (.putfield 70, 3) := by decide +kernel
theorem dX4_image_26 : decode cX4_image 26 = .ok (.aload_n 0, 1) := by decide +kernel
theorem dX4_image_27 : decode cX4_image 27 = .ok (.getfield 26, 3) := by decide +kernel
theorem dX4_image_30 : decode cX4_image 30 = .ok (.getfield 137, 3) := by decide +kernel
theorem dX4_image_33 : decode cX4_image 33 = .ok (.ireturn, 1) := by decide +kernel
set_option maxRecDepth 20000 in
theorem ggX4_restore_X0_copy : GoodIn wsX4_restore wsX0_copy := goodIn_r _ [9, 10, 11, 12, 13, 14, 15, 16, 17, 18, 29, 30, 31, 32, 33, 34, 35, 36, 37] (by decide +kernel) (by decide +kernel)
set_option maxRecDepth 20000 in
theorem gX4_restore_X0_copy : GoodIn wsX4_restore (wsV RX4 202 RX0 yX0_copy wsX0_copy) := goodIn_app (goodIn_of _ (by decide +kernel)) ggX4_restore_X0_copy
theorem dX4_restore_0 : decode cX4_restore 0 = .ok (.aload_n 0, 1) := by decide +kernel
theorem dX4_restore_1 : decode cX4_restore 1 = .ok (.getfield 70, 3) := by decide +kernel
theorem dX4_restore_4 : decode cX4_restore 4 = .ok (.ifCond .ne 6, 3) := by decide +kernel
theorem dX4_restore_7 : decode cX4_restore 7 = .ok (.bipush (-103), 2) := by decide +kernel
theorem dX4_restore_9 : decode cX4_restore 9 = .ok (.ireturn, 1) := by decide +kernel
theorem dX4_restore_10 : decode cX4_restore 10 = .ok (.aload_n 0, 1) := by decide +kernel
theorem dX4_restore_11 : decode cX4_restore 11 = .ok (.getfield 26, 3) := by decide +kernel
theorem dX4_restore_14 : decode cX4_restore 14 = .ok (.aload_n 0, 1) := by decide +kernel
theorem dX4_restore_15 : decode cX4_restore 15 = .ok (.getfield 30, 3) := by decide +kernel
theorem dX4_restore_18 : decode cX4_restore 18 = .ok (.invokevirtual 202, 3) := by decide +kernel
theorem dX4_restore_21 : decode cX4_restore 21 = .ok (.aload_n 0, 1) := by decide +kernel
theorem dX4_restore_22 : decode cX4_restore 22 = .ok (.getfield 26, 3) := by decide +kernel
theorem dX4_restore_25 : decode cX4_restore 25 = .ok (.getfield 137, 3) := by decide +kernel
theorem dX4_restore_28 : decode cX4_restore 28 = .ok (.ireturn, 1) := by decide +kernel
set_option maxRecDepth 20000 in
theorem ggX4_count_X1_litOnes : GoodIn wsX4_count wsX1_litOnes := goodIn_r _ [18, 19, 20, 21, 17, 22, 51, 52, 53, 54] (by decide +kernel) (by decide +kernel)
set_option maxRecDepth 20000 in
theorem gX4_count_X1_litOnes : GoodIn wsX4_count (wsV RX4 140 RX1 yX1_litOnes wsX1_litOnes) := goodIn_app (goodIn_of _ (by decide +kernel)) ggX4_count_X1_litOnes
set_option maxRecDepth 20000 in
theorem ggX4_count_J6_bitCount_0f7a4 : GoodIn wsX4_count wsJ6_bitCount_0f7a4 := goodIn_r _ [26, 27, 28, 29] (by decide +kernel) (by decide +kernel)
end
section
set_option maxRecDepth 20000 in
theorem gX4_count_J6_bitCount_0f7a4 : GoodIn wsX4_count (va_wsS RX4 197 yJ6_bitCount_0f7a4 wsJ6_bitCount_0f7a4) := goodIn_app (goodIn_of _ (by decide +kernel)) ggX4_count_J6_bitCount_0f7a4
set_option maxRecDepth 20000 in
theorem ggX4_count_X0_inDark : GoodIn wsX4_count wsX0_inDark := goodIn_r _ [34, 35, 36, 55, 56, 57, 58, 59, 60, 61, 62, 63] (by decide +kernel) (by decide +kernel)
set_option maxRecDepth 20000 in
theorem gX4_count_X0_inDark : GoodIn wsX4_count (wsV RX4 147 RX0 yX0_inDark wsX0_inDark) := goodIn_app (goodIn_of _ (by decide +kernel)) ggX4_count_X0_inDark
set_option maxRecDepth 20000 in
theorem ggX4_count_X0_ofAll : GoodIn wsX4_count wsX0_ofAll := goodIn_r _ [40, 35, 55, 56, 57, 58, 59, 60, 61, 62, 63] (by decide +kernel) (by decide +kernel)
set_option maxRecDepth 20000 in
theorem gX4_count_X0_ofAll : GoodIn wsX4_count (wsV RX4 206 RX0 yX0_ofAll wsX0_ofAll) := goodIn_app (goodIn_of _ (by decide +kernel)) ggX4_count_X0_ofAll
theorem dX4_count_0 : decode cX4_count 0 = .ok (.iload_n 1, 1) := by decide +kernel
theorem dX4_count_1 : decode cX4_count 1 = .ok (.tableswitch 187 0 10 #[59, 67, 85, 93, 123, 131, 146, 161, 169, 177, 182], 59) := by decide +kernel
theorem dX4_count_60 : decode cX4_count 60 = .ok (.aload_n 0, 1) := by decide +kernel
theorem dX4_count_61 : decode cX4_count 61 = .ok (.getfield 19, 3) := by decide +kernel
theorem dX4_count_64 : decode cX4_count 64 = .ok (.getfield 77, 3) := by decide +kernel
theorem dX4_count_67 : decode cX4_count 67 = .ok (.ireturn, 1) := by decide +kernel
theorem dX4_count_68 : decode cX4_count 68 = .ok (.aload_n 0, 1) := by decide +kernel
theorem dX4_count_69 : decode cX4_count 69 = .ok (.getfield 19, 3) := by decide +kernel
theorem dX4_count_72 : decode cX4_count 72 = .ok (.aload_n 0, 1) := by decide +kernel
theorem dX4_count_73 : decode cX4_count 73 = .ok (.getfield 26, 3) := by decide +kernel
theorem dX4_count_76 : decode cX4_count 76 = .ok (.getfield 90, 3) := by decide +kernel
theorem dX4_count_79 : decode cX4_count 79 = .ok (.invokevirtual 140, 3) := by decide +kernel
theorem dX4_count_82 : decode cX4_count 82 = .ok (.invokestatic 197, 3) := by decide +kernel
theorem dX4_count_85 : decode cX4_count 85 = .ok (.ireturn, 1) := by decide +kernel
theorem dX4_count_86 : decode cX4_count 86 = .ok (.aload_n 0, 1) := by decide +kernel
theorem dX4_count_87 : decode cX4_count 87 = .ok (.getfield 26, 3) := by decide +kernel
theorem dX4_count_90 : decode cX4_count 90 = .ok (.getfield 125, 3) := by decide +kernel
theorem dX4_count_93 : decode cX4_count 93 = .ok (.ireturn, 1) := by decide +kernel
theorem dX4_count_94 : decode cX4_count 94 = .ok (.aload_n 0, 1) := by decide +kernel
theorem dX4_count_95 : decode cX4_count 95 = .ok (.getfield 26, 3) := by decide +kernel
theorem dX4_count_98 : decode cX4_count 98 = .ok (.getfield 125, 3) := by decide +kernel
theorem dX4_count_101 : decode cX4_count 101 = .ok (.aload_n 0, 1) := by decide +kernel
theorem dX4_count_102 : decode cX4_count 102 = .ok (.getfield 26, 3) := by decide +kernel
theorem dX4_count_105 : decode cX4_count 105 = .ok (.aload_n 0, 1) := by decide +kernel
theorem dX4_count_106 : decode cX4_count 106 = .ok (.getfield 19, 3) := by decide +kernel
theorem dX4_count_109 : decode cX4_count 109 = .ok (.aload_n 0, 1) := by decide +kernel
theorem dX4_count_110 : decode cX4_count 110 = .ok (.getfield 26, 3) := by decide +kernel
theorem dX4_count_113 : decode cX4_count 113 = .ok (.getfield 90, 3) := by decide +kernel
theorem dX4_count_116 : decode cX4_count 116 = .ok (.invokevirtual 140, 3) := by decide +kernel
theorem dX4_count_119 : decode cX4_count 119 = .ok (.invokevirtual 147, 3) := by decide +kernel
theorem dX4_count_122 : decode cX4_count 122 = .ok (.isub, 1) := by decide +kernel
theorem dX4_count_123 : decode cX4_count 123 = .ok (.ireturn, 1) := by decide +kernel
theorem dX4_count_124 : decode cX4_count 124 = .ok (.aload_n 0, 1) := by decide +kernel
theorem dX4_count_125 : decode cX4_count 125 = .ok (.getfield 26, 3) := by decide +kernel
theorem dX4_count_128 : decode cX4_count 128 = .ok (.getfield 137, 3) := by decide +kernel
theorem dX4_count_131 : decode cX4_count 131 = .ok (.ireturn, 1) := by decide +kernel
theorem dX4_count_132 : decode cX4_count 132 = .ok (.aload_n 0, 1) := by decide +kernel
theorem dX4_count_133 : decode cX4_count 133 = .ok (.getfield 26, 3) := by decide +kernel
theorem dX4_count_136 : decode cX4_count 136 = .ok (.aload_n 0, 1) := by decide +kernel
theorem dX4_count_137 : decode cX4_count 137 = .ok (.getfield 26, 3) := by decide +kernel
theorem dX4_count_140 : decode cX4_count 140 = .ok (.getfield 119, 3) := by decide +kernel
theorem dX4_count_143 : decode cX4_count 143 = .ok (.invokevirtual 206, 3) := by decide +kernel
theorem dX4_count_146 : decode cX4_count 146 = .ok (.ireturn, 1) := by decide +kernel
theorem dX4_count_147 : decode cX4_count 147 = .ok (.aload_n 0, 1) := by decide +kernel
theorem dX4_count_148 : decode cX4_count 148 = .ok (.getfield 26, 3) := by decide +kernel
theorem dX4_count_151 : decode cX4_count 151 = .ok (.aload_n 0, 1) := by decide +kernel
theorem dX4_count_152 : decode cX4_count 152 = .ok (.getfield 26, 3) := by decide +kernel
theorem dX4_count_155 : decode cX4_count 155 = .ok (.getfield 122, 3) := by decide +kernel
theorem dX4_count_158 : decode cX4_count 158 = .ok (.invokevirtual 206, 3) := by decide +kernel
theorem dX4_count_161 : decode cX4_count 161 = .ok (.ireturn, 1) := by decide +kernel
theorem dX4_count_162 : decode cX4_count 162 = .ok (.aload_n 0, 1) := by decide +kernel
theorem dX4_count_163 : decode cX4_count 163 = .ok (.getfield 26, 3) := by decide +kernel
theorem dX4_count_166 : decode cX4_count 166 = .ok (.getfield 173, 3) := by decide +kernel
theorem dX4_count_169 : decode cX4_count 169 = .ok (.ireturn, 1) := by decide +kernel
theorem dX4_count_170 : decode cX4_count 170 = .ok (.aload_n 0, 1) := by decide +kernel
theorem dX4_count_171 : decode cX4_count 171 = .ok (.getfield 10, 3) := by decide +kernel
theorem dX4_count_174 : decode cX4_count 174 = .ok (.getfield 51, 3) := by decide +kernel
theorem dX4_count_177 : decode cX4_count 177 = .ok (.ireturn, 1) := by decide +kernel
theorem dX4_count_178 : decode cX4_count 178 = .ok (.aload_n 0, 1) := by decide +kernel
theorem dX4_count_179 : decode cX4_count 179 = .ok (.getfield 74, 3) := by decide +kernel
theorem dX4_count_182 : decode cX4_count 182 = .ok (.ireturn, 1) := by decide +kernel
theorem dX4_count_183 : decode cX4_count 183 = .ok (.aload_n 0, 1) := by decide +kernel
theorem dX4_count_184 : decode cX4_count 184 = .ok (.getfield 160, 3) := by decide +kernel
theorem dX4_count_187 : decode cX4_count 187 = .ok (.ireturn, 1) := by decide +kernel
theorem dX4_count_188 : decode cX4_count 188 = .ok (.bipush (-102), 2) := by decide +kernel
theorem dX4_count_190 : decode cX4_count 190 = .ok (.ireturn, 1) := by decide +kernel
set_option maxRecDepth 20000 in
theorem ggX4_digest_X4_lamp : GoodIn wsX4_digest wsX4_lamp := goodIn_r _ [15, 2, 16, 17, 5, 18, 19, 20, 21, 22, 14, 23, 3, 24, 25, 26, 27, 28, 29, 30, 31, 32, 33, 34, 35, 36, 37, 38, 39, 40, 160, 161, 162, 163, 164, 165, 166, 167, 168, 169, 170, 171, 172, 173, 174, 175, 176, 177, 178, 179, 180, 181, 182] (by decide +kernel) (by decide +kernel)
set_option maxRecDepth 20000 in
theorem gX4_digest_X4_lamp : GoodIn wsX4_digest (wsV RX4 214 RX4 yX4_lamp wsX4_lamp) := goodIn_app (goodIn_of _ (by decide +kernel)) ggX4_digest_X4_lamp
set_option maxRecDepth 20000 in
theorem ggX4_digest_X4_digestPerson : GoodIn wsX4_digest wsX4_digestPerson := goodIn_r _ [44, 4, 45, 2, 5, 46, 47, 48, 49, 14, 50, 18, 51, 52, 53, 54, 55, 56, 6, 24, 25, 26, 27, 57, 58, 59, 60, 61, 62, 63, 64, 65, 66, 67, 68, 39, 69, 70, 71, 72, 31, 73, 74, 75, 76, 77, 78, 79, 80, 81, 82, 40, 83, 84, 85, 86, 87, 88, 89, 90, 91, 92, 93, 94, 95, 96, 97, 98, 99, 3, 100, 101, 102, 103, 104, 105, 106, 107, 108, 109, 110, 160, 161, 162, 163, 164, 165, 166, 167, 168, 169, 174, 175, 176, 177, 178, 179, 180, 181, 182, 185, 186, 170, 171, 172, 173] (by decide +kernel) (by decide +kernel)
set_option maxRecDepth 20000 in
theorem gX4_digest_X4_digestPerson : GoodIn wsX4_digest (wsV RX4 217 RX4 yX4_digestPerson wsX4_digestPerson) := goodIn_app (goodIn_of _ (by decide +kernel)) ggX4_digest_X4_digestPerson
set_option maxRecDepth 20000 in
theorem ggX4_digest_X4_hasOffice : GoodIn wsX4_digest wsX4_hasOffice := goodIn_r _ [114, 2, 3, 160, 161, 162, 163, 164, 165, 166, 167, 168, 169, 170, 171, 172, 173] (by decide +kernel) (by decide +kernel)
set_option maxRecDepth 20000 in
theorem gX4_digest_X4_hasOffice : GoodIn wsX4_digest (wsV RX4 128 RX4 yX4_hasOffice wsX4_hasOffice) := goodIn_app (goodIn_of _ (by decide +kernel)) ggX4_digest_X4_hasOffice
set_option maxRecDepth 20000 in
theorem ggX4_digest_X4_planWaving : GoodIn wsX4_digest wsX4_planWaving := goodIn_r _ [118, 5, 6, 2, 7, 18, 119, 120, 14, 121, 122, 123, 124, 125, 126, 127, 128, 129, 130, 131, 31, 132, 33, 34, 133, 80, 81, 26, 82, 39, 40, 83, 84, 85, 86, 87, 69, 25, 27, 134, 66, 67, 68, 135, 136, 137, 138, 160, 161, 162, 163, 164, 165, 166, 167, 168, 169, 174, 175, 176, 177, 178, 179, 180, 181, 182, 170, 171, 172, 173] (by decide +kernel) (by decide +kernel)
set_option maxRecDepth 20000 in
theorem gX4_digest_X4_planWaving : GoodIn wsX4_digest (wsV RX4 153 RX4 yX4_planWaving wsX4_planWaving) := goodIn_app (goodIn_of _ (by decide +kernel)) ggX4_digest_X4_planWaving
set_option maxRecDepth 20000 in
theorem ggX4_digest_X4_together : GoodIn wsX4_digest wsX4_together := goodIn_r _ [142, 2, 111, 112, 113, 14, 114, 3, 143, 144, 145, 26, 146, 39, 147, 36, 37, 38, 40, 35, 160, 161, 162, 163, 164, 165, 166, 167, 168, 169, 170, 171, 172, 173] (by decide +kernel) (by decide +kernel)
set_option maxRecDepth 20000 in
theorem gX4_digest_X4_together : GoodIn wsX4_digest (wsV RX4 221 RX4 yX4_together wsX4_together) := goodIn_app (goodIn_of _ (by decide +kernel)) ggX4_digest_X4_together
set_option maxRecDepth 20000 in
theorem ggX4_digest_X4_count : GoodIn wsX4_digest wsX4_count := goodIn_r _ [151, 2, 3, 5, 18, 6, 152, 51, 52, 153, 8, 9, 154, 155, 134, 66, 67, 26, 68, 39, 69, 25, 27, 122, 123, 124, 125, 126, 127, 128, 135, 136, 137, 31, 138, 33, 34, 156, 157, 158, 159, 160, 161, 162, 163, 164, 165, 166, 167, 168, 169, 170, 171, 172, 173, 174, 175, 176, 177, 178, 179, 180, 181, 182, 183, 184] (by decide +kernel) (by decide +kernel)
set_option maxRecDepth 20000 in
theorem gX4_digest_X4_count : GoodIn wsX4_digest (wsV RX4 227 RX4 yX4_count wsX4_count) := goodIn_app (goodIn_of _ (by decide +kernel)) ggX4_digest_X4_count
theorem dX4_digest_0 : decode cX4_digest 0 = .ok (.ldc2_w 210, 3) := by decide +kernel
theorem dX4_digest_3 : decode cX4_digest 3 = .ok (.lstore_n 1, 1) := by decide +kernel
theorem dX4_digest_4 : decode cX4_digest 4 = .ok (.iconst 0, 1) := by decide +kernel
theorem dX4_digest_5 : decode cX4_digest 5 = .ok (.istore_n 3, 1) := by decide +kernel
theorem dX4_digest_6 : decode cX4_digest 6 = .ok (.iload_n 3, 1) := by decide +kernel
theorem dX4_digest_7 : decode cX4_digest 7 = .ok (.aload_n 0, 1) := by decide +kernel
theorem dX4_digest_8 : decode cX4_digest 8 = .ok (.getfield 19, 3) := by decide +kernel
theorem dX4_digest_11 : decode cX4_digest 11 = .ok (.getfield 77, 3) := by decide +kernel
theorem dX4_digest_14 : decode cX4_digest 14 = .ok (.if_icmp .ge 39, 3) := by decide +kernel
theorem dX4_digest_17 : decode cX4_digest 17 = .ok (.iconst 0, 1) := by decide +kernel
theorem dX4_digest_18 : decode cX4_digest 18 = .ok (.istore 4, 2) := by decide +kernel
theorem dX4_digest_20 : decode cX4_digest 20 = .ok (.iload 4, 2) := by decide +kernel
theorem dX4_digest_22 : decode cX4_digest 22 = .ok (.iconst 5, 1) := by decide +kernel
theorem dX4_digest_23 : decode cX4_digest 23 = .ok (.if_icmp .gt 24, 3) := by decide +kernel
theorem dX4_digest_26 : decode cX4_digest 26 = .ok (.ldc2_w 212, 3) := by decide +kernel
theorem dX4_digest_29 : decode cX4_digest 29 = .ok (.lload_n 1, 1) := by decide +kernel
theorem dX4_digest_30 : decode cX4_digest 30 = .ok (.lmul, 1) := by decide +kernel
theorem dX4_digest_31 : decode cX4_digest 31 = .ok (.aload_n 0, 1) := by decide +kernel
theorem dX4_digest_32 : decode cX4_digest 32 = .ok (.iload_n 3, 1) := by decide +kernel
theorem dX4_digest_33 : decode cX4_digest 33 = .ok (.iload 4, 2) := by decide +kernel
theorem dX4_digest_35 : decode cX4_digest 35 = .ok (.invokevirtual 214, 3) := by decide +kernel
theorem dX4_digest_38 : decode cX4_digest 38 = .ok (.i2l, 1) := by decide +kernel
theorem dX4_digest_39 : decode cX4_digest 39 = .ok (.ladd, 1) := by decide +kernel
theorem dX4_digest_40 : decode cX4_digest 40 = .ok (.lstore_n 1, 1) := by decide +kernel
theorem dX4_digest_41 : decode cX4_digest 41 = .ok (.iinc 4 1, 3) := by decide +kernel
theorem dX4_digest_44 : decode cX4_digest 44 = .ok (.goto (-24), 3) := by decide +kernel
theorem dX4_digest_47 : decode cX4_digest 47 = .ok (.iinc 3 1, 3) := by decide +kernel
theorem dX4_digest_50 : decode cX4_digest 50 = .ok (.goto (-44), 3) := by decide +kernel
theorem dX4_digest_53 : decode cX4_digest 53 = .ok (.iconst 0, 1) := by decide +kernel
theorem dX4_digest_54 : decode cX4_digest 54 = .ok (.istore_n 3, 1) := by decide +kernel
theorem dX4_digest_55 : decode cX4_digest 55 = .ok (.iload_n 3, 1) := by decide +kernel
theorem dX4_digest_56 : decode cX4_digest 56 = .ok (.aload_n 0, 1) := by decide +kernel
theorem dX4_digest_57 : decode cX4_digest 57 = .ok (.getfield 26, 3) := by decide +kernel
theorem dX4_digest_60 : decode cX4_digest 60 = .ok (.getfield 125, 3) := by decide +kernel
theorem dX4_digest_63 : decode cX4_digest 63 = .ok (.if_icmp .ge 16, 3) := by decide +kernel
theorem dX4_digest_66 : decode cX4_digest 66 = .ok (.aload_n 0, 1) := by decide +kernel
theorem dX4_digest_67 : decode cX4_digest 67 = .ok (.lload_n 1, 1) := by decide +kernel
theorem dX4_digest_68 : decode cX4_digest 68 = .ok (.iload_n 3, 1) := by decide +kernel
theorem dX4_digest_69 : decode cX4_digest 69 = .ok (.invokevirtual 217, 3) := by decide +kernel
theorem dX4_digest_72 : decode cX4_digest 72 = .ok (.lstore_n 1, 1) := by decide +kernel
theorem dX4_digest_73 : decode cX4_digest 73 = .ok (.iinc 3 1, 3) := by decide +kernel
theorem dX4_digest_76 : decode cX4_digest 76 = .ok (.goto (-21), 3) := by decide +kernel
theorem dX4_digest_79 : decode cX4_digest 79 = .ok (.aload_n 0, 1) := by decide +kernel
theorem dX4_digest_80 : decode cX4_digest 80 = .ok (.invokevirtual 128, 3) := by decide +kernel
theorem dX4_digest_83 : decode cX4_digest 83 = .ok (.ifCond .eq 70, 3) := by decide +kernel
theorem dX4_digest_86 : decode cX4_digest 86 = .ok (.ldc2_w 212, 3) := by decide +kernel
theorem dX4_digest_89 : decode cX4_digest 89 = .ok (.lload_n 1, 1) := by decide +kernel
theorem dX4_digest_90 : decode cX4_digest 90 = .ok (.lmul, 1) := by decide +kernel
theorem dX4_digest_91 : decode cX4_digest 91 = .ok (.aload_n 0, 1) := by decide +kernel
theorem dX4_digest_92 : decode cX4_digest 92 = .ok (.iconst 2, 1) := by decide +kernel
theorem dX4_digest_93 : decode cX4_digest 93 = .ok (.invokevirtual 153, 3) := by decide +kernel
theorem dX4_digest_96 : decode cX4_digest 96 = .ok (.i2l, 1) := by decide +kernel
theorem dX4_digest_97 : decode cX4_digest 97 = .ok (.ladd, 1) := by decide +kernel
theorem dX4_digest_98 : decode cX4_digest 98 = .ok (.lstore_n 1, 1) := by decide +kernel
theorem dX4_digest_99 : decode cX4_digest 99 = .ok (.ldc2_w 212, 3) := by decide +kernel
theorem dX4_digest_102 : decode cX4_digest 102 = .ok (.lload_n 1, 1) := by decide +kernel
theorem dX4_digest_103 : decode cX4_digest 103 = .ok (.lmul, 1) := by decide +kernel
theorem dX4_digest_104 : decode cX4_digest 104 = .ok (.aload_n 0, 1) := by decide +kernel
theorem dX4_digest_105 : decode cX4_digest 105 = .ok (.getfield 40, 3) := by decide +kernel
theorem dX4_digest_108 : decode cX4_digest 108 = .ok (.iconst 0, 1) := by decide +kernel
theorem dX4_digest_109 : decode cX4_digest 109 = .ok (.iaload, 1) := by decide +kernel
theorem dX4_digest_110 : decode cX4_digest 110 = .ok (.i2l, 1) := by decide +kernel
theorem dX4_digest_111 : decode cX4_digest 111 = .ok (.ladd, 1) := by decide +kernel
theorem dX4_digest_112 : decode cX4_digest 112 = .ok (.lstore_n 1, 1) := by decide +kernel
theorem dX4_digest_113 : decode cX4_digest 113 = .ok (.ldc2_w 212, 3) := by decide +kernel
theorem dX4_digest_116 : decode cX4_digest 116 = .ok (.lload_n 1, 1) := by decide +kernel
theorem dX4_digest_117 : decode cX4_digest 117 = .ok (.lmul, 1) := by decide +kernel
theorem dX4_digest_118 : decode cX4_digest 118 = .ok (.aload_n 0, 1) := by decide +kernel
theorem dX4_digest_119 : decode cX4_digest 119 = .ok (.getfield 40, 3) := by decide +kernel
theorem dX4_digest_122 : decode cX4_digest 122 = .ok (.iconst 1, 1) := by decide +kernel
theorem dX4_digest_123 : decode cX4_digest 123 = .ok (.iaload, 1) := by decide +kernel
theorem dX4_digest_124 : decode cX4_digest 124 = .ok (.i2l, 1) := by decide +kernel
theorem dX4_digest_125 : decode cX4_digest 125 = .ok (.ladd, 1) := by decide +kernel
theorem dX4_digest_126 : decode cX4_digest 126 = .ok (.lstore_n 1, 1) := by decide +kernel
theorem dX4_digest_127 : decode cX4_digest 127 = .ok (.ldc2_w 212, 3) := by decide +kernel
theorem dX4_digest_130 : decode cX4_digest 130 = .ok (.lload_n 1, 1) := by decide +kernel
theorem dX4_digest_131 : decode cX4_digest 131 = .ok (.lmul, 1) := by decide +kernel
theorem dX4_digest_132 : decode cX4_digest 132 = .ok (.aload_n 0, 1) := by decide +kernel
theorem dX4_digest_133 : decode cX4_digest 133 = .ok (.iconst 0, 1) := by decide +kernel
theorem dX4_digest_134 : decode cX4_digest 134 = .ok (.invokevirtual 221, 3) := by decide +kernel
theorem dX4_digest_137 : decode cX4_digest 137 = .ok (.i2l, 1) := by decide +kernel
theorem dX4_digest_138 : decode cX4_digest 138 = .ok (.ladd, 1) := by decide +kernel
theorem dX4_digest_139 : decode cX4_digest 139 = .ok (.lstore_n 1, 1) := by decide +kernel
theorem dX4_digest_140 : decode cX4_digest 140 = .ok (.ldc2_w 212, 3) := by decide +kernel
theorem dX4_digest_143 : decode cX4_digest 143 = .ok (.lload_n 1, 1) := by decide +kernel
theorem dX4_digest_144 : decode cX4_digest 144 = .ok (.lmul, 1) := by decide +kernel
theorem dX4_digest_145 : decode cX4_digest 145 = .ok (.aload_n 0, 1) := by decide +kernel
theorem dX4_digest_146 : decode cX4_digest 146 = .ok (.iconst 1, 1) := by decide +kernel
theorem dX4_digest_147 : decode cX4_digest 147 = .ok (.invokevirtual 221, 3) := by decide +kernel
theorem dX4_digest_150 : decode cX4_digest 150 = .ok (.i2l, 1) := by decide +kernel
theorem dX4_digest_151 : decode cX4_digest 151 = .ok (.ladd, 1) := by decide +kernel
theorem dX4_digest_152 : decode cX4_digest 152 = .ok (.lstore_n 1, 1) := by decide +kernel
theorem dX4_digest_153 : decode cX4_digest 153 = .ok (.iconst 0, 1) := by decide +kernel
theorem dX4_digest_154 : decode cX4_digest 154 = .ok (.istore_n 3, 1) := by decide +kernel
theorem dX4_digest_155 : decode cX4_digest 155 = .ok (.iload_n 3, 1) := by decide +kernel
theorem dX4_digest_156 : decode cX4_digest 156 = .ok (.aload_n 0, 1) := by decide +kernel
theorem dX4_digest_157 : decode cX4_digest 157 = .ok (.getfield 10, 3) := by decide +kernel
theorem dX4_digest_160 : decode cX4_digest 160 = .ok (.getfield 51, 3) := by decide +kernel
theorem dX4_digest_163 : decode cX4_digest 163 = .ok (.if_icmp .ge 26, 3) := by decide +kernel
theorem dX4_digest_166 : decode cX4_digest 166 = .ok (.ldc2_w 212, 3) := by decide +kernel
theorem dX4_digest_169 : decode cX4_digest 169 = .ok (.lload_n 1, 1) := by decide +kernel
theorem dX4_digest_170 : decode cX4_digest 170 = .ok (.lmul, 1) := by decide +kernel
theorem dX4_digest_171 : decode cX4_digest 171 = .ok (.aload_n 0, 1) := by decide +kernel
theorem dX4_digest_172 : decode cX4_digest 172 = .ok (.getfield 10, 3) := by decide +kernel
theorem dX4_digest_175 : decode cX4_digest 175 = .ok (.getfield 224, 3) := by decide +kernel
theorem dX4_digest_178 : decode cX4_digest 178 = .ok (.iload_n 3, 1) := by decide +kernel
theorem dX4_digest_179 : decode cX4_digest 179 = .ok (.iaload, 1) := by decide +kernel
theorem dX4_digest_180 : decode cX4_digest 180 = .ok (.i2l, 1) := by decide +kernel
theorem dX4_digest_181 : decode cX4_digest 181 = .ok (.ladd, 1) := by decide +kernel
theorem dX4_digest_182 : decode cX4_digest 182 = .ok (.lstore_n 1, 1) := by decide +kernel
theorem dX4_digest_183 : decode cX4_digest 183 = .ok (.iinc 3 1, 3) := by decide +kernel
theorem dX4_digest_186 : decode cX4_digest 186 = .ok (.goto (-31), 3) := by decide +kernel
theorem dX4_digest_189 : decode cX4_digest 189 = .ok (.iconst 0, 1) := by decide +kernel
theorem dX4_digest_190 : decode cX4_digest 190 = .ok (.istore_n 3, 1) := by decide +kernel
theorem dX4_digest_191 : decode cX4_digest 191 = .ok (.iload_n 3, 1) := by decide +kernel
theorem dX4_digest_192 : decode cX4_digest 192 = .ok (.bipush 10, 2) := by decide +kernel
theorem dX4_digest_194 : decode cX4_digest 194 = .ok (.if_icmp .gt 22, 3) := by decide +kernel
theorem dX4_digest_197 : decode cX4_digest 197 = .ok (.ldc2_w 212, 3) := by decide +kernel
theorem dX4_digest_200 : decode cX4_digest 200 = .ok (.lload_n 1, 1) := by decide +kernel
theorem dX4_digest_201 : decode cX4_digest 201 = .ok (.lmul, 1) := by decide +kernel
theorem dX4_digest_202 : decode cX4_digest 202 = .ok (.aload_n 0, 1) := by decide +kernel
theorem dX4_digest_203 : decode cX4_digest 203 = .ok (.iload_n 3, 1) := by decide +kernel
theorem dX4_digest_204 : decode cX4_digest 204 = .ok (.invokevirtual 227, 3) := by decide +kernel
theorem dX4_digest_207 : decode cX4_digest 207 = .ok (.i2l, 1) := by decide +kernel
theorem dX4_digest_208 : decode cX4_digest 208 = .ok (.ladd, 1) := by decide +kernel
theorem dX4_digest_209 : decode cX4_digest 209 = .ok (.lstore_n 1, 1) := by decide +kernel
theorem dX4_digest_210 : decode cX4_digest 210 = .ok (.iinc 3 1, 3) := by decide +kernel
theorem dX4_digest_213 : decode cX4_digest 213 = .ok (.goto (-22), 3) := by decide +kernel
theorem dX4_digest_216 : decode cX4_digest 216 = .ok (.lload_n 1, 1) := by decide +kernel
theorem dX4_digest_217 : decode cX4_digest 217 = .ok (.lreturn, 1) := by decide +kernel
set_option maxRecDepth 20000 in
theorem ggX4_digestPerson_X4_about : GoodIn wsX4_digestPerson wsX4_about := goodIn_r _ [10, 4, 5, 11, 12, 13, 14, 15, 16, 9, 17, 18, 19, 20, 21, 22, 81, 82, 83, 84, 85, 86, 87, 88, 89, 90, 91, 92, 93, 94, 95, 96, 97, 98, 99] (by decide +kernel) (by decide +kernel)
set_option maxRecDepth 20000 in
theorem gX4_digestPerson_X4_about : GoodIn wsX4_digestPerson (wsV RX4 230 RX4 yX4_about wsX4_about) := goodIn_app (goodIn_of _ (by decide +kernel)) ggX4_digestPerson_X4_about
set_option maxRecDepth 20000 in
theorem ggX4_digestPerson_X3_follow : GoodIn wsX4_digestPerson wsX3_follow := goodIn_r _ [27, 28, 29, 30, 31, 32, 33, 21, 34, 35, 36, 20, 22, 37, 38, 39, 40, 41, 42, 43, 44, 45, 26, 46, 47, 48, 49, 50, 51, 52, 53, 54, 55, 56, 100, 101, 91, 92, 93, 94, 95, 96, 97, 98, 99, 102, 103, 104, 105] (by decide +kernel) (by decide +kernel)
set_option maxRecDepth 20000 in
theorem gX4_digestPerson_X3_follow : GoodIn wsX4_digestPerson (wsV RX4 179 RX3 yX3_follow wsX3_follow) := goodIn_app (goodIn_of _ (by decide +kernel)) ggX4_digestPerson_X3_follow
set_option maxRecDepth 20000 in
theorem ggX4_digestPerson_X3_left : GoodIn wsX4_digestPerson wsX3_left := goodIn_r _ [60, 28, 29, 100, 101] (by decide +kernel) (by decide +kernel)
set_option maxRecDepth 20000 in
theorem gX4_digestPerson_X3_left : GoodIn wsX4_digestPerson (wsV RX4 183 RX3 yX3_left wsX3_left) := goodIn_app (goodIn_of _ (by decide +kernel)) ggX4_digestPerson_X3_left
set_option maxRecDepth 20000 in
theorem ggX4_digestPerson_X3_first : GoodIn wsX4_digestPerson wsX3_first := goodIn_r _ [64, 28, 29, 100, 101] (by decide +kernel) (by decide +kernel)
set_option maxRecDepth 20000 in
theorem gX4_digestPerson_X3_first : GoodIn wsX4_digestPerson (wsV RX4 185 RX3 yX3_first wsX3_first) := goodIn_app (goodIn_of _ (by decide +kernel)) ggX4_digestPerson_X3_first
set_option maxRecDepth 20000 in
theorem ggX4_digestPerson_X4_look : GoodIn wsX4_digestPerson wsX4_look := goodIn_r _ [68, 2, 3, 4, 5, 69, 14, 15, 16, 9, 17, 18, 23, 24, 25, 26, 27, 28, 29, 30, 31, 32, 33, 21, 34, 35, 36, 20, 22, 37, 38, 39, 40, 41, 42, 43, 44, 45, 46, 47, 48, 49, 50, 51, 52, 53, 54, 55, 56, 70, 71, 72, 73, 74, 75, 58, 59, 60, 76, 77, 78, 79, 80, 81, 82, 83, 84, 85, 86, 87, 88, 89, 90, 91, 92, 93, 94, 95, 96, 97, 98, 99, 102, 103, 104, 105, 100, 101] (by decide +kernel) (by decide +kernel)
set_option maxRecDepth 20000 in
theorem gX4_digestPerson_X4_look : GoodIn wsX4_digestPerson (wsV RX4 233 RX4 yX4_look wsX4_look) := goodIn_app (goodIn_of _ (by decide +kernel)) ggX4_digestPerson_X4_look
theorem dX4_digestPerson_0 : decode cX4_digestPerson 0 = .ok (.lload_n 1, 1) := by decide +kernel
theorem dX4_digestPerson_1 : decode cX4_digestPerson 1 = .ok (.lstore 4, 2) := by decide +kernel
theorem dX4_digestPerson_3 : decode cX4_digestPerson 3 = .ok (.iconst 0, 1) := by decide +kernel
theorem dX4_digestPerson_4 : decode cX4_digestPerson 4 = .ok (.istore 6, 2) := by decide +kernel
theorem dX4_digestPerson_6 : decode cX4_digestPerson 6 = .ok (.iload 6, 2) := by decide +kernel
theorem dX4_digestPerson_8 : decode cX4_digestPerson 8 = .ok (.iconst 3, 1) := by decide +kernel
theorem dX4_digestPerson_9 : decode cX4_digestPerson 9 = .ok (.if_icmp .gt 26, 3) := by decide +kernel
theorem dX4_digestPerson_12 : decode cX4_digestPerson 12 = .ok (.ldc2_w 212, 3) := by decide +kernel
theorem dX4_digestPerson_15 : decode cX4_digestPerson 15 = .ok (.lload 4, 2) := by decide +kernel
theorem dX4_digestPerson_17 : decode cX4_digestPerson 17 = .ok (.lmul, 1) := by decide +kernel
theorem dX4_digestPerson_18 : decode cX4_digestPerson 18 = .ok (.aload_n 0, 1) := by decide +kernel
theorem dX4_digestPerson_19 : decode cX4_digestPerson 19 = .ok (.iload_n 3, 1) := by decide +kernel
theorem dX4_digestPerson_20 : decode cX4_digestPerson 20 = .ok (.iload 6, 2) := by decide +kernel
theorem dX4_digestPerson_22 : decode cX4_digestPerson 22 = .ok (.invokevirtual 230, 3) := by decide +kernel
theorem dX4_digestPerson_25 : decode cX4_digestPerson 25 = .ok (.i2l, 1) := by decide +kernel
theorem dX4_digestPerson_26 : decode cX4_digestPerson 26 = .ok (.ladd, 1) := by decide +kernel
theorem dX4_digestPerson_27 : decode cX4_digestPerson 27 = .ok (.lstore 4, 2) := by decide +kernel
theorem dX4_digestPerson_29 : decode cX4_digestPerson 29 = .ok (.iinc 6 1, 3) := by decide +kernel
theorem dX4_digestPerson_32 : decode cX4_digestPerson 32 = .ok (.goto (-26), 3) := by decide +kernel
theorem dX4_digestPerson_35 : decode cX4_digestPerson 35 = .ok (.aload_n 0, 1) := by decide +kernel
theorem dX4_digestPerson_36 : decode cX4_digestPerson 36 = .ok (.getfield 36, 3) := by decide +kernel
theorem dX4_digestPerson_39 : decode cX4_digestPerson 39 = .ok (.aload_n 0, 1) := by decide +kernel
theorem dX4_digestPerson_40 : decode cX4_digestPerson 40 = .ok (.getfield 19, 3) := by decide +kernel
theorem dX4_digestPerson_43 : decode cX4_digestPerson 43 = .ok (.aload_n 0, 1) := by decide +kernel
theorem dX4_digestPerson_44 : decode cX4_digestPerson 44 = .ok (.getfield 26, 3) := by decide +kernel
theorem dX4_digestPerson_47 : decode cX4_digestPerson 47 = .ok (.aload_n 0, 1) := by decide +kernel
theorem dX4_digestPerson_48 : decode cX4_digestPerson 48 = .ok (.getfield 26, 3) := by decide +kernel
theorem dX4_digestPerson_51 : decode cX4_digestPerson 51 = .ok (.getfield 116, 3) := by decide +kernel
theorem dX4_digestPerson_54 : decode cX4_digestPerson 54 = .ok (.iload_n 3, 1) := by decide +kernel
theorem dX4_digestPerson_55 : decode cX4_digestPerson 55 = .ok (.iaload, 1) := by decide +kernel
theorem dX4_digestPerson_56 : decode cX4_digestPerson 56 = .ok (.iconst 4, 1) := by decide +kernel
theorem dX4_digestPerson_57 : decode cX4_digestPerson 57 = .ok (.invokevirtual 179, 3) := by decide +kernel
theorem dX4_digestPerson_60 : decode cX4_digestPerson 60 = .ok (.ldc2_w 212, 3) := by decide +kernel
theorem dX4_digestPerson_63 : decode cX4_digestPerson 63 = .ok (.lload 4, 2) := by decide +kernel
theorem dX4_digestPerson_65 : decode cX4_digestPerson 65 = .ok (.lmul, 1) := by decide +kernel
theorem dX4_digestPerson_66 : decode cX4_digestPerson 66 = .ok (.aload_n 0, 1) := by decide +kernel
theorem dX4_digestPerson_67 : decode cX4_digestPerson 67 = .ok (.getfield 36, 3) := by decide +kernel
theorem dX4_digestPerson_70 : decode cX4_digestPerson 70 = .ok (.invokevirtual 183, 3) := by decide +kernel
theorem dX4_digestPerson_73 : decode cX4_digestPerson 73 = .ok (.i2l, 1) := by decide +kernel
theorem dX4_digestPerson_74 : decode cX4_digestPerson 74 = .ok (.ladd, 1) := by decide +kernel
theorem dX4_digestPerson_75 : decode cX4_digestPerson 75 = .ok (.lstore 4, 2) := by decide +kernel
theorem dX4_digestPerson_77 : decode cX4_digestPerson 77 = .ok (.ldc2_w 212, 3) := by decide +kernel
theorem dX4_digestPerson_80 : decode cX4_digestPerson 80 = .ok (.lload 4, 2) := by decide +kernel
theorem dX4_digestPerson_82 : decode cX4_digestPerson 82 = .ok (.lmul, 1) := by decide +kernel
theorem dX4_digestPerson_83 : decode cX4_digestPerson 83 = .ok (.aload_n 0, 1) := by decide +kernel
theorem dX4_digestPerson_84 : decode cX4_digestPerson 84 = .ok (.getfield 36, 3) := by decide +kernel
theorem dX4_digestPerson_87 : decode cX4_digestPerson 87 = .ok (.invokevirtual 185, 3) := by decide +kernel
theorem dX4_digestPerson_90 : decode cX4_digestPerson 90 = .ok (.i2l, 1) := by decide +kernel
theorem dX4_digestPerson_91 : decode cX4_digestPerson 91 = .ok (.ladd, 1) := by decide +kernel
theorem dX4_digestPerson_92 : decode cX4_digestPerson 92 = .ok (.lstore 4, 2) := by decide +kernel
theorem dX4_digestPerson_94 : decode cX4_digestPerson 94 = .ok (.ldc2_w 212, 3) := by decide +kernel
theorem dX4_digestPerson_97 : decode cX4_digestPerson 97 = .ok (.lload 4, 2) := by decide +kernel
theorem dX4_digestPerson_99 : decode cX4_digestPerson 99 = .ok (.lmul, 1) := by decide +kernel
theorem dX4_digestPerson_100 : decode cX4_digestPerson 100 = .ok (.aload_n 0, 1) := by decide +kernel
theorem dX4_digestPerson_101 : decode cX4_digestPerson 101 = .ok (.iload_n 3, 1) := by decide +kernel
theorem dX4_digestPerson_102 : decode cX4_digestPerson 102 = .ok (.iconst 3, 1) := by decide +kernel
theorem dX4_digestPerson_103 : decode cX4_digestPerson 103 = .ok (.invokevirtual 233, 3) := by decide +kernel
theorem dX4_digestPerson_106 : decode cX4_digestPerson 106 = .ok (.i2l, 1) := by decide +kernel
theorem dX4_digestPerson_107 : decode cX4_digestPerson 107 = .ok (.ladd, 1) := by decide +kernel
theorem dX4_digestPerson_108 : decode cX4_digestPerson 108 = .ok (.lreturn, 1) := by decide +kernel
theorem dX4_hasOffice_0 : decode cX4_hasOffice 0 = .ok (.aload_n 0, 1) := by decide +kernel
theorem dX4_hasOffice_1 : decode cX4_hasOffice 1 = .ok (.getfield 19, 3) := by decide +kernel
theorem dX4_hasOffice_4 : decode cX4_hasOffice 4 = .ok (.getfield 77, 3) := by decide +kernel
theorem dX4_hasOffice_7 : decode cX4_hasOffice 7 = .ok (.ifCond .le 7, 3) := by decide +kernel
theorem dX4_hasOffice_10 : decode cX4_hasOffice 10 = .ok (.iconst 1, 1) := by decide +kernel
theorem dX4_hasOffice_11 : decode cX4_hasOffice 11 = .ok (.goto 4, 3) := by decide +kernel
theorem dX4_hasOffice_14 : decode cX4_hasOffice 14 = .ok (.iconst 0, 1) := by decide +kernel
theorem dX4_hasOffice_15 : decode cX4_hasOffice 15 = .ok (.ireturn, 1) := by decide +kernel
theorem dX4_isLamp_0 : decode cX4_isLamp 0 = .ok (.iload_n 1, 1) := by decide +kernel
theorem dX4_isLamp_1 : decode cX4_isLamp 1 = .ok (.ifCond .lt 18, 3) := by decide +kernel
theorem dX4_isLamp_4 : decode cX4_isLamp 4 = .ok (.iload_n 1, 1) := by decide +kernel
theorem dX4_isLamp_5 : decode cX4_isLamp 5 = .ok (.aload_n 0, 1) := by decide +kernel
theorem dX4_isLamp_6 : decode cX4_isLamp 6 = .ok (.getfield 19, 3) := by decide +kernel
theorem dX4_isLamp_9 : decode cX4_isLamp 9 = .ok (.getfield 77, 3) := by decide +kernel
theorem dX4_isLamp_12 : decode cX4_isLamp 12 = .ok (.if_icmp .ge 7, 3) := by decide +kernel
theorem dX4_isLamp_15 : decode cX4_isLamp 15 = .ok (.iconst 1, 1) := by decide +kernel
theorem dX4_isLamp_16 : decode cX4_isLamp 16 = .ok (.goto 4, 3) := by decide +kernel
theorem dX4_isLamp_19 : decode cX4_isLamp 19 = .ok (.iconst 0, 1) := by decide +kernel
theorem dX4_isLamp_20 : decode cX4_isLamp 20 = .ok (.ireturn, 1) := by decide +kernel
theorem dX4_isPerson_0 : decode cX4_isPerson 0 = .ok (.iload_n 1, 1) := by decide +kernel
theorem dX4_isPerson_1 : decode cX4_isPerson 1 = .ok (.ifCond .lt 18, 3) := by decide +kernel
theorem dX4_isPerson_4 : decode cX4_isPerson 4 = .ok (.iload_n 1, 1) := by decide +kernel
theorem dX4_isPerson_5 : decode cX4_isPerson 5 = .ok (.aload_n 0, 1) := by decide +kernel
theorem dX4_isPerson_6 : decode cX4_isPerson 6 = .ok (.getfield 26, 3) := by decide +kernel
theorem dX4_isPerson_9 : decode cX4_isPerson 9 = .ok (.getfield 125, 3) := by decide +kernel
theorem dX4_isPerson_12 : decode cX4_isPerson 12 = .ok (.if_icmp .ge 7, 3) := by decide +kernel
theorem dX4_isPerson_15 : decode cX4_isPerson 15 = .ok (.iconst 1, 1) := by decide +kernel
theorem dX4_isPerson_16 : decode cX4_isPerson 16 = .ok (.goto 4, 3) := by decide +kernel
theorem dX4_isPerson_19 : decode cX4_isPerson 19 = .ok (.iconst 0, 1) := by decide +kernel
theorem dX4_isPerson_20 : decode cX4_isPerson 20 = .ok (.ireturn, 1) := by decide +kernel
theorem dX4_asksMinute_0 : decode cX4_asksMinute 0 = .ok (.iload_n 0, 1) := by decide +kernel
theorem dX4_asksMinute_1 : decode cX4_asksMinute 1 = .ok (.bipush 10, 2) := by decide +kernel
theorem dX4_asksMinute_3 : decode cX4_asksMinute 3 = .ok (.if_icmp .lt 15, 3) := by decide +kernel
theorem dX4_asksMinute_6 : decode cX4_asksMinute 6 = .ok (.iload_n 0, 1) := by decide +kernel
theorem dX4_asksMinute_7 : decode cX4_asksMinute 7 = .ok (.bipush 10, 2) := by decide +kernel
theorem dX4_asksMinute_9 : decode cX4_asksMinute 9 = .ok (.iload_n 1, 1) := by decide +kernel
theorem dX4_asksMinute_10 : decode cX4_asksMinute 10 = .ok (.iadd, 1) := by decide +kernel
theorem dX4_asksMinute_11 : decode cX4_asksMinute 11 = .ok (.if_icmp .ge 7, 3) := by decide +kernel
theorem dX4_asksMinute_14 : decode cX4_asksMinute 14 = .ok (.iconst 1, 1) := by decide +kernel
theorem dX4_asksMinute_15 : decode cX4_asksMinute 15 = .ok (.goto 4, 3) := by decide +kernel
theorem dX4_asksMinute_18 : decode cX4_asksMinute 18 = .ok (.iconst 0, 1) := by decide +kernel
theorem dX4_asksMinute_19 : decode cX4_asksMinute 19 = .ok (.ireturn, 1) := by decide +kernel
theorem dX4_ofMinute_0 : decode cX4_ofMinute 0 = .ok (.iload_n 2, 1) := by decide +kernel
theorem dX4_ofMinute_1 : decode cX4_ofMinute 1 = .ok (.bipush 10, 2) := by decide +kernel
theorem dX4_ofMinute_3 : decode cX4_ofMinute 3 = .ok (.isub, 1) := by decide +kernel
theorem dX4_ofMinute_4 : decode cX4_ofMinute 4 = .ok (.istore_n 3, 1) := by decide +kernel
theorem dX4_ofMinute_5 : decode cX4_ofMinute 5 = .ok (.iload_n 3, 1) := by decide +kernel
theorem dX4_ofMinute_6 : decode cX4_ofMinute 6 = .ok (.ifCond .lt 20, 3) := by decide +kernel
theorem dX4_ofMinute_9 : decode cX4_ofMinute 9 = .ok (.iload_n 3, 1) := by decide +kernel
theorem dX4_ofMinute_10 : decode cX4_ofMinute 10 = .ok (.iload_n 1, 1) := by decide +kernel
theorem dX4_ofMinute_11 : decode cX4_ofMinute 11 = .ok (.if_icmp .ge 15, 3) := by decide +kernel
theorem dX4_ofMinute_14 : decode cX4_ofMinute 14 = .ok (.iload_n 3, 1) := by decide +kernel
theorem dX4_ofMinute_15 : decode cX4_ofMinute 15 = .ok (.aload_n 0, 1) := by decide +kernel
theorem dX4_ofMinute_16 : decode cX4_ofMinute 16 = .ok (.arraylength, 1) := by decide +kernel
theorem dX4_ofMinute_17 : decode cX4_ofMinute 17 = .ok (.if_icmp .ge 9, 3) := by decide +kernel
theorem dX4_ofMinute_20 : decode cX4_ofMinute 20 = .ok (.aload_n 0, 1) := by decide +kernel
theorem dX4_ofMinute_21 : decode cX4_ofMinute 21 = .ok (.iload_n 3, 1) := by decide +kernel
theorem dX4_ofMinute_22 : decode cX4_ofMinute 22 = .ok (.iaload, 1) := by decide +kernel
theorem dX4_ofMinute_23 : decode cX4_ofMinute 23 = .ok (.goto 4, 3) := by decide +kernel
theorem dX4_ofMinute_26 : decode cX4_ofMinute 26 = .ok (.iconst (-1), 1) := by decide +kernel
theorem dX4_ofMinute_27 : decode cX4_ofMinute 27 = .ok (.ireturn, 1) := by decide +kernel
theorem dX4_nextSeed_0 : decode cX4_nextSeed 0 = .ok (.ldc 236, 2) := by decide +kernel
theorem dX4_nextSeed_2 : decode cX4_nextSeed 2 = .ok (.iload_n 0, 1) := by decide +kernel
theorem dX4_nextSeed_3 : decode cX4_nextSeed 3 = .ok (.imul, 1) := by decide +kernel
theorem dX4_nextSeed_4 : decode cX4_nextSeed 4 = .ok (.sipush 12345, 3) := by decide +kernel
theorem dX4_nextSeed_7 : decode cX4_nextSeed 7 = .ok (.iadd, 1) := by decide +kernel
theorem dX4_nextSeed_8 : decode cX4_nextSeed 8 = .ok (.ldc 237, 2) := by decide +kernel
theorem dX4_nextSeed_10 : decode cX4_nextSeed 10 = .ok (.iand, 1) := by decide +kernel
theorem dX4_nextSeed_11 : decode cX4_nextSeed 11 = .ok (.ireturn, 1) := by decide +kernel
theorem dX4_draw_0 : decode cX4_draw 0 = .ok (.iload_n 0, 1) := by decide +kernel
theorem dX4_draw_1 : decode cX4_draw 1 = .ok (.ldc 238, 2) := by decide +kernel
theorem dX4_draw_3 : decode cX4_draw 3 = .ok (.idiv, 1) := by decide +kernel
theorem dX4_draw_4 : decode cX4_draw 4 = .ok (.bipush 6, 2) := by decide +kernel
theorem dX4_draw_6 : decode cX4_draw 6 = .ok (.irem, 1) := by decide +kernel
theorem dX4_draw_7 : decode cX4_draw 7 = .ok (.ireturn, 1) := by decide +kernel
set_option maxRecDepth 20000 in
theorem ggX4_planWaving_X4_keepsLit : GoodIn wsX4_planWaving wsX4_keepsLit := goodIn_r _ [9, 2, 10, 11, 12, 13, 14, 15, 16, 17, 18, 19, 20, 21, 22, 23, 24, 25, 26, 27, 28, 29, 30, 31, 32, 33, 34, 35, 36, 37, 38, 39, 40, 41, 42, 43, 44, 45, 46, 6, 7, 8, 57, 58, 59, 60, 61, 62, 63, 64, 65, 66, 67, 68, 69] (by decide +kernel) (by decide +kernel)
set_option maxRecDepth 20000 in
theorem gX4_planWaving_X4_keepsLit : GoodIn wsX4_planWaving (va_wsS RX4 239 yX4_keepsLit wsX4_keepsLit) := goodIn_app (goodIn_of _ (by decide +kernel)) ggX4_planWaving_X4_keepsLit
theorem dX4_planWaving_0 : decode cX4_planWaving 0 = .ok (.aload_n 0, 1) := by decide +kernel
theorem dX4_planWaving_1 : decode cX4_planWaving 1 = .ok (.getfield 26, 3) := by decide +kernel
theorem dX4_planWaving_4 : decode cX4_planWaving 4 = .ok (.getfield 125, 3) := by decide +kernel
theorem dX4_planWaving_7 : decode cX4_planWaving 7 = .ok (.iload_n 1, 1) := by decide +kernel
theorem dX4_planWaving_8 : decode cX4_planWaving 8 = .ok (.imul, 1) := by decide +kernel
theorem dX4_planWaving_9 : decode cX4_planWaving 9 = .ok (.istore_n 2, 1) := by decide +kernel
theorem dX4_planWaving_10 : decode cX4_planWaving 10 = .ok (.iconst 0, 1) := by decide +kernel
theorem dX4_planWaving_11 : decode cX4_planWaving 11 = .ok (.istore_n 3, 1) := by decide +kernel
theorem dX4_planWaving_12 : decode cX4_planWaving 12 = .ok (.iload_n 3, 1) := by decide +kernel
theorem dX4_planWaving_13 : decode cX4_planWaving 13 = .ok (.iload_n 2, 1) := by decide +kernel
theorem dX4_planWaving_14 : decode cX4_planWaving 14 = .ok (.if_icmp .gt 39, 3) := by decide +kernel
theorem dX4_planWaving_17 : decode cX4_planWaving 17 = .ok (.aload_n 0, 1) := by decide +kernel
theorem dX4_planWaving_18 : decode cX4_planWaving 18 = .ok (.getfield 19, 3) := by decide +kernel
theorem dX4_planWaving_21 : decode cX4_planWaving 21 = .ok (.aload_n 0, 1) := by decide +kernel
theorem dX4_planWaving_22 : decode cX4_planWaving 22 = .ok (.getfield 26, 3) := by decide +kernel
theorem dX4_planWaving_25 : decode cX4_planWaving 25 = .ok (.aload_n 0, 1) := by decide +kernel
theorem dX4_planWaving_26 : decode cX4_planWaving 26 = .ok (.getfield 40, 3) := by decide +kernel
theorem dX4_planWaving_29 : decode cX4_planWaving 29 = .ok (.iload_n 1, 1) := by decide +kernel
theorem dX4_planWaving_30 : decode cX4_planWaving 30 = .ok (.iconst 0, 1) := by decide +kernel
theorem dX4_planWaving_31 : decode cX4_planWaving 31 = .ok (.aload_n 0, 1) := by decide +kernel
theorem dX4_planWaving_32 : decode cX4_planWaving 32 = .ok (.getfield 26, 3) := by decide +kernel
theorem dX4_planWaving_35 : decode cX4_planWaving 35 = .ok (.getfield 90, 3) := by decide +kernel
theorem dX4_planWaving_38 : decode cX4_planWaving 38 = .ok (.iload_n 3, 1) := by decide +kernel
theorem dX4_planWaving_39 : decode cX4_planWaving 39 = .ok (.invokestatic 239, 3) := by decide +kernel
theorem dX4_planWaving_42 : decode cX4_planWaving 42 = .ok (.ifCond .eq 5, 3) := by decide +kernel
theorem dX4_planWaving_45 : decode cX4_planWaving 45 = .ok (.iload_n 3, 1) := by decide +kernel
theorem dX4_planWaving_46 : decode cX4_planWaving 46 = .ok (.ireturn, 1) := by decide +kernel
theorem dX4_planWaving_47 : decode cX4_planWaving 47 = .ok (.iinc 3 1, 3) := by decide +kernel
theorem dX4_planWaving_50 : decode cX4_planWaving 50 = .ok (.goto (-38), 3) := by decide +kernel
theorem dX4_planWaving_53 : decode cX4_planWaving 53 = .ok (.iconst (-1), 1) := by decide +kernel
theorem dX4_planWaving_54 : decode cX4_planWaving 54 = .ok (.ireturn, 1) := by decide +kernel
set_option maxRecDepth 20000 in
theorem ggX4_keepsLit_J6_bitCount_0f7a4 : GoodIn wsX4_keepsLit wsJ6_bitCount_0f7a4 := goodIn_r _ [5, 6, 7, 8] (by decide +kernel) (by decide +kernel)
set_option maxRecDepth 20000 in
theorem gX4_keepsLit_J6_bitCount_0f7a4 : GoodIn wsX4_keepsLit (va_wsS RX4 197 yJ6_bitCount_0f7a4 wsJ6_bitCount_0f7a4) := goodIn_app (goodIn_of _ (by decide +kernel)) ggX4_keepsLit_J6_bitCount_0f7a4
set_option maxRecDepth 20000 in
theorem ggX4_keepsLit_X0_stirred : GoodIn wsX4_keepsLit wsX0_stirred := goodIn_r _ [13, 14, 15, 42, 43, 44, 45, 46, 47, 48, 49, 50] (by decide +kernel) (by decide +kernel)
set_option maxRecDepth 20000 in
theorem gX4_keepsLit_X0_stirred : GoodIn wsX4_keepsLit (wsV RX4 131 RX0 yX0_stirred wsX0_stirred) := goodIn_app (goodIn_of _ (by decide +kernel)) ggX4_keepsLit_X0_stirred
set_option maxRecDepth 20000 in
theorem ggX4_keepsLit_X1_after : GoodIn wsX4_keepsLit wsX1_after := goodIn_r _ [20, 21, 22, 23, 24, 25, 26, 27, 28, 29, 19, 30, 51, 52, 53, 54] (by decide +kernel) (by decide +kernel)
set_option maxRecDepth 20000 in
theorem gX4_keepsLit_X1_after : GoodIn wsX4_keepsLit (wsV RX4 134 RX1 yX1_after wsX1_after) := goodIn_app (goodIn_of _ (by decide +kernel)) ggX4_keepsLit_X1_after
set_option maxRecDepth 20000 in
theorem ggX4_keepsLit_X1_litOnes : GoodIn wsX4_keepsLit wsX1_litOnes := goodIn_r _ [34, 21, 28, 29, 19, 30, 51, 52, 53, 54] (by decide +kernel) (by decide +kernel)
set_option maxRecDepth 20000 in
theorem gX4_keepsLit_X1_litOnes : GoodIn wsX4_keepsLit (wsV RX4 140 RX1 yX1_litOnes wsX1_litOnes) := goodIn_app (goodIn_of _ (by decide +kernel)) ggX4_keepsLit_X1_litOnes
set_option maxRecDepth 20000 in
theorem ggX4_keepsLit_X0_inDark : GoodIn wsX4_keepsLit wsX0_inDark := goodIn_r _ [38, 14, 15, 42, 43, 44, 45, 46, 47, 48, 49, 50] (by decide +kernel) (by decide +kernel)
set_option maxRecDepth 20000 in
theorem gX4_keepsLit_X0_inDark : GoodIn wsX4_keepsLit (wsV RX4 147 RX0 yX0_inDark wsX0_inDark) := goodIn_app (goodIn_of _ (by decide +kernel)) ggX4_keepsLit_X0_inDark
set_option maxRecDepth 20000 in
theorem ggX4_keepsLit_X4_keepsLit : GoodIn wsX4_keepsLit wsX4_keepsLit := goodIn_r _ [0, 1, 2, 3, 4, 5, 6, 7, 8, 9, 10, 11, 12, 13, 14, 15, 16, 17, 18, 19, 20, 21, 22, 23, 24, 25, 26, 27, 28, 29, 30, 31, 32, 33, 34, 35, 36, 37, 38, 39, 40, 41, 42, 43, 44, 45, 46, 47, 48, 49, 50, 51, 52, 53, 54] (by decide +kernel) (by decide +kernel)
set_option maxRecDepth 20000 in
theorem gX4_keepsLit_X4_keepsLit : GoodIn wsX4_keepsLit (va_wsS RX4 239 yX4_keepsLit wsX4_keepsLit) := goodIn_app (goodIn_of _ (by decide +kernel)) ggX4_keepsLit_X4_keepsLit
theorem dX4_keepsLit_0 : decode cX4_keepsLit 0 = .ok (.iload 4, 2) := by decide +kernel
theorem dX4_keepsLit_2 : decode cX4_keepsLit 2 = .ok (.iload_n 3, 1) := by decide +kernel
theorem dX4_keepsLit_3 : decode cX4_keepsLit 3 = .ok (.if_icmp .ge 10, 3) := by decide +kernel
theorem dX4_keepsLit_6 : decode cX4_keepsLit 6 = .ok (.iload 4, 2) := by decide +kernel
theorem dX4_keepsLit_8 : decode cX4_keepsLit 8 = .ok (.aload_n 2, 1) := by decide +kernel
theorem dX4_keepsLit_9 : decode cX4_keepsLit 9 = .ok (.arraylength, 1) := by decide +kernel
theorem dX4_keepsLit_10 : decode cX4_keepsLit 10 = .ok (.if_icmp .lt 5, 3) := by decide +kernel
theorem dX4_keepsLit_13 : decode cX4_keepsLit 13 = .ok (.iconst 1, 1) := by decide +kernel
theorem dX4_keepsLit_14 : decode cX4_keepsLit 14 = .ok (.ireturn, 1) := by decide +kernel
theorem dX4_keepsLit_15 : decode cX4_keepsLit 15 = .ok (.iconst 1, 1) := by decide +kernel
theorem dX4_keepsLit_16 : decode cX4_keepsLit 16 = .ok (.aload_n 1, 1) := by decide +kernel
theorem dX4_keepsLit_17 : decode cX4_keepsLit 17 = .ok (.getfield 125, 3) := by decide +kernel
theorem dX4_keepsLit_20 : decode cX4_keepsLit 20 = .ok (.ishl, 1) := by decide +kernel
theorem dX4_keepsLit_21 : decode cX4_keepsLit 21 = .ok (.istore 7, 2) := by decide +kernel
theorem dX4_keepsLit_23 : decode cX4_keepsLit 23 = .ok (.iconst 0, 1) := by decide +kernel
theorem dX4_keepsLit_24 : decode cX4_keepsLit 24 = .ok (.istore 8, 2) := by decide +kernel
theorem dX4_keepsLit_26 : decode cX4_keepsLit 26 = .ok (.iload 8, 2) := by decide +kernel
theorem dX4_keepsLit_28 : decode cX4_keepsLit 28 = .ok (.iload 7, 2) := by decide +kernel
theorem dX4_keepsLit_30 : decode cX4_keepsLit 30 = .ok (.if_icmp .ge 80, 3) := by decide +kernel
theorem dX4_keepsLit_33 : decode cX4_keepsLit 33 = .ok (.iload 6, 2) := by decide +kernel
theorem dX4_keepsLit_35 : decode cX4_keepsLit 35 = .ok (.iload 8, 2) := by decide +kernel
theorem dX4_keepsLit_37 : decode cX4_keepsLit 37 = .ok (.invokestatic 197, 3) := by decide +kernel
theorem dX4_keepsLit_40 : decode cX4_keepsLit 40 = .ok (.isub, 1) := by decide +kernel
theorem dX4_keepsLit_41 : decode cX4_keepsLit 41 = .ok (.istore 9, 2) := by decide +kernel
theorem dX4_keepsLit_43 : decode cX4_keepsLit 43 = .ok (.iload 9, 2) := by decide +kernel
theorem dX4_keepsLit_45 : decode cX4_keepsLit 45 = .ok (.ifCond .ge 6, 3) := by decide +kernel
theorem dX4_keepsLit_48 : decode cX4_keepsLit 48 = .ok (.goto 56, 3) := by decide +kernel
theorem dX4_keepsLit_51 : decode cX4_keepsLit 51 = .ok (.aload_n 0, 1) := by decide +kernel
theorem dX4_keepsLit_52 : decode cX4_keepsLit 52 = .ok (.iload 5, 2) := by decide +kernel
theorem dX4_keepsLit_54 : decode cX4_keepsLit 54 = .ok (.aload_n 1, 1) := by decide +kernel
theorem dX4_keepsLit_55 : decode cX4_keepsLit 55 = .ok (.iload 8, 2) := by decide +kernel
theorem dX4_keepsLit_57 : decode cX4_keepsLit 57 = .ok (.invokevirtual 131, 3) := by decide +kernel
theorem dX4_keepsLit_60 : decode cX4_keepsLit 60 = .ok (.invokevirtual 134, 3) := by decide +kernel
theorem dX4_keepsLit_63 : decode cX4_keepsLit 63 = .ok (.istore 10, 2) := by decide +kernel
theorem dX4_keepsLit_65 : decode cX4_keepsLit 65 = .ok (.aload_n 1, 1) := by decide +kernel
theorem dX4_keepsLit_66 : decode cX4_keepsLit 66 = .ok (.aload_n 0, 1) := by decide +kernel
theorem dX4_keepsLit_67 : decode cX4_keepsLit 67 = .ok (.iload 10, 2) := by decide +kernel
theorem dX4_keepsLit_69 : decode cX4_keepsLit 69 = .ok (.invokevirtual 140, 3) := by decide +kernel
theorem dX4_keepsLit_72 : decode cX4_keepsLit 72 = .ok (.invokevirtual 147, 3) := by decide +kernel
theorem dX4_keepsLit_75 : decode cX4_keepsLit 75 = .ok (.ifCond .ne 29, 3) := by decide +kernel
theorem dX4_keepsLit_78 : decode cX4_keepsLit 78 = .ok (.aload_n 0, 1) := by decide +kernel
theorem dX4_keepsLit_79 : decode cX4_keepsLit 79 = .ok (.aload_n 1, 1) := by decide +kernel
theorem dX4_keepsLit_80 : decode cX4_keepsLit 80 = .ok (.aload_n 2, 1) := by decide +kernel
theorem dX4_keepsLit_81 : decode cX4_keepsLit 81 = .ok (.iload_n 3, 1) := by decide +kernel
theorem dX4_keepsLit_82 : decode cX4_keepsLit 82 = .ok (.iload 4, 2) := by decide +kernel
theorem dX4_keepsLit_84 : decode cX4_keepsLit 84 = .ok (.iconst 1, 1) := by decide +kernel
theorem dX4_keepsLit_85 : decode cX4_keepsLit 85 = .ok (.iadd, 1) := by decide +kernel
theorem dX4_keepsLit_86 : decode cX4_keepsLit 86 = .ok (.iload 10, 2) := by decide +kernel
theorem dX4_keepsLit_88 : decode cX4_keepsLit 88 = .ok (.iload 9, 2) := by decide +kernel
theorem dX4_keepsLit_90 : decode cX4_keepsLit 90 = .ok (.invokestatic 239, 3) := by decide +kernel
theorem dX4_keepsLit_93 : decode cX4_keepsLit 93 = .ok (.ifCond .eq 11, 3) := by decide +kernel
theorem dX4_keepsLit_96 : decode cX4_keepsLit 96 = .ok (.aload_n 2, 1) := by decide +kernel
theorem dX4_keepsLit_97 : decode cX4_keepsLit 97 = .ok (.iload 4, 2) := by decide +kernel
theorem dX4_keepsLit_99 : decode cX4_keepsLit 99 = .ok (.iload 8, 2) := by decide +kernel
theorem dX4_keepsLit_101 : decode cX4_keepsLit 101 = .ok (.iastore, 1) := by decide +kernel
theorem dX4_keepsLit_102 : decode cX4_keepsLit 102 = .ok (.iconst 1, 1) := by decide +kernel
theorem dX4_keepsLit_103 : decode cX4_keepsLit 103 = .ok (.ireturn, 1) := by decide +kernel
theorem dX4_keepsLit_104 : decode cX4_keepsLit 104 = .ok (.iinc 8 1, 3) := by decide +kernel
theorem dX4_keepsLit_107 : decode cX4_keepsLit 107 = .ok (.goto (-81), 3) := by decide +kernel
theorem dX4_keepsLit_110 : decode cX4_keepsLit 110 = .ok (.iconst 0, 1) := by decide +kernel
theorem dX4_keepsLit_111 : decode cX4_keepsLit 111 = .ok (.ireturn, 1) := by decide +kernel
set_option maxRecDepth 20000 in
theorem ggX4_planRound_X4_lightsAll : GoodIn wsX4_planRound wsX4_lightsAll := goodIn_r _ [8, 9, 10, 11, 12, 13, 14, 15, 16, 17, 18, 19, 20, 21, 22, 23, 24, 25, 26, 27, 28, 29, 30, 31, 32, 5, 6, 7, 52, 53, 54, 55] (by decide +kernel) (by decide +kernel)
set_option maxRecDepth 20000 in
theorem gX4_planRound_X4_lightsAll : GoodIn wsX4_planRound (va_wsS RX4 243 yX4_lightsAll wsX4_lightsAll) := goodIn_app (goodIn_of _ (by decide +kernel)) ggX4_planRound_X4_lightsAll
theorem dX4_planRound_0 : decode cX4_planRound 0 = .ok (.iconst 1, 1) := by decide +kernel
theorem dX4_planRound_1 : decode cX4_planRound 1 = .ok (.istore_n 2, 1) := by decide +kernel
theorem dX4_planRound_2 : decode cX4_planRound 2 = .ok (.iload_n 2, 1) := by decide +kernel
theorem dX4_planRound_3 : decode cX4_planRound 3 = .ok (.bipush 7, 2) := by decide +kernel
theorem dX4_planRound_5 : decode cX4_planRound 5 = .ok (.if_icmp .gt 35, 3) := by decide +kernel
theorem dX4_planRound_8 : decode cX4_planRound 8 = .ok (.aload_n 0, 1) := by decide +kernel
theorem dX4_planRound_9 : decode cX4_planRound 9 = .ok (.getfield 19, 3) := by decide +kernel
theorem dX4_planRound_12 : decode cX4_planRound 12 = .ok (.aload_n 0, 1) := by decide +kernel
theorem dX4_planRound_13 : decode cX4_planRound 13 = .ok (.getfield 44, 3) := by decide +kernel
theorem dX4_planRound_16 : decode cX4_planRound 16 = .ok (.iload_n 2, 1) := by decide +kernel
theorem dX4_planRound_17 : decode cX4_planRound 17 = .ok (.iconst 0, 1) := by decide +kernel
theorem dX4_planRound_18 : decode cX4_planRound 18 = .ok (.iload_n 1, 1) := by decide +kernel
theorem dX4_planRound_19 : decode cX4_planRound 19 = .ok (.aload_n 0, 1) := by decide +kernel
theorem dX4_planRound_20 : decode cX4_planRound 20 = .ok (.getfield 26, 3) := by decide +kernel
theorem dX4_planRound_23 : decode cX4_planRound 23 = .ok (.getfield 90, 3) := by decide +kernel
theorem dX4_planRound_26 : decode cX4_planRound 26 = .ok (.invokestatic 243, 3) := by decide +kernel
theorem dX4_planRound_29 : decode cX4_planRound 29 = .ok (.ifCond .eq 5, 3) := by decide +kernel
theorem dX4_planRound_32 : decode cX4_planRound 32 = .ok (.iload_n 2, 1) := by decide +kernel
theorem dX4_planRound_33 : decode cX4_planRound 33 = .ok (.ireturn, 1) := by decide +kernel
theorem dX4_planRound_34 : decode cX4_planRound 34 = .ok (.iinc 2 1, 3) := by decide +kernel
theorem dX4_planRound_37 : decode cX4_planRound 37 = .ok (.goto (-35), 3) := by decide +kernel
theorem dX4_planRound_40 : decode cX4_planRound 40 = .ok (.iconst (-1), 1) := by decide +kernel
theorem dX4_planRound_41 : decode cX4_planRound 41 = .ok (.ireturn, 1) := by decide +kernel
set_option maxRecDepth 20000 in
theorem ggX4_lightsAll_X1_after : GoodIn wsX4_lightsAll wsX1_after := goodIn_r _ [6, 7, 8, 9, 10, 11, 12, 13, 14, 15, 5, 16, 28, 29, 30, 31] (by decide +kernel) (by decide +kernel)
set_option maxRecDepth 20000 in
theorem gX4_lightsAll_X1_after : GoodIn wsX4_lightsAll (wsV RX4 134 RX1 yX1_after wsX1_after) := goodIn_app (goodIn_of _ (by decide +kernel)) ggX4_lightsAll_X1_after
set_option maxRecDepth 20000 in
theorem ggX4_lightsAll_X1_litOnes : GoodIn wsX4_lightsAll wsX1_litOnes := goodIn_r _ [20, 7, 14, 15, 5, 16, 28, 29, 30, 31] (by decide +kernel) (by decide +kernel)
set_option maxRecDepth 20000 in
theorem gX4_lightsAll_X1_litOnes : GoodIn wsX4_lightsAll (wsV RX4 140 RX1 yX1_litOnes wsX1_litOnes) := goodIn_app (goodIn_of _ (by decide +kernel)) ggX4_lightsAll_X1_litOnes
set_option maxRecDepth 20000 in
theorem ggX4_lightsAll_X1_allOnes : GoodIn wsX4_lightsAll wsX1_allOnes := goodIn_r _ [24, 7, 28, 29, 30, 31] (by decide +kernel) (by decide +kernel)
set_option maxRecDepth 20000 in
theorem gX4_lightsAll_X1_allOnes : GoodIn wsX4_lightsAll (wsV RX4 247 RX1 yX1_allOnes wsX1_allOnes) := goodIn_app (goodIn_of _ (by decide +kernel)) ggX4_lightsAll_X1_allOnes
set_option maxRecDepth 20000 in
theorem ggX4_lightsAll_X4_lightsAll : GoodIn wsX4_lightsAll wsX4_lightsAll := goodIn_r _ [0, 1, 2, 3, 4, 5, 6, 7, 8, 9, 10, 11, 12, 13, 14, 15, 16, 17, 18, 19, 20, 21, 22, 23, 24, 25, 26, 27, 28, 29, 30, 31] (by decide +kernel) (by decide +kernel)
set_option maxRecDepth 20000 in
theorem gX4_lightsAll_X4_lightsAll : GoodIn wsX4_lightsAll (va_wsS RX4 243 yX4_lightsAll wsX4_lightsAll) := goodIn_app (goodIn_of _ (by decide +kernel)) ggX4_lightsAll_X4_lightsAll
theorem dX4_lightsAll_0 : decode cX4_lightsAll 0 = .ok (.iload_n 3, 1) := by decide +kernel
theorem dX4_lightsAll_1 : decode cX4_lightsAll 1 = .ok (.iload_n 2, 1) := by decide +kernel
theorem dX4_lightsAll_2 : decode cX4_lightsAll 2 = .ok (.if_icmp .ge 23, 3) := by decide +kernel
theorem dX4_lightsAll_5 : decode cX4_lightsAll 5 = .ok (.iload_n 3, 1) := by decide +kernel
theorem dX4_lightsAll_6 : decode cX4_lightsAll 6 = .ok (.aload_n 1, 1) := by decide +kernel
theorem dX4_lightsAll_7 : decode cX4_lightsAll 7 = .ok (.arraylength, 1) := by decide +kernel
theorem dX4_lightsAll_8 : decode cX4_lightsAll 8 = .ok (.if_icmp .ge 17, 3) := by decide +kernel
theorem dX4_lightsAll_11 : decode cX4_lightsAll 11 = .ok (.iload 4, 2) := by decide +kernel
theorem dX4_lightsAll_13 : decode cX4_lightsAll 13 = .ok (.ifCond .lt 12, 3) := by decide +kernel
theorem dX4_lightsAll_16 : decode cX4_lightsAll 16 = .ok (.iload 4, 2) := by decide +kernel
theorem dX4_lightsAll_18 : decode cX4_lightsAll 18 = .ok (.aload_n 0, 1) := by decide +kernel
theorem dX4_lightsAll_19 : decode cX4_lightsAll 19 = .ok (.getfield 77, 3) := by decide +kernel
theorem dX4_lightsAll_22 : decode cX4_lightsAll 22 = .ok (.if_icmp .lt 5, 3) := by decide +kernel
theorem dX4_lightsAll_25 : decode cX4_lightsAll 25 = .ok (.iconst 0, 1) := by decide +kernel
theorem dX4_lightsAll_26 : decode cX4_lightsAll 26 = .ok (.ireturn, 1) := by decide +kernel
theorem dX4_lightsAll_27 : decode cX4_lightsAll 27 = .ok (.aload_n 0, 1) := by decide +kernel
theorem dX4_lightsAll_28 : decode cX4_lightsAll 28 = .ok (.iload 5, 2) := by decide +kernel
theorem dX4_lightsAll_30 : decode cX4_lightsAll 30 = .ok (.iconst 1, 1) := by decide +kernel
theorem dX4_lightsAll_31 : decode cX4_lightsAll 31 = .ok (.iload 4, 2) := by decide +kernel
theorem dX4_lightsAll_33 : decode cX4_lightsAll 33 = .ok (.ishl, 1) := by decide +kernel
theorem dX4_lightsAll_34 : decode cX4_lightsAll 34 = .ok (.invokevirtual 134, 3) := by decide +kernel
theorem dX4_lightsAll_37 : decode cX4_lightsAll 37 = .ok (.istore 6, 2) := by decide +kernel
theorem dX4_lightsAll_39 : decode cX4_lightsAll 39 = .ok (.iload_n 3, 1) := by decide +kernel
theorem dX4_lightsAll_40 : decode cX4_lightsAll 40 = .ok (.iload_n 2, 1) := by decide +kernel
theorem dX4_lightsAll_41 : decode cX4_lightsAll 41 = .ok (.iconst 1, 1) := by decide +kernel
theorem dX4_lightsAll_42 : decode cX4_lightsAll 42 = .ok (.isub, 1) := by decide +kernel
theorem dX4_lightsAll_43 : decode cX4_lightsAll 43 = .ok (.if_icmp .ne 35, 3) := by decide +kernel
theorem dX4_lightsAll_46 : decode cX4_lightsAll 46 = .ok (.aload_n 1, 1) := by decide +kernel
theorem dX4_lightsAll_47 : decode cX4_lightsAll 47 = .ok (.iload_n 3, 1) := by decide +kernel
theorem dX4_lightsAll_48 : decode cX4_lightsAll 48 = .ok (.iload 4, 2) := by decide +kernel
theorem dX4_lightsAll_50 : decode cX4_lightsAll 50 = .ok (.ifCond .le 7, 3) := by decide +kernel
theorem dX4_lightsAll_53 : decode cX4_lightsAll 53 = .ok (.iconst 0, 1) := by decide +kernel
theorem dX4_lightsAll_54 : decode cX4_lightsAll 54 = .ok (.goto 4, 3) := by decide +kernel
theorem dX4_lightsAll_57 : decode cX4_lightsAll 57 = .ok (.iconst 1, 1) := by decide +kernel
theorem dX4_lightsAll_58 : decode cX4_lightsAll 58 = .ok (.iastore, 1) := by decide +kernel
theorem dX4_lightsAll_59 : decode cX4_lightsAll 59 = .ok (.aload_n 0, 1) := by decide +kernel
theorem dX4_lightsAll_60 : decode cX4_lightsAll 60 = .ok (.iload 6, 2) := by decide +kernel
theorem dX4_lightsAll_62 : decode cX4_lightsAll 62 = .ok (.invokevirtual 140, 3) := by decide +kernel
theorem dX4_lightsAll_65 : decode cX4_lightsAll 65 = .ok (.aload_n 0, 1) := by decide +kernel
theorem dX4_lightsAll_66 : decode cX4_lightsAll 66 = .ok (.invokevirtual 247, 3) := by decide +kernel
theorem dX4_lightsAll_69 : decode cX4_lightsAll 69 = .ok (.if_icmp .ne 7, 3) := by decide +kernel
theorem dX4_lightsAll_72 : decode cX4_lightsAll 72 = .ok (.iconst 1, 1) := by decide +kernel
theorem dX4_lightsAll_73 : decode cX4_lightsAll 73 = .ok (.goto 4, 3) := by decide +kernel
theorem dX4_lightsAll_76 : decode cX4_lightsAll 76 = .ok (.iconst 0, 1) := by decide +kernel
theorem dX4_lightsAll_77 : decode cX4_lightsAll 77 = .ok (.ireturn, 1) := by decide +kernel
theorem dX4_lightsAll_78 : decode cX4_lightsAll 78 = .ok (.iconst 0, 1) := by decide +kernel
theorem dX4_lightsAll_79 : decode cX4_lightsAll 79 = .ok (.istore 7, 2) := by decide +kernel
theorem dX4_lightsAll_81 : decode cX4_lightsAll 81 = .ok (.iload 7, 2) := by decide +kernel
theorem dX4_lightsAll_83 : decode cX4_lightsAll 83 = .ok (.iconst 2, 1) := by decide +kernel
theorem dX4_lightsAll_84 : decode cX4_lightsAll 84 = .ok (.if_icmp .gt 37, 3) := by decide +kernel
theorem dX4_lightsAll_87 : decode cX4_lightsAll 87 = .ok (.aload_n 0, 1) := by decide +kernel
theorem dX4_lightsAll_88 : decode cX4_lightsAll 88 = .ok (.aload_n 1, 1) := by decide +kernel
theorem dX4_lightsAll_89 : decode cX4_lightsAll 89 = .ok (.iload_n 2, 1) := by decide +kernel
theorem dX4_lightsAll_90 : decode cX4_lightsAll 90 = .ok (.iload_n 3, 1) := by decide +kernel
theorem dX4_lightsAll_91 : decode cX4_lightsAll 91 = .ok (.iconst 1, 1) := by decide +kernel
theorem dX4_lightsAll_92 : decode cX4_lightsAll 92 = .ok (.iadd, 1) := by decide +kernel
theorem dX4_lightsAll_93 : decode cX4_lightsAll 93 = .ok (.iload 4, 2) := by decide +kernel
theorem dX4_lightsAll_95 : decode cX4_lightsAll 95 = .ok (.iload 7, 2) := by decide +kernel
theorem dX4_lightsAll_97 : decode cX4_lightsAll 97 = .ok (.iadd, 1) := by decide +kernel
theorem dX4_lightsAll_98 : decode cX4_lightsAll 98 = .ok (.iconst 1, 1) := by decide +kernel
theorem dX4_lightsAll_99 : decode cX4_lightsAll 99 = .ok (.isub, 1) := by decide +kernel
theorem dX4_lightsAll_100 : decode cX4_lightsAll 100 = .ok (.iload 6, 2) := by decide +kernel
theorem dX4_lightsAll_102 : decode cX4_lightsAll 102 = .ok (.invokestatic 243, 3) := by decide +kernel
theorem dX4_lightsAll_105 : decode cX4_lightsAll 105 = .ok (.ifCond .eq 10, 3) := by decide +kernel
theorem dX4_lightsAll_108 : decode cX4_lightsAll 108 = .ok (.aload_n 1, 1) := by decide +kernel
theorem dX4_lightsAll_109 : decode cX4_lightsAll 109 = .ok (.iload_n 3, 1) := by decide +kernel
theorem dX4_lightsAll_110 : decode cX4_lightsAll 110 = .ok (.iload 7, 2) := by decide +kernel
theorem dX4_lightsAll_112 : decode cX4_lightsAll 112 = .ok (.iastore, 1) := by decide +kernel
theorem dX4_lightsAll_113 : decode cX4_lightsAll 113 = .ok (.iconst 1, 1) := by decide +kernel
theorem dX4_lightsAll_114 : decode cX4_lightsAll 114 = .ok (.ireturn, 1) := by decide +kernel
theorem dX4_lightsAll_115 : decode cX4_lightsAll 115 = .ok (.iinc 7 1, 3) := by decide +kernel
theorem dX4_lightsAll_118 : decode cX4_lightsAll 118 = .ok (.goto (-37), 3) := by decide +kernel
theorem dX4_lightsAll_121 : decode cX4_lightsAll 121 = .ok (.iconst 0, 1) := by decide +kernel
theorem dX4_lightsAll_122 : decode cX4_lightsAll 122 = .ok (.ireturn, 1) := by decide +kernel
theorem dX5_init_0 : decode cX5_init 0 = .ok (.aload_n 0, 1) := by decide +kernel
theorem dX5_init_1 : decode cX5_init 1 = .ok (.invokespecial 1, 3) := by decide +kernel
theorem dX5_init_4 : decode cX5_init 4 = .ok (.aload_n 0, 1) := by decide +kernel
theorem dX5_init_5 : decode cX5_init 5 = .ok (.bipush 20, 2) := by decide +kernel
theorem dX5_init_7 : decode cX5_init 7 = .ok (.newarray .int, 2) := by decide +kernel
theorem dX5_init_9 : decode cX5_init 9 = .ok (.putfield 7, 3) := by decide +kernel
theorem dX5_init_12 : decode cX5_init 12 = .ok (.aload_n 0, 1) := by decide +kernel
theorem dX5_init_13 : decode cX5_init 13 = .ok (.bipush 18, 2) := by decide +kernel
theorem dX5_init_15 : decode cX5_init 15 = .ok (.newarray .int, 2) := by decide +kernel
theorem dX5_init_17 : decode cX5_init 17 = .ok (.putfield 13, 3) := by decide +kernel
theorem dX5_init_20 : decode cX5_init 20 = .ok (.aload_n 0, 1) := by decide +kernel
theorem dX5_init_21 : decode cX5_init 21 = .ok (.bipush 12, 2) := by decide +kernel
theorem dX5_init_23 : decode cX5_init 23 = .ok (.newarray .int, 2) := by decide +kernel
theorem dX5_init_25 : decode cX5_init 25 = .ok (.putfield 16, 3) := by decide +kernel
theorem dX5_init_28 : decode cX5_init 28 = .ok (.aload_n 0, 1) := by decide +kernel
theorem dX5_init_29 : decode cX5_init 29 = .ok (.bipush 6, 2) := by decide +kernel
theorem dX5_init_31 : decode cX5_init 31 = .ok (.newarray .int, 2) := by decide +kernel
theorem dX5_init_33 : decode cX5_init 33 = .ok (.putfield 19, 3) := by decide +kernel
theorem dX5_init_36 : decode cX5_init 36 = .ok (.aload_n 0, 1) := by decide +kernel
theorem dX5_init_37 : decode cX5_init 37 = .ok (.bipush 7, 2) := by decide +kernel
theorem dX5_init_39 : decode cX5_init 39 = .ok (.newarray .int, 2) := by decide +kernel
theorem dX5_init_41 : decode cX5_init 41 = .ok (.putfield 22, 3) := by decide +kernel
theorem dX5_init_44 : decode cX5_init 44 = .ok (.aload_n 0, 1) := by decide +kernel
theorem dX5_init_45 : decode cX5_init 45 = .ok (.bipush 7, 2) := by decide +kernel
theorem dX5_init_47 : decode cX5_init 47 = .ok (.newarray .int, 2) := by decide +kernel
theorem dX5_init_49 : decode cX5_init 49 = .ok (.putfield 25, 3) := by decide +kernel
theorem dX5_init_52 : decode cX5_init 52 = .ok (.aload_n 0, 1) := by decide +kernel
theorem dX5_init_53 : decode cX5_init 53 = .ok (.bipush 24, 2) := by decide +kernel
theorem dX5_init_55 : decode cX5_init 55 = .ok (.newarray .int, 2) := by decide +kernel
theorem dX5_init_57 : decode cX5_init 57 = .ok (.putfield 28, 3) := by decide +kernel
theorem dX5_init_60 : decode cX5_init 60 = .ok (.aload_n 0, 1) := by decide +kernel
theorem dX5_init_61 : decode cX5_init 61 = .ok (.bipush 18, 2) := by decide +kernel
theorem dX5_init_63 : decode cX5_init 63 = .ok (.newarray .int, 2) := by decide +kernel
theorem dX5_init_65 : decode cX5_init 65 = .ok (.putfield 31, 3) := by decide +kernel
theorem dX5_init_68 : decode cX5_init 68 = .ok (.aload_n 0, 1) := by decide +kernel
theorem dX5_init_69 : decode cX5_init 69 = .ok (.bipush 12, 2) := by decide +kernel
theorem dX5_init_71 : decode cX5_init 71 = .ok (.newarray .int, 2) := by decide +kernel
theorem dX5_init_73 : decode cX5_init 73 = .ok (.putfield 34, 3) := by decide +kernel
theorem dX5_init_76 : decode cX5_init 76 = .ok (.aload_n 0, 1) := by decide +kernel
theorem dX5_init_77 : decode cX5_init 77 = .ok (.bipush 24, 2) := by decide +kernel
theorem dX5_init_79 : decode cX5_init 79 = .ok (.newarray .int, 2) := by decide +kernel
theorem dX5_init_81 : decode cX5_init 81 = .ok (.putfield 37, 3) := by decide +kernel
theorem dX5_init_84 : decode cX5_init 84 = .ok (.aload_n 0, 1) := by decide +kernel
theorem dX5_init_85 : decode cX5_init 85 = .ok (.iconst (-1), 1) := by decide +kernel
theorem dX5_init_86 : decode cX5_init 86 = .ok (.putfield 40, 3) := by decide +kernel
theorem dX5_init_89 : decode cX5_init 89 = .ok (.return_, 1) := by decide +kernel
theorem dX5_in_0 : decode cX5_in 0 = .ok (.lload_n 0, 1) := by decide +kernel
theorem dX5_in_1 : decode cX5_in 1 = .ok (.lload_n 2, 1) := by decide +kernel
theorem dX5_in_2 : decode cX5_in 2 = .ok (.lcmp, 1) := by decide +kernel
theorem dX5_in_3 : decode cX5_in 3 = .ok (.ifCond .lt 14, 3) := by decide +kernel
theorem dX5_in_6 : decode cX5_in 6 = .ok (.lload_n 0, 1) := by decide +kernel
theorem dX5_in_7 : decode cX5_in 7 = .ok (.lload 4, 2) := by decide +kernel
theorem dX5_in_9 : decode cX5_in 9 = .ok (.lcmp, 1) := by decide +kernel
theorem dX5_in_10 : decode cX5_in 10 = .ok (.ifCond .gt 7, 3) := by decide +kernel
theorem dX5_in_13 : decode cX5_in 13 = .ok (.iconst 1, 1) := by decide +kernel
theorem dX5_in_14 : decode cX5_in 14 = .ok (.goto 4, 3) := by decide +kernel
theorem dX5_in_17 : decode cX5_in 17 = .ok (.iconst 0, 1) := by decide +kernel
theorem dX5_in_18 : decode cX5_in 18 = .ok (.ireturn, 1) := by decide +kernel
theorem dX5_copy_0 : decode cX5_copy 0 = .ok (.iconst 0, 1) := by decide +kernel
theorem dX5_copy_1 : decode cX5_copy 1 = .ok (.istore_n 2, 1) := by decide +kernel
theorem dX5_copy_2 : decode cX5_copy 2 = .ok (.iload_n 2, 1) := by decide +kernel
theorem dX5_copy_3 : decode cX5_copy 3 = .ok (.aload_n 0, 1) := by decide +kernel
theorem dX5_copy_4 : decode cX5_copy 4 = .ok (.arraylength, 1) := by decide +kernel
theorem dX5_copy_5 : decode cX5_copy 5 = .ok (.if_icmp .ge 15, 3) := by decide +kernel
theorem dX5_copy_8 : decode cX5_copy 8 = .ok (.aload_n 1, 1) := by decide +kernel
theorem dX5_copy_9 : decode cX5_copy 9 = .ok (.iload_n 2, 1) := by decide +kernel
theorem dX5_copy_10 : decode cX5_copy 10 = .ok (.aload_n 0, 1) := by decide +kernel
theorem dX5_copy_11 : decode cX5_copy 11 = .ok (.iload_n 2, 1) := by decide +kernel
theorem dX5_copy_12 : decode cX5_copy 12 = .ok (.iaload, 1) := by decide +kernel
theorem dX5_copy_13 : decode cX5_copy 13 = .ok (.iastore, 1) := by decide +kernel
theorem dX5_copy_14 : decode cX5_copy 14 = .ok (.iinc 2 1, 3) := by decide +kernel
theorem dX5_copy_17 : decode cX5_copy 17 = .ok (.goto (-15), 3) := by decide +kernel
theorem dX5_copy_20 : decode cX5_copy 20 = .ok (.return_, 1) := by decide +kernel
theorem dX5_ones_0 : decode cX5_ones 0 = .ok (.iconst 0, 1) := by decide +kernel
theorem dX5_ones_1 : decode cX5_ones 1 = .ok (.istore_n 1, 1) := by decide +kernel
theorem dX5_ones_2 : decode cX5_ones 2 = .ok (.iconst 0, 1) := by decide +kernel
theorem dX5_ones_3 : decode cX5_ones 3 = .ok (.istore_n 2, 1) := by decide +kernel
theorem dX5_ones_4 : decode cX5_ones 4 = .ok (.iload_n 2, 1) := by decide +kernel
theorem dX5_ones_5 : decode cX5_ones 5 = .ok (.bipush 8, 2) := by decide +kernel
theorem dX5_ones_7 : decode cX5_ones 7 = .ok (.if_icmp .ge 17, 3) := by decide +kernel
theorem dX5_ones_10 : decode cX5_ones 10 = .ok (.iload_n 1, 1) := by decide +kernel
theorem dX5_ones_11 : decode cX5_ones 11 = .ok (.iload_n 0, 1) := by decide +kernel
theorem dX5_ones_12 : decode cX5_ones 12 = .ok (.iload_n 2, 1) := by decide +kernel
theorem dX5_ones_13 : decode cX5_ones 13 = .ok (.ishr, 1) := by decide +kernel
theorem dX5_ones_14 : decode cX5_ones 14 = .ok (.iconst 1, 1) := by decide +kernel
theorem dX5_ones_15 : decode cX5_ones 15 = .ok (.iand, 1) := by decide +kernel
theorem dX5_ones_16 : decode cX5_ones 16 = .ok (.iadd, 1) := by decide +kernel
theorem dX5_ones_17 : decode cX5_ones 17 = .ok (.istore_n 1, 1) := by decide +kernel
theorem dX5_ones_18 : decode cX5_ones 18 = .ok (.iinc 2 1, 3) := by decide +kernel
theorem dX5_ones_21 : decode cX5_ones 21 = .ok (.goto (-17), 3) := by decide +kernel
theorem dX5_ones_24 : decode cX5_ones 24 = .ok (.iload_n 1, 1) := by decide +kernel
theorem dX5_ones_25 : decode cX5_ones 25 = .ok (.ireturn, 1) := by decide +kernel
set_option maxRecDepth 20000 in
theorem ggX5_letter_X5_in : GoodIn wsX5_letter wsX5_in := goodIn_r _ [7] (by decide +kernel) (by decide +kernel)
set_option maxRecDepth 20000 in
theorem gX5_letter_X5_in : GoodIn wsX5_letter (va_wsS RX5 46 yX5_in wsX5_in) := goodIn_app (goodIn_of _ (by decide +kernel)) ggX5_letter_X5_in
theorem dX5_letter_0 : decode cX5_letter 0 = .ok (.iload_n 1, 1) := by decide +kernel
theorem dX5_letter_1 : decode cX5_letter 1 = .ok (.i2l, 1) := by decide +kernel
theorem dX5_letter_2 : decode cX5_letter 2 = .ok (.lconst 1, 1) := by decide +kernel
theorem dX5_letter_3 : decode cX5_letter 3 = .ok (.ldc2_w 44, 3) := by decide +kernel
theorem dX5_letter_6 : decode cX5_letter 6 = .ok (.invokestatic 46, 3) := by decide +kernel
theorem dX5_letter_9 : decode cX5_letter 9 = .ok (.ifCond .ne 6, 3) := by decide +kernel
theorem dX5_letter_12 : decode cX5_letter 12 = .ok (.bipush (-102), 2) := by decide +kernel
theorem dX5_letter_14 : decode cX5_letter 14 = .ok (.ireturn, 1) := by decide +kernel
theorem dX5_letter_15 : decode cX5_letter 15 = .ok (.aload_n 0, 1) := by decide +kernel
theorem dX5_letter_16 : decode cX5_letter 16 = .ok (.getfield 50, 3) := by decide +kernel
theorem dX5_letter_19 : decode cX5_letter 19 = .ok (.bipush 20, 2) := by decide +kernel
theorem dX5_letter_21 : decode cX5_letter 21 = .ok (.if_icmp .ne 6, 3) := by decide +kernel
theorem dX5_letter_24 : decode cX5_letter 24 = .ok (.bipush (-104), 2) := by decide +kernel
theorem dX5_letter_26 : decode cX5_letter 26 = .ok (.ireturn, 1) := by decide +kernel
theorem dX5_letter_27 : decode cX5_letter 27 = .ok (.aload_n 0, 1) := by decide +kernel
theorem dX5_letter_28 : decode cX5_letter 28 = .ok (.getfield 7, 3) := by decide +kernel
theorem dX5_letter_31 : decode cX5_letter 31 = .ok (.aload_n 0, 1) := by decide +kernel
theorem dX5_letter_32 : decode cX5_letter 32 = .ok (.getfield 50, 3) := by decide +kernel
theorem dX5_letter_35 : decode cX5_letter 35 = .ok (.iload_n 1, 1) := by decide +kernel
theorem dX5_letter_36 : decode cX5_letter 36 = .ok (.iastore, 1) := by decide +kernel
theorem dX5_letter_37 : decode cX5_letter 37 = .ok (.aload_n 0, 1) := by decide +kernel
theorem dX5_letter_38 : decode cX5_letter 38 = .ok (.dup, 1) := by decide +kernel
theorem dX5_letter_39 : decode cX5_letter 39 = .ok (.getfield 50, 3) := by decide +kernel
theorem dX5_letter_42 : decode cX5_letter 42 = .ok (.iconst 1, 1) := by decide +kernel
theorem dX5_letter_43 : decode cX5_letter 43 = .ok (.iadd, 1) := by decide +kernel
theorem dX5_letter_44 : decode cX5_letter 44 = .ok (.putfield 50, 3) := by decide +kernel
theorem dX5_letter_47 : decode cX5_letter 47 = .ok (.aload_n 0, 1) := by decide +kernel
theorem dX5_letter_48 : decode cX5_letter 48 = .ok (.getfield 50, 3) := by decide +kernel
theorem dX5_letter_51 : decode cX5_letter 51 = .ok (.ireturn, 1) := by decide +kernel
theorem dX5_blank_0 : decode cX5_blank 0 = .ok (.aload_n 0, 1) := by decide +kernel
theorem dX5_blank_1 : decode cX5_blank 1 = .ok (.getfield 50, 3) := by decide +kernel
theorem dX5_blank_4 : decode cX5_blank 4 = .ok (.istore_n 1, 1) := by decide +kernel
theorem dX5_blank_5 : decode cX5_blank 5 = .ok (.aload_n 0, 1) := by decide +kernel
theorem dX5_blank_6 : decode cX5_blank 6 = .ok (.iconst 0, 1) := by decide +kernel
theorem dX5_blank_7 : decode cX5_blank 7 = .ok (.putfield 50, 3) := by decide +kernel
theorem dX5_blank_10 : decode cX5_blank 10 = .ok (.iload_n 1, 1) := by decide +kernel
theorem dX5_blank_11 : decode cX5_blank 11 = .ok (.ireturn, 1) := by decide +kernel
theorem dX5_kindBy_0 : decode cX5_kindBy 0 = .ok (.iload_n 0, 1) := by decide +kernel
theorem dX5_kindBy_1 : decode cX5_kindBy 1 = .ok (.bipush 108, 2) := by decide +kernel
theorem dX5_kindBy_3 : decode cX5_kindBy 3 = .ok (.if_icmp .ne 7, 3) := by decide +kernel
theorem dX5_kindBy_6 : decode cX5_kindBy 6 = .ok (.iconst 0, 1) := by decide +kernel
theorem dX5_kindBy_7 : decode cX5_kindBy 7 = .ok (.goto 44, 3) := by decide +kernel
theorem dX5_kindBy_10 : decode cX5_kindBy 10 = .ok (.iload_n 0, 1) := by decide +kernel
theorem dX5_kindBy_11 : decode cX5_kindBy 11 = .ok (.bipush 119, 2) := by decide +kernel
theorem dX5_kindBy_13 : decode cX5_kindBy 13 = .ok (.if_icmp .ne 7, 3) := by decide +kernel
theorem dX5_kindBy_16 : decode cX5_kindBy 16 = .ok (.iconst 1, 1) := by decide +kernel
theorem dX5_kindBy_17 : decode cX5_kindBy 17 = .ok (.goto 34, 3) := by decide +kernel
theorem dX5_kindBy_20 : decode cX5_kindBy 20 = .ok (.iload_n 0, 1) := by decide +kernel
theorem dX5_kindBy_21 : decode cX5_kindBy 21 = .ok (.bipush 116, 2) := by decide +kernel
theorem dX5_kindBy_23 : decode cX5_kindBy 23 = .ok (.if_icmp .ne 7, 3) := by decide +kernel
theorem dX5_kindBy_26 : decode cX5_kindBy 26 = .ok (.iconst 2, 1) := by decide +kernel
theorem dX5_kindBy_27 : decode cX5_kindBy 27 = .ok (.goto 24, 3) := by decide +kernel
theorem dX5_kindBy_30 : decode cX5_kindBy 30 = .ok (.iload_n 0, 1) := by decide +kernel
theorem dX5_kindBy_31 : decode cX5_kindBy 31 = .ok (.bipush 100, 2) := by decide +kernel
theorem dX5_kindBy_33 : decode cX5_kindBy 33 = .ok (.if_icmp .ne 7, 3) := by decide +kernel
theorem dX5_kindBy_36 : decode cX5_kindBy 36 = .ok (.iconst 3, 1) := by decide +kernel
theorem dX5_kindBy_37 : decode cX5_kindBy 37 = .ok (.goto 14, 3) := by decide +kernel
theorem dX5_kindBy_40 : decode cX5_kindBy 40 = .ok (.iload_n 0, 1) := by decide +kernel
theorem dX5_kindBy_41 : decode cX5_kindBy 41 = .ok (.bipush 104, 2) := by decide +kernel
theorem dX5_kindBy_43 : decode cX5_kindBy 43 = .ok (.if_icmp .ne 7, 3) := by decide +kernel
theorem dX5_kindBy_46 : decode cX5_kindBy 46 = .ok (.iconst 4, 1) := by decide +kernel
theorem dX5_kindBy_47 : decode cX5_kindBy 47 = .ok (.goto 4, 3) := by decide +kernel
theorem dX5_kindBy_50 : decode cX5_kindBy 50 = .ok (.iconst (-1), 1) := by decide +kernel
theorem dX5_kindBy_51 : decode cX5_kindBy 51 = .ok (.ireturn, 1) := by decide +kernel
set_option maxRecDepth 20000 in
theorem ggX5_isGood_X5_kindBy : GoodIn wsX5_isGood wsX5_kindBy := goodIn_r _ [5] (by decide +kernel) (by decide +kernel)
set_option maxRecDepth 20000 in
theorem gX5_isGood_X5_kindBy : GoodIn wsX5_isGood (va_wsS RX5 53 yX5_kindBy wsX5_kindBy) := goodIn_app (goodIn_of _ (by decide +kernel)) ggX5_isGood_X5_kindBy
set_option maxRecDepth 20000 in
theorem ggX5_isGood_X5_in : GoodIn wsX5_isGood wsX5_in := goodIn_r _ [8] (by decide +kernel) (by decide +kernel)
set_option maxRecDepth 20000 in
theorem gX5_isGood_X5_in : GoodIn wsX5_isGood (va_wsS RX5 46 yX5_in wsX5_in) := goodIn_app (goodIn_of _ (by decide +kernel)) ggX5_isGood_X5_in
theorem dX5_isGood_0 : decode cX5_isGood 0 = .ok (.iload_n 0, 1) := by decide +kernel
theorem dX5_isGood_1 : decode cX5_isGood 1 = .ok (.bipush 16, 2) := by decide +kernel
theorem dX5_isGood_3 : decode cX5_isGood 3 = .ok (.if_icmp .le 5, 3) := by decide +kernel
theorem dX5_isGood_6 : decode cX5_isGood 6 = .ok (.iconst 0, 1) := by decide +kernel
theorem dX5_isGood_7 : decode cX5_isGood 7 = .ok (.ireturn, 1) := by decide +kernel
theorem dX5_isGood_8 : decode cX5_isGood 8 = .ok (.iload_n 0, 1) := by decide +kernel
theorem dX5_isGood_9 : decode cX5_isGood 9 = .ok (.iconst 3, 1) := by decide +kernel
theorem dX5_isGood_10 : decode cX5_isGood 10 = .ok (.irem, 1) := by decide +kernel
theorem dX5_isGood_11 : decode cX5_isGood 11 = .ok (.ifCond .ne 19, 3) := by decide +kernel
theorem dX5_isGood_14 : decode cX5_isGood 14 = .ok (.iload_n 1, 1) := by decide +kernel
theorem dX5_isGood_15 : decode cX5_isGood 15 = .ok (.invokestatic 53, 3) := by decide +kernel
theorem dX5_isGood_18 : decode cX5_isGood 18 = .ok (.iconst (-1), 1) := by decide +kernel
theorem dX5_isGood_19 : decode cX5_isGood 19 = .ok (.if_icmp .eq 7, 3) := by decide +kernel
theorem dX5_isGood_22 : decode cX5_isGood 22 = .ok (.iconst 1, 1) := by decide +kernel
theorem dX5_isGood_23 : decode cX5_isGood 23 = .ok (.goto 40, 3) := by decide +kernel
theorem dX5_isGood_26 : decode cX5_isGood 26 = .ok (.iconst 0, 1) := by decide +kernel
theorem dX5_isGood_27 : decode cX5_isGood 27 = .ok (.goto 36, 3) := by decide +kernel
theorem dX5_isGood_30 : decode cX5_isGood 30 = .ok (.iload_n 0, 1) := by decide +kernel
theorem dX5_isGood_31 : decode cX5_isGood 31 = .ok (.iconst 3, 1) := by decide +kernel
theorem dX5_isGood_32 : decode cX5_isGood 32 = .ok (.irem, 1) := by decide +kernel
theorem dX5_isGood_33 : decode cX5_isGood 33 = .ok (.iconst 1, 1) := by decide +kernel
theorem dX5_isGood_34 : decode cX5_isGood 34 = .ok (.if_icmp .ne 18, 3) := by decide +kernel
theorem dX5_isGood_37 : decode cX5_isGood 37 = .ok (.iload_n 1, 1) := by decide +kernel
theorem dX5_isGood_38 : decode cX5_isGood 38 = .ok (.bipush 48, 2) := by decide +kernel
theorem dX5_isGood_40 : decode cX5_isGood 40 = .ok (.isub, 1) := by decide +kernel
theorem dX5_isGood_41 : decode cX5_isGood 41 = .ok (.i2l, 1) := by decide +kernel
theorem dX5_isGood_42 : decode cX5_isGood 42 = .ok (.lconst 1, 1) := by decide +kernel
theorem dX5_isGood_43 : decode cX5_isGood 43 = .ok (.ldc2_w 57, 3) := by decide +kernel
theorem dX5_isGood_46 : decode cX5_isGood 46 = .ok (.invokestatic 46, 3) := by decide +kernel
theorem dX5_isGood_49 : decode cX5_isGood 49 = .ok (.goto 14, 3) := by decide +kernel
theorem dX5_isGood_52 : decode cX5_isGood 52 = .ok (.iload_n 1, 1) := by decide +kernel
theorem dX5_isGood_53 : decode cX5_isGood 53 = .ok (.bipush 44, 2) := by decide +kernel
theorem dX5_isGood_55 : decode cX5_isGood 55 = .ok (.if_icmp .ne 7, 3) := by decide +kernel
theorem dX5_isGood_58 : decode cX5_isGood 58 = .ok (.iconst 1, 1) := by decide +kernel
theorem dX5_isGood_59 : decode cX5_isGood 59 = .ok (.goto 4, 3) := by decide +kernel
theorem dX5_isGood_62 : decode cX5_isGood 62 = .ok (.iconst 0, 1) := by decide +kernel
theorem dX5_isGood_63 : decode cX5_isGood 63 = .ok (.ireturn, 1) := by decide +kernel
set_option maxRecDepth 20000 in
theorem ggX5_faultOf_X5_isGood : GoodIn wsX5_faultOf wsX5_isGood := goodIn_r _ [6, 7, 8, 9, 5, 10, 11, 12, 13] (by decide +kernel) (by decide +kernel)
set_option maxRecDepth 20000 in
theorem gX5_faultOf_X5_isGood : GoodIn wsX5_faultOf (va_wsS RX5 59 yX5_isGood wsX5_isGood) := goodIn_app (goodIn_of _ (by decide +kernel)) ggX5_faultOf_X5_isGood
theorem dX5_faultOf_0 : decode cX5_faultOf 0 = .ok (.iconst 0, 1) := by decide +kernel
theorem dX5_faultOf_1 : decode cX5_faultOf 1 = .ok (.istore_n 1, 1) := by decide +kernel
theorem dX5_faultOf_2 : decode cX5_faultOf 2 = .ok (.iload_n 1, 1) := by decide +kernel
theorem dX5_faultOf_3 : decode cX5_faultOf 3 = .ok (.aload_n 0, 1) := by decide +kernel
theorem dX5_faultOf_4 : decode cX5_faultOf 4 = .ok (.getfield 50, 3) := by decide +kernel
theorem dX5_faultOf_7 : decode cX5_faultOf 7 = .ok (.if_icmp .ge 22, 3) := by decide +kernel
theorem dX5_faultOf_10 : decode cX5_faultOf 10 = .ok (.iload_n 1, 1) := by decide +kernel
theorem dX5_faultOf_11 : decode cX5_faultOf 11 = .ok (.aload_n 0, 1) := by decide +kernel
theorem dX5_faultOf_12 : decode cX5_faultOf 12 = .ok (.getfield 7, 3) := by decide +kernel
theorem dX5_faultOf_15 : decode cX5_faultOf 15 = .ok (.iload_n 1, 1) := by decide +kernel
theorem dX5_faultOf_16 : decode cX5_faultOf 16 = .ok (.iaload, 1) := by decide +kernel
theorem dX5_faultOf_17 : decode cX5_faultOf 17 = .ok (.invokestatic 59, 3) := by decide +kernel
theorem dX5_faultOf_20 : decode cX5_faultOf 20 = .ok (.ifCond .eq 9, 3) := by decide +kernel
theorem dX5_faultOf_23 : decode cX5_faultOf 23 = .ok (.iinc 1 1, 3) := by decide +kernel
theorem dX5_faultOf_26 : decode cX5_faultOf 26 = .ok (.goto (-24), 3) := by decide +kernel
theorem dX5_faultOf_29 : decode cX5_faultOf 29 = .ok (.iload_n 1, 1) := by decide +kernel
theorem dX5_faultOf_30 : decode cX5_faultOf 30 = .ok (.ireturn, 1) := by decide +kernel
set_option maxRecDepth 20000 in
theorem ggX5_fault_X5_faultOf : GoodIn wsX5_fault wsX5_faultOf := goodIn_r _ [5, 6, 7, 8, 9, 4, 10, 11, 12, 13, 14, 15, 16, 17, 18, 19, 20, 21, 22, 23, 24, 25, 26, 27, 28, 29, 30, 31, 32, 33, 34, 35, 36, 37, 38, 39, 40, 41] (by decide +kernel) (by decide +kernel)
set_option maxRecDepth 20000 in
theorem gX5_fault_X5_faultOf : GoodIn wsX5_fault (wsV RX5 63 RX5 yX5_faultOf wsX5_faultOf) := goodIn_app (goodIn_of _ (by decide +kernel)) ggX5_fault_X5_faultOf
theorem dX5_fault_0 : decode cX5_fault 0 = .ok (.aload_n 0, 1) := by decide +kernel
theorem dX5_fault_1 : decode cX5_fault 1 = .ok (.invokevirtual 63, 3) := by decide +kernel
theorem dX5_fault_4 : decode cX5_fault 4 = .ok (.ireturn, 1) := by decide +kernel
set_option maxRecDepth 20000 in
theorem ggX5_office_X5_faultOf : GoodIn wsX5_office wsX5_faultOf := goodIn_r _ [13, 1, 3, 14, 15, 12, 16, 17, 18, 19, 20, 21, 22, 23, 24, 25, 26, 27, 28, 29, 30, 31, 32, 33, 34, 35, 36, 37, 38, 39, 40, 41, 42, 43, 44, 45, 46, 47] (by decide +kernel) (by decide +kernel)
set_option maxRecDepth 20000 in
theorem gX5_office_X5_faultOf : GoodIn wsX5_office (wsV RX5 63 RX5 yX5_faultOf wsX5_faultOf) := goodIn_app (goodIn_of _ (by decide +kernel)) ggX5_office_X5_faultOf
set_option maxRecDepth 20000 in
theorem ggX5_office_X5_kindBy : GoodIn wsX5_office wsX5_kindBy := goodIn_r _ [20] (by decide +kernel) (by decide +kernel)
set_option maxRecDepth 20000 in
theorem gX5_office_X5_kindBy : GoodIn wsX5_office (va_wsS RX5 53 yX5_kindBy wsX5_kindBy) := goodIn_app (goodIn_of _ (by decide +kernel)) ggX5_office_X5_kindBy
theorem dX5_office_0 : decode cX5_office 0 = .ok (.aload_n 0, 1) := by decide +kernel
theorem dX5_office_1 : decode cX5_office 1 = .ok (.getfield 50, 3) := by decide +kernel
theorem dX5_office_4 : decode cX5_office 4 = .ok (.iconst 5, 1) := by decide +kernel
theorem dX5_office_5 : decode cX5_office 5 = .ok (.if_icmp .lt 24, 3) := by decide +kernel
theorem dX5_office_8 : decode cX5_office 8 = .ok (.aload_n 0, 1) := by decide +kernel
theorem dX5_office_9 : decode cX5_office 9 = .ok (.getfield 50, 3) := by decide +kernel
theorem dX5_office_12 : decode cX5_office 12 = .ok (.iconst 3, 1) := by decide +kernel
theorem dX5_office_13 : decode cX5_office 13 = .ok (.irem, 1) := by decide +kernel
theorem dX5_office_14 : decode cX5_office 14 = .ok (.iconst 2, 1) := by decide +kernel
theorem dX5_office_15 : decode cX5_office 15 = .ok (.if_icmp .ne 14, 3) := by decide +kernel
theorem dX5_office_18 : decode cX5_office 18 = .ok (.aload_n 0, 1) := by decide +kernel
theorem dX5_office_19 : decode cX5_office 19 = .ok (.invokevirtual 63, 3) := by decide +kernel
theorem dX5_office_22 : decode cX5_office 22 = .ok (.aload_n 0, 1) := by decide +kernel
theorem dX5_office_23 : decode cX5_office 23 = .ok (.getfield 50, 3) := by decide +kernel
theorem dX5_office_26 : decode cX5_office 26 = .ok (.if_icmp .ge 6, 3) := by decide +kernel
theorem dX5_office_29 : decode cX5_office 29 = .ok (.bipush (-103), 2) := by decide +kernel
theorem dX5_office_31 : decode cX5_office 31 = .ok (.ireturn, 1) := by decide +kernel
theorem dX5_office_32 : decode cX5_office 32 = .ok (.aload_n 0, 1) := by decide +kernel
theorem dX5_office_33 : decode cX5_office 33 = .ok (.aload_n 0, 1) := by decide +kernel
theorem dX5_office_34 : decode cX5_office 34 = .ok (.getfield 50, 3) := by decide +kernel
theorem dX5_office_37 : decode cX5_office 37 = .ok (.iconst 1, 1) := by decide +kernel
theorem dX5_office_38 : decode cX5_office 38 = .ok (.iadd, 1) := by decide +kernel
theorem dX5_office_39 : decode cX5_office 39 = .ok (.iconst 3, 1) := by decide +kernel
theorem dX5_office_40 : decode cX5_office 40 = .ok (.idiv, 1) := by decide +kernel
theorem dX5_office_41 : decode cX5_office 41 = .ok (.putfield 67, 3) := by decide +kernel
theorem dX5_office_44 : decode cX5_office 44 = .ok (.iconst 0, 1) := by decide +kernel
theorem dX5_office_45 : decode cX5_office 45 = .ok (.istore_n 1, 1) := by decide +kernel
theorem dX5_office_46 : decode cX5_office 46 = .ok (.iload_n 1, 1) := by decide +kernel
theorem dX5_office_47 : decode cX5_office 47 = .ok (.aload_n 0, 1) := by decide +kernel
theorem dX5_office_48 : decode cX5_office 48 = .ok (.getfield 67, 3) := by decide +kernel
theorem dX5_office_51 : decode cX5_office 51 = .ok (.if_icmp .ge 79, 3) := by decide +kernel
theorem dX5_office_54 : decode cX5_office 54 = .ok (.aload_n 0, 1) := by decide +kernel
theorem dX5_office_55 : decode cX5_office 55 = .ok (.getfield 7, 3) := by decide +kernel
theorem dX5_office_58 : decode cX5_office 58 = .ok (.iconst 3, 1) := by decide +kernel
theorem dX5_office_59 : decode cX5_office 59 = .ok (.iload_n 1, 1) := by decide +kernel
theorem dX5_office_60 : decode cX5_office 60 = .ok (.imul, 1) := by decide +kernel
theorem dX5_office_61 : decode cX5_office 61 = .ok (.iaload, 1) := by decide +kernel
theorem dX5_office_62 : decode cX5_office 62 = .ok (.invokestatic 53, 3) := by decide +kernel
theorem dX5_office_65 : decode cX5_office 65 = .ok (.istore_n 2, 1) := by decide +kernel
theorem dX5_office_66 : decode cX5_office 66 = .ok (.aload_n 0, 1) := by decide +kernel
theorem dX5_office_67 : decode cX5_office 67 = .ok (.getfield 7, 3) := by decide +kernel
theorem dX5_office_70 : decode cX5_office 70 = .ok (.iconst 3, 1) := by decide +kernel
theorem dX5_office_71 : decode cX5_office 71 = .ok (.iload_n 1, 1) := by decide +kernel
theorem dX5_office_72 : decode cX5_office 72 = .ok (.imul, 1) := by decide +kernel
theorem dX5_office_73 : decode cX5_office 73 = .ok (.iconst 1, 1) := by decide +kernel
theorem dX5_office_74 : decode cX5_office 74 = .ok (.iadd, 1) := by decide +kernel
theorem dX5_office_75 : decode cX5_office 75 = .ok (.iaload, 1) := by decide +kernel
theorem dX5_office_76 : decode cX5_office 76 = .ok (.bipush 48, 2) := by decide +kernel
theorem dX5_office_78 : decode cX5_office 78 = .ok (.isub, 1) := by decide +kernel
theorem dX5_office_79 : decode cX5_office 79 = .ok (.istore_n 3, 1) := by decide +kernel
theorem dX5_office_80 : decode cX5_office 80 = .ok (.aload_n 0, 1) := by decide +kernel
theorem dX5_office_81 : decode cX5_office 81 = .ok (.getfield 13, 3) := by decide +kernel
theorem dX5_office_84 : decode cX5_office 84 = .ok (.iconst 3, 1) := by decide +kernel
theorem dX5_office_85 : decode cX5_office 85 = .ok (.iload_n 1, 1) := by decide +kernel
theorem dX5_office_86 : decode cX5_office 86 = .ok (.imul, 1) := by decide +kernel
theorem dX5_office_87 : decode cX5_office 87 = .ok (.iload_n 2, 1) := by decide +kernel
end
section
theorem dX5_office_88 : decode cX5_office 88 = .ok (.iastore, 1) := by decide +kernel
theorem dX5_office_89 : decode cX5_office 89 = .ok (.aload_n 0, 1) := by decide +kernel
theorem dX5_office_90 : decode cX5_office 90 = .ok (.getfield 13, 3) := by decide +kernel
theorem dX5_office_93 : decode cX5_office 93 = .ok (.iconst 3, 1) := by decide +kernel
theorem dX5_office_94 : decode cX5_office 94 = .ok (.iload_n 1, 1) := by decide +kernel
theorem dX5_office_95 : decode cX5_office 95 = .ok (.imul, 1) := by decide +kernel
theorem dX5_office_96 : decode cX5_office 96 = .ok (.iconst 1, 1) := by decide +kernel
theorem dX5_office_97 : decode cX5_office 97 = .ok (.iadd, 1) := by decide +kernel
theorem dX5_office_98 : decode cX5_office 98 = .ok (.iload_n 2, 1) := by decide +kernel
theorem dX5_office_99 : decode cX5_office 99 = .ok (.iconst 3, 1) := by decide +kernel
theorem dX5_office_100 : decode cX5_office 100 = .ok (.if_icmp .ne 11, 3) := by decide +kernel
theorem dX5_office_103 : decode cX5_office 103 = .ok (.iload_n 3, 1) := by decide +kernel
theorem dX5_office_104 : decode cX5_office 104 = .ok (.iconst 1, 1) := by decide +kernel
theorem dX5_office_105 : decode cX5_office 105 = .ok (.iadd, 1) := by decide +kernel
theorem dX5_office_106 : decode cX5_office 106 = .ok (.iconst 2, 1) := by decide +kernel
theorem dX5_office_107 : decode cX5_office 107 = .ok (.idiv, 1) := by decide +kernel
theorem dX5_office_108 : decode cX5_office 108 = .ok (.goto 4, 3) := by decide +kernel
theorem dX5_office_111 : decode cX5_office 111 = .ok (.iload_n 3, 1) := by decide +kernel
theorem dX5_office_112 : decode cX5_office 112 = .ok (.iastore, 1) := by decide +kernel
theorem dX5_office_113 : decode cX5_office 113 = .ok (.aload_n 0, 1) := by decide +kernel
theorem dX5_office_114 : decode cX5_office 114 = .ok (.getfield 13, 3) := by decide +kernel
theorem dX5_office_117 : decode cX5_office 117 = .ok (.iconst 3, 1) := by decide +kernel
theorem dX5_office_118 : decode cX5_office 118 = .ok (.iload_n 1, 1) := by decide +kernel
theorem dX5_office_119 : decode cX5_office 119 = .ok (.imul, 1) := by decide +kernel
theorem dX5_office_120 : decode cX5_office 120 = .ok (.iconst 2, 1) := by decide +kernel
theorem dX5_office_121 : decode cX5_office 121 = .ok (.iadd, 1) := by decide +kernel
theorem dX5_office_122 : decode cX5_office 122 = .ok (.iconst 0, 1) := by decide +kernel
theorem dX5_office_123 : decode cX5_office 123 = .ok (.iastore, 1) := by decide +kernel
theorem dX5_office_124 : decode cX5_office 124 = .ok (.iinc 1 1, 3) := by decide +kernel
theorem dX5_office_127 : decode cX5_office 127 = .ok (.goto (-81), 3) := by decide +kernel
theorem dX5_office_130 : decode cX5_office 130 = .ok (.aload_n 0, 1) := by decide +kernel
theorem dX5_office_131 : decode cX5_office 131 = .ok (.iconst 0, 1) := by decide +kernel
theorem dX5_office_132 : decode cX5_office 132 = .ok (.putfield 70, 3) := by decide +kernel
theorem dX5_office_135 : decode cX5_office 135 = .ok (.aload_n 0, 1) := by decide +kernel
theorem dX5_office_136 : decode cX5_office 136 = .ok (.iconst 0, 1) := by decide +kernel
theorem dX5_office_137 : decode cX5_office 137 = .ok (.putfield 73, 3) := by decide +kernel
theorem dX5_office_140 : decode cX5_office 140 = .ok (.aload_n 0, 1) := by decide +kernel
theorem dX5_office_141 : decode cX5_office 141 = .ok (.iconst 0, 1) := by decide +kernel
theorem dX5_office_142 : decode cX5_office 142 = .ok (.putfield 76, 3) := by decide +kernel
theorem dX5_office_145 : decode cX5_office 145 = .ok (.aload_n 0, 1) := by decide +kernel
theorem dX5_office_146 : decode cX5_office 146 = .ok (.dup, 1) := by decide +kernel
theorem dX5_office_147 : decode cX5_office 147 = .ok (.getfield 79, 3) := by decide +kernel
theorem dX5_office_150 : decode cX5_office 150 = .ok (.iconst 1, 1) := by decide +kernel
theorem dX5_office_151 : decode cX5_office 151 = .ok (.iadd, 1) := by decide +kernel
theorem dX5_office_152 : decode cX5_office 152 = .ok (.putfield 79, 3) := by decide +kernel
theorem dX5_office_155 : decode cX5_office 155 = .ok (.aload_n 0, 1) := by decide +kernel
theorem dX5_office_156 : decode cX5_office 156 = .ok (.iconst 0, 1) := by decide +kernel
theorem dX5_office_157 : decode cX5_office 157 = .ok (.putfield 50, 3) := by decide +kernel
theorem dX5_office_160 : decode cX5_office 160 = .ok (.aload_n 0, 1) := by decide +kernel
theorem dX5_office_161 : decode cX5_office 161 = .ok (.getfield 67, 3) := by decide +kernel
theorem dX5_office_164 : decode cX5_office 164 = .ok (.ireturn, 1) := by decide +kernel
theorem dX5_lacks_0 : decode cX5_lacks 0 = .ok (.aload_n 0, 1) := by decide +kernel
theorem dX5_lacks_1 : decode cX5_lacks 1 = .ok (.getfield 67, 3) := by decide +kernel
theorem dX5_lacks_4 : decode cX5_lacks 4 = .ok (.ifCond .ne 7, 3) := by decide +kernel
theorem dX5_lacks_7 : decode cX5_lacks 7 = .ok (.iconst 1, 1) := by decide +kernel
theorem dX5_lacks_8 : decode cX5_lacks 8 = .ok (.goto 4, 3) := by decide +kernel
theorem dX5_lacks_11 : decode cX5_lacks 11 = .ok (.iconst 0, 1) := by decide +kernel
theorem dX5_lacks_12 : decode cX5_lacks 12 = .ok (.ireturn, 1) := by decide +kernel
set_option maxRecDepth 20000 in
theorem ggX5_isLamp_X5_in : GoodIn wsX5_isLamp wsX5_in := goodIn_r _ [5] (by decide +kernel) (by decide +kernel)
set_option maxRecDepth 20000 in
theorem gX5_isLamp_X5_in : GoodIn wsX5_isLamp (va_wsS RX5 46 yX5_in wsX5_in) := goodIn_app (goodIn_of _ (by decide +kernel)) ggX5_isLamp_X5_in
theorem dX5_isLamp_0 : decode cX5_isLamp 0 = .ok (.iload_n 1, 1) := by decide +kernel
theorem dX5_isLamp_1 : decode cX5_isLamp 1 = .ok (.i2l, 1) := by decide +kernel
theorem dX5_isLamp_2 : decode cX5_isLamp 2 = .ok (.lconst 0, 1) := by decide +kernel
theorem dX5_isLamp_3 : decode cX5_isLamp 3 = .ok (.aload_n 0, 1) := by decide +kernel
theorem dX5_isLamp_4 : decode cX5_isLamp 4 = .ok (.getfield 67, 3) := by decide +kernel
theorem dX5_isLamp_7 : decode cX5_isLamp 7 = .ok (.iconst 1, 1) := by decide +kernel
theorem dX5_isLamp_8 : decode cX5_isLamp 8 = .ok (.isub, 1) := by decide +kernel
theorem dX5_isLamp_9 : decode cX5_isLamp 9 = .ok (.i2l, 1) := by decide +kernel
theorem dX5_isLamp_10 : decode cX5_isLamp 10 = .ok (.invokestatic 46, 3) := by decide +kernel
theorem dX5_isLamp_13 : decode cX5_isLamp 13 = .ok (.ireturn, 1) := by decide +kernel
set_option maxRecDepth 20000 in
theorem ggX5_isPerson_X5_in : GoodIn wsX5_isPerson wsX5_in := goodIn_r _ [5] (by decide +kernel) (by decide +kernel)
set_option maxRecDepth 20000 in
theorem gX5_isPerson_X5_in : GoodIn wsX5_isPerson (va_wsS RX5 46 yX5_in wsX5_in) := goodIn_app (goodIn_of _ (by decide +kernel)) ggX5_isPerson_X5_in
theorem dX5_isPerson_0 : decode cX5_isPerson 0 = .ok (.iload_n 1, 1) := by decide +kernel
theorem dX5_isPerson_1 : decode cX5_isPerson 1 = .ok (.i2l, 1) := by decide +kernel
theorem dX5_isPerson_2 : decode cX5_isPerson 2 = .ok (.lconst 0, 1) := by decide +kernel
theorem dX5_isPerson_3 : decode cX5_isPerson 3 = .ok (.aload_n 0, 1) := by decide +kernel
theorem dX5_isPerson_4 : decode cX5_isPerson 4 = .ok (.getfield 73, 3) := by decide +kernel
theorem dX5_isPerson_7 : decode cX5_isPerson 7 = .ok (.iconst 1, 1) := by decide +kernel
theorem dX5_isPerson_8 : decode cX5_isPerson 8 = .ok (.isub, 1) := by decide +kernel
theorem dX5_isPerson_9 : decode cX5_isPerson 9 = .ok (.i2l, 1) := by decide +kernel
theorem dX5_isPerson_10 : decode cX5_isPerson 10 = .ok (.invokestatic 46, 3) := by decide +kernel
theorem dX5_isPerson_13 : decode cX5_isPerson 13 = .ok (.ireturn, 1) := by decide +kernel
theorem dX5_seesOf_0 : decode cX5_seesOf 0 = .ok (.iconst 1, 1) := by decide +kernel
theorem dX5_seesOf_1 : decode cX5_seesOf 1 = .ok (.aload_n 0, 1) := by decide +kernel
theorem dX5_seesOf_2 : decode cX5_seesOf 2 = .ok (.getfield 67, 3) := by decide +kernel
theorem dX5_seesOf_5 : decode cX5_seesOf 5 = .ok (.ishl, 1) := by decide +kernel
theorem dX5_seesOf_6 : decode cX5_seesOf 6 = .ok (.iconst 1, 1) := by decide +kernel
theorem dX5_seesOf_7 : decode cX5_seesOf 7 = .ok (.isub, 1) := by decide +kernel
theorem dX5_seesOf_8 : decode cX5_seesOf 8 = .ok (.istore_n 2, 1) := by decide +kernel
theorem dX5_seesOf_9 : decode cX5_seesOf 9 = .ok (.aload_n 0, 1) := by decide +kernel
theorem dX5_seesOf_10 : decode cX5_seesOf 10 = .ok (.getfield 13, 3) := by decide +kernel
theorem dX5_seesOf_13 : decode cX5_seesOf 13 = .ok (.iconst 3, 1) := by decide +kernel
theorem dX5_seesOf_14 : decode cX5_seesOf 14 = .ok (.iload_n 1, 1) := by decide +kernel
theorem dX5_seesOf_15 : decode cX5_seesOf 15 = .ok (.imul, 1) := by decide +kernel
theorem dX5_seesOf_16 : decode cX5_seesOf 16 = .ok (.iaload, 1) := by decide +kernel
theorem dX5_seesOf_17 : decode cX5_seesOf 17 = .ok (.istore_n 3, 1) := by decide +kernel
theorem dX5_seesOf_18 : decode cX5_seesOf 18 = .ok (.iconst 1, 1) := by decide +kernel
theorem dX5_seesOf_19 : decode cX5_seesOf 19 = .ok (.iload_n 1, 1) := by decide +kernel
theorem dX5_seesOf_20 : decode cX5_seesOf 20 = .ok (.ishl, 1) := by decide +kernel
theorem dX5_seesOf_21 : decode cX5_seesOf 21 = .ok (.istore 4, 2) := by decide +kernel
theorem dX5_seesOf_23 : decode cX5_seesOf 23 = .ok (.iload 4, 2) := by decide +kernel
theorem dX5_seesOf_25 : decode cX5_seesOf 25 = .ok (.iload_n 3, 1) := by decide +kernel
theorem dX5_seesOf_26 : decode cX5_seesOf 26 = .ok (.iconst 1, 1) := by decide +kernel
theorem dX5_seesOf_27 : decode cX5_seesOf 27 = .ok (.if_icmp .eq 8, 3) := by decide +kernel
theorem dX5_seesOf_30 : decode cX5_seesOf 30 = .ok (.iload_n 3, 1) := by decide +kernel
theorem dX5_seesOf_31 : decode cX5_seesOf 31 = .ok (.iconst 2, 1) := by decide +kernel
theorem dX5_seesOf_32 : decode cX5_seesOf 32 = .ok (.if_icmp .ne 9, 3) := by decide +kernel
theorem dX5_seesOf_35 : decode cX5_seesOf 35 = .ok (.iconst 2, 1) := by decide +kernel
theorem dX5_seesOf_36 : decode cX5_seesOf 36 = .ok (.iload_n 1, 1) := by decide +kernel
theorem dX5_seesOf_37 : decode cX5_seesOf 37 = .ok (.ishl, 1) := by decide +kernel
theorem dX5_seesOf_38 : decode cX5_seesOf 38 = .ok (.goto 4, 3) := by decide +kernel
theorem dX5_seesOf_41 : decode cX5_seesOf 41 = .ok (.iconst 0, 1) := by decide +kernel
theorem dX5_seesOf_42 : decode cX5_seesOf 42 = .ok (.ior, 1) := by decide +kernel
theorem dX5_seesOf_43 : decode cX5_seesOf 43 = .ok (.istore 4, 2) := by decide +kernel
theorem dX5_seesOf_45 : decode cX5_seesOf 45 = .ok (.iload 4, 2) := by decide +kernel
theorem dX5_seesOf_47 : decode cX5_seesOf 47 = .ok (.iload_n 3, 1) := by decide +kernel
theorem dX5_seesOf_48 : decode cX5_seesOf 48 = .ok (.iconst 1, 1) := by decide +kernel
theorem dX5_seesOf_49 : decode cX5_seesOf 49 = .ok (.if_icmp .ne 11, 3) := by decide +kernel
theorem dX5_seesOf_52 : decode cX5_seesOf 52 = .ok (.iconst 1, 1) := by decide +kernel
theorem dX5_seesOf_53 : decode cX5_seesOf 53 = .ok (.iload_n 1, 1) := by decide +kernel
theorem dX5_seesOf_54 : decode cX5_seesOf 54 = .ok (.ishl, 1) := by decide +kernel
theorem dX5_seesOf_55 : decode cX5_seesOf 55 = .ok (.iconst 1, 1) := by decide +kernel
theorem dX5_seesOf_56 : decode cX5_seesOf 56 = .ok (.ishr, 1) := by decide +kernel
theorem dX5_seesOf_57 : decode cX5_seesOf 57 = .ok (.goto 4, 3) := by decide +kernel
theorem dX5_seesOf_60 : decode cX5_seesOf 60 = .ok (.iconst 0, 1) := by decide +kernel
theorem dX5_seesOf_61 : decode cX5_seesOf 61 = .ok (.ior, 1) := by decide +kernel
theorem dX5_seesOf_62 : decode cX5_seesOf 62 = .ok (.istore 4, 2) := by decide +kernel
theorem dX5_seesOf_64 : decode cX5_seesOf 64 = .ok (.iload_n 3, 1) := by decide +kernel
theorem dX5_seesOf_65 : decode cX5_seesOf 65 = .ok (.iconst 4, 1) := by decide +kernel
theorem dX5_seesOf_66 : decode cX5_seesOf 66 = .ok (.if_icmp .ne 7, 3) := by decide +kernel
theorem dX5_seesOf_69 : decode cX5_seesOf 69 = .ok (.iload_n 2, 1) := by decide +kernel
theorem dX5_seesOf_70 : decode cX5_seesOf 70 = .ok (.goto 7, 3) := by decide +kernel
theorem dX5_seesOf_73 : decode cX5_seesOf 73 = .ok (.iload 4, 2) := by decide +kernel
theorem dX5_seesOf_75 : decode cX5_seesOf 75 = .ok (.iload_n 2, 1) := by decide +kernel
theorem dX5_seesOf_76 : decode cX5_seesOf 76 = .ok (.iand, 1) := by decide +kernel
theorem dX5_seesOf_77 : decode cX5_seesOf 77 = .ok (.ireturn, 1) := by decide +kernel
theorem dX5_whoSitsIn_0 : decode cX5_whoSitsIn 0 = .ok (.iconst 0, 1) := by decide +kernel
theorem dX5_whoSitsIn_1 : decode cX5_whoSitsIn 1 = .ok (.istore_n 2, 1) := by decide +kernel
theorem dX5_whoSitsIn_2 : decode cX5_whoSitsIn 2 = .ok (.iconst 0, 1) := by decide +kernel
theorem dX5_whoSitsIn_3 : decode cX5_whoSitsIn 3 = .ok (.istore_n 3, 1) := by decide +kernel
theorem dX5_whoSitsIn_4 : decode cX5_whoSitsIn 4 = .ok (.iload_n 3, 1) := by decide +kernel
theorem dX5_whoSitsIn_5 : decode cX5_whoSitsIn 5 = .ok (.aload_n 0, 1) := by decide +kernel
theorem dX5_whoSitsIn_6 : decode cX5_whoSitsIn 6 = .ok (.getfield 73, 3) := by decide +kernel
theorem dX5_whoSitsIn_9 : decode cX5_whoSitsIn 9 = .ok (.if_icmp .ge 31, 3) := by decide +kernel
theorem dX5_whoSitsIn_12 : decode cX5_whoSitsIn 12 = .ok (.iload_n 2, 1) := by decide +kernel
theorem dX5_whoSitsIn_13 : decode cX5_whoSitsIn 13 = .ok (.aload_n 0, 1) := by decide +kernel
theorem dX5_whoSitsIn_14 : decode cX5_whoSitsIn 14 = .ok (.getfield 16, 3) := by decide +kernel
theorem dX5_whoSitsIn_17 : decode cX5_whoSitsIn 17 = .ok (.iconst 3, 1) := by decide +kernel
theorem dX5_whoSitsIn_18 : decode cX5_whoSitsIn 18 = .ok (.iload_n 3, 1) := by decide +kernel
theorem dX5_whoSitsIn_19 : decode cX5_whoSitsIn 19 = .ok (.imul, 1) := by decide +kernel
theorem dX5_whoSitsIn_20 : decode cX5_whoSitsIn 20 = .ok (.iaload, 1) := by decide +kernel
theorem dX5_whoSitsIn_21 : decode cX5_whoSitsIn 21 = .ok (.iload_n 1, 1) := by decide +kernel
theorem dX5_whoSitsIn_22 : decode cX5_whoSitsIn 22 = .ok (.if_icmp .ne 9, 3) := by decide +kernel
theorem dX5_whoSitsIn_25 : decode cX5_whoSitsIn 25 = .ok (.iconst 1, 1) := by decide +kernel
theorem dX5_whoSitsIn_26 : decode cX5_whoSitsIn 26 = .ok (.iload_n 3, 1) := by decide +kernel
theorem dX5_whoSitsIn_27 : decode cX5_whoSitsIn 27 = .ok (.ishl, 1) := by decide +kernel
theorem dX5_whoSitsIn_28 : decode cX5_whoSitsIn 28 = .ok (.goto 4, 3) := by decide +kernel
theorem dX5_whoSitsIn_31 : decode cX5_whoSitsIn 31 = .ok (.iconst 0, 1) := by decide +kernel
theorem dX5_whoSitsIn_32 : decode cX5_whoSitsIn 32 = .ok (.ior, 1) := by decide +kernel
theorem dX5_whoSitsIn_33 : decode cX5_whoSitsIn 33 = .ok (.istore_n 2, 1) := by decide +kernel
theorem dX5_whoSitsIn_34 : decode cX5_whoSitsIn 34 = .ok (.iinc 3 1, 3) := by decide +kernel
theorem dX5_whoSitsIn_37 : decode cX5_whoSitsIn 37 = .ok (.goto (-33), 3) := by decide +kernel
theorem dX5_whoSitsIn_40 : decode cX5_whoSitsIn 40 = .ok (.iload_n 2, 1) := by decide +kernel
theorem dX5_whoSitsIn_41 : decode cX5_whoSitsIn 41 = .ok (.ireturn, 1) := by decide +kernel
set_option maxRecDepth 20000 in
theorem ggX5_seenBy_X5_seesOf : GoodIn wsX5_seenBy wsX5_seesOf := goodIn_r _ [6, 1, 7, 8, 9, 10, 11, 12, 13, 14, 15, 16, 17, 18, 19, 20, 21, 22, 23, 24, 25, 26, 27, 28, 29, 30, 31] (by decide +kernel) (by decide +kernel)
set_option maxRecDepth 20000 in
theorem gX5_seenBy_X5_seesOf : GoodIn wsX5_seenBy (wsV RX5 82 RX5 yX5_seesOf wsX5_seesOf) := goodIn_app (goodIn_of _ (by decide +kernel)) ggX5_seenBy_X5_seesOf
theorem dX5_seenBy_0 : decode cX5_seenBy 0 = .ok (.iconst 0, 1) := by decide +kernel
theorem dX5_seenBy_1 : decode cX5_seenBy 1 = .ok (.istore_n 2, 1) := by decide +kernel
theorem dX5_seenBy_2 : decode cX5_seenBy 2 = .ok (.iconst 0, 1) := by decide +kernel
theorem dX5_seenBy_3 : decode cX5_seenBy 3 = .ok (.istore_n 3, 1) := by decide +kernel
theorem dX5_seenBy_4 : decode cX5_seenBy 4 = .ok (.iload_n 3, 1) := by decide +kernel
theorem dX5_seenBy_5 : decode cX5_seenBy 5 = .ok (.aload_n 0, 1) := by decide +kernel
theorem dX5_seenBy_6 : decode cX5_seenBy 6 = .ok (.getfield 67, 3) := by decide +kernel
theorem dX5_seenBy_9 : decode cX5_seenBy 9 = .ok (.if_icmp .ge 21, 3) := by decide +kernel
theorem dX5_seenBy_12 : decode cX5_seenBy 12 = .ok (.iload_n 2, 1) := by decide +kernel
theorem dX5_seenBy_13 : decode cX5_seenBy 13 = .ok (.aload_n 0, 1) := by decide +kernel
theorem dX5_seenBy_14 : decode cX5_seenBy 14 = .ok (.iload_n 3, 1) := by decide +kernel
theorem dX5_seenBy_15 : decode cX5_seenBy 15 = .ok (.invokevirtual 82, 3) := by decide +kernel
theorem dX5_seenBy_18 : decode cX5_seenBy 18 = .ok (.iload_n 1, 1) := by decide +kernel
theorem dX5_seenBy_19 : decode cX5_seenBy 19 = .ok (.ishr, 1) := by decide +kernel
theorem dX5_seenBy_20 : decode cX5_seenBy 20 = .ok (.iconst 1, 1) := by decide +kernel
theorem dX5_seenBy_21 : decode cX5_seenBy 21 = .ok (.iand, 1) := by decide +kernel
theorem dX5_seenBy_22 : decode cX5_seenBy 22 = .ok (.iadd, 1) := by decide +kernel
theorem dX5_seenBy_23 : decode cX5_seenBy 23 = .ok (.istore_n 2, 1) := by decide +kernel
theorem dX5_seenBy_24 : decode cX5_seenBy 24 = .ok (.iinc 3 1, 3) := by decide +kernel
theorem dX5_seenBy_27 : decode cX5_seenBy 27 = .ok (.goto (-23), 3) := by decide +kernel
theorem dX5_seenBy_30 : decode cX5_seenBy 30 = .ok (.iload_n 2, 1) := by decide +kernel
theorem dX5_seenBy_31 : decode cX5_seenBy 31 = .ok (.ireturn, 1) := by decide +kernel
set_option maxRecDepth 20000 in
theorem ggX5_tellLamp_X5_seesOf : GoodIn wsX5_tellLamp wsX5_seesOf := goodIn_r _ [6, 7, 1, 18, 19, 20, 21, 22, 23, 24, 25, 26, 27, 28, 29, 30, 31, 32, 33, 34, 35, 36, 37, 38, 39, 40, 41] (by decide +kernel) (by decide +kernel)
set_option maxRecDepth 20000 in
theorem gX5_tellLamp_X5_seesOf : GoodIn wsX5_tellLamp (wsV RX5 82 RX5 yX5_seesOf wsX5_seesOf) := goodIn_app (goodIn_of _ (by decide +kernel)) ggX5_tellLamp_X5_seesOf
set_option maxRecDepth 20000 in
theorem ggX5_tellLamp_X5_whoSitsIn : GoodIn wsX5_tellLamp wsX5_whoSitsIn := goodIn_r _ [11, 12, 13, 18, 19, 20, 21, 22, 23, 24, 25, 26, 27, 28, 29, 30, 31, 32, 33, 34, 35, 36, 37, 38, 39, 40, 41] (by decide +kernel) (by decide +kernel)
set_option maxRecDepth 20000 in
theorem gX5_tellLamp_X5_whoSitsIn : GoodIn wsX5_tellLamp (wsV RX5 85 RX5 yX5_whoSitsIn wsX5_whoSitsIn) := goodIn_app (goodIn_of _ (by decide +kernel)) ggX5_tellLamp_X5_whoSitsIn
set_option maxRecDepth 20000 in
theorem ggX5_tellLamp_X5_seenBy : GoodIn wsX5_tellLamp wsX5_seenBy := goodIn_r _ [17, 7, 2, 3, 4, 5, 6, 1, 18, 19, 20, 21, 22, 23, 24, 25, 26, 27, 28, 29, 30, 31, 32, 33, 34, 35, 36, 37, 38, 39, 40, 41] (by decide +kernel) (by decide +kernel)
set_option maxRecDepth 20000 in
theorem gX5_tellLamp_X5_seenBy : GoodIn wsX5_tellLamp (wsV RX5 88 RX5 yX5_seenBy wsX5_seenBy) := goodIn_app (goodIn_of _ (by decide +kernel)) ggX5_tellLamp_X5_seenBy
theorem dX5_tellLamp_0 : decode cX5_tellLamp 0 = .ok (.iload_n 2, 1) := by decide +kernel
theorem dX5_tellLamp_1 : decode cX5_tellLamp 1 = .ok (.tableswitch 68 0 5 #[39, 39, 39, 50, 56, 62], 39) := by decide +kernel
theorem dX5_tellLamp_40 : decode cX5_tellLamp 40 = .ok (.aload_n 0, 1) := by decide +kernel
theorem dX5_tellLamp_41 : decode cX5_tellLamp 41 = .ok (.getfield 13, 3) := by decide +kernel
theorem dX5_tellLamp_44 : decode cX5_tellLamp 44 = .ok (.iconst 3, 1) := by decide +kernel
theorem dX5_tellLamp_45 : decode cX5_tellLamp 45 = .ok (.iload_n 1, 1) := by decide +kernel
theorem dX5_tellLamp_46 : decode cX5_tellLamp 46 = .ok (.imul, 1) := by decide +kernel
theorem dX5_tellLamp_47 : decode cX5_tellLamp 47 = .ok (.iload_n 2, 1) := by decide +kernel
theorem dX5_tellLamp_48 : decode cX5_tellLamp 48 = .ok (.iadd, 1) := by decide +kernel
theorem dX5_tellLamp_49 : decode cX5_tellLamp 49 = .ok (.iaload, 1) := by decide +kernel
theorem dX5_tellLamp_50 : decode cX5_tellLamp 50 = .ok (.ireturn, 1) := by decide +kernel
theorem dX5_tellLamp_51 : decode cX5_tellLamp 51 = .ok (.aload_n 0, 1) := by decide +kernel
theorem dX5_tellLamp_52 : decode cX5_tellLamp 52 = .ok (.iload_n 1, 1) := by decide +kernel
theorem dX5_tellLamp_53 : decode cX5_tellLamp 53 = .ok (.invokevirtual 82, 3) := by decide +kernel
theorem dX5_tellLamp_56 : decode cX5_tellLamp 56 = .ok (.ireturn, 1) := by decide +kernel
theorem dX5_tellLamp_57 : decode cX5_tellLamp 57 = .ok (.aload_n 0, 1) := by decide +kernel
theorem dX5_tellLamp_58 : decode cX5_tellLamp 58 = .ok (.iload_n 1, 1) := by decide +kernel
theorem dX5_tellLamp_59 : decode cX5_tellLamp 59 = .ok (.invokevirtual 85, 3) := by decide +kernel
theorem dX5_tellLamp_62 : decode cX5_tellLamp 62 = .ok (.ireturn, 1) := by decide +kernel
theorem dX5_tellLamp_63 : decode cX5_tellLamp 63 = .ok (.aload_n 0, 1) := by decide +kernel
theorem dX5_tellLamp_64 : decode cX5_tellLamp 64 = .ok (.iload_n 1, 1) := by decide +kernel
theorem dX5_tellLamp_65 : decode cX5_tellLamp 65 = .ok (.invokevirtual 88, 3) := by decide +kernel
theorem dX5_tellLamp_68 : decode cX5_tellLamp 68 = .ok (.ireturn, 1) := by decide +kernel
theorem dX5_tellLamp_69 : decode cX5_tellLamp 69 = .ok (.bipush (-102), 2) := by decide +kernel
theorem dX5_tellLamp_71 : decode cX5_tellLamp 71 = .ok (.ireturn, 1) := by decide +kernel
set_option maxRecDepth 20000 in
theorem ggX5_lamp_X5_isLamp : GoodIn wsX5_lamp wsX5_isLamp := goodIn_r _ [5, 6, 7, 8, 4, 9, 29, 30, 31, 32, 33, 34, 35, 36, 37, 38, 39, 40, 41, 42, 43, 44, 45, 46, 47, 48, 49, 50, 51, 52] (by decide +kernel) (by decide +kernel)
set_option maxRecDepth 20000 in
theorem gX5_lamp_X5_isLamp : GoodIn wsX5_lamp (wsV RX5 91 RX5 yX5_isLamp wsX5_isLamp) := goodIn_app (goodIn_of _ (by decide +kernel)) ggX5_lamp_X5_isLamp
set_option maxRecDepth 20000 in
theorem ggX5_lamp_X5_tellLamp : GoodIn wsX5_lamp wsX5_tellLamp := goodIn_r _ [13, 14, 15, 16, 17, 4, 18, 6, 19, 20, 21, 22, 23, 24, 25, 26, 27, 28, 29, 30, 31, 32, 33, 34, 35, 36, 37, 38, 39, 40, 41, 42, 43, 44, 45, 46, 47, 48, 49, 50, 51, 52] (by decide +kernel) (by decide +kernel)
set_option maxRecDepth 20000 in
theorem gX5_lamp_X5_tellLamp : GoodIn wsX5_lamp (wsV RX5 95 RX5 yX5_tellLamp wsX5_tellLamp) := goodIn_app (goodIn_of _ (by decide +kernel)) ggX5_lamp_X5_tellLamp
theorem dX5_lamp_0 : decode cX5_lamp 0 = .ok (.aload_n 0, 1) := by decide +kernel
theorem dX5_lamp_1 : decode cX5_lamp 1 = .ok (.iload_n 1, 1) := by decide +kernel
theorem dX5_lamp_2 : decode cX5_lamp 2 = .ok (.invokevirtual 91, 3) := by decide +kernel
theorem dX5_lamp_5 : decode cX5_lamp 5 = .ok (.ifCond .eq 12, 3) := by decide +kernel
theorem dX5_lamp_8 : decode cX5_lamp 8 = .ok (.aload_n 0, 1) := by decide +kernel
theorem dX5_lamp_9 : decode cX5_lamp 9 = .ok (.iload_n 1, 1) := by decide +kernel
theorem dX5_lamp_10 : decode cX5_lamp 10 = .ok (.iload_n 2, 1) := by decide +kernel
theorem dX5_lamp_11 : decode cX5_lamp 11 = .ok (.invokevirtual 95, 3) := by decide +kernel
theorem dX5_lamp_14 : decode cX5_lamp 14 = .ok (.goto 5, 3) := by decide +kernel
theorem dX5_lamp_17 : decode cX5_lamp 17 = .ok (.bipush (-101), 2) := by decide +kernel
theorem dX5_lamp_19 : decode cX5_lamp 19 = .ok (.ireturn, 1) := by decide +kernel
set_option maxRecDepth 20000 in
theorem ggX5_as_X5_isLamp : GoodIn wsX5_as wsX5_isLamp := goodIn_r _ [7, 8, 9, 10, 6, 11, 12, 13, 14, 15, 16, 17, 18, 19, 20, 21, 22, 23, 24, 25, 26, 27, 28, 29, 30, 31, 32, 33, 34, 35] (by decide +kernel) (by decide +kernel)
set_option maxRecDepth 20000 in
theorem gX5_as_X5_isLamp : GoodIn wsX5_as (wsV RX5 91 RX5 yX5_isLamp wsX5_isLamp) := goodIn_app (goodIn_of _ (by decide +kernel)) ggX5_as_X5_isLamp
set_option maxRecDepth 20000 in
theorem ggX5_as_X5_in : GoodIn wsX5_as wsX5_in := goodIn_r _ [11] (by decide +kernel) (by decide +kernel)
set_option maxRecDepth 20000 in
theorem gX5_as_X5_in : GoodIn wsX5_as (va_wsS RX5 46 yX5_in wsX5_in) := goodIn_app (goodIn_of _ (by decide +kernel)) ggX5_as_X5_in
theorem dX5_as_0 : decode cX5_as 0 = .ok (.aload_n 0, 1) := by decide +kernel
theorem dX5_as_1 : decode cX5_as 1 = .ok (.iload_n 1, 1) := by decide +kernel
theorem dX5_as_2 : decode cX5_as 2 = .ok (.invokevirtual 91, 3) := by decide +kernel
theorem dX5_as_5 : decode cX5_as 5 = .ok (.ifCond .ne 6, 3) := by decide +kernel
theorem dX5_as_8 : decode cX5_as 8 = .ok (.bipush (-101), 2) := by decide +kernel
theorem dX5_as_10 : decode cX5_as 10 = .ok (.ireturn, 1) := by decide +kernel
theorem dX5_as_11 : decode cX5_as 11 = .ok (.iload_n 2, 1) := by decide +kernel
theorem dX5_as_12 : decode cX5_as 12 = .ok (.i2l, 1) := by decide +kernel
theorem dX5_as_13 : decode cX5_as 13 = .ok (.lconst 0, 1) := by decide +kernel
theorem dX5_as_14 : decode cX5_as 14 = .ok (.ldc2_w 99, 3) := by decide +kernel
theorem dX5_as_17 : decode cX5_as 17 = .ok (.invokestatic 46, 3) := by decide +kernel
theorem dX5_as_20 : decode cX5_as 20 = .ok (.ifCond .ne 6, 3) := by decide +kernel
theorem dX5_as_23 : decode cX5_as 23 = .ok (.bipush (-102), 2) := by decide +kernel
theorem dX5_as_25 : decode cX5_as 25 = .ok (.ireturn, 1) := by decide +kernel
theorem dX5_as_26 : decode cX5_as 26 = .ok (.aload_n 0, 1) := by decide +kernel
theorem dX5_as_27 : decode cX5_as 27 = .ok (.getfield 13, 3) := by decide +kernel
theorem dX5_as_30 : decode cX5_as 30 = .ok (.iconst 3, 1) := by decide +kernel
theorem dX5_as_31 : decode cX5_as 31 = .ok (.iload_n 1, 1) := by decide +kernel
theorem dX5_as_32 : decode cX5_as 32 = .ok (.imul, 1) := by decide +kernel
theorem dX5_as_33 : decode cX5_as 33 = .ok (.iaload, 1) := by decide +kernel
theorem dX5_as_34 : decode cX5_as 34 = .ok (.istore_n 3, 1) := by decide +kernel
theorem dX5_as_35 : decode cX5_as 35 = .ok (.iload_n 2, 1) := by decide +kernel
theorem dX5_as_36 : decode cX5_as 36 = .ok (.ifCond .eq 18, 3) := by decide +kernel
theorem dX5_as_39 : decode cX5_as 39 = .ok (.iload_n 2, 1) := by decide +kernel
theorem dX5_as_40 : decode cX5_as 40 = .ok (.iload_n 3, 1) := by decide +kernel
theorem dX5_as_41 : decode cX5_as 41 = .ok (.if_icmp .eq 13, 3) := by decide +kernel
theorem dX5_as_44 : decode cX5_as 44 = .ok (.iload_n 2, 1) := by decide +kernel
theorem dX5_as_45 : decode cX5_as 45 = .ok (.iconst 1, 1) := by decide +kernel
theorem dX5_as_46 : decode cX5_as 46 = .ok (.if_icmp .ne 12, 3) := by decide +kernel
theorem dX5_as_49 : decode cX5_as 49 = .ok (.iload_n 3, 1) := by decide +kernel
theorem dX5_as_50 : decode cX5_as 50 = .ok (.iconst 4, 1) := by decide +kernel
theorem dX5_as_51 : decode cX5_as 51 = .ok (.if_icmp .ne 7, 3) := by decide +kernel
theorem dX5_as_54 : decode cX5_as 54 = .ok (.iconst 1, 1) := by decide +kernel
theorem dX5_as_55 : decode cX5_as 55 = .ok (.goto 4, 3) := by decide +kernel
theorem dX5_as_58 : decode cX5_as 58 = .ok (.iconst 0, 1) := by decide +kernel
theorem dX5_as_59 : decode cX5_as 59 = .ok (.istore 4, 2) := by decide +kernel
theorem dX5_as_61 : decode cX5_as 61 = .ok (.iload 4, 2) := by decide +kernel
theorem dX5_as_63 : decode cX5_as 63 = .ok (.ifCond .eq 7, 3) := by decide +kernel
theorem dX5_as_66 : decode cX5_as 66 = .ok (.iload_n 1, 1) := by decide +kernel
theorem dX5_as_67 : decode cX5_as 67 = .ok (.goto 4, 3) := by decide +kernel
theorem dX5_as_70 : decode cX5_as 70 = .ok (.iconst (-1), 1) := by decide +kernel
theorem dX5_as_71 : decode cX5_as 71 = .ok (.ireturn, 1) := by decide +kernel
set_option maxRecDepth 20000 in
theorem ggX5_person_X5_isLamp : GoodIn wsX5_person wsX5_isLamp := goodIn_r _ [7, 8, 9, 10, 6, 11, 12, 13, 14, 15, 16, 17, 18, 19, 20, 21, 22, 23, 24, 25, 26, 27, 28, 29, 30, 31, 32, 33, 34, 35] (by decide +kernel) (by decide +kernel)
set_option maxRecDepth 20000 in
theorem gX5_person_X5_isLamp : GoodIn wsX5_person (wsV RX5 91 RX5 yX5_isLamp wsX5_isLamp) := goodIn_app (goodIn_of _ (by decide +kernel)) ggX5_person_X5_isLamp
theorem dX5_person_0 : decode cX5_person 0 = .ok (.aload_n 0, 1) := by decide +kernel
theorem dX5_person_1 : decode cX5_person 1 = .ok (.iload_n 1, 1) := by decide +kernel
theorem dX5_person_2 : decode cX5_person 2 = .ok (.invokevirtual 91, 3) := by decide +kernel
theorem dX5_person_5 : decode cX5_person 5 = .ok (.ifCond .ne 6, 3) := by decide +kernel
theorem dX5_person_8 : decode cX5_person 8 = .ok (.bipush (-101), 2) := by decide +kernel
theorem dX5_person_10 : decode cX5_person 10 = .ok (.ireturn, 1) := by decide +kernel
theorem dX5_person_11 : decode cX5_person 11 = .ok (.aload_n 0, 1) := by decide +kernel
theorem dX5_person_12 : decode cX5_person 12 = .ok (.getfield 73, 3) := by decide +kernel
theorem dX5_person_15 : decode cX5_person 15 = .ok (.iconst 4, 1) := by decide +kernel
theorem dX5_person_16 : decode cX5_person 16 = .ok (.if_icmp .ne 6, 3) := by decide +kernel
theorem dX5_person_19 : decode cX5_person 19 = .ok (.bipush (-104), 2) := by decide +kernel
theorem dX5_person_21 : decode cX5_person 21 = .ok (.ireturn, 1) := by decide +kernel
theorem dX5_person_22 : decode cX5_person 22 = .ok (.aload_n 0, 1) := by decide +kernel
theorem dX5_person_23 : decode cX5_person 23 = .ok (.getfield 16, 3) := by decide +kernel
theorem dX5_person_26 : decode cX5_person 26 = .ok (.iconst 3, 1) := by decide +kernel
theorem dX5_person_27 : decode cX5_person 27 = .ok (.aload_n 0, 1) := by decide +kernel
theorem dX5_person_28 : decode cX5_person 28 = .ok (.getfield 73, 3) := by decide +kernel
theorem dX5_person_31 : decode cX5_person 31 = .ok (.imul, 1) := by decide +kernel
theorem dX5_person_32 : decode cX5_person 32 = .ok (.iload_n 1, 1) := by decide +kernel
theorem dX5_person_33 : decode cX5_person 33 = .ok (.iastore, 1) := by decide +kernel
theorem dX5_person_34 : decode cX5_person 34 = .ok (.aload_n 0, 1) := by decide +kernel
theorem dX5_person_35 : decode cX5_person 35 = .ok (.getfield 16, 3) := by decide +kernel
theorem dX5_person_38 : decode cX5_person 38 = .ok (.iconst 3, 1) := by decide +kernel
theorem dX5_person_39 : decode cX5_person 39 = .ok (.aload_n 0, 1) := by decide +kernel
theorem dX5_person_40 : decode cX5_person 40 = .ok (.getfield 73, 3) := by decide +kernel
theorem dX5_person_43 : decode cX5_person 43 = .ok (.imul, 1) := by decide +kernel
theorem dX5_person_44 : decode cX5_person 44 = .ok (.iconst 1, 1) := by decide +kernel
theorem dX5_person_45 : decode cX5_person 45 = .ok (.iadd, 1) := by decide +kernel
theorem dX5_person_46 : decode cX5_person 46 = .ok (.iconst 0, 1) := by decide +kernel
theorem dX5_person_47 : decode cX5_person 47 = .ok (.iastore, 1) := by decide +kernel
theorem dX5_person_48 : decode cX5_person 48 = .ok (.aload_n 0, 1) := by decide +kernel
theorem dX5_person_49 : decode cX5_person 49 = .ok (.getfield 16, 3) := by decide +kernel
theorem dX5_person_52 : decode cX5_person 52 = .ok (.iconst 3, 1) := by decide +kernel
theorem dX5_person_53 : decode cX5_person 53 = .ok (.aload_n 0, 1) := by decide +kernel
theorem dX5_person_54 : decode cX5_person 54 = .ok (.getfield 73, 3) := by decide +kernel
theorem dX5_person_57 : decode cX5_person 57 = .ok (.imul, 1) := by decide +kernel
theorem dX5_person_58 : decode cX5_person 58 = .ok (.iconst 2, 1) := by decide +kernel
theorem dX5_person_59 : decode cX5_person 59 = .ok (.iadd, 1) := by decide +kernel
theorem dX5_person_60 : decode cX5_person 60 = .ok (.iconst 0, 1) := by decide +kernel
theorem dX5_person_61 : decode cX5_person 61 = .ok (.iastore, 1) := by decide +kernel
theorem dX5_person_62 : decode cX5_person 62 = .ok (.aload_n 0, 1) := by decide +kernel
theorem dX5_person_63 : decode cX5_person 63 = .ok (.dup, 1) := by decide +kernel
theorem dX5_person_64 : decode cX5_person 64 = .ok (.getfield 73, 3) := by decide +kernel
theorem dX5_person_67 : decode cX5_person 67 = .ok (.iconst 1, 1) := by decide +kernel
theorem dX5_person_68 : decode cX5_person 68 = .ok (.iadd, 1) := by decide +kernel
theorem dX5_person_69 : decode cX5_person 69 = .ok (.putfield 73, 3) := by decide +kernel
theorem dX5_person_72 : decode cX5_person 72 = .ok (.aload_n 0, 1) := by decide +kernel
theorem dX5_person_73 : decode cX5_person 73 = .ok (.getfield 73, 3) := by decide +kernel
theorem dX5_person_76 : decode cX5_person 76 = .ok (.iconst 1, 1) := by decide +kernel
theorem dX5_person_77 : decode cX5_person 77 = .ok (.isub, 1) := by decide +kernel
theorem dX5_person_78 : decode cX5_person 78 = .ok (.ireturn, 1) := by decide +kernel
theorem dX5_tell_0 : decode cX5_tell 0 = .ok (.iload_n 2, 1) := by decide +kernel
theorem dX5_tell_1 : decode cX5_tell 1 = .ok (.tableswitch 79 0 3 #[31, 40, 66, 66], 31) := by decide +kernel
theorem dX5_tell_32 : decode cX5_tell 32 = .ok (.aload_n 0, 1) := by decide +kernel
theorem dX5_tell_33 : decode cX5_tell 33 = .ok (.getfield 16, 3) := by decide +kernel
theorem dX5_tell_36 : decode cX5_tell 36 = .ok (.iconst 3, 1) := by decide +kernel
theorem dX5_tell_37 : decode cX5_tell 37 = .ok (.iload_n 1, 1) := by decide +kernel
theorem dX5_tell_38 : decode cX5_tell 38 = .ok (.imul, 1) := by decide +kernel
theorem dX5_tell_39 : decode cX5_tell 39 = .ok (.iaload, 1) := by decide +kernel
theorem dX5_tell_40 : decode cX5_tell 40 = .ok (.ireturn, 1) := by decide +kernel
theorem dX5_tell_41 : decode cX5_tell 41 = .ok (.aload_n 0, 1) := by decide +kernel
theorem dX5_tell_42 : decode cX5_tell 42 = .ok (.getfield 13, 3) := by decide +kernel
theorem dX5_tell_45 : decode cX5_tell 45 = .ok (.iconst 3, 1) := by decide +kernel
theorem dX5_tell_46 : decode cX5_tell 46 = .ok (.aload_n 0, 1) := by decide +kernel
theorem dX5_tell_47 : decode cX5_tell 47 = .ok (.getfield 16, 3) := by decide +kernel
theorem dX5_tell_50 : decode cX5_tell 50 = .ok (.iconst 3, 1) := by decide +kernel
theorem dX5_tell_51 : decode cX5_tell 51 = .ok (.iload_n 1, 1) := by decide +kernel
theorem dX5_tell_52 : decode cX5_tell 52 = .ok (.imul, 1) := by decide +kernel
theorem dX5_tell_53 : decode cX5_tell 53 = .ok (.iaload, 1) := by decide +kernel
theorem dX5_tell_54 : decode cX5_tell 54 = .ok (.imul, 1) := by decide +kernel
theorem dX5_tell_55 : decode cX5_tell 55 = .ok (.iconst 2, 1) := by decide +kernel
theorem dX5_tell_56 : decode cX5_tell 56 = .ok (.iadd, 1) := by decide +kernel
theorem dX5_tell_57 : decode cX5_tell 57 = .ok (.iaload, 1) := by decide +kernel
theorem dX5_tell_58 : decode cX5_tell 58 = .ok (.ifCond .le 7, 3) := by decide +kernel
theorem dX5_tell_61 : decode cX5_tell 61 = .ok (.iconst 1, 1) := by decide +kernel
theorem dX5_tell_62 : decode cX5_tell 62 = .ok (.goto 4, 3) := by decide +kernel
theorem dX5_tell_65 : decode cX5_tell 65 = .ok (.iconst 0, 1) := by decide +kernel
theorem dX5_tell_66 : decode cX5_tell 66 = .ok (.ireturn, 1) := by decide +kernel
theorem dX5_tell_67 : decode cX5_tell 67 = .ok (.aload_n 0, 1) := by decide +kernel
theorem dX5_tell_68 : decode cX5_tell 68 = .ok (.getfield 16, 3) := by decide +kernel
theorem dX5_tell_71 : decode cX5_tell 71 = .ok (.iconst 3, 1) := by decide +kernel
theorem dX5_tell_72 : decode cX5_tell 72 = .ok (.iload_n 1, 1) := by decide +kernel
theorem dX5_tell_73 : decode cX5_tell 73 = .ok (.imul, 1) := by decide +kernel
theorem dX5_tell_74 : decode cX5_tell 74 = .ok (.iload_n 2, 1) := by decide +kernel
theorem dX5_tell_75 : decode cX5_tell 75 = .ok (.iadd, 1) := by decide +kernel
theorem dX5_tell_76 : decode cX5_tell 76 = .ok (.iconst 1, 1) := by decide +kernel
theorem dX5_tell_77 : decode cX5_tell 77 = .ok (.isub, 1) := by decide +kernel
theorem dX5_tell_78 : decode cX5_tell 78 = .ok (.iaload, 1) := by decide +kernel
theorem dX5_tell_79 : decode cX5_tell 79 = .ok (.ireturn, 1) := by decide +kernel
theorem dX5_tell_80 : decode cX5_tell 80 = .ok (.bipush (-102), 2) := by decide +kernel
theorem dX5_tell_82 : decode cX5_tell 82 = .ok (.ireturn, 1) := by decide +kernel
set_option maxRecDepth 20000 in
theorem ggX5_about_X5_isPerson : GoodIn wsX5_about wsX5_isPerson := goodIn_r _ [5, 6, 7, 8, 4, 9, 16, 17, 18, 19, 20, 21, 22, 23, 24, 25, 26, 27, 28, 29, 30, 31, 32, 33, 34, 35, 36, 37, 38, 39] (by decide +kernel) (by decide +kernel)
set_option maxRecDepth 20000 in
theorem gX5_about_X5_isPerson : GoodIn wsX5_about (wsV RX5 101 RX5 yX5_isPerson wsX5_isPerson) := goodIn_app (goodIn_of _ (by decide +kernel)) ggX5_about_X5_isPerson
set_option maxRecDepth 20000 in
theorem ggX5_about_X5_tell : GoodIn wsX5_about wsX5_tell := goodIn_r _ [13, 14, 15, 16, 17, 18, 19, 20, 21, 22, 23, 24, 25, 26, 27, 28, 29, 30, 31, 32, 33, 34, 35, 36, 37, 38, 39] (by decide +kernel) (by decide +kernel)
set_option maxRecDepth 20000 in
theorem gX5_about_X5_tell : GoodIn wsX5_about (wsV RX5 104 RX5 yX5_tell wsX5_tell) := goodIn_app (goodIn_of _ (by decide +kernel)) ggX5_about_X5_tell
theorem dX5_about_0 : decode cX5_about 0 = .ok (.aload_n 0, 1) := by decide +kernel
theorem dX5_about_1 : decode cX5_about 1 = .ok (.iload_n 1, 1) := by decide +kernel
theorem dX5_about_2 : decode cX5_about 2 = .ok (.invokevirtual 101, 3) := by decide +kernel
theorem dX5_about_5 : decode cX5_about 5 = .ok (.ifCond .eq 12, 3) := by decide +kernel
theorem dX5_about_8 : decode cX5_about 8 = .ok (.aload_n 0, 1) := by decide +kernel
theorem dX5_about_9 : decode cX5_about 9 = .ok (.iload_n 1, 1) := by decide +kernel
theorem dX5_about_10 : decode cX5_about 10 = .ok (.iload_n 2, 1) := by decide +kernel
theorem dX5_about_11 : decode cX5_about 11 = .ok (.invokevirtual 104, 3) := by decide +kernel
theorem dX5_about_14 : decode cX5_about 14 = .ok (.goto 5, 3) := by decide +kernel
theorem dX5_about_17 : decode cX5_about 17 = .ok (.bipush (-101), 2) := by decide +kernel
theorem dX5_about_19 : decode cX5_about 19 = .ok (.ireturn, 1) := by decide +kernel
set_option maxRecDepth 20000 in
theorem ggX5_move_X5_isPerson : GoodIn wsX5_move wsX5_isPerson := goodIn_r _ [6, 7, 8, 9, 5, 10, 16, 17, 18, 19, 20, 21, 22, 23, 24, 25, 26, 27, 28, 29, 30, 31, 32, 33, 34, 35, 36, 37, 38, 39] (by decide +kernel) (by decide +kernel)
set_option maxRecDepth 20000 in
theorem gX5_move_X5_isPerson : GoodIn wsX5_move (wsV RX5 101 RX5 yX5_isPerson wsX5_isPerson) := goodIn_app (goodIn_of _ (by decide +kernel)) ggX5_move_X5_isPerson
set_option maxRecDepth 20000 in
theorem ggX5_move_X5_isLamp : GoodIn wsX5_move wsX5_isLamp := goodIn_r _ [14, 15, 8, 9, 5, 10, 16, 17, 18, 19, 20, 21, 22, 23, 24, 25, 26, 27, 28, 29, 30, 31, 32, 33, 34, 35, 36, 37, 38, 39] (by decide +kernel) (by decide +kernel)
set_option maxRecDepth 20000 in
theorem gX5_move_X5_isLamp : GoodIn wsX5_move (wsV RX5 91 RX5 yX5_isLamp wsX5_isLamp) := goodIn_app (goodIn_of _ (by decide +kernel)) ggX5_move_X5_isLamp
theorem dX5_move_0 : decode cX5_move 0 = .ok (.aload_n 0, 1) := by decide +kernel
theorem dX5_move_1 : decode cX5_move 1 = .ok (.iload_n 1, 1) := by decide +kernel
theorem dX5_move_2 : decode cX5_move 2 = .ok (.invokevirtual 101, 3) := by decide +kernel
theorem dX5_move_5 : decode cX5_move 5 = .ok (.ifCond .eq 11, 3) := by decide +kernel
theorem dX5_move_8 : decode cX5_move 8 = .ok (.aload_n 0, 1) := by decide +kernel
theorem dX5_move_9 : decode cX5_move 9 = .ok (.iload_n 2, 1) := by decide +kernel
theorem dX5_move_10 : decode cX5_move 10 = .ok (.invokevirtual 91, 3) := by decide +kernel
theorem dX5_move_13 : decode cX5_move 13 = .ok (.ifCond .ne 6, 3) := by decide +kernel
theorem dX5_move_16 : decode cX5_move 16 = .ok (.bipush (-101), 2) := by decide +kernel
theorem dX5_move_18 : decode cX5_move 18 = .ok (.ireturn, 1) := by decide +kernel
theorem dX5_move_19 : decode cX5_move 19 = .ok (.aload_n 0, 1) := by decide +kernel
theorem dX5_move_20 : decode cX5_move 20 = .ok (.getfield 16, 3) := by decide +kernel
theorem dX5_move_23 : decode cX5_move 23 = .ok (.iconst 3, 1) := by decide +kernel
theorem dX5_move_24 : decode cX5_move 24 = .ok (.iload_n 1, 1) := by decide +kernel
theorem dX5_move_25 : decode cX5_move 25 = .ok (.imul, 1) := by decide +kernel
theorem dX5_move_26 : decode cX5_move 26 = .ok (.iaload, 1) := by decide +kernel
theorem dX5_move_27 : decode cX5_move 27 = .ok (.istore_n 3, 1) := by decide +kernel
theorem dX5_move_28 : decode cX5_move 28 = .ok (.aload_n 0, 1) := by decide +kernel
theorem dX5_move_29 : decode cX5_move 29 = .ok (.getfield 16, 3) := by decide +kernel
theorem dX5_move_32 : decode cX5_move 32 = .ok (.iconst 3, 1) := by decide +kernel
theorem dX5_move_33 : decode cX5_move 33 = .ok (.iload_n 1, 1) := by decide +kernel
theorem dX5_move_34 : decode cX5_move 34 = .ok (.imul, 1) := by decide +kernel
theorem dX5_move_35 : decode cX5_move 35 = .ok (.iload_n 2, 1) := by decide +kernel
theorem dX5_move_36 : decode cX5_move 36 = .ok (.iastore, 1) := by decide +kernel
theorem dX5_move_37 : decode cX5_move 37 = .ok (.iload_n 3, 1) := by decide +kernel
theorem dX5_move_38 : decode cX5_move 38 = .ok (.ireturn, 1) := by decide +kernel
theorem dX5_asItIs_0 : decode cX5_asItIs 0 = .ok (.iconst 0, 1) := by decide +kernel
theorem dX5_asItIs_1 : decode cX5_asItIs 1 = .ok (.istore_n 1, 1) := by decide +kernel
theorem dX5_asItIs_2 : decode cX5_asItIs 2 = .ok (.iload_n 1, 1) := by decide +kernel
theorem dX5_asItIs_3 : decode cX5_asItIs 3 = .ok (.aload_n 0, 1) := by decide +kernel
theorem dX5_asItIs_4 : decode cX5_asItIs 4 = .ok (.getfield 67, 3) := by decide +kernel
theorem dX5_asItIs_7 : decode cX5_asItIs 7 = .ok (.if_icmp .ge 25, 3) := by decide +kernel
theorem dX5_asItIs_10 : decode cX5_asItIs 10 = .ok (.aload_n 0, 1) := by decide +kernel
theorem dX5_asItIs_11 : decode cX5_asItIs 11 = .ok (.getfield 19, 3) := by decide +kernel
theorem dX5_asItIs_14 : decode cX5_asItIs 14 = .ok (.iload_n 1, 1) := by decide +kernel
theorem dX5_asItIs_15 : decode cX5_asItIs 15 = .ok (.aload_n 0, 1) := by decide +kernel
theorem dX5_asItIs_16 : decode cX5_asItIs 16 = .ok (.getfield 13, 3) := by decide +kernel
theorem dX5_asItIs_19 : decode cX5_asItIs 19 = .ok (.iconst 3, 1) := by decide +kernel
theorem dX5_asItIs_20 : decode cX5_asItIs 20 = .ok (.iload_n 1, 1) := by decide +kernel
theorem dX5_asItIs_21 : decode cX5_asItIs 21 = .ok (.imul, 1) := by decide +kernel
theorem dX5_asItIs_22 : decode cX5_asItIs 22 = .ok (.iconst 2, 1) := by decide +kernel
theorem dX5_asItIs_23 : decode cX5_asItIs 23 = .ok (.iadd, 1) := by decide +kernel
theorem dX5_asItIs_24 : decode cX5_asItIs 24 = .ok (.iaload, 1) := by decide +kernel
theorem dX5_asItIs_25 : decode cX5_asItIs 25 = .ok (.iastore, 1) := by decide +kernel
theorem dX5_asItIs_26 : decode cX5_asItIs 26 = .ok (.iinc 1 1, 3) := by decide +kernel
theorem dX5_asItIs_29 : decode cX5_asItIs 29 = .ok (.goto (-27), 3) := by decide +kernel
theorem dX5_asItIs_32 : decode cX5_asItIs 32 = .ok (.return_, 1) := by decide +kernel
set_option maxRecDepth 20000 in
theorem ggX5_goesBy_X5_seesOf : GoodIn wsX5_goesBy wsX5_seesOf := goodIn_r _ [8, 1, 3, 9, 10, 11, 12, 13, 14, 15, 16, 17, 18, 19, 20, 21, 22, 23, 24, 25, 26, 27, 28, 29, 30, 31, 32] (by decide +kernel) (by decide +kernel)
set_option maxRecDepth 20000 in
theorem gX5_goesBy_X5_seesOf : GoodIn wsX5_goesBy (wsV RX5 82 RX5 yX5_seesOf wsX5_seesOf) := goodIn_app (goodIn_of _ (by decide +kernel)) ggX5_goesBy_X5_seesOf
theorem dX5_goesBy_0 : decode cX5_goesBy 0 = .ok (.iconst 0, 1) := by decide +kernel
theorem dX5_goesBy_1 : decode cX5_goesBy 1 = .ok (.istore_n 2, 1) := by decide +kernel
theorem dX5_goesBy_2 : decode cX5_goesBy 2 = .ok (.iload_n 2, 1) := by decide +kernel
theorem dX5_goesBy_3 : decode cX5_goesBy 3 = .ok (.aload_n 0, 1) := by decide +kernel
theorem dX5_goesBy_4 : decode cX5_goesBy 4 = .ok (.getfield 67, 3) := by decide +kernel
theorem dX5_goesBy_7 : decode cX5_goesBy 7 = .ok (.if_icmp .ge 69, 3) := by decide +kernel
theorem dX5_goesBy_10 : decode cX5_goesBy 10 = .ok (.aload_n 0, 1) := by decide +kernel
theorem dX5_goesBy_11 : decode cX5_goesBy 11 = .ok (.iload_n 2, 1) := by decide +kernel
theorem dX5_goesBy_12 : decode cX5_goesBy 12 = .ok (.invokevirtual 82, 3) := by decide +kernel
theorem dX5_goesBy_15 : decode cX5_goesBy 15 = .ok (.iload_n 1, 1) := by decide +kernel
theorem dX5_goesBy_16 : decode cX5_goesBy 16 = .ok (.iand, 1) := by decide +kernel
theorem dX5_goesBy_17 : decode cX5_goesBy 17 = .ok (.ifCond .eq 7, 3) := by decide +kernel
theorem dX5_goesBy_20 : decode cX5_goesBy 20 = .ok (.iconst 1, 1) := by decide +kernel
theorem dX5_goesBy_21 : decode cX5_goesBy 21 = .ok (.goto 4, 3) := by decide +kernel
theorem dX5_goesBy_24 : decode cX5_goesBy 24 = .ok (.iconst 0, 1) := by decide +kernel
theorem dX5_goesBy_25 : decode cX5_goesBy 25 = .ok (.istore_n 3, 1) := by decide +kernel
theorem dX5_goesBy_26 : decode cX5_goesBy 26 = .ok (.aload_n 0, 1) := by decide +kernel
theorem dX5_goesBy_27 : decode cX5_goesBy 27 = .ok (.getfield 19, 3) := by decide +kernel
theorem dX5_goesBy_30 : decode cX5_goesBy 30 = .ok (.iload_n 2, 1) := by decide +kernel
theorem dX5_goesBy_31 : decode cX5_goesBy 31 = .ok (.iload_n 3, 1) := by decide +kernel
theorem dX5_goesBy_32 : decode cX5_goesBy 32 = .ok (.ifCond .eq 16, 3) := by decide +kernel
theorem dX5_goesBy_35 : decode cX5_goesBy 35 = .ok (.aload_n 0, 1) := by decide +kernel
theorem dX5_goesBy_36 : decode cX5_goesBy 36 = .ok (.getfield 13, 3) := by decide +kernel
theorem dX5_goesBy_39 : decode cX5_goesBy 39 = .ok (.iconst 3, 1) := by decide +kernel
theorem dX5_goesBy_40 : decode cX5_goesBy 40 = .ok (.iload_n 2, 1) := by decide +kernel
theorem dX5_goesBy_41 : decode cX5_goesBy 41 = .ok (.imul, 1) := by decide +kernel
theorem dX5_goesBy_42 : decode cX5_goesBy 42 = .ok (.iconst 1, 1) := by decide +kernel
theorem dX5_goesBy_43 : decode cX5_goesBy 43 = .ok (.iadd, 1) := by decide +kernel
theorem dX5_goesBy_44 : decode cX5_goesBy 44 = .ok (.iaload, 1) := by decide +kernel
theorem dX5_goesBy_45 : decode cX5_goesBy 45 = .ok (.goto 24, 3) := by decide +kernel
theorem dX5_goesBy_48 : decode cX5_goesBy 48 = .ok (.aload_n 0, 1) := by decide +kernel
theorem dX5_goesBy_49 : decode cX5_goesBy 49 = .ok (.getfield 19, 3) := by decide +kernel
theorem dX5_goesBy_52 : decode cX5_goesBy 52 = .ok (.iload_n 2, 1) := by decide +kernel
theorem dX5_goesBy_53 : decode cX5_goesBy 53 = .ok (.iaload, 1) := by decide +kernel
theorem dX5_goesBy_54 : decode cX5_goesBy 54 = .ok (.ifCond .le 14, 3) := by decide +kernel
theorem dX5_goesBy_57 : decode cX5_goesBy 57 = .ok (.aload_n 0, 1) := by decide +kernel
theorem dX5_goesBy_58 : decode cX5_goesBy 58 = .ok (.getfield 19, 3) := by decide +kernel
theorem dX5_goesBy_61 : decode cX5_goesBy 61 = .ok (.iload_n 2, 1) := by decide +kernel
theorem dX5_goesBy_62 : decode cX5_goesBy 62 = .ok (.iaload, 1) := by decide +kernel
theorem dX5_goesBy_63 : decode cX5_goesBy 63 = .ok (.iconst 1, 1) := by decide +kernel
theorem dX5_goesBy_64 : decode cX5_goesBy 64 = .ok (.isub, 1) := by decide +kernel
theorem dX5_goesBy_65 : decode cX5_goesBy 65 = .ok (.goto 4, 3) := by decide +kernel
theorem dX5_goesBy_68 : decode cX5_goesBy 68 = .ok (.iconst 0, 1) := by decide +kernel
theorem dX5_goesBy_69 : decode cX5_goesBy 69 = .ok (.iastore, 1) := by decide +kernel
theorem dX5_goesBy_70 : decode cX5_goesBy 70 = .ok (.iinc 2 1, 3) := by decide +kernel
theorem dX5_goesBy_73 : decode cX5_goesBy 73 = .ok (.goto (-71), 3) := by decide +kernel
theorem dX5_goesBy_76 : decode cX5_goesBy 76 = .ok (.return_, 1) := by decide +kernel
theorem dX5_sectionsOf_0 : decode cX5_sectionsOf 0 = .ok (.iconst 0, 1) := by decide +kernel
theorem dX5_sectionsOf_1 : decode cX5_sectionsOf 1 = .ok (.istore_n 2, 1) := by decide +kernel
theorem dX5_sectionsOf_2 : decode cX5_sectionsOf 2 = .ok (.iconst 0, 1) := by decide +kernel
theorem dX5_sectionsOf_3 : decode cX5_sectionsOf 3 = .ok (.istore_n 3, 1) := by decide +kernel
theorem dX5_sectionsOf_4 : decode cX5_sectionsOf 4 = .ok (.iload_n 3, 1) := by decide +kernel
theorem dX5_sectionsOf_5 : decode cX5_sectionsOf 5 = .ok (.aload_n 0, 1) := by decide +kernel
theorem dX5_sectionsOf_6 : decode cX5_sectionsOf 6 = .ok (.getfield 73, 3) := by decide +kernel
theorem dX5_sectionsOf_9 : decode cX5_sectionsOf 9 = .ok (.if_icmp .ge 35, 3) := by decide +kernel
theorem dX5_sectionsOf_12 : decode cX5_sectionsOf 12 = .ok (.iload_n 2, 1) := by decide +kernel
theorem dX5_sectionsOf_13 : decode cX5_sectionsOf 13 = .ok (.iload_n 1, 1) := by decide +kernel
theorem dX5_sectionsOf_14 : decode cX5_sectionsOf 14 = .ok (.iload_n 3, 1) := by decide +kernel
theorem dX5_sectionsOf_15 : decode cX5_sectionsOf 15 = .ok (.ishr, 1) := by decide +kernel
theorem dX5_sectionsOf_16 : decode cX5_sectionsOf 16 = .ok (.iconst 1, 1) := by decide +kernel
theorem dX5_sectionsOf_17 : decode cX5_sectionsOf 17 = .ok (.iand, 1) := by decide +kernel
theorem dX5_sectionsOf_18 : decode cX5_sectionsOf 18 = .ok (.iconst 1, 1) := by decide +kernel
theorem dX5_sectionsOf_19 : decode cX5_sectionsOf 19 = .ok (.if_icmp .ne 16, 3) := by decide +kernel
theorem dX5_sectionsOf_22 : decode cX5_sectionsOf 22 = .ok (.iconst 1, 1) := by decide +kernel
theorem dX5_sectionsOf_23 : decode cX5_sectionsOf 23 = .ok (.aload_n 0, 1) := by decide +kernel
theorem dX5_sectionsOf_24 : decode cX5_sectionsOf 24 = .ok (.getfield 16, 3) := by decide +kernel
theorem dX5_sectionsOf_27 : decode cX5_sectionsOf 27 = .ok (.iconst 3, 1) := by decide +kernel
theorem dX5_sectionsOf_28 : decode cX5_sectionsOf 28 = .ok (.iload_n 3, 1) := by decide +kernel
theorem dX5_sectionsOf_29 : decode cX5_sectionsOf 29 = .ok (.imul, 1) := by decide +kernel
theorem dX5_sectionsOf_30 : decode cX5_sectionsOf 30 = .ok (.iaload, 1) := by decide +kernel
theorem dX5_sectionsOf_31 : decode cX5_sectionsOf 31 = .ok (.ishl, 1) := by decide +kernel
theorem dX5_sectionsOf_32 : decode cX5_sectionsOf 32 = .ok (.goto 4, 3) := by decide +kernel
theorem dX5_sectionsOf_35 : decode cX5_sectionsOf 35 = .ok (.iconst 0, 1) := by decide +kernel
theorem dX5_sectionsOf_36 : decode cX5_sectionsOf 36 = .ok (.ior, 1) := by decide +kernel
theorem dX5_sectionsOf_37 : decode cX5_sectionsOf 37 = .ok (.istore_n 2, 1) := by decide +kernel
theorem dX5_sectionsOf_38 : decode cX5_sectionsOf 38 = .ok (.iinc 3 1, 3) := by decide +kernel
theorem dX5_sectionsOf_41 : decode cX5_sectionsOf 41 = .ok (.goto (-37), 3) := by decide +kernel
theorem dX5_sectionsOf_44 : decode cX5_sectionsOf 44 = .ok (.iload_n 2, 1) := by decide +kernel
theorem dX5_sectionsOf_45 : decode cX5_sectionsOf 45 = .ok (.ireturn, 1) := by decide +kernel
theorem dX5_darkNow_0 : decode cX5_darkNow 0 = .ok (.iconst 0, 1) := by decide +kernel
theorem dX5_darkNow_1 : decode cX5_darkNow 1 = .ok (.istore_n 1, 1) := by decide +kernel
theorem dX5_darkNow_2 : decode cX5_darkNow 2 = .ok (.iconst 0, 1) := by decide +kernel
theorem dX5_darkNow_3 : decode cX5_darkNow 3 = .ok (.istore_n 2, 1) := by decide +kernel
theorem dX5_darkNow_4 : decode cX5_darkNow 4 = .ok (.iload_n 2, 1) := by decide +kernel
theorem dX5_darkNow_5 : decode cX5_darkNow 5 = .ok (.aload_n 0, 1) := by decide +kernel
theorem dX5_darkNow_6 : decode cX5_darkNow 6 = .ok (.getfield 73, 3) := by decide +kernel
theorem dX5_darkNow_9 : decode cX5_darkNow 9 = .ok (.if_icmp .ge 33, 3) := by decide +kernel
theorem dX5_darkNow_12 : decode cX5_darkNow 12 = .ok (.iload_n 1, 1) := by decide +kernel
theorem dX5_darkNow_13 : decode cX5_darkNow 13 = .ok (.aload_n 0, 1) := by decide +kernel
theorem dX5_darkNow_14 : decode cX5_darkNow 14 = .ok (.getfield 19, 3) := by decide +kernel
theorem dX5_darkNow_17 : decode cX5_darkNow 17 = .ok (.aload_n 0, 1) := by decide +kernel
theorem dX5_darkNow_18 : decode cX5_darkNow 18 = .ok (.getfield 16, 3) := by decide +kernel
theorem dX5_darkNow_21 : decode cX5_darkNow 21 = .ok (.iconst 3, 1) := by decide +kernel
theorem dX5_darkNow_22 : decode cX5_darkNow 22 = .ok (.iload_n 2, 1) := by decide +kernel
theorem dX5_darkNow_23 : decode cX5_darkNow 23 = .ok (.imul, 1) := by decide +kernel
theorem dX5_darkNow_24 : decode cX5_darkNow 24 = .ok (.iaload, 1) := by decide +kernel
theorem dX5_darkNow_25 : decode cX5_darkNow 25 = .ok (.iaload, 1) := by decide +kernel
theorem dX5_darkNow_26 : decode cX5_darkNow 26 = .ok (.ifCond .ne 7, 3) := by decide +kernel
theorem dX5_darkNow_29 : decode cX5_darkNow 29 = .ok (.iconst 1, 1) := by decide +kernel
theorem dX5_darkNow_30 : decode cX5_darkNow 30 = .ok (.goto 4, 3) := by decide +kernel
theorem dX5_darkNow_33 : decode cX5_darkNow 33 = .ok (.iconst 0, 1) := by decide +kernel
theorem dX5_darkNow_34 : decode cX5_darkNow 34 = .ok (.iadd, 1) := by decide +kernel
theorem dX5_darkNow_35 : decode cX5_darkNow 35 = .ok (.istore_n 1, 1) := by decide +kernel
theorem dX5_darkNow_36 : decode cX5_darkNow 36 = .ok (.iinc 2 1, 3) := by decide +kernel
theorem dX5_darkNow_39 : decode cX5_darkNow 39 = .ok (.goto (-35), 3) := by decide +kernel
theorem dX5_darkNow_42 : decode cX5_darkNow 42 = .ok (.iload_n 1, 1) := by decide +kernel
theorem dX5_darkNow_43 : decode cX5_darkNow 43 = .ok (.ireturn, 1) := by decide +kernel
set_option maxRecDepth 20000 in
theorem ggX5_minute_X5_in : GoodIn wsX5_minute wsX5_in := goodIn_r _ [10] (by decide +kernel) (by decide +kernel)
set_option maxRecDepth 20000 in
theorem gX5_minute_X5_in : GoodIn wsX5_minute (va_wsS RX5 46 yX5_in wsX5_in) := goodIn_app (goodIn_of _ (by decide +kernel)) ggX5_minute_X5_in
set_option maxRecDepth 20000 in
theorem ggX5_minute_X5_lacks : GoodIn wsX5_minute wsX5_lacks := goodIn_r _ [14, 2, 35, 36, 37, 38, 39, 40, 41, 42, 43, 44, 45, 46, 47, 48, 49, 50, 51, 52, 53, 54, 55, 56, 57, 58] (by decide +kernel) (by decide +kernel)
set_option maxRecDepth 20000 in
theorem gX5_minute_X5_lacks : GoodIn wsX5_minute (wsV RX5 107 RX5 yX5_lacks wsX5_lacks) := goodIn_app (goodIn_of _ (by decide +kernel)) ggX5_minute_X5_lacks
set_option maxRecDepth 20000 in
theorem ggX5_minute_X5_asItIs : GoodIn wsX5_minute wsX5_asItIs := goodIn_r _ [18, 2, 4, 3, 35, 36, 37, 38, 39, 40, 41, 42, 43, 44, 45, 46, 47, 48, 49, 50, 51, 52, 53, 54, 55, 56, 57, 58] (by decide +kernel) (by decide +kernel)
set_option maxRecDepth 20000 in
theorem gX5_minute_X5_asItIs : GoodIn wsX5_minute (wsV RX5 111 RX5 yX5_asItIs wsX5_asItIs) := goodIn_app (goodIn_of _ (by decide +kernel)) ggX5_minute_X5_asItIs
set_option maxRecDepth 20000 in
theorem ggX5_minute_X5_sectionsOf : GoodIn wsX5_minute wsX5_sectionsOf := goodIn_r _ [22, 1, 5, 35, 36, 37, 38, 39, 40, 41, 42, 43, 44, 45, 46, 47, 48, 49, 50, 51, 52, 53, 54, 55, 56, 57, 58] (by decide +kernel) (by decide +kernel)
set_option maxRecDepth 20000 in
theorem gX5_minute_X5_sectionsOf : GoodIn wsX5_minute (wsV RX5 114 RX5 yX5_sectionsOf wsX5_sectionsOf) := goodIn_app (goodIn_of _ (by decide +kernel)) ggX5_minute_X5_sectionsOf
set_option maxRecDepth 20000 in
theorem ggX5_minute_X5_goesBy : GoodIn wsX5_minute wsX5_goesBy := goodIn_r _ [26, 2, 4, 3, 27, 28, 29, 9, 30, 35, 36, 37, 38, 39, 40, 41, 42, 43, 44, 45, 46, 47, 48, 49, 50, 51, 52, 53, 54, 55, 56, 57, 58] (by decide +kernel) (by decide +kernel)
set_option maxRecDepth 20000 in
theorem gX5_minute_X5_goesBy : GoodIn wsX5_minute (wsV RX5 117 RX5 yX5_goesBy wsX5_goesBy) := goodIn_app (goodIn_of _ (by decide +kernel)) ggX5_minute_X5_goesBy
set_option maxRecDepth 20000 in
theorem ggX5_minute_X5_darkNow : GoodIn wsX5_minute wsX5_darkNow := goodIn_r _ [34, 1, 4, 5, 35, 36, 37, 38, 39, 40, 41, 42, 43, 44, 45, 46, 47, 48, 49, 50, 51, 52, 53, 54, 55, 56, 57, 58] (by decide +kernel) (by decide +kernel)
set_option maxRecDepth 20000 in
theorem gX5_minute_X5_darkNow : GoodIn wsX5_minute (wsV RX5 121 RX5 yX5_darkNow wsX5_darkNow) := goodIn_app (goodIn_of _ (by decide +kernel)) ggX5_minute_X5_darkNow
theorem dX5_minute_0 : decode cX5_minute 0 = .ok (.iload_n 1, 1) := by decide +kernel
theorem dX5_minute_1 : decode cX5_minute 1 = .ok (.i2l, 1) := by decide +kernel
theorem dX5_minute_2 : decode cX5_minute 2 = .ok (.lconst 0, 1) := by decide +kernel
theorem dX5_minute_3 : decode cX5_minute 3 = .ok (.iconst 1, 1) := by decide +kernel
theorem dX5_minute_4 : decode cX5_minute 4 = .ok (.aload_n 0, 1) := by decide +kernel
theorem dX5_minute_5 : decode cX5_minute 5 = .ok (.getfield 73, 3) := by decide +kernel
theorem dX5_minute_8 : decode cX5_minute 8 = .ok (.ishl, 1) := by decide +kernel
theorem dX5_minute_9 : decode cX5_minute 9 = .ok (.iconst 1, 1) := by decide +kernel
theorem dX5_minute_10 : decode cX5_minute 10 = .ok (.isub, 1) := by decide +kernel
theorem dX5_minute_11 : decode cX5_minute 11 = .ok (.i2l, 1) := by decide +kernel
theorem dX5_minute_12 : decode cX5_minute 12 = .ok (.invokestatic 46, 3) := by decide +kernel
theorem dX5_minute_15 : decode cX5_minute 15 = .ok (.ifCond .ne 6, 3) := by decide +kernel
theorem dX5_minute_18 : decode cX5_minute 18 = .ok (.bipush (-102), 2) := by decide +kernel
theorem dX5_minute_20 : decode cX5_minute 20 = .ok (.ireturn, 1) := by decide +kernel
theorem dX5_minute_21 : decode cX5_minute 21 = .ok (.aload_n 0, 1) := by decide +kernel
theorem dX5_minute_22 : decode cX5_minute 22 = .ok (.invokevirtual 107, 3) := by decide +kernel
theorem dX5_minute_25 : decode cX5_minute 25 = .ok (.ifCond .eq 6, 3) := by decide +kernel
theorem dX5_minute_28 : decode cX5_minute 28 = .ok (.bipush (-103), 2) := by decide +kernel
theorem dX5_minute_30 : decode cX5_minute 30 = .ok (.ireturn, 1) := by decide +kernel
theorem dX5_minute_31 : decode cX5_minute 31 = .ok (.aload_n 0, 1) := by decide +kernel
theorem dX5_minute_32 : decode cX5_minute 32 = .ok (.invokevirtual 111, 3) := by decide +kernel
theorem dX5_minute_35 : decode cX5_minute 35 = .ok (.aload_n 0, 1) := by decide +kernel
theorem dX5_minute_36 : decode cX5_minute 36 = .ok (.aload_n 0, 1) := by decide +kernel
theorem dX5_minute_37 : decode cX5_minute 37 = .ok (.iload_n 1, 1) := by decide +kernel
theorem dX5_minute_38 : decode cX5_minute 38 = .ok (.invokevirtual 114, 3) := by decide +kernel
theorem dX5_minute_41 : decode cX5_minute 41 = .ok (.invokevirtual 117, 3) := by decide +kernel
theorem dX5_minute_44 : decode cX5_minute 44 = .ok (.iconst 0, 1) := by decide +kernel
theorem dX5_minute_45 : decode cX5_minute 45 = .ok (.istore_n 2, 1) := by decide +kernel
theorem dX5_minute_46 : decode cX5_minute 46 = .ok (.iload_n 2, 1) := by decide +kernel
theorem dX5_minute_47 : decode cX5_minute 47 = .ok (.aload_n 0, 1) := by decide +kernel
theorem dX5_minute_48 : decode cX5_minute 48 = .ok (.getfield 67, 3) := by decide +kernel
theorem dX5_minute_51 : decode cX5_minute 51 = .ok (.if_icmp .ge 25, 3) := by decide +kernel
theorem dX5_minute_54 : decode cX5_minute 54 = .ok (.aload_n 0, 1) := by decide +kernel
theorem dX5_minute_55 : decode cX5_minute 55 = .ok (.getfield 13, 3) := by decide +kernel
theorem dX5_minute_58 : decode cX5_minute 58 = .ok (.iconst 3, 1) := by decide +kernel
theorem dX5_minute_59 : decode cX5_minute 59 = .ok (.iload_n 2, 1) := by decide +kernel
theorem dX5_minute_60 : decode cX5_minute 60 = .ok (.imul, 1) := by decide +kernel
theorem dX5_minute_61 : decode cX5_minute 61 = .ok (.iconst 2, 1) := by decide +kernel
theorem dX5_minute_62 : decode cX5_minute 62 = .ok (.iadd, 1) := by decide +kernel
theorem dX5_minute_63 : decode cX5_minute 63 = .ok (.aload_n 0, 1) := by decide +kernel
theorem dX5_minute_64 : decode cX5_minute 64 = .ok (.getfield 19, 3) := by decide +kernel
theorem dX5_minute_67 : decode cX5_minute 67 = .ok (.iload_n 2, 1) := by decide +kernel
theorem dX5_minute_68 : decode cX5_minute 68 = .ok (.iaload, 1) := by decide +kernel
theorem dX5_minute_69 : decode cX5_minute 69 = .ok (.iastore, 1) := by decide +kernel
theorem dX5_minute_70 : decode cX5_minute 70 = .ok (.iinc 2 1, 3) := by decide +kernel
theorem dX5_minute_73 : decode cX5_minute 73 = .ok (.goto (-27), 3) := by decide +kernel
theorem dX5_minute_76 : decode cX5_minute 76 = .ok (.iconst 0, 1) := by decide +kernel
theorem dX5_minute_77 : decode cX5_minute 77 = .ok (.istore_n 2, 1) := by decide +kernel
theorem dX5_minute_78 : decode cX5_minute 78 = .ok (.iload_n 2, 1) := by decide +kernel
theorem dX5_minute_79 : decode cX5_minute 79 = .ok (.aload_n 0, 1) := by decide +kernel
theorem dX5_minute_80 : decode cX5_minute 80 = .ok (.getfield 73, 3) := by decide +kernel
theorem dX5_minute_83 : decode cX5_minute 83 = .ok (.if_icmp .ge 61, 3) := by decide +kernel
theorem dX5_minute_86 : decode cX5_minute 86 = .ok (.aload_n 0, 1) := by decide +kernel
theorem dX5_minute_87 : decode cX5_minute 87 = .ok (.getfield 16, 3) := by decide +kernel
theorem dX5_minute_90 : decode cX5_minute 90 = .ok (.iconst 3, 1) := by decide +kernel
theorem dX5_minute_91 : decode cX5_minute 91 = .ok (.iload_n 2, 1) := by decide +kernel
theorem dX5_minute_92 : decode cX5_minute 92 = .ok (.imul, 1) := by decide +kernel
theorem dX5_minute_93 : decode cX5_minute 93 = .ok (.iconst 1, 1) := by decide +kernel
theorem dX5_minute_94 : decode cX5_minute 94 = .ok (.iadd, 1) := by decide +kernel
theorem dX5_minute_95 : decode cX5_minute 95 = .ok (.dup2, 1) := by decide +kernel
theorem dX5_minute_96 : decode cX5_minute 96 = .ok (.iaload, 1) := by decide +kernel
theorem dX5_minute_97 : decode cX5_minute 97 = .ok (.iload_n 1, 1) := by decide +kernel
theorem dX5_minute_98 : decode cX5_minute 98 = .ok (.iload_n 2, 1) := by decide +kernel
theorem dX5_minute_99 : decode cX5_minute 99 = .ok (.ishr, 1) := by decide +kernel
theorem dX5_minute_100 : decode cX5_minute 100 = .ok (.iconst 1, 1) := by decide +kernel
theorem dX5_minute_101 : decode cX5_minute 101 = .ok (.iand, 1) := by decide +kernel
theorem dX5_minute_102 : decode cX5_minute 102 = .ok (.iadd, 1) := by decide +kernel
theorem dX5_minute_103 : decode cX5_minute 103 = .ok (.iastore, 1) := by decide +kernel
theorem dX5_minute_104 : decode cX5_minute 104 = .ok (.aload_n 0, 1) := by decide +kernel
theorem dX5_minute_105 : decode cX5_minute 105 = .ok (.getfield 16, 3) := by decide +kernel
theorem dX5_minute_108 : decode cX5_minute 108 = .ok (.iconst 3, 1) := by decide +kernel
theorem dX5_minute_109 : decode cX5_minute 109 = .ok (.iload_n 2, 1) := by decide +kernel
theorem dX5_minute_110 : decode cX5_minute 110 = .ok (.imul, 1) := by decide +kernel
theorem dX5_minute_111 : decode cX5_minute 111 = .ok (.iconst 2, 1) := by decide +kernel
theorem dX5_minute_112 : decode cX5_minute 112 = .ok (.iadd, 1) := by decide +kernel
theorem dX5_minute_113 : decode cX5_minute 113 = .ok (.dup2, 1) := by decide +kernel
theorem dX5_minute_114 : decode cX5_minute 114 = .ok (.iaload, 1) := by decide +kernel
theorem dX5_minute_115 : decode cX5_minute 115 = .ok (.aload_n 0, 1) := by decide +kernel
theorem dX5_minute_116 : decode cX5_minute 116 = .ok (.getfield 19, 3) := by decide +kernel
theorem dX5_minute_119 : decode cX5_minute 119 = .ok (.aload_n 0, 1) := by decide +kernel
theorem dX5_minute_120 : decode cX5_minute 120 = .ok (.getfield 16, 3) := by decide +kernel
theorem dX5_minute_123 : decode cX5_minute 123 = .ok (.iconst 3, 1) := by decide +kernel
theorem dX5_minute_124 : decode cX5_minute 124 = .ok (.iload_n 2, 1) := by decide +kernel
theorem dX5_minute_125 : decode cX5_minute 125 = .ok (.imul, 1) := by decide +kernel
theorem dX5_minute_126 : decode cX5_minute 126 = .ok (.iaload, 1) := by decide +kernel
theorem dX5_minute_127 : decode cX5_minute 127 = .ok (.iaload, 1) := by decide +kernel
theorem dX5_minute_128 : decode cX5_minute 128 = .ok (.ifCond .ne 7, 3) := by decide +kernel
theorem dX5_minute_131 : decode cX5_minute 131 = .ok (.iconst 1, 1) := by decide +kernel
theorem dX5_minute_132 : decode cX5_minute 132 = .ok (.goto 4, 3) := by decide +kernel
theorem dX5_minute_135 : decode cX5_minute 135 = .ok (.iconst 0, 1) := by decide +kernel
theorem dX5_minute_136 : decode cX5_minute 136 = .ok (.iadd, 1) := by decide +kernel
theorem dX5_minute_137 : decode cX5_minute 137 = .ok (.iastore, 1) := by decide +kernel
theorem dX5_minute_138 : decode cX5_minute 138 = .ok (.iinc 2 1, 3) := by decide +kernel
theorem dX5_minute_141 : decode cX5_minute 141 = .ok (.goto (-63), 3) := by decide +kernel
theorem dX5_minute_144 : decode cX5_minute 144 = .ok (.aload_n 0, 1) := by decide +kernel
theorem dX5_minute_145 : decode cX5_minute 145 = .ok (.dup, 1) := by decide +kernel
theorem dX5_minute_146 : decode cX5_minute 146 = .ok (.getfield 70, 3) := by decide +kernel
theorem dX5_minute_149 : decode cX5_minute 149 = .ok (.iconst 1, 1) := by decide +kernel
theorem dX5_minute_150 : decode cX5_minute 150 = .ok (.iadd, 1) := by decide +kernel
theorem dX5_minute_151 : decode cX5_minute 151 = .ok (.putfield 70, 3) := by decide +kernel
theorem dX5_minute_154 : decode cX5_minute 154 = .ok (.aload_n 0, 1) := by decide +kernel
theorem dX5_minute_155 : decode cX5_minute 155 = .ok (.invokevirtual 121, 3) := by decide +kernel
theorem dX5_minute_158 : decode cX5_minute 158 = .ok (.ireturn, 1) := by decide +kernel
set_option maxRecDepth 20000 in
theorem ggX5_layLeast_X5_asItIs : GoodIn wsX5_layLeast wsX5_asItIs := goodIn_r _ [7, 8, 9, 10, 31, 32, 33, 34, 35, 36, 37, 38, 39, 40, 41, 42, 43, 44, 45, 46, 47, 48, 49, 50, 51, 52, 53, 54] (by decide +kernel) (by decide +kernel)
set_option maxRecDepth 20000 in
theorem gX5_layLeast_X5_asItIs : GoodIn wsX5_layLeast (wsV RX5 111 RX5 yX5_asItIs wsX5_asItIs) := goodIn_app (goodIn_of _ (by decide +kernel)) ggX5_layLeast_X5_asItIs
set_option maxRecDepth 20000 in
theorem ggX5_layLeast_X5_ones : GoodIn wsX5_layLeast wsX5_ones := goodIn_r _ [13] (by decide +kernel) (by decide +kernel)
set_option maxRecDepth 20000 in
theorem gX5_layLeast_X5_ones : GoodIn wsX5_layLeast (va_wsS RX5 124 yX5_ones wsX5_ones) := goodIn_app (goodIn_of _ (by decide +kernel)) ggX5_layLeast_X5_ones
set_option maxRecDepth 20000 in
theorem ggX5_layLeast_X5_sectionsOf : GoodIn wsX5_layLeast wsX5_sectionsOf := goodIn_r _ [17, 1, 18, 31, 32, 33, 34, 35, 36, 37, 38, 39, 40, 41, 42, 43, 44, 45, 46, 47, 48, 49, 50, 51, 52, 53, 54] (by decide +kernel) (by decide +kernel)
set_option maxRecDepth 20000 in
theorem gX5_layLeast_X5_sectionsOf : GoodIn wsX5_layLeast (wsV RX5 114 RX5 yX5_sectionsOf wsX5_sectionsOf) := goodIn_app (goodIn_of _ (by decide +kernel)) ggX5_layLeast_X5_sectionsOf
set_option maxRecDepth 20000 in
theorem ggX5_layLeast_X5_goesBy : GoodIn wsX5_layLeast wsX5_goesBy := goodIn_r _ [22, 8, 9, 10, 23, 24, 25, 6, 26, 31, 32, 33, 34, 35, 36, 37, 38, 39, 40, 41, 42, 43, 44, 45, 46, 47, 48, 49, 50, 51, 52, 53, 54] (by decide +kernel) (by decide +kernel)
set_option maxRecDepth 20000 in
theorem gX5_layLeast_X5_goesBy : GoodIn wsX5_layLeast (wsV RX5 117 RX5 yX5_goesBy wsX5_goesBy) := goodIn_app (goodIn_of _ (by decide +kernel)) ggX5_layLeast_X5_goesBy
set_option maxRecDepth 20000 in
theorem ggX5_layLeast_X5_darkNow : GoodIn wsX5_layLeast wsX5_darkNow := goodIn_r _ [30, 1, 9, 18, 31, 32, 33, 34, 35, 36, 37, 38, 39, 40, 41, 42, 43, 44, 45, 46, 47, 48, 49, 50, 51, 52, 53, 54] (by decide +kernel) (by decide +kernel)
set_option maxRecDepth 20000 in
theorem gX5_layLeast_X5_darkNow : GoodIn wsX5_layLeast (wsV RX5 121 RX5 yX5_darkNow wsX5_darkNow) := goodIn_app (goodIn_of _ (by decide +kernel)) ggX5_layLeast_X5_darkNow
theorem dX5_layLeast_0 : decode cX5_layLeast 0 = .ok (.iconst 1, 1) := by decide +kernel
theorem dX5_layLeast_1 : decode cX5_layLeast 1 = .ok (.aload_n 0, 1) := by decide +kernel
theorem dX5_layLeast_2 : decode cX5_layLeast 2 = .ok (.getfield 73, 3) := by decide +kernel
theorem dX5_layLeast_5 : decode cX5_layLeast 5 = .ok (.ishl, 1) := by decide +kernel
theorem dX5_layLeast_6 : decode cX5_layLeast 6 = .ok (.istore_n 2, 1) := by decide +kernel
theorem dX5_layLeast_7 : decode cX5_layLeast 7 = .ok (.iconst 1, 1) := by decide +kernel
theorem dX5_layLeast_8 : decode cX5_layLeast 8 = .ok (.istore_n 3, 1) := by decide +kernel
theorem dX5_layLeast_9 : decode cX5_layLeast 9 = .ok (.iconst 0, 1) := by decide +kernel
theorem dX5_layLeast_10 : decode cX5_layLeast 10 = .ok (.istore 4, 2) := by decide +kernel
theorem dX5_layLeast_12 : decode cX5_layLeast 12 = .ok (.iload 4, 2) := by decide +kernel
theorem dX5_layLeast_14 : decode cX5_layLeast 14 = .ok (.iload_n 1, 1) := by decide +kernel
theorem dX5_layLeast_15 : decode cX5_layLeast 15 = .ok (.if_icmp .ge 13, 3) := by decide +kernel
theorem dX5_layLeast_18 : decode cX5_layLeast 18 = .ok (.iload_n 3, 1) := by decide +kernel
theorem dX5_layLeast_19 : decode cX5_layLeast 19 = .ok (.iload_n 2, 1) := by decide +kernel
theorem dX5_layLeast_20 : decode cX5_layLeast 20 = .ok (.imul, 1) := by decide +kernel
theorem dX5_layLeast_21 : decode cX5_layLeast 21 = .ok (.istore_n 3, 1) := by decide +kernel
theorem dX5_layLeast_22 : decode cX5_layLeast 22 = .ok (.iinc 4 1, 3) := by decide +kernel
theorem dX5_layLeast_25 : decode cX5_layLeast 25 = .ok (.goto (-13), 3) := by decide +kernel
theorem dX5_layLeast_28 : decode cX5_layLeast 28 = .ok (.iconst (-1), 1) := by decide +kernel
theorem dX5_layLeast_29 : decode cX5_layLeast 29 = .ok (.istore 4, 2) := by decide +kernel
theorem dX5_layLeast_31 : decode cX5_layLeast 31 = .ok (.iconst 0, 1) := by decide +kernel
theorem dX5_layLeast_32 : decode cX5_layLeast 32 = .ok (.istore 5, 2) := by decide +kernel
theorem dX5_layLeast_34 : decode cX5_layLeast 34 = .ok (.iload 5, 2) := by decide +kernel
theorem dX5_layLeast_36 : decode cX5_layLeast 36 = .ok (.iload_n 3, 1) := by decide +kernel
theorem dX5_layLeast_37 : decode cX5_layLeast 37 = .ok (.if_icmp .ge 119, 3) := by decide +kernel
theorem dX5_layLeast_40 : decode cX5_layLeast 40 = .ok (.iconst 0, 1) := by decide +kernel
theorem dX5_layLeast_41 : decode cX5_layLeast 41 = .ok (.istore 6, 2) := by decide +kernel
theorem dX5_layLeast_43 : decode cX5_layLeast 43 = .ok (.iconst 1, 1) := by decide +kernel
theorem dX5_layLeast_44 : decode cX5_layLeast 44 = .ok (.istore 7, 2) := by decide +kernel
theorem dX5_layLeast_46 : decode cX5_layLeast 46 = .ok (.aload_n 0, 1) := by decide +kernel
theorem dX5_layLeast_47 : decode cX5_layLeast 47 = .ok (.invokevirtual 111, 3) := by decide +kernel
theorem dX5_layLeast_50 : decode cX5_layLeast 50 = .ok (.iload_n 3, 1) := by decide +kernel
theorem dX5_layLeast_51 : decode cX5_layLeast 51 = .ok (.istore 8, 2) := by decide +kernel
theorem dX5_layLeast_53 : decode cX5_layLeast 53 = .ok (.iconst 0, 1) := by decide +kernel
theorem dX5_layLeast_54 : decode cX5_layLeast 54 = .ok (.istore 9, 2) := by decide +kernel
theorem dX5_layLeast_56 : decode cX5_layLeast 56 = .ok (.iload 9, 2) := by decide +kernel
theorem dX5_layLeast_58 : decode cX5_layLeast 58 = .ok (.iload_n 1, 1) := by decide +kernel
theorem dX5_layLeast_59 : decode cX5_layLeast 59 = .ok (.if_icmp .ge 63, 3) := by decide +kernel
theorem dX5_layLeast_62 : decode cX5_layLeast 62 = .ok (.iload 7, 2) := by decide +kernel
theorem dX5_layLeast_64 : decode cX5_layLeast 64 = .ok (.ifCond .eq 58, 3) := by decide +kernel
theorem dX5_layLeast_67 : decode cX5_layLeast 67 = .ok (.iload 8, 2) := by decide +kernel
theorem dX5_layLeast_69 : decode cX5_layLeast 69 = .ok (.iload_n 2, 1) := by decide +kernel
theorem dX5_layLeast_70 : decode cX5_layLeast 70 = .ok (.idiv, 1) := by decide +kernel
theorem dX5_layLeast_71 : decode cX5_layLeast 71 = .ok (.istore 8, 2) := by decide +kernel
theorem dX5_layLeast_73 : decode cX5_layLeast 73 = .ok (.iload 5, 2) := by decide +kernel
theorem dX5_layLeast_75 : decode cX5_layLeast 75 = .ok (.iload 8, 2) := by decide +kernel
theorem dX5_layLeast_77 : decode cX5_layLeast 77 = .ok (.idiv, 1) := by decide +kernel
theorem dX5_layLeast_78 : decode cX5_layLeast 78 = .ok (.iload_n 2, 1) := by decide +kernel
theorem dX5_layLeast_79 : decode cX5_layLeast 79 = .ok (.irem, 1) := by decide +kernel
theorem dX5_layLeast_80 : decode cX5_layLeast 80 = .ok (.istore 10, 2) := by decide +kernel
theorem dX5_layLeast_82 : decode cX5_layLeast 82 = .ok (.iload 6, 2) := by decide +kernel
theorem dX5_layLeast_84 : decode cX5_layLeast 84 = .ok (.iload 10, 2) := by decide +kernel
theorem dX5_layLeast_86 : decode cX5_layLeast 86 = .ok (.invokestatic 124, 3) := by decide +kernel
theorem dX5_layLeast_89 : decode cX5_layLeast 89 = .ok (.iadd, 1) := by decide +kernel
theorem dX5_layLeast_90 : decode cX5_layLeast 90 = .ok (.istore 6, 2) := by decide +kernel
theorem dX5_layLeast_92 : decode cX5_layLeast 92 = .ok (.aload_n 0, 1) := by decide +kernel
theorem dX5_layLeast_93 : decode cX5_layLeast 93 = .ok (.aload_n 0, 1) := by decide +kernel
theorem dX5_layLeast_94 : decode cX5_layLeast 94 = .ok (.iload 10, 2) := by decide +kernel
theorem dX5_layLeast_96 : decode cX5_layLeast 96 = .ok (.invokevirtual 114, 3) := by decide +kernel
theorem dX5_layLeast_99 : decode cX5_layLeast 99 = .ok (.invokevirtual 117, 3) := by decide +kernel
theorem dX5_layLeast_102 : decode cX5_layLeast 102 = .ok (.aload_n 0, 1) := by decide +kernel
theorem dX5_layLeast_103 : decode cX5_layLeast 103 = .ok (.invokevirtual 121, 3) := by decide +kernel
theorem dX5_layLeast_106 : decode cX5_layLeast 106 = .ok (.ifCond .ne 7, 3) := by decide +kernel
theorem dX5_layLeast_109 : decode cX5_layLeast 109 = .ok (.iconst 1, 1) := by decide +kernel
theorem dX5_layLeast_110 : decode cX5_layLeast 110 = .ok (.goto 4, 3) := by decide +kernel
theorem dX5_layLeast_113 : decode cX5_layLeast 113 = .ok (.iconst 0, 1) := by decide +kernel
theorem dX5_layLeast_114 : decode cX5_layLeast 114 = .ok (.istore 7, 2) := by decide +kernel
theorem dX5_layLeast_116 : decode cX5_layLeast 116 = .ok (.iinc 9 1, 3) := by decide +kernel
theorem dX5_layLeast_119 : decode cX5_layLeast 119 = .ok (.goto (-63), 3) := by decide +kernel
theorem dX5_layLeast_122 : decode cX5_layLeast 122 = .ok (.iload 7, 2) := by decide +kernel
theorem dX5_layLeast_124 : decode cX5_layLeast 124 = .ok (.ifCond .eq 26, 3) := by decide +kernel
theorem dX5_layLeast_127 : decode cX5_layLeast 127 = .ok (.iload 4, 2) := by decide +kernel
theorem dX5_layLeast_129 : decode cX5_layLeast 129 = .ok (.iconst (-1), 1) := by decide +kernel
theorem dX5_layLeast_130 : decode cX5_layLeast 130 = .ok (.if_icmp .eq 10, 3) := by decide +kernel
theorem dX5_layLeast_133 : decode cX5_layLeast 133 = .ok (.iload 6, 2) := by decide +kernel
theorem dX5_layLeast_135 : decode cX5_layLeast 135 = .ok (.iload 4, 2) := by decide +kernel
theorem dX5_layLeast_137 : decode cX5_layLeast 137 = .ok (.if_icmp .ge 13, 3) := by decide +kernel
theorem dX5_layLeast_140 : decode cX5_layLeast 140 = .ok (.iload 6, 2) := by decide +kernel
theorem dX5_layLeast_142 : decode cX5_layLeast 142 = .ok (.istore 4, 2) := by decide +kernel
theorem dX5_layLeast_144 : decode cX5_layLeast 144 = .ok (.aload_n 0, 1) := by decide +kernel
theorem dX5_layLeast_145 : decode cX5_layLeast 145 = .ok (.iload 5, 2) := by decide +kernel
theorem dX5_layLeast_147 : decode cX5_layLeast 147 = .ok (.putfield 127, 3) := by decide +kernel
theorem dX5_layLeast_150 : decode cX5_layLeast 150 = .ok (.iinc 5 1, 3) := by decide +kernel
theorem dX5_layLeast_153 : decode cX5_layLeast 153 = .ok (.goto (-119), 3) := by decide +kernel
theorem dX5_layLeast_156 : decode cX5_layLeast 156 = .ok (.iload 4, 2) := by decide +kernel
theorem dX5_layLeast_158 : decode cX5_layLeast 158 = .ok (.ireturn, 1) := by decide +kernel
set_option maxRecDepth 20000 in
theorem ggX5_leastOf_X5_layLeast : GoodIn wsX5_leastOf wsX5_layLeast := goodIn_r _ [7, 2, 1, 8, 9, 10, 6, 11, 12, 13, 14, 15, 16, 17, 18, 19, 20, 21, 22, 23, 24, 25, 26, 27, 28, 29, 30, 31, 32, 33, 34, 35, 36, 37, 38, 39, 40, 41, 42, 43, 44, 45, 46, 47, 48, 49, 50, 51, 52, 53, 54, 55, 56, 57, 58] (by decide +kernel) (by decide +kernel)
set_option maxRecDepth 20000 in
theorem gX5_leastOf_X5_layLeast : GoodIn wsX5_leastOf (wsV RX5 130 RX5 yX5_layLeast wsX5_layLeast) := goodIn_app (goodIn_of _ (by decide +kernel)) ggX5_leastOf_X5_layLeast
theorem dX5_leastOf_0 : decode cX5_leastOf 0 = .ok (.aload_n 0, 1) := by decide +kernel
theorem dX5_leastOf_1 : decode cX5_leastOf 1 = .ok (.iload_n 1, 1) := by decide +kernel
theorem dX5_leastOf_2 : decode cX5_leastOf 2 = .ok (.invokevirtual 130, 3) := by decide +kernel
theorem dX5_leastOf_5 : decode cX5_leastOf 5 = .ok (.istore_n 3, 1) := by decide +kernel
theorem dX5_leastOf_6 : decode cX5_leastOf 6 = .ok (.iload_n 2, 1) := by decide +kernel
theorem dX5_leastOf_7 : decode cX5_leastOf 7 = .ok (.ifCond .ne 5, 3) := by decide +kernel
theorem dX5_leastOf_10 : decode cX5_leastOf 10 = .ok (.iload_n 3, 1) := by decide +kernel
theorem dX5_leastOf_11 : decode cX5_leastOf 11 = .ok (.ireturn, 1) := by decide +kernel
theorem dX5_leastOf_12 : decode cX5_leastOf 12 = .ok (.iload_n 2, 1) := by decide +kernel
theorem dX5_leastOf_13 : decode cX5_leastOf 13 = .ok (.bipush 10, 2) := by decide +kernel
theorem dX5_leastOf_15 : decode cX5_leastOf 15 = .ok (.isub, 1) := by decide +kernel
theorem dX5_leastOf_16 : decode cX5_leastOf 16 = .ok (.istore 4, 2) := by decide +kernel
theorem dX5_leastOf_18 : decode cX5_leastOf 18 = .ok (.iload 4, 2) := by decide +kernel
theorem dX5_leastOf_20 : decode cX5_leastOf 20 = .ok (.iload_n 1, 1) := by decide +kernel
theorem dX5_leastOf_21 : decode cX5_leastOf 21 = .ok (.if_icmp .ge 31, 3) := by decide +kernel
theorem dX5_leastOf_24 : decode cX5_leastOf 24 = .ok (.aload_n 0, 1) := by decide +kernel
theorem dX5_leastOf_25 : decode cX5_leastOf 25 = .ok (.getfield 127, 3) := by decide +kernel
theorem dX5_leastOf_28 : decode cX5_leastOf 28 = .ok (.aload_n 0, 1) := by decide +kernel
theorem dX5_leastOf_29 : decode cX5_leastOf 29 = .ok (.getfield 73, 3) := by decide +kernel
theorem dX5_leastOf_32 : decode cX5_leastOf 32 = .ok (.iload_n 1, 1) := by decide +kernel
theorem dX5_leastOf_33 : decode cX5_leastOf 33 = .ok (.iconst 1, 1) := by decide +kernel
theorem dX5_leastOf_34 : decode cX5_leastOf 34 = .ok (.isub, 1) := by decide +kernel
theorem dX5_leastOf_35 : decode cX5_leastOf 35 = .ok (.iload 4, 2) := by decide +kernel
theorem dX5_leastOf_37 : decode cX5_leastOf 37 = .ok (.isub, 1) := by decide +kernel
theorem dX5_leastOf_38 : decode cX5_leastOf 38 = .ok (.imul, 1) := by decide +kernel
theorem dX5_leastOf_39 : decode cX5_leastOf 39 = .ok (.ishr, 1) := by decide +kernel
theorem dX5_leastOf_40 : decode cX5_leastOf 40 = .ok (.iconst 1, 1) := by decide +kernel
theorem dX5_leastOf_41 : decode cX5_leastOf 41 = .ok (.aload_n 0, 1) := by decide +kernel
theorem dX5_leastOf_42 : decode cX5_leastOf 42 = .ok (.getfield 73, 3) := by decide +kernel
theorem dX5_leastOf_45 : decode cX5_leastOf 45 = .ok (.ishl, 1) := by decide +kernel
theorem dX5_leastOf_46 : decode cX5_leastOf 46 = .ok (.iconst 1, 1) := by decide +kernel
theorem dX5_leastOf_47 : decode cX5_leastOf 47 = .ok (.isub, 1) := by decide +kernel
theorem dX5_leastOf_48 : decode cX5_leastOf 48 = .ok (.iand, 1) := by decide +kernel
theorem dX5_leastOf_49 : decode cX5_leastOf 49 = .ok (.goto 4, 3) := by decide +kernel
theorem dX5_leastOf_52 : decode cX5_leastOf 52 = .ok (.iconst (-1), 1) := by decide +kernel
theorem dX5_leastOf_53 : decode cX5_leastOf 53 = .ok (.ireturn, 1) := by decide +kernel
set_option maxRecDepth 20000 in
theorem ggX5_least_X5_in : GoodIn wsX5_least wsX5_in := goodIn_r _ [7] (by decide +kernel) (by decide +kernel)
set_option maxRecDepth 20000 in
theorem gX5_least_X5_in : GoodIn wsX5_least (va_wsS RX5 46 yX5_in wsX5_in) := goodIn_app (goodIn_of _ (by decide +kernel)) ggX5_least_X5_in
set_option maxRecDepth 20000 in
theorem ggX5_least_X5_lacks : GoodIn wsX5_least wsX5_lacks := goodIn_r _ [11, 12, 49, 50, 51, 52, 53, 54, 55, 56, 57, 58, 59, 60, 61, 62, 63, 64, 65, 66, 67, 68, 69, 70, 71, 72] (by decide +kernel) (by decide +kernel)
set_option maxRecDepth 20000 in
theorem gX5_least_X5_lacks : GoodIn wsX5_least (wsV RX5 107 RX5 yX5_lacks wsX5_lacks) := goodIn_app (goodIn_of _ (by decide +kernel)) ggX5_least_X5_lacks
set_option maxRecDepth 20000 in
theorem ggX5_least_X5_leastOf : GoodIn wsX5_least wsX5_leastOf := goodIn_r _ [16, 17, 18, 19, 20, 21, 6, 22, 23, 24, 25, 26, 12, 27, 28, 29, 30, 31, 32, 33, 34, 35, 36, 37, 38, 39, 40, 41, 42, 43, 44, 45, 46, 47, 48, 49, 50, 51, 52, 53, 54, 55, 56, 57, 58, 59, 60, 61, 62, 63, 64, 65, 66, 67, 68, 69, 70, 71, 72] (by decide +kernel) (by decide +kernel)
set_option maxRecDepth 20000 in
theorem gX5_least_X5_leastOf : GoodIn wsX5_least (wsV RX5 139 RX5 yX5_leastOf wsX5_leastOf) := goodIn_app (goodIn_of _ (by decide +kernel)) ggX5_least_X5_leastOf
theorem dX5_least_0 : decode cX5_least 0 = .ok (.iload_n 1, 1) := by decide +kernel
theorem dX5_least_1 : decode cX5_least 1 = .ok (.i2l, 1) := by decide +kernel
theorem dX5_least_2 : decode cX5_least 2 = .ok (.lconst 1, 1) := by decide +kernel
theorem dX5_least_3 : decode cX5_least 3 = .ok (.ldc2_w 133, 3) := by decide +kernel
theorem dX5_least_6 : decode cX5_least 6 = .ok (.invokestatic 46, 3) := by decide +kernel
theorem dX5_least_9 : decode cX5_least 9 = .ok (.ifCond .eq 21, 3) := by decide +kernel
theorem dX5_least_12 : decode cX5_least 12 = .ok (.iload_n 2, 1) := by decide +kernel
theorem dX5_least_13 : decode cX5_least 13 = .ok (.ifCond .eq 20, 3) := by decide +kernel
theorem dX5_least_16 : decode cX5_least 16 = .ok (.iload_n 2, 1) := by decide +kernel
theorem dX5_least_17 : decode cX5_least 17 = .ok (.i2l, 1) := by decide +kernel
theorem dX5_least_18 : decode cX5_least 18 = .ok (.ldc2_w 135, 3) := by decide +kernel
theorem dX5_least_21 : decode cX5_least 21 = .ok (.ldc2_w 137, 3) := by decide +kernel
theorem dX5_least_24 : decode cX5_least 24 = .ok (.invokestatic 46, 3) := by decide +kernel
theorem dX5_least_27 : decode cX5_least 27 = .ok (.ifCond .ne 6, 3) := by decide +kernel
theorem dX5_least_30 : decode cX5_least 30 = .ok (.bipush (-102), 2) := by decide +kernel
theorem dX5_least_32 : decode cX5_least 32 = .ok (.ireturn, 1) := by decide +kernel
theorem dX5_least_33 : decode cX5_least 33 = .ok (.aload_n 0, 1) := by decide +kernel
theorem dX5_least_34 : decode cX5_least 34 = .ok (.invokevirtual 107, 3) := by decide +kernel
theorem dX5_least_37 : decode cX5_least 37 = .ok (.ifCond .eq 8, 3) := by decide +kernel
theorem dX5_least_40 : decode cX5_least 40 = .ok (.bipush (-103), 2) := by decide +kernel
theorem dX5_least_42 : decode cX5_least 42 = .ok (.goto 9, 3) := by decide +kernel
theorem dX5_least_45 : decode cX5_least 45 = .ok (.aload_n 0, 1) := by decide +kernel
theorem dX5_least_46 : decode cX5_least 46 = .ok (.iload_n 1, 1) := by decide +kernel
theorem dX5_least_47 : decode cX5_least 47 = .ok (.iload_n 2, 1) := by decide +kernel
theorem dX5_least_48 : decode cX5_least 48 = .ok (.invokevirtual 139, 3) := by decide +kernel
theorem dX5_least_51 : decode cX5_least 51 = .ok (.ireturn, 1) := by decide +kernel
theorem dX5_areAllLit_0 : decode cX5_areAllLit 0 = .ok (.iconst 1, 1) := by decide +kernel
theorem dX5_areAllLit_1 : decode cX5_areAllLit 1 = .ok (.istore_n 1, 1) := by decide +kernel
theorem dX5_areAllLit_2 : decode cX5_areAllLit 2 = .ok (.iconst 0, 1) := by decide +kernel
theorem dX5_areAllLit_3 : decode cX5_areAllLit 3 = .ok (.istore_n 2, 1) := by decide +kernel
theorem dX5_areAllLit_4 : decode cX5_areAllLit 4 = .ok (.iload_n 2, 1) := by decide +kernel
theorem dX5_areAllLit_5 : decode cX5_areAllLit 5 = .ok (.aload_n 0, 1) := by decide +kernel
theorem dX5_areAllLit_6 : decode cX5_areAllLit 6 = .ok (.getfield 67, 3) := by decide +kernel
theorem dX5_areAllLit_9 : decode cX5_areAllLit 9 = .ok (.if_icmp .ge 28, 3) := by decide +kernel
theorem dX5_areAllLit_12 : decode cX5_areAllLit 12 = .ok (.iload_n 1, 1) := by decide +kernel
theorem dX5_areAllLit_13 : decode cX5_areAllLit 13 = .ok (.ifCond .eq 16, 3) := by decide +kernel
theorem dX5_areAllLit_16 : decode cX5_areAllLit 16 = .ok (.aload_n 0, 1) := by decide +kernel
theorem dX5_areAllLit_17 : decode cX5_areAllLit 17 = .ok (.getfield 19, 3) := by decide +kernel
theorem dX5_areAllLit_20 : decode cX5_areAllLit 20 = .ok (.iload_n 2, 1) := by decide +kernel
theorem dX5_areAllLit_21 : decode cX5_areAllLit 21 = .ok (.iaload, 1) := by decide +kernel
theorem dX5_areAllLit_22 : decode cX5_areAllLit 22 = .ok (.ifCond .le 7, 3) := by decide +kernel
theorem dX5_areAllLit_25 : decode cX5_areAllLit 25 = .ok (.iconst 1, 1) := by decide +kernel
theorem dX5_areAllLit_26 : decode cX5_areAllLit 26 = .ok (.goto 4, 3) := by decide +kernel
theorem dX5_areAllLit_29 : decode cX5_areAllLit 29 = .ok (.iconst 0, 1) := by decide +kernel
theorem dX5_areAllLit_30 : decode cX5_areAllLit 30 = .ok (.istore_n 1, 1) := by decide +kernel
theorem dX5_areAllLit_31 : decode cX5_areAllLit 31 = .ok (.iinc 2 1, 3) := by decide +kernel
theorem dX5_areAllLit_34 : decode cX5_areAllLit 34 = .ok (.goto (-30), 3) := by decide +kernel
theorem dX5_areAllLit_37 : decode cX5_areAllLit 37 = .ok (.iload_n 1, 1) := by decide +kernel
theorem dX5_areAllLit_38 : decode cX5_areAllLit 38 = .ok (.ireturn, 1) := by decide +kernel
set_option maxRecDepth 20000 in
theorem ggX5_isRound_X5_asItIs : GoodIn wsX5_isRound wsX5_asItIs := goodIn_r _ [6, 7, 8, 9, 29, 30, 31, 32, 33, 34, 35, 36, 37, 38, 39, 40, 41, 42, 43, 44, 45, 46, 47, 48, 49, 50, 51, 52] (by decide +kernel) (by decide +kernel)
set_option maxRecDepth 20000 in
theorem gX5_isRound_X5_asItIs : GoodIn wsX5_isRound (wsV RX5 111 RX5 yX5_asItIs wsX5_asItIs) := goodIn_app (goodIn_of _ (by decide +kernel)) ggX5_isRound_X5_asItIs
end
section
set_option maxRecDepth 20000 in
theorem ggX5_isRound_X5_isLamp : GoodIn wsX5_isRound wsX5_isLamp := goodIn_r _ [13, 7, 14, 15, 5, 16, 29, 30, 31, 32, 33, 34, 35, 36, 37, 38, 39, 40, 41, 42, 43, 44, 45, 46, 47, 48, 49, 50, 51, 52] (by decide +kernel) (by decide +kernel)
set_option maxRecDepth 20000 in
theorem gX5_isRound_X5_isLamp : GoodIn wsX5_isRound (wsV RX5 91 RX5 yX5_isLamp wsX5_isLamp) := goodIn_app (goodIn_of _ (by decide +kernel)) ggX5_isRound_X5_isLamp
set_option maxRecDepth 20000 in
theorem ggX5_isRound_X5_goesBy : GoodIn wsX5_isRound wsX5_goesBy := goodIn_r _ [20, 7, 8, 9, 21, 22, 23, 5, 24, 29, 30, 31, 32, 33, 34, 35, 36, 37, 38, 39, 40, 41, 42, 43, 44, 45, 46, 47, 48, 49, 50, 51, 52] (by decide +kernel) (by decide +kernel)
set_option maxRecDepth 20000 in
theorem gX5_isRound_X5_goesBy : GoodIn wsX5_isRound (wsV RX5 117 RX5 yX5_goesBy wsX5_goesBy) := goodIn_app (goodIn_of _ (by decide +kernel)) ggX5_isRound_X5_goesBy
set_option maxRecDepth 20000 in
theorem ggX5_isRound_X5_areAllLit : GoodIn wsX5_isRound wsX5_areAllLit := goodIn_r _ [28, 7, 8, 29, 30, 31, 32, 33, 34, 35, 36, 37, 38, 39, 40, 41, 42, 43, 44, 45, 46, 47, 48, 49, 50, 51, 52] (by decide +kernel) (by decide +kernel)
set_option maxRecDepth 20000 in
theorem gX5_isRound_X5_areAllLit : GoodIn wsX5_isRound (wsV RX5 142 RX5 yX5_areAllLit wsX5_areAllLit) := goodIn_app (goodIn_of _ (by decide +kernel)) ggX5_isRound_X5_areAllLit
theorem dX5_isRound_0 : decode cX5_isRound 0 = .ok (.iload_n 3, 1) := by decide +kernel
theorem dX5_isRound_1 : decode cX5_isRound 1 = .ok (.istore 4, 2) := by decide +kernel
theorem dX5_isRound_3 : decode cX5_isRound 3 = .ok (.iload_n 2, 1) := by decide +kernel
theorem dX5_isRound_4 : decode cX5_isRound 4 = .ok (.iconst 2, 1) := by decide +kernel
theorem dX5_isRound_5 : decode cX5_isRound 5 = .ok (.isub, 1) := by decide +kernel
theorem dX5_isRound_6 : decode cX5_isRound 6 = .ok (.istore 5, 2) := by decide +kernel
theorem dX5_isRound_8 : decode cX5_isRound 8 = .ok (.iload 5, 2) := by decide +kernel
theorem dX5_isRound_10 : decode cX5_isRound 10 = .ok (.ifCond .lt 26, 3) := by decide +kernel
theorem dX5_isRound_13 : decode cX5_isRound 13 = .ok (.aload_n 0, 1) := by decide +kernel
theorem dX5_isRound_14 : decode cX5_isRound 14 = .ok (.getfield 22, 3) := by decide +kernel
theorem dX5_isRound_17 : decode cX5_isRound 17 = .ok (.iload 5, 2) := by decide +kernel
theorem dX5_isRound_19 : decode cX5_isRound 19 = .ok (.iload 4, 2) := by decide +kernel
theorem dX5_isRound_21 : decode cX5_isRound 21 = .ok (.iconst 3, 1) := by decide +kernel
theorem dX5_isRound_22 : decode cX5_isRound 22 = .ok (.irem, 1) := by decide +kernel
theorem dX5_isRound_23 : decode cX5_isRound 23 = .ok (.iastore, 1) := by decide +kernel
theorem dX5_isRound_24 : decode cX5_isRound 24 = .ok (.iload 4, 2) := by decide +kernel
theorem dX5_isRound_26 : decode cX5_isRound 26 = .ok (.iconst 3, 1) := by decide +kernel
theorem dX5_isRound_27 : decode cX5_isRound 27 = .ok (.idiv, 1) := by decide +kernel
theorem dX5_isRound_28 : decode cX5_isRound 28 = .ok (.istore 4, 2) := by decide +kernel
theorem dX5_isRound_30 : decode cX5_isRound 30 = .ok (.iinc 5 (-1), 3) := by decide +kernel
theorem dX5_isRound_33 : decode cX5_isRound 33 = .ok (.goto (-25), 3) := by decide +kernel
theorem dX5_isRound_36 : decode cX5_isRound 36 = .ok (.aload_n 0, 1) := by decide +kernel
theorem dX5_isRound_37 : decode cX5_isRound 37 = .ok (.invokevirtual 111, 3) := by decide +kernel
theorem dX5_isRound_40 : decode cX5_isRound 40 = .ok (.iload_n 1, 1) := by decide +kernel
theorem dX5_isRound_41 : decode cX5_isRound 41 = .ok (.istore 5, 2) := by decide +kernel
theorem dX5_isRound_43 : decode cX5_isRound 43 = .ok (.iconst 0, 1) := by decide +kernel
theorem dX5_isRound_44 : decode cX5_isRound 44 = .ok (.istore 6, 2) := by decide +kernel
theorem dX5_isRound_46 : decode cX5_isRound 46 = .ok (.iload 6, 2) := by decide +kernel
theorem dX5_isRound_48 : decode cX5_isRound 48 = .ok (.iload_n 2, 1) := by decide +kernel
theorem dX5_isRound_49 : decode cX5_isRound 49 = .ok (.if_icmp .ge 72, 3) := by decide +kernel
theorem dX5_isRound_52 : decode cX5_isRound 52 = .ok (.aload_n 0, 1) := by decide +kernel
theorem dX5_isRound_53 : decode cX5_isRound 53 = .ok (.iload 5, 2) := by decide +kernel
theorem dX5_isRound_55 : decode cX5_isRound 55 = .ok (.invokevirtual 91, 3) := by decide +kernel
theorem dX5_isRound_58 : decode cX5_isRound 58 = .ok (.ifCond .ne 5, 3) := by decide +kernel
theorem dX5_isRound_61 : decode cX5_isRound 61 = .ok (.iconst 0, 1) := by decide +kernel
theorem dX5_isRound_62 : decode cX5_isRound 62 = .ok (.ireturn, 1) := by decide +kernel
theorem dX5_isRound_63 : decode cX5_isRound 63 = .ok (.aload_n 0, 1) := by decide +kernel
theorem dX5_isRound_64 : decode cX5_isRound 64 = .ok (.iconst 1, 1) := by decide +kernel
theorem dX5_isRound_65 : decode cX5_isRound 65 = .ok (.iload 5, 2) := by decide +kernel
theorem dX5_isRound_67 : decode cX5_isRound 67 = .ok (.ishl, 1) := by decide +kernel
theorem dX5_isRound_68 : decode cX5_isRound 68 = .ok (.invokevirtual 117, 3) := by decide +kernel
theorem dX5_isRound_71 : decode cX5_isRound 71 = .ok (.aload_n 0, 1) := by decide +kernel
theorem dX5_isRound_72 : decode cX5_isRound 72 = .ok (.getfield 22, 3) := by decide +kernel
theorem dX5_isRound_75 : decode cX5_isRound 75 = .ok (.iload_n 2, 1) := by decide +kernel
theorem dX5_isRound_76 : decode cX5_isRound 76 = .ok (.iconst 1, 1) := by decide +kernel
theorem dX5_isRound_77 : decode cX5_isRound 77 = .ok (.isub, 1) := by decide +kernel
theorem dX5_isRound_78 : decode cX5_isRound 78 = .ok (.iload 5, 2) := by decide +kernel
theorem dX5_isRound_80 : decode cX5_isRound 80 = .ok (.ifCond .ne 7, 3) := by decide +kernel
theorem dX5_isRound_83 : decode cX5_isRound 83 = .ok (.iconst 1, 1) := by decide +kernel
theorem dX5_isRound_84 : decode cX5_isRound 84 = .ok (.goto 4, 3) := by decide +kernel
theorem dX5_isRound_87 : decode cX5_isRound 87 = .ok (.iconst 0, 1) := by decide +kernel
theorem dX5_isRound_88 : decode cX5_isRound 88 = .ok (.iastore, 1) := by decide +kernel
theorem dX5_isRound_89 : decode cX5_isRound 89 = .ok (.iload 5, 2) := by decide +kernel
theorem dX5_isRound_91 : decode cX5_isRound 91 = .ok (.iload 6, 2) := by decide +kernel
theorem dX5_isRound_93 : decode cX5_isRound 93 = .ok (.iload_n 2, 1) := by decide +kernel
theorem dX5_isRound_94 : decode cX5_isRound 94 = .ok (.iconst 1, 1) := by decide +kernel
theorem dX5_isRound_95 : decode cX5_isRound 95 = .ok (.isub, 1) := by decide +kernel
theorem dX5_isRound_96 : decode cX5_isRound 96 = .ok (.if_icmp .ge 15, 3) := by decide +kernel
theorem dX5_isRound_99 : decode cX5_isRound 99 = .ok (.aload_n 0, 1) := by decide +kernel
theorem dX5_isRound_100 : decode cX5_isRound 100 = .ok (.getfield 22, 3) := by decide +kernel
theorem dX5_isRound_103 : decode cX5_isRound 103 = .ok (.iload 6, 2) := by decide +kernel
theorem dX5_isRound_105 : decode cX5_isRound 105 = .ok (.iaload, 1) := by decide +kernel
theorem dX5_isRound_106 : decode cX5_isRound 106 = .ok (.iconst 1, 1) := by decide +kernel
theorem dX5_isRound_107 : decode cX5_isRound 107 = .ok (.isub, 1) := by decide +kernel
theorem dX5_isRound_108 : decode cX5_isRound 108 = .ok (.goto 4, 3) := by decide +kernel
theorem dX5_isRound_111 : decode cX5_isRound 111 = .ok (.iconst 0, 1) := by decide +kernel
theorem dX5_isRound_112 : decode cX5_isRound 112 = .ok (.iadd, 1) := by decide +kernel
theorem dX5_isRound_113 : decode cX5_isRound 113 = .ok (.istore 5, 2) := by decide +kernel
theorem dX5_isRound_115 : decode cX5_isRound 115 = .ok (.iinc 6 1, 3) := by decide +kernel
theorem dX5_isRound_118 : decode cX5_isRound 118 = .ok (.goto (-72), 3) := by decide +kernel
theorem dX5_isRound_121 : decode cX5_isRound 121 = .ok (.aload_n 0, 1) := by decide +kernel
theorem dX5_isRound_122 : decode cX5_isRound 122 = .ok (.invokevirtual 142, 3) := by decide +kernel
theorem dX5_isRound_125 : decode cX5_isRound 125 = .ok (.ireturn, 1) := by decide +kernel
set_option maxRecDepth 20000 in
theorem ggX5_layRound_X5_isRound : GoodIn wsX5_layRound wsX5_isRound := goodIn_r _ [7, 1, 8, 9, 10, 6, 11, 12, 13, 14, 15, 16, 17, 18, 19, 20, 21, 22, 23, 24, 25, 26, 27, 28, 29, 30, 31, 32, 33, 37, 38, 39, 40, 41, 42, 43, 44, 45, 46, 47, 48, 49, 50, 51, 52, 53, 54, 55, 56, 57, 58, 59, 60] (by decide +kernel) (by decide +kernel)
set_option maxRecDepth 20000 in
theorem gX5_layRound_X5_isRound : GoodIn wsX5_layRound (wsV RX5 145 RX5 yX5_isRound wsX5_isRound) := goodIn_app (goodIn_of _ (by decide +kernel)) ggX5_layRound_X5_isRound
set_option maxRecDepth 20000 in
theorem ggX5_layRound_X5_copy : GoodIn wsX5_layRound wsX5_copy := goodIn_r _ [36] (by decide +kernel) (by decide +kernel)
set_option maxRecDepth 20000 in
theorem gX5_layRound_X5_copy : GoodIn wsX5_layRound (va_wsS RX5 149 yX5_copy wsX5_copy) := goodIn_app (goodIn_of _ (by decide +kernel)) ggX5_layRound_X5_copy
theorem dX5_layRound_0 : decode cX5_layRound 0 = .ok (.iconst 1, 1) := by decide +kernel
theorem dX5_layRound_1 : decode cX5_layRound 1 = .ok (.istore_n 2, 1) := by decide +kernel
theorem dX5_layRound_2 : decode cX5_layRound 2 = .ok (.iconst 1, 1) := by decide +kernel
theorem dX5_layRound_3 : decode cX5_layRound 3 = .ok (.istore_n 3, 1) := by decide +kernel
theorem dX5_layRound_4 : decode cX5_layRound 4 = .ok (.iload_n 3, 1) := by decide +kernel
theorem dX5_layRound_5 : decode cX5_layRound 5 = .ok (.bipush 8, 2) := by decide +kernel
theorem dX5_layRound_7 : decode cX5_layRound 7 = .ok (.if_icmp .ge 52, 3) := by decide +kernel
theorem dX5_layRound_10 : decode cX5_layRound 10 = .ok (.iconst 0, 1) := by decide +kernel
theorem dX5_layRound_11 : decode cX5_layRound 11 = .ok (.istore 4, 2) := by decide +kernel
theorem dX5_layRound_13 : decode cX5_layRound 13 = .ok (.iload 4, 2) := by decide +kernel
theorem dX5_layRound_15 : decode cX5_layRound 15 = .ok (.iload_n 2, 1) := by decide +kernel
theorem dX5_layRound_16 : decode cX5_layRound 16 = .ok (.if_icmp .ge 33, 3) := by decide +kernel
theorem dX5_layRound_19 : decode cX5_layRound 19 = .ok (.aload_n 0, 1) := by decide +kernel
theorem dX5_layRound_20 : decode cX5_layRound 20 = .ok (.iload_n 1, 1) := by decide +kernel
theorem dX5_layRound_21 : decode cX5_layRound 21 = .ok (.iload_n 3, 1) := by decide +kernel
theorem dX5_layRound_22 : decode cX5_layRound 22 = .ok (.iload 4, 2) := by decide +kernel
theorem dX5_layRound_24 : decode cX5_layRound 24 = .ok (.invokevirtual 145, 3) := by decide +kernel
theorem dX5_layRound_27 : decode cX5_layRound 27 = .ok (.ifCond .eq 16, 3) := by decide +kernel
theorem dX5_layRound_30 : decode cX5_layRound 30 = .ok (.aload_n 0, 1) := by decide +kernel
theorem dX5_layRound_31 : decode cX5_layRound 31 = .ok (.getfield 22, 3) := by decide +kernel
theorem dX5_layRound_34 : decode cX5_layRound 34 = .ok (.aload_n 0, 1) := by decide +kernel
theorem dX5_layRound_35 : decode cX5_layRound 35 = .ok (.getfield 25, 3) := by decide +kernel
theorem dX5_layRound_38 : decode cX5_layRound 38 = .ok (.invokestatic 149, 3) := by decide +kernel
theorem dX5_layRound_41 : decode cX5_layRound 41 = .ok (.iload_n 3, 1) := by decide +kernel
theorem dX5_layRound_42 : decode cX5_layRound 42 = .ok (.ireturn, 1) := by decide +kernel
theorem dX5_layRound_43 : decode cX5_layRound 43 = .ok (.iinc 4 1, 3) := by decide +kernel
theorem dX5_layRound_46 : decode cX5_layRound 46 = .ok (.goto (-33), 3) := by decide +kernel
theorem dX5_layRound_49 : decode cX5_layRound 49 = .ok (.iload_n 2, 1) := by decide +kernel
theorem dX5_layRound_50 : decode cX5_layRound 50 = .ok (.iconst 3, 1) := by decide +kernel
theorem dX5_layRound_51 : decode cX5_layRound 51 = .ok (.imul, 1) := by decide +kernel
theorem dX5_layRound_52 : decode cX5_layRound 52 = .ok (.istore_n 2, 1) := by decide +kernel
theorem dX5_layRound_53 : decode cX5_layRound 53 = .ok (.iinc 3 1, 3) := by decide +kernel
theorem dX5_layRound_56 : decode cX5_layRound 56 = .ok (.goto (-52), 3) := by decide +kernel
theorem dX5_layRound_59 : decode cX5_layRound 59 = .ok (.iconst (-1), 1) := by decide +kernel
theorem dX5_layRound_60 : decode cX5_layRound 60 = .ok (.ireturn, 1) := by decide +kernel
set_option maxRecDepth 20000 in
theorem ggX5_round_X5_isLamp : GoodIn wsX5_round wsX5_isLamp := goodIn_r _ [9, 10, 11, 12, 8, 13, 44, 45, 46, 47, 48, 49, 50, 51, 52, 53, 54, 55, 56, 57, 58, 59, 60, 61, 62, 63, 64, 65, 66, 67] (by decide +kernel) (by decide +kernel)
set_option maxRecDepth 20000 in
theorem gX5_round_X5_isLamp : GoodIn wsX5_round (wsV RX5 91 RX5 yX5_isLamp wsX5_isLamp) := goodIn_app (goodIn_of _ (by decide +kernel)) ggX5_round_X5_isLamp
set_option maxRecDepth 20000 in
theorem ggX5_round_X5_in : GoodIn wsX5_round wsX5_in := goodIn_r _ [13] (by decide +kernel) (by decide +kernel)
set_option maxRecDepth 20000 in
theorem gX5_round_X5_in : GoodIn wsX5_round (va_wsS RX5 46 yX5_in wsX5_in) := goodIn_app (goodIn_of _ (by decide +kernel)) ggX5_round_X5_in
set_option maxRecDepth 20000 in
theorem ggX5_round_X5_layRound : GoodIn wsX5_round wsX5_layRound := goodIn_r _ [17, 18, 4, 19, 20, 21, 8, 22, 23, 24, 25, 26, 10, 27, 28, 5, 6, 7, 9, 11, 12, 13, 29, 30, 31, 32, 33, 34, 35, 36, 37, 38, 39, 40, 41, 42, 43, 44, 45, 46, 47, 48, 49, 50, 51, 52, 53, 54, 55, 56, 57, 58, 59, 60, 61, 62, 63, 64, 65, 66, 67] (by decide +kernel) (by decide +kernel)
set_option maxRecDepth 20000 in
theorem gX5_round_X5_layRound : GoodIn wsX5_round (wsV RX5 158 RX5 yX5_layRound wsX5_layRound) := goodIn_app (goodIn_of _ (by decide +kernel)) ggX5_round_X5_layRound
theorem dX5_round_0 : decode cX5_round 0 = .ok (.aload_n 0, 1) := by decide +kernel
theorem dX5_round_1 : decode cX5_round 1 = .ok (.iload_n 1, 1) := by decide +kernel
theorem dX5_round_2 : decode cX5_round 2 = .ok (.invokevirtual 91, 3) := by decide +kernel
theorem dX5_round_5 : decode cX5_round 5 = .ok (.ifCond .ne 6, 3) := by decide +kernel
theorem dX5_round_8 : decode cX5_round 8 = .ok (.bipush (-101), 2) := by decide +kernel
theorem dX5_round_10 : decode cX5_round 10 = .ok (.ireturn, 1) := by decide +kernel
theorem dX5_round_11 : decode cX5_round 11 = .ok (.iload_n 2, 1) := by decide +kernel
theorem dX5_round_12 : decode cX5_round 12 = .ok (.ifCond .eq 20, 3) := by decide +kernel
theorem dX5_round_15 : decode cX5_round 15 = .ok (.iload_n 2, 1) := by decide +kernel
theorem dX5_round_16 : decode cX5_round 16 = .ok (.i2l, 1) := by decide +kernel
theorem dX5_round_17 : decode cX5_round 17 = .ok (.ldc2_w 135, 3) := by decide +kernel
theorem dX5_round_20 : decode cX5_round 20 = .ok (.ldc2_w 153, 3) := by decide +kernel
theorem dX5_round_23 : decode cX5_round 23 = .ok (.invokestatic 46, 3) := by decide +kernel
theorem dX5_round_26 : decode cX5_round 26 = .ok (.ifCond .ne 6, 3) := by decide +kernel
theorem dX5_round_29 : decode cX5_round 29 = .ok (.bipush (-102), 2) := by decide +kernel
theorem dX5_round_31 : decode cX5_round 31 = .ok (.ireturn, 1) := by decide +kernel
theorem dX5_round_32 : decode cX5_round 32 = .ok (.aload_n 0, 1) := by decide +kernel
theorem dX5_round_33 : decode cX5_round 33 = .ok (.getfield 155, 3) := by decide +kernel
theorem dX5_round_36 : decode cX5_round 36 = .ok (.bipush 20, 2) := by decide +kernel
theorem dX5_round_38 : decode cX5_round 38 = .ok (.if_icmp .ne 6, 3) := by decide +kernel
theorem dX5_round_41 : decode cX5_round 41 = .ok (.bipush (-103), 2) := by decide +kernel
theorem dX5_round_43 : decode cX5_round 43 = .ok (.ireturn, 1) := by decide +kernel
theorem dX5_round_44 : decode cX5_round 44 = .ok (.aload_n 0, 1) := by decide +kernel
theorem dX5_round_45 : decode cX5_round 45 = .ok (.dup, 1) := by decide +kernel
theorem dX5_round_46 : decode cX5_round 46 = .ok (.getfield 155, 3) := by decide +kernel
theorem dX5_round_49 : decode cX5_round 49 = .ok (.iconst 1, 1) := by decide +kernel
theorem dX5_round_50 : decode cX5_round 50 = .ok (.iadd, 1) := by decide +kernel
theorem dX5_round_51 : decode cX5_round 51 = .ok (.putfield 155, 3) := by decide +kernel
theorem dX5_round_54 : decode cX5_round 54 = .ok (.aload_n 0, 1) := by decide +kernel
theorem dX5_round_55 : decode cX5_round 55 = .ok (.iload_n 1, 1) := by decide +kernel
theorem dX5_round_56 : decode cX5_round 56 = .ok (.invokevirtual 158, 3) := by decide +kernel
theorem dX5_round_59 : decode cX5_round 59 = .ok (.istore_n 3, 1) := by decide +kernel
theorem dX5_round_60 : decode cX5_round 60 = .ok (.iload_n 2, 1) := by decide +kernel
theorem dX5_round_61 : decode cX5_round 61 = .ok (.ifCond .eq 8, 3) := by decide +kernel
theorem dX5_round_64 : decode cX5_round 64 = .ok (.iload_n 3, 1) := by decide +kernel
theorem dX5_round_65 : decode cX5_round 65 = .ok (.iconst (-1), 1) := by decide +kernel
theorem dX5_round_66 : decode cX5_round 66 = .ok (.if_icmp .ne 7, 3) := by decide +kernel
theorem dX5_round_69 : decode cX5_round 69 = .ok (.iload_n 3, 1) := by decide +kernel
theorem dX5_round_70 : decode cX5_round 70 = .ok (.goto 24, 3) := by decide +kernel
theorem dX5_round_73 : decode cX5_round 73 = .ok (.iload_n 2, 1) := by decide +kernel
theorem dX5_round_74 : decode cX5_round 74 = .ok (.bipush 10, 2) := by decide +kernel
theorem dX5_round_76 : decode cX5_round 76 = .ok (.isub, 1) := by decide +kernel
theorem dX5_round_77 : decode cX5_round 77 = .ok (.iload_n 3, 1) := by decide +kernel
theorem dX5_round_78 : decode cX5_round 78 = .ok (.if_icmp .ge 15, 3) := by decide +kernel
theorem dX5_round_81 : decode cX5_round 81 = .ok (.aload_n 0, 1) := by decide +kernel
theorem dX5_round_82 : decode cX5_round 82 = .ok (.getfield 25, 3) := by decide +kernel
theorem dX5_round_85 : decode cX5_round 85 = .ok (.iload_n 2, 1) := by decide +kernel
theorem dX5_round_86 : decode cX5_round 86 = .ok (.bipush 10, 2) := by decide +kernel
theorem dX5_round_88 : decode cX5_round 88 = .ok (.isub, 1) := by decide +kernel
theorem dX5_round_89 : decode cX5_round 89 = .ok (.iaload, 1) := by decide +kernel
theorem dX5_round_90 : decode cX5_round 90 = .ok (.goto 4, 3) := by decide +kernel
theorem dX5_round_93 : decode cX5_round 93 = .ok (.iconst (-1), 1) := by decide +kernel
theorem dX5_round_94 : decode cX5_round 94 = .ok (.ireturn, 1) := by decide +kernel
set_option maxRecDepth 20000 in
theorem ggX5_togetherOf_X5_seenBy : GoodIn wsX5_togetherOf wsX5_seenBy := goodIn_r _ [6, 1, 7, 8, 9, 5, 10, 11, 12, 13, 14, 15, 16, 17, 18, 19, 20, 21, 22, 23, 24, 25, 26, 27, 28, 29, 30, 31, 32, 33, 34, 35] (by decide +kernel) (by decide +kernel)
set_option maxRecDepth 20000 in
theorem gX5_togetherOf_X5_seenBy : GoodIn wsX5_togetherOf (wsV RX5 88 RX5 yX5_seenBy wsX5_seenBy) := goodIn_app (goodIn_of _ (by decide +kernel)) ggX5_togetherOf_X5_seenBy
theorem dX5_togetherOf_0 : decode cX5_togetherOf 0 = .ok (.iconst 0, 1) := by decide +kernel
theorem dX5_togetherOf_1 : decode cX5_togetherOf 1 = .ok (.istore_n 2, 1) := by decide +kernel
theorem dX5_togetherOf_2 : decode cX5_togetherOf 2 = .ok (.iconst 1, 1) := by decide +kernel
theorem dX5_togetherOf_3 : decode cX5_togetherOf 3 = .ok (.istore_n 3, 1) := by decide +kernel
theorem dX5_togetherOf_4 : decode cX5_togetherOf 4 = .ok (.iload_n 3, 1) := by decide +kernel
theorem dX5_togetherOf_5 : decode cX5_togetherOf 5 = .ok (.aload_n 0, 1) := by decide +kernel
theorem dX5_togetherOf_6 : decode cX5_togetherOf 6 = .ok (.getfield 67, 3) := by decide +kernel
theorem dX5_togetherOf_9 : decode cX5_togetherOf 9 = .ok (.if_icmp .ge 28, 3) := by decide +kernel
theorem dX5_togetherOf_12 : decode cX5_togetherOf 12 = .ok (.aload_n 0, 1) := by decide +kernel
theorem dX5_togetherOf_13 : decode cX5_togetherOf 13 = .ok (.iload_n 3, 1) := by decide +kernel
theorem dX5_togetherOf_14 : decode cX5_togetherOf 14 = .ok (.invokevirtual 88, 3) := by decide +kernel
theorem dX5_togetherOf_17 : decode cX5_togetherOf 17 = .ok (.aload_n 0, 1) := by decide +kernel
theorem dX5_togetherOf_18 : decode cX5_togetherOf 18 = .ok (.iload_n 2, 1) := by decide +kernel
theorem dX5_togetherOf_19 : decode cX5_togetherOf 19 = .ok (.invokevirtual 88, 3) := by decide +kernel
theorem dX5_togetherOf_22 : decode cX5_togetherOf 22 = .ok (.if_icmp .le 7, 3) := by decide +kernel
theorem dX5_togetherOf_25 : decode cX5_togetherOf 25 = .ok (.iload_n 3, 1) := by decide +kernel
theorem dX5_togetherOf_26 : decode cX5_togetherOf 26 = .ok (.goto 4, 3) := by decide +kernel
theorem dX5_togetherOf_29 : decode cX5_togetherOf 29 = .ok (.iload_n 2, 1) := by decide +kernel
theorem dX5_togetherOf_30 : decode cX5_togetherOf 30 = .ok (.istore_n 2, 1) := by decide +kernel
theorem dX5_togetherOf_31 : decode cX5_togetherOf 31 = .ok (.iinc 3 1, 3) := by decide +kernel
theorem dX5_togetherOf_34 : decode cX5_togetherOf 34 = .ok (.goto (-30), 3) := by decide +kernel
theorem dX5_togetherOf_37 : decode cX5_togetherOf 37 = .ok (.iload_n 1, 1) := by decide +kernel
theorem dX5_togetherOf_38 : decode cX5_togetherOf 38 = .ok (.ifCond .ne 7, 3) := by decide +kernel
theorem dX5_togetherOf_41 : decode cX5_togetherOf 41 = .ok (.iload_n 2, 1) := by decide +kernel
theorem dX5_togetherOf_42 : decode cX5_togetherOf 42 = .ok (.goto 8, 3) := by decide +kernel
theorem dX5_togetherOf_45 : decode cX5_togetherOf 45 = .ok (.aload_n 0, 1) := by decide +kernel
theorem dX5_togetherOf_46 : decode cX5_togetherOf 46 = .ok (.iload_n 2, 1) := by decide +kernel
theorem dX5_togetherOf_47 : decode cX5_togetherOf 47 = .ok (.invokevirtual 88, 3) := by decide +kernel
theorem dX5_togetherOf_50 : decode cX5_togetherOf 50 = .ok (.ireturn, 1) := by decide +kernel
set_option maxRecDepth 20000 in
theorem ggX5_together_X5_in : GoodIn wsX5_together wsX5_in := goodIn_r _ [4] (by decide +kernel) (by decide +kernel)
set_option maxRecDepth 20000 in
theorem gX5_together_X5_in : GoodIn wsX5_together (va_wsS RX5 46 yX5_in wsX5_in) := goodIn_app (goodIn_of _ (by decide +kernel)) ggX5_together_X5_in
set_option maxRecDepth 20000 in
theorem ggX5_together_X5_lacks : GoodIn wsX5_together wsX5_lacks := goodIn_r _ [8, 9, 23, 24, 25, 26, 27, 28, 29, 30, 31, 32, 33, 34, 35, 36, 37, 38, 39, 40, 41, 42, 43, 44, 45, 46] (by decide +kernel) (by decide +kernel)
set_option maxRecDepth 20000 in
theorem gX5_together_X5_lacks : GoodIn wsX5_together (wsV RX5 107 RX5 yX5_lacks wsX5_lacks) := goodIn_app (goodIn_of _ (by decide +kernel)) ggX5_together_X5_lacks
set_option maxRecDepth 20000 in
theorem ggX5_together_X5_togetherOf : GoodIn wsX5_together wsX5_togetherOf := goodIn_r _ [13, 9, 14, 15, 16, 3, 17, 18, 19, 20, 21, 22, 23, 24, 25, 26, 27, 28, 29, 30, 31, 32, 33, 34, 35, 36, 37, 38, 39, 40, 41, 42, 43, 44, 45, 46] (by decide +kernel) (by decide +kernel)
set_option maxRecDepth 20000 in
theorem gX5_together_X5_togetherOf : GoodIn wsX5_together (wsV RX5 161 RX5 yX5_togetherOf wsX5_togetherOf) := goodIn_app (goodIn_of _ (by decide +kernel)) ggX5_together_X5_togetherOf
theorem dX5_together_0 : decode cX5_together 0 = .ok (.iload_n 1, 1) := by decide +kernel
theorem dX5_together_1 : decode cX5_together 1 = .ok (.i2l, 1) := by decide +kernel
theorem dX5_together_2 : decode cX5_together 2 = .ok (.lconst 0, 1) := by decide +kernel
theorem dX5_together_3 : decode cX5_together 3 = .ok (.lconst 1, 1) := by decide +kernel
theorem dX5_together_4 : decode cX5_together 4 = .ok (.invokestatic 46, 3) := by decide +kernel
theorem dX5_together_7 : decode cX5_together 7 = .ok (.ifCond .ne 6, 3) := by decide +kernel
theorem dX5_together_10 : decode cX5_together 10 = .ok (.bipush (-102), 2) := by decide +kernel
theorem dX5_together_12 : decode cX5_together 12 = .ok (.ireturn, 1) := by decide +kernel
theorem dX5_together_13 : decode cX5_together 13 = .ok (.aload_n 0, 1) := by decide +kernel
theorem dX5_together_14 : decode cX5_together 14 = .ok (.invokevirtual 107, 3) := by decide +kernel
theorem dX5_together_17 : decode cX5_together 17 = .ok (.ifCond .eq 8, 3) := by decide +kernel
theorem dX5_together_20 : decode cX5_together 20 = .ok (.bipush (-103), 2) := by decide +kernel
theorem dX5_together_22 : decode cX5_together 22 = .ok (.goto 8, 3) := by decide +kernel
theorem dX5_together_25 : decode cX5_together 25 = .ok (.aload_n 0, 1) := by decide +kernel
theorem dX5_together_26 : decode cX5_together 26 = .ok (.iload_n 1, 1) := by decide +kernel
theorem dX5_together_27 : decode cX5_together 27 = .ok (.invokevirtual 161, 3) := by decide +kernel
theorem dX5_together_30 : decode cX5_together 30 = .ok (.ireturn, 1) := by decide +kernel
set_option maxRecDepth 20000 in
theorem ggX5_book_X5_in : GoodIn wsX5_book wsX5_in := goodIn_r _ [7] (by decide +kernel) (by decide +kernel)
set_option maxRecDepth 20000 in
theorem gX5_book_X5_in : GoodIn wsX5_book (va_wsS RX5 46 yX5_in wsX5_in) := goodIn_app (goodIn_of _ (by decide +kernel)) ggX5_book_X5_in
set_option maxRecDepth 20000 in
theorem ggX5_book_X5_isLamp : GoodIn wsX5_book wsX5_isLamp := goodIn_r _ [11, 12, 4, 5, 6, 7, 13, 14, 15, 16, 17, 18, 19, 20, 21, 22, 23, 24, 25, 26, 27, 28, 29, 30, 31, 32, 33, 34, 35, 36] (by decide +kernel) (by decide +kernel)
set_option maxRecDepth 20000 in
theorem gX5_book_X5_isLamp : GoodIn wsX5_book (wsV RX5 91 RX5 yX5_isLamp wsX5_isLamp) := goodIn_app (goodIn_of _ (by decide +kernel)) ggX5_book_X5_isLamp
theorem dX5_book_0 : decode cX5_book 0 = .ok (.iload_n 1, 1) := by decide +kernel
theorem dX5_book_1 : decode cX5_book 1 = .ok (.i2l, 1) := by decide +kernel
theorem dX5_book_2 : decode cX5_book 2 = .ok (.lconst 0, 1) := by decide +kernel
theorem dX5_book_3 : decode cX5_book 3 = .ok (.ldc2_w 164, 3) := by decide +kernel
theorem dX5_book_6 : decode cX5_book 6 = .ok (.invokestatic 46, 3) := by decide +kernel
theorem dX5_book_9 : decode cX5_book 9 = .ok (.ifCond .ne 6, 3) := by decide +kernel
theorem dX5_book_12 : decode cX5_book 12 = .ok (.bipush (-102), 2) := by decide +kernel
theorem dX5_book_14 : decode cX5_book 14 = .ok (.ireturn, 1) := by decide +kernel
theorem dX5_book_15 : decode cX5_book 15 = .ok (.aload_n 0, 1) := by decide +kernel
theorem dX5_book_16 : decode cX5_book 16 = .ok (.iload_n 2, 1) := by decide +kernel
theorem dX5_book_17 : decode cX5_book 17 = .ok (.invokevirtual 91, 3) := by decide +kernel
theorem dX5_book_20 : decode cX5_book 20 = .ok (.ifCond .ne 6, 3) := by decide +kernel
theorem dX5_book_23 : decode cX5_book 23 = .ok (.bipush (-101), 2) := by decide +kernel
theorem dX5_book_25 : decode cX5_book 25 = .ok (.ireturn, 1) := by decide +kernel
theorem dX5_book_26 : decode cX5_book 26 = .ok (.aload_n 0, 1) := by decide +kernel
theorem dX5_book_27 : decode cX5_book 27 = .ok (.getfield 76, 3) := by decide +kernel
theorem dX5_book_30 : decode cX5_book 30 = .ok (.bipush 8, 2) := by decide +kernel
theorem dX5_book_32 : decode cX5_book 32 = .ok (.if_icmp .ne 6, 3) := by decide +kernel
theorem dX5_book_35 : decode cX5_book 35 = .ok (.bipush (-104), 2) := by decide +kernel
theorem dX5_book_37 : decode cX5_book 37 = .ok (.ireturn, 1) := by decide +kernel
theorem dX5_book_38 : decode cX5_book 38 = .ok (.aload_n 0, 1) := by decide +kernel
theorem dX5_book_39 : decode cX5_book 39 = .ok (.getfield 28, 3) := by decide +kernel
theorem dX5_book_42 : decode cX5_book 42 = .ok (.iconst 3, 1) := by decide +kernel
theorem dX5_book_43 : decode cX5_book 43 = .ok (.aload_n 0, 1) := by decide +kernel
theorem dX5_book_44 : decode cX5_book 44 = .ok (.getfield 76, 3) := by decide +kernel
theorem dX5_book_47 : decode cX5_book 47 = .ok (.imul, 1) := by decide +kernel
theorem dX5_book_48 : decode cX5_book 48 = .ok (.iload_n 1, 1) := by decide +kernel
theorem dX5_book_49 : decode cX5_book 49 = .ok (.iastore, 1) := by decide +kernel
theorem dX5_book_50 : decode cX5_book 50 = .ok (.aload_n 0, 1) := by decide +kernel
theorem dX5_book_51 : decode cX5_book 51 = .ok (.getfield 28, 3) := by decide +kernel
theorem dX5_book_54 : decode cX5_book 54 = .ok (.iconst 3, 1) := by decide +kernel
theorem dX5_book_55 : decode cX5_book 55 = .ok (.aload_n 0, 1) := by decide +kernel
theorem dX5_book_56 : decode cX5_book 56 = .ok (.getfield 76, 3) := by decide +kernel
theorem dX5_book_59 : decode cX5_book 59 = .ok (.imul, 1) := by decide +kernel
theorem dX5_book_60 : decode cX5_book 60 = .ok (.iconst 1, 1) := by decide +kernel
theorem dX5_book_61 : decode cX5_book 61 = .ok (.iadd, 1) := by decide +kernel
theorem dX5_book_62 : decode cX5_book 62 = .ok (.iload_n 2, 1) := by decide +kernel
theorem dX5_book_63 : decode cX5_book 63 = .ok (.iastore, 1) := by decide +kernel
theorem dX5_book_64 : decode cX5_book 64 = .ok (.aload_n 0, 1) := by decide +kernel
theorem dX5_book_65 : decode cX5_book 65 = .ok (.getfield 28, 3) := by decide +kernel
theorem dX5_book_68 : decode cX5_book 68 = .ok (.iconst 3, 1) := by decide +kernel
theorem dX5_book_69 : decode cX5_book 69 = .ok (.aload_n 0, 1) := by decide +kernel
theorem dX5_book_70 : decode cX5_book 70 = .ok (.getfield 76, 3) := by decide +kernel
theorem dX5_book_73 : decode cX5_book 73 = .ok (.imul, 1) := by decide +kernel
theorem dX5_book_74 : decode cX5_book 74 = .ok (.iconst 2, 1) := by decide +kernel
theorem dX5_book_75 : decode cX5_book 75 = .ok (.iadd, 1) := by decide +kernel
theorem dX5_book_76 : decode cX5_book 76 = .ok (.iload_n 3, 1) := by decide +kernel
theorem dX5_book_77 : decode cX5_book 77 = .ok (.ifCond .eq 7, 3) := by decide +kernel
theorem dX5_book_80 : decode cX5_book 80 = .ok (.iconst 1, 1) := by decide +kernel
theorem dX5_book_81 : decode cX5_book 81 = .ok (.goto 4, 3) := by decide +kernel
theorem dX5_book_84 : decode cX5_book 84 = .ok (.iconst 0, 1) := by decide +kernel
theorem dX5_book_85 : decode cX5_book 85 = .ok (.iastore, 1) := by decide +kernel
theorem dX5_book_86 : decode cX5_book 86 = .ok (.aload_n 0, 1) := by decide +kernel
theorem dX5_book_87 : decode cX5_book 87 = .ok (.dup, 1) := by decide +kernel
theorem dX5_book_88 : decode cX5_book 88 = .ok (.getfield 76, 3) := by decide +kernel
theorem dX5_book_91 : decode cX5_book 91 = .ok (.iconst 1, 1) := by decide +kernel
theorem dX5_book_92 : decode cX5_book 92 = .ok (.iadd, 1) := by decide +kernel
theorem dX5_book_93 : decode cX5_book 93 = .ok (.putfield 76, 3) := by decide +kernel
theorem dX5_book_96 : decode cX5_book 96 = .ok (.aload_n 0, 1) := by decide +kernel
theorem dX5_book_97 : decode cX5_book 97 = .ok (.getfield 76, 3) := by decide +kernel
theorem dX5_book_100 : decode cX5_book 100 = .ok (.ireturn, 1) := by decide +kernel
theorem dX5_forget_0 : decode cX5_forget 0 = .ok (.aload_n 0, 1) := by decide +kernel
theorem dX5_forget_1 : decode cX5_forget 1 = .ok (.getfield 76, 3) := by decide +kernel
theorem dX5_forget_4 : decode cX5_forget 4 = .ok (.istore_n 1, 1) := by decide +kernel
theorem dX5_forget_5 : decode cX5_forget 5 = .ok (.aload_n 0, 1) := by decide +kernel
theorem dX5_forget_6 : decode cX5_forget 6 = .ok (.iconst 0, 1) := by decide +kernel
theorem dX5_forget_7 : decode cX5_forget 7 = .ok (.putfield 76, 3) := by decide +kernel
theorem dX5_forget_10 : decode cX5_forget 10 = .ok (.iload_n 1, 1) := by decide +kernel
theorem dX5_forget_11 : decode cX5_forget 11 = .ok (.ireturn, 1) := by decide +kernel
theorem dX5_isBooked_0 : decode cX5_isBooked 0 = .ok (.iconst 1, 1) := by decide +kernel
theorem dX5_isBooked_1 : decode cX5_isBooked 1 = .ok (.istore_n 2, 1) := by decide +kernel
theorem dX5_isBooked_2 : decode cX5_isBooked 2 = .ok (.iconst 0, 1) := by decide +kernel
theorem dX5_isBooked_3 : decode cX5_isBooked 3 = .ok (.istore_n 3, 1) := by decide +kernel
theorem dX5_isBooked_4 : decode cX5_isBooked 4 = .ok (.iload_n 3, 1) := by decide +kernel
theorem dX5_isBooked_5 : decode cX5_isBooked 5 = .ok (.aload_n 0, 1) := by decide +kernel
theorem dX5_isBooked_6 : decode cX5_isBooked 6 = .ok (.getfield 76, 3) := by decide +kernel
theorem dX5_isBooked_9 : decode cX5_isBooked 9 = .ok (.if_icmp .ge 71, 3) := by decide +kernel
theorem dX5_isBooked_12 : decode cX5_isBooked 12 = .ok (.aload_n 0, 1) := by decide +kernel
theorem dX5_isBooked_13 : decode cX5_isBooked 13 = .ok (.getfield 19, 3) := by decide +kernel
theorem dX5_isBooked_16 : decode cX5_isBooked 16 = .ok (.aload_n 0, 1) := by decide +kernel
theorem dX5_isBooked_17 : decode cX5_isBooked 17 = .ok (.getfield 28, 3) := by decide +kernel
theorem dX5_isBooked_20 : decode cX5_isBooked 20 = .ok (.iconst 3, 1) := by decide +kernel
theorem dX5_isBooked_21 : decode cX5_isBooked 21 = .ok (.iload_n 3, 1) := by decide +kernel
theorem dX5_isBooked_22 : decode cX5_isBooked 22 = .ok (.imul, 1) := by decide +kernel
theorem dX5_isBooked_23 : decode cX5_isBooked 23 = .ok (.iconst 1, 1) := by decide +kernel
theorem dX5_isBooked_24 : decode cX5_isBooked 24 = .ok (.iadd, 1) := by decide +kernel
theorem dX5_isBooked_25 : decode cX5_isBooked 25 = .ok (.iaload, 1) := by decide +kernel
theorem dX5_isBooked_26 : decode cX5_isBooked 26 = .ok (.iaload, 1) := by decide +kernel
theorem dX5_isBooked_27 : decode cX5_isBooked 27 = .ok (.ifCond .le 7, 3) := by decide +kernel
theorem dX5_isBooked_30 : decode cX5_isBooked 30 = .ok (.iconst 1, 1) := by decide +kernel
theorem dX5_isBooked_31 : decode cX5_isBooked 31 = .ok (.goto 4, 3) := by decide +kernel
theorem dX5_isBooked_34 : decode cX5_isBooked 34 = .ok (.iconst 0, 1) := by decide +kernel
theorem dX5_isBooked_35 : decode cX5_isBooked 35 = .ok (.istore 4, 2) := by decide +kernel
theorem dX5_isBooked_37 : decode cX5_isBooked 37 = .ok (.iload_n 2, 1) := by decide +kernel
theorem dX5_isBooked_38 : decode cX5_isBooked 38 = .ok (.ifCond .eq 34, 3) := by decide +kernel
theorem dX5_isBooked_41 : decode cX5_isBooked 41 = .ok (.aload_n 0, 1) := by decide +kernel
theorem dX5_isBooked_42 : decode cX5_isBooked 42 = .ok (.getfield 28, 3) := by decide +kernel
theorem dX5_isBooked_45 : decode cX5_isBooked 45 = .ok (.iconst 3, 1) := by decide +kernel
theorem dX5_isBooked_46 : decode cX5_isBooked 46 = .ok (.iload_n 3, 1) := by decide +kernel
theorem dX5_isBooked_47 : decode cX5_isBooked 47 = .ok (.imul, 1) := by decide +kernel
theorem dX5_isBooked_48 : decode cX5_isBooked 48 = .ok (.iaload, 1) := by decide +kernel
theorem dX5_isBooked_49 : decode cX5_isBooked 49 = .ok (.iload_n 1, 1) := by decide +kernel
theorem dX5_isBooked_50 : decode cX5_isBooked 50 = .ok (.if_icmp .ne 18, 3) := by decide +kernel
theorem dX5_isBooked_53 : decode cX5_isBooked 53 = .ok (.iload 4, 2) := by decide +kernel
theorem dX5_isBooked_55 : decode cX5_isBooked 55 = .ok (.aload_n 0, 1) := by decide +kernel
theorem dX5_isBooked_56 : decode cX5_isBooked 56 = .ok (.getfield 28, 3) := by decide +kernel
theorem dX5_isBooked_59 : decode cX5_isBooked 59 = .ok (.iconst 3, 1) := by decide +kernel
theorem dX5_isBooked_60 : decode cX5_isBooked 60 = .ok (.iload_n 3, 1) := by decide +kernel
theorem dX5_isBooked_61 : decode cX5_isBooked 61 = .ok (.imul, 1) := by decide +kernel
theorem dX5_isBooked_62 : decode cX5_isBooked 62 = .ok (.iconst 2, 1) := by decide +kernel
theorem dX5_isBooked_63 : decode cX5_isBooked 63 = .ok (.iadd, 1) := by decide +kernel
theorem dX5_isBooked_64 : decode cX5_isBooked 64 = .ok (.iaload, 1) := by decide +kernel
theorem dX5_isBooked_65 : decode cX5_isBooked 65 = .ok (.if_icmp .ne 7, 3) := by decide +kernel
theorem dX5_isBooked_68 : decode cX5_isBooked 68 = .ok (.iconst 1, 1) := by decide +kernel
theorem dX5_isBooked_69 : decode cX5_isBooked 69 = .ok (.goto 4, 3) := by decide +kernel
theorem dX5_isBooked_72 : decode cX5_isBooked 72 = .ok (.iconst 0, 1) := by decide +kernel
theorem dX5_isBooked_73 : decode cX5_isBooked 73 = .ok (.istore_n 2, 1) := by decide +kernel
theorem dX5_isBooked_74 : decode cX5_isBooked 74 = .ok (.iinc 3 1, 3) := by decide +kernel
theorem dX5_isBooked_77 : decode cX5_isBooked 77 = .ok (.goto (-73), 3) := by decide +kernel
theorem dX5_isBooked_80 : decode cX5_isBooked 80 = .ok (.iload_n 2, 1) := by decide +kernel
theorem dX5_isBooked_81 : decode cX5_isBooked 81 = .ok (.ireturn, 1) := by decide +kernel
set_option maxRecDepth 20000 in
theorem ggX5_canWave_X5_asItIs : GoodIn wsX5_canWave wsX5_asItIs := goodIn_r _ [6, 7, 8, 9, 24, 25, 26, 27, 28, 29, 30, 31, 32, 33, 34, 35, 36, 37, 38, 39, 40, 41, 42, 43, 44, 45, 46, 47] (by decide +kernel) (by decide +kernel)
set_option maxRecDepth 20000 in
theorem gX5_canWave_X5_asItIs : GoodIn wsX5_canWave (wsV RX5 111 RX5 yX5_asItIs wsX5_asItIs) := goodIn_app (goodIn_of _ (by decide +kernel)) ggX5_canWave_X5_asItIs
set_option maxRecDepth 20000 in
theorem ggX5_canWave_X5_isBooked : GoodIn wsX5_canWave wsX5_isBooked := goodIn_r _ [13, 14, 8, 15, 24, 25, 26, 27, 28, 29, 30, 31, 32, 33, 34, 35, 36, 37, 38, 39, 40, 41, 42, 43, 44, 45, 46, 47] (by decide +kernel) (by decide +kernel)
set_option maxRecDepth 20000 in
theorem gX5_canWave_X5_isBooked : GoodIn wsX5_canWave (wsV RX5 166 RX5 yX5_isBooked wsX5_isBooked) := goodIn_app (goodIn_of _ (by decide +kernel)) ggX5_canWave_X5_isBooked
set_option maxRecDepth 20000 in
theorem ggX5_canWave_X5_goesBy : GoodIn wsX5_canWave wsX5_goesBy := goodIn_r _ [19, 7, 8, 9, 20, 21, 22, 5, 23, 24, 25, 26, 27, 28, 29, 30, 31, 32, 33, 34, 35, 36, 37, 38, 39, 40, 41, 42, 43, 44, 45, 46, 47] (by decide +kernel) (by decide +kernel)
set_option maxRecDepth 20000 in
theorem gX5_canWave_X5_goesBy : GoodIn wsX5_canWave (wsV RX5 117 RX5 yX5_goesBy wsX5_goesBy) := goodIn_app (goodIn_of _ (by decide +kernel)) ggX5_canWave_X5_goesBy
theorem dX5_canWave_0 : decode cX5_canWave 0 = .ok (.aload_n 0, 1) := by decide +kernel
theorem dX5_canWave_1 : decode cX5_canWave 1 = .ok (.invokevirtual 111, 3) := by decide +kernel
theorem dX5_canWave_4 : decode cX5_canWave 4 = .ok (.aload_n 0, 1) := by decide +kernel
theorem dX5_canWave_5 : decode cX5_canWave 5 = .ok (.iconst 0, 1) := by decide +kernel
theorem dX5_canWave_6 : decode cX5_canWave 6 = .ok (.invokevirtual 166, 3) := by decide +kernel
theorem dX5_canWave_9 : decode cX5_canWave 9 = .ok (.istore 4, 2) := by decide +kernel
theorem dX5_canWave_11 : decode cX5_canWave 11 = .ok (.iconst 0, 1) := by decide +kernel
theorem dX5_canWave_12 : decode cX5_canWave 12 = .ok (.istore 5, 2) := by decide +kernel
theorem dX5_canWave_14 : decode cX5_canWave 14 = .ok (.iload 5, 2) := by decide +kernel
theorem dX5_canWave_16 : decode cX5_canWave 16 = .ok (.iload_n 2, 1) := by decide +kernel
theorem dX5_canWave_17 : decode cX5_canWave 17 = .ok (.if_icmp .ge 60, 3) := by decide +kernel
theorem dX5_canWave_20 : decode cX5_canWave 20 = .ok (.aload_n 0, 1) := by decide +kernel
theorem dX5_canWave_21 : decode cX5_canWave 21 = .ok (.iload_n 3, 1) := by decide +kernel
theorem dX5_canWave_22 : decode cX5_canWave 22 = .ok (.iload 5, 2) := by decide +kernel
theorem dX5_canWave_24 : decode cX5_canWave 24 = .ok (.ishr, 1) := by decide +kernel
theorem dX5_canWave_25 : decode cX5_canWave 25 = .ok (.iconst 1, 1) := by decide +kernel
theorem dX5_canWave_26 : decode cX5_canWave 26 = .ok (.iand, 1) := by decide +kernel
theorem dX5_canWave_27 : decode cX5_canWave 27 = .ok (.iconst 1, 1) := by decide +kernel
theorem dX5_canWave_28 : decode cX5_canWave 28 = .ok (.if_icmp .ne 16, 3) := by decide +kernel
theorem dX5_canWave_31 : decode cX5_canWave 31 = .ok (.iconst 1, 1) := by decide +kernel
theorem dX5_canWave_32 : decode cX5_canWave 32 = .ok (.aload_n 0, 1) := by decide +kernel
theorem dX5_canWave_33 : decode cX5_canWave 33 = .ok (.getfield 16, 3) := by decide +kernel
theorem dX5_canWave_36 : decode cX5_canWave 36 = .ok (.iconst 3, 1) := by decide +kernel
theorem dX5_canWave_37 : decode cX5_canWave 37 = .ok (.iload_n 1, 1) := by decide +kernel
theorem dX5_canWave_38 : decode cX5_canWave 38 = .ok (.imul, 1) := by decide +kernel
theorem dX5_canWave_39 : decode cX5_canWave 39 = .ok (.iaload, 1) := by decide +kernel
theorem dX5_canWave_40 : decode cX5_canWave 40 = .ok (.ishl, 1) := by decide +kernel
theorem dX5_canWave_41 : decode cX5_canWave 41 = .ok (.goto 4, 3) := by decide +kernel
theorem dX5_canWave_44 : decode cX5_canWave 44 = .ok (.iconst 0, 1) := by decide +kernel
theorem dX5_canWave_45 : decode cX5_canWave 45 = .ok (.invokevirtual 117, 3) := by decide +kernel
theorem dX5_canWave_48 : decode cX5_canWave 48 = .ok (.iload 4, 2) := by decide +kernel
theorem dX5_canWave_50 : decode cX5_canWave 50 = .ok (.ifCond .eq 18, 3) := by decide +kernel
theorem dX5_canWave_53 : decode cX5_canWave 53 = .ok (.aload_n 0, 1) := by decide +kernel
theorem dX5_canWave_54 : decode cX5_canWave 54 = .ok (.iload 5, 2) := by decide +kernel
theorem dX5_canWave_56 : decode cX5_canWave 56 = .ok (.iconst 1, 1) := by decide +kernel
theorem dX5_canWave_57 : decode cX5_canWave 57 = .ok (.iadd, 1) := by decide +kernel
theorem dX5_canWave_58 : decode cX5_canWave 58 = .ok (.invokevirtual 166, 3) := by decide +kernel
theorem dX5_canWave_61 : decode cX5_canWave 61 = .ok (.ifCond .eq 7, 3) := by decide +kernel
theorem dX5_canWave_64 : decode cX5_canWave 64 = .ok (.iconst 1, 1) := by decide +kernel
theorem dX5_canWave_65 : decode cX5_canWave 65 = .ok (.goto 4, 3) := by decide +kernel
theorem dX5_canWave_68 : decode cX5_canWave 68 = .ok (.iconst 0, 1) := by decide +kernel
theorem dX5_canWave_69 : decode cX5_canWave 69 = .ok (.istore 4, 2) := by decide +kernel
theorem dX5_canWave_71 : decode cX5_canWave 71 = .ok (.iinc 5 1, 3) := by decide +kernel
theorem dX5_canWave_74 : decode cX5_canWave 74 = .ok (.goto (-60), 3) := by decide +kernel
theorem dX5_canWave_77 : decode cX5_canWave 77 = .ok (.iload 4, 2) := by decide +kernel
theorem dX5_canWave_79 : decode cX5_canWave 79 = .ok (.ireturn, 1) := by decide +kernel
set_option maxRecDepth 20000 in
theorem ggX5_wavedOf_X5_canWave : GoodIn wsX5_wavedOf wsX5_canWave := goodIn_r _ [5, 6, 7, 8, 9, 4, 10, 11, 12, 13, 14, 15, 16, 17, 18, 19, 20, 21, 22, 23, 24, 25, 26, 27, 28, 29, 30, 31, 32, 33, 34, 35, 36, 37, 38, 39, 40, 41, 42, 43, 44, 45, 46, 47, 48, 49, 50, 51] (by decide +kernel) (by decide +kernel)
set_option maxRecDepth 20000 in
theorem gX5_wavedOf_X5_canWave : GoodIn wsX5_wavedOf (wsV RX5 169 RX5 yX5_canWave wsX5_canWave) := goodIn_app (goodIn_of _ (by decide +kernel)) ggX5_wavedOf_X5_canWave
theorem dX5_wavedOf_0 : decode cX5_wavedOf 0 = .ok (.iconst 0, 1) := by decide +kernel
theorem dX5_wavedOf_1 : decode cX5_wavedOf 1 = .ok (.istore 4, 2) := by decide +kernel
theorem dX5_wavedOf_3 : decode cX5_wavedOf 3 = .ok (.iconst (-1), 1) := by decide +kernel
theorem dX5_wavedOf_4 : decode cX5_wavedOf 4 = .ok (.istore 5, 2) := by decide +kernel
theorem dX5_wavedOf_6 : decode cX5_wavedOf 6 = .ok (.iconst 1, 1) := by decide +kernel
theorem dX5_wavedOf_7 : decode cX5_wavedOf 7 = .ok (.iload_n 2, 1) := by decide +kernel
theorem dX5_wavedOf_8 : decode cX5_wavedOf 8 = .ok (.ishl, 1) := by decide +kernel
theorem dX5_wavedOf_9 : decode cX5_wavedOf 9 = .ok (.iconst 1, 1) := by decide +kernel
theorem dX5_wavedOf_10 : decode cX5_wavedOf 10 = .ok (.isub, 1) := by decide +kernel
theorem dX5_wavedOf_11 : decode cX5_wavedOf 11 = .ok (.istore 6, 2) := by decide +kernel
theorem dX5_wavedOf_13 : decode cX5_wavedOf 13 = .ok (.iload 6, 2) := by decide +kernel
theorem dX5_wavedOf_15 : decode cX5_wavedOf 15 = .ok (.ifCond .lt 27, 3) := by decide +kernel
theorem dX5_wavedOf_18 : decode cX5_wavedOf 18 = .ok (.aload_n 0, 1) := by decide +kernel
theorem dX5_wavedOf_19 : decode cX5_wavedOf 19 = .ok (.iload_n 1, 1) := by decide +kernel
theorem dX5_wavedOf_20 : decode cX5_wavedOf 20 = .ok (.iload_n 2, 1) := by decide +kernel
theorem dX5_wavedOf_21 : decode cX5_wavedOf 21 = .ok (.iload 6, 2) := by decide +kernel
theorem dX5_wavedOf_23 : decode cX5_wavedOf 23 = .ok (.invokevirtual 169, 3) := by decide +kernel
theorem dX5_wavedOf_26 : decode cX5_wavedOf 26 = .ok (.ifCond .eq 10, 3) := by decide +kernel
theorem dX5_wavedOf_29 : decode cX5_wavedOf 29 = .ok (.iinc 4 1, 3) := by decide +kernel
theorem dX5_wavedOf_32 : decode cX5_wavedOf 32 = .ok (.iload 6, 2) := by decide +kernel
theorem dX5_wavedOf_34 : decode cX5_wavedOf 34 = .ok (.istore 5, 2) := by decide +kernel
theorem dX5_wavedOf_36 : decode cX5_wavedOf 36 = .ok (.iinc 6 (-1), 3) := by decide +kernel
theorem dX5_wavedOf_39 : decode cX5_wavedOf 39 = .ok (.goto (-26), 3) := by decide +kernel
theorem dX5_wavedOf_42 : decode cX5_wavedOf 42 = .ok (.iload_n 3, 1) := by decide +kernel
theorem dX5_wavedOf_43 : decode cX5_wavedOf 43 = .ok (.ifCond .ne 8, 3) := by decide +kernel
theorem dX5_wavedOf_46 : decode cX5_wavedOf 46 = .ok (.iload 4, 2) := by decide +kernel
theorem dX5_wavedOf_48 : decode cX5_wavedOf 48 = .ok (.goto 5, 3) := by decide +kernel
theorem dX5_wavedOf_51 : decode cX5_wavedOf 51 = .ok (.iload 5, 2) := by decide +kernel
theorem dX5_wavedOf_53 : decode cX5_wavedOf 53 = .ok (.ireturn, 1) := by decide +kernel
set_option maxRecDepth 20000 in
theorem ggX5_waved_X5_isPerson : GoodIn wsX5_waved wsX5_isPerson := goodIn_r _ [6, 7, 8, 9, 5, 10, 41, 42, 43, 44, 45, 46, 47, 48, 49, 50, 51, 52, 53, 54, 55, 56, 57, 58, 59, 60, 61, 62, 63, 64] (by decide +kernel) (by decide +kernel)
set_option maxRecDepth 20000 in
theorem gX5_waved_X5_isPerson : GoodIn wsX5_waved (wsV RX5 101 RX5 yX5_isPerson wsX5_isPerson) := goodIn_app (goodIn_of _ (by decide +kernel)) ggX5_waved_X5_isPerson
set_option maxRecDepth 20000 in
theorem ggX5_waved_X5_in : GoodIn wsX5_waved wsX5_in := goodIn_r _ [10] (by decide +kernel) (by decide +kernel)
set_option maxRecDepth 20000 in
theorem gX5_waved_X5_in : GoodIn wsX5_waved (va_wsS RX5 46 yX5_in wsX5_in) := goodIn_app (goodIn_of _ (by decide +kernel)) ggX5_waved_X5_in
set_option maxRecDepth 20000 in
theorem ggX5_waved_X5_wavedOf : GoodIn wsX5_waved wsX5_wavedOf := goodIn_r _ [14, 15, 16, 17, 5, 18, 19, 20, 21, 22, 23, 24, 25, 26, 27, 28, 29, 30, 31, 32, 33, 34, 35, 36, 37, 38, 39, 40, 41, 42, 43, 44, 45, 46, 47, 48, 49, 50, 51, 52, 53, 54, 55, 56, 57, 58, 59, 60, 61, 62, 63, 64] (by decide +kernel) (by decide +kernel)
set_option maxRecDepth 20000 in
theorem gX5_waved_X5_wavedOf : GoodIn wsX5_waved (wsV RX5 172 RX5 yX5_wavedOf wsX5_wavedOf) := goodIn_app (goodIn_of _ (by decide +kernel)) ggX5_waved_X5_wavedOf
theorem dX5_waved_0 : decode cX5_waved 0 = .ok (.aload_n 0, 1) := by decide +kernel
theorem dX5_waved_1 : decode cX5_waved 1 = .ok (.iload_n 1, 1) := by decide +kernel
theorem dX5_waved_2 : decode cX5_waved 2 = .ok (.invokevirtual 101, 3) := by decide +kernel
theorem dX5_waved_5 : decode cX5_waved 5 = .ok (.ifCond .ne 6, 3) := by decide +kernel
theorem dX5_waved_8 : decode cX5_waved 8 = .ok (.bipush (-101), 2) := by decide +kernel
theorem dX5_waved_10 : decode cX5_waved 10 = .ok (.ireturn, 1) := by decide +kernel
theorem dX5_waved_11 : decode cX5_waved 11 = .ok (.iload_n 2, 1) := by decide +kernel
theorem dX5_waved_12 : decode cX5_waved 12 = .ok (.i2l, 1) := by decide +kernel
theorem dX5_waved_13 : decode cX5_waved 13 = .ok (.lconst 1, 1) := by decide +kernel
theorem dX5_waved_14 : decode cX5_waved 14 = .ok (.ldc2_w 164, 3) := by decide +kernel
theorem dX5_waved_17 : decode cX5_waved 17 = .ok (.invokestatic 46, 3) := by decide +kernel
theorem dX5_waved_20 : decode cX5_waved 20 = .ok (.ifCond .eq 23, 3) := by decide +kernel
theorem dX5_waved_23 : decode cX5_waved 23 = .ok (.iload_n 3, 1) := by decide +kernel
theorem dX5_waved_24 : decode cX5_waved 24 = .ok (.i2l, 1) := by decide +kernel
theorem dX5_waved_25 : decode cX5_waved 25 = .ok (.lconst 0, 1) := by decide +kernel
theorem dX5_waved_26 : decode cX5_waved 26 = .ok (.lconst 1, 1) := by decide +kernel
theorem dX5_waved_27 : decode cX5_waved 27 = .ok (.invokestatic 46, 3) := by decide +kernel
theorem dX5_waved_30 : decode cX5_waved 30 = .ok (.ifCond .eq 13, 3) := by decide +kernel
theorem dX5_waved_33 : decode cX5_waved 33 = .ok (.aload_n 0, 1) := by decide +kernel
theorem dX5_waved_34 : decode cX5_waved 34 = .ok (.iload_n 1, 1) := by decide +kernel
theorem dX5_waved_35 : decode cX5_waved 35 = .ok (.iload_n 2, 1) := by decide +kernel
theorem dX5_waved_36 : decode cX5_waved 36 = .ok (.iload_n 3, 1) := by decide +kernel
theorem dX5_waved_37 : decode cX5_waved 37 = .ok (.invokevirtual 172, 3) := by decide +kernel
theorem dX5_waved_40 : decode cX5_waved 40 = .ok (.goto 5, 3) := by decide +kernel
theorem dX5_waved_43 : decode cX5_waved 43 = .ok (.bipush (-102), 2) := by decide +kernel
theorem dX5_waved_45 : decode cX5_waved 45 = .ok (.ireturn, 1) := by decide +kernel
set_option maxRecDepth 20000 in
theorem ggX5_lookOf_X5_canWave : GoodIn wsX5_lookOf wsX5_canWave := goodIn_r _ [7, 8, 9, 10, 11, 6, 12, 1, 2, 13, 14, 15, 16, 17, 18, 19, 20, 21, 22, 23, 24, 25, 26, 27, 28, 29, 30, 31, 32, 33, 34, 35, 36, 37, 38, 39, 40, 41, 42, 43, 44, 45, 46, 47, 48, 49, 50, 51] (by decide +kernel) (by decide +kernel)
set_option maxRecDepth 20000 in
theorem gX5_lookOf_X5_canWave : GoodIn wsX5_lookOf (wsV RX5 169 RX5 yX5_canWave wsX5_canWave) := goodIn_app (goodIn_of _ (by decide +kernel)) ggX5_lookOf_X5_canWave
theorem dX5_lookOf_0 : decode cX5_lookOf 0 = .ok (.iconst (-1), 1) := by decide +kernel
theorem dX5_lookOf_1 : decode cX5_lookOf 1 = .ok (.istore_n 3, 1) := by decide +kernel
theorem dX5_lookOf_2 : decode cX5_lookOf 2 = .ok (.iconst (-1), 1) := by decide +kernel
theorem dX5_lookOf_3 : decode cX5_lookOf 3 = .ok (.istore 4, 2) := by decide +kernel
theorem dX5_lookOf_5 : decode cX5_lookOf 5 = .ok (.iconst 0, 1) := by decide +kernel
theorem dX5_lookOf_6 : decode cX5_lookOf 6 = .ok (.istore 5, 2) := by decide +kernel
theorem dX5_lookOf_8 : decode cX5_lookOf 8 = .ok (.iload 5, 2) := by decide +kernel
theorem dX5_lookOf_10 : decode cX5_lookOf 10 = .ok (.aload_n 0, 1) := by decide +kernel
theorem dX5_lookOf_11 : decode cX5_lookOf 11 = .ok (.getfield 67, 3) := by decide +kernel
theorem dX5_lookOf_14 : decode cX5_lookOf 14 = .ok (.if_icmp .ge 158, 3) := by decide +kernel
theorem dX5_lookOf_17 : decode cX5_lookOf 17 = .ok (.iconst 0, 1) := by decide +kernel
theorem dX5_lookOf_18 : decode cX5_lookOf 18 = .ok (.istore 6, 2) := by decide +kernel
theorem dX5_lookOf_20 : decode cX5_lookOf 20 = .ok (.iconst 0, 1) := by decide +kernel
theorem dX5_lookOf_21 : decode cX5_lookOf 21 = .ok (.istore 7, 2) := by decide +kernel
theorem dX5_lookOf_23 : decode cX5_lookOf 23 = .ok (.iconst 0, 1) := by decide +kernel
theorem dX5_lookOf_24 : decode cX5_lookOf 24 = .ok (.istore 8, 2) := by decide +kernel
theorem dX5_lookOf_26 : decode cX5_lookOf 26 = .ok (.iload 8, 2) := by decide +kernel
theorem dX5_lookOf_28 : decode cX5_lookOf 28 = .ok (.iconst 1, 1) := by decide +kernel
theorem dX5_lookOf_29 : decode cX5_lookOf 29 = .ok (.iload_n 2, 1) := by decide +kernel
theorem dX5_lookOf_30 : decode cX5_lookOf 30 = .ok (.ishl, 1) := by decide +kernel
theorem dX5_lookOf_31 : decode cX5_lookOf 31 = .ok (.if_icmp .ge 69, 3) := by decide +kernel
theorem dX5_lookOf_34 : decode cX5_lookOf 34 = .ok (.aload_n 0, 1) := by decide +kernel
theorem dX5_lookOf_35 : decode cX5_lookOf 35 = .ok (.iload_n 1, 1) := by decide +kernel
theorem dX5_lookOf_36 : decode cX5_lookOf 36 = .ok (.iload_n 2, 1) := by decide +kernel
theorem dX5_lookOf_37 : decode cX5_lookOf 37 = .ok (.iload 8, 2) := by decide +kernel
theorem dX5_lookOf_39 : decode cX5_lookOf 39 = .ok (.invokevirtual 169, 3) := by decide +kernel
theorem dX5_lookOf_42 : decode cX5_lookOf 42 = .ok (.istore 9, 2) := by decide +kernel
theorem dX5_lookOf_44 : decode cX5_lookOf 44 = .ok (.iload 6, 2) := by decide +kernel
theorem dX5_lookOf_46 : decode cX5_lookOf 46 = .ok (.iload 9, 2) := by decide +kernel
theorem dX5_lookOf_48 : decode cX5_lookOf 48 = .ok (.ifCond .eq 17, 3) := by decide +kernel
theorem dX5_lookOf_51 : decode cX5_lookOf 51 = .ok (.aload_n 0, 1) := by decide +kernel
theorem dX5_lookOf_52 : decode cX5_lookOf 52 = .ok (.getfield 19, 3) := by decide +kernel
theorem dX5_lookOf_55 : decode cX5_lookOf 55 = .ok (.iload 5, 2) := by decide +kernel
theorem dX5_lookOf_57 : decode cX5_lookOf 57 = .ok (.iaload, 1) := by decide +kernel
theorem dX5_lookOf_58 : decode cX5_lookOf 58 = .ok (.ifCond .le 7, 3) := by decide +kernel
theorem dX5_lookOf_61 : decode cX5_lookOf 61 = .ok (.iconst 1, 1) := by decide +kernel
theorem dX5_lookOf_62 : decode cX5_lookOf 62 = .ok (.goto 4, 3) := by decide +kernel
theorem dX5_lookOf_65 : decode cX5_lookOf 65 = .ok (.iconst 0, 1) := by decide +kernel
theorem dX5_lookOf_66 : decode cX5_lookOf 66 = .ok (.iadd, 1) := by decide +kernel
theorem dX5_lookOf_67 : decode cX5_lookOf 67 = .ok (.istore 6, 2) := by decide +kernel
theorem dX5_lookOf_69 : decode cX5_lookOf 69 = .ok (.iload 7, 2) := by decide +kernel
theorem dX5_lookOf_71 : decode cX5_lookOf 71 = .ok (.iload 9, 2) := by decide +kernel
theorem dX5_lookOf_73 : decode cX5_lookOf 73 = .ok (.ifCond .eq 17, 3) := by decide +kernel
theorem dX5_lookOf_76 : decode cX5_lookOf 76 = .ok (.aload_n 0, 1) := by decide +kernel
theorem dX5_lookOf_77 : decode cX5_lookOf 77 = .ok (.getfield 19, 3) := by decide +kernel
theorem dX5_lookOf_80 : decode cX5_lookOf 80 = .ok (.iload 5, 2) := by decide +kernel
theorem dX5_lookOf_82 : decode cX5_lookOf 82 = .ok (.iaload, 1) := by decide +kernel
theorem dX5_lookOf_83 : decode cX5_lookOf 83 = .ok (.ifCond .ne 7, 3) := by decide +kernel
theorem dX5_lookOf_86 : decode cX5_lookOf 86 = .ok (.iconst 1, 1) := by decide +kernel
theorem dX5_lookOf_87 : decode cX5_lookOf 87 = .ok (.goto 4, 3) := by decide +kernel
theorem dX5_lookOf_90 : decode cX5_lookOf 90 = .ok (.iconst 0, 1) := by decide +kernel
theorem dX5_lookOf_91 : decode cX5_lookOf 91 = .ok (.iadd, 1) := by decide +kernel
theorem dX5_lookOf_92 : decode cX5_lookOf 92 = .ok (.istore 7, 2) := by decide +kernel
theorem dX5_lookOf_94 : decode cX5_lookOf 94 = .ok (.iinc 8 1, 3) := by decide +kernel
theorem dX5_lookOf_97 : decode cX5_lookOf 97 = .ok (.goto (-71), 3) := by decide +kernel
theorem dX5_lookOf_100 : decode cX5_lookOf 100 = .ok (.iload 6, 2) := by decide +kernel
theorem dX5_lookOf_102 : decode cX5_lookOf 102 = .ok (.iload 7, 2) := by decide +kernel
theorem dX5_lookOf_104 : decode cX5_lookOf 104 = .ok (.if_icmp .le 8, 3) := by decide +kernel
theorem dX5_lookOf_107 : decode cX5_lookOf 107 = .ok (.iload 6, 2) := by decide +kernel
theorem dX5_lookOf_109 : decode cX5_lookOf 109 = .ok (.goto 5, 3) := by decide +kernel
theorem dX5_lookOf_112 : decode cX5_lookOf 112 = .ok (.iload 7, 2) := by decide +kernel
theorem dX5_lookOf_114 : decode cX5_lookOf 114 = .ok (.istore 8, 2) := by decide +kernel
theorem dX5_lookOf_116 : decode cX5_lookOf 116 = .ok (.iload 8, 2) := by decide +kernel
theorem dX5_lookOf_118 : decode cX5_lookOf 118 = .ok (.ifCond .le 19, 3) := by decide +kernel
theorem dX5_lookOf_121 : decode cX5_lookOf 121 = .ok (.iload_n 3, 1) := by decide +kernel
theorem dX5_lookOf_122 : decode cX5_lookOf 122 = .ok (.iconst (-1), 1) := by decide +kernel
theorem dX5_lookOf_123 : decode cX5_lookOf 123 = .ok (.if_icmp .eq 10, 3) := by decide +kernel
theorem dX5_lookOf_126 : decode cX5_lookOf 126 = .ok (.iload 8, 2) := by decide +kernel
theorem dX5_lookOf_128 : decode cX5_lookOf 128 = .ok (.iload 4, 2) := by decide +kernel
theorem dX5_lookOf_130 : decode cX5_lookOf 130 = .ok (.if_icmp .ge 7, 3) := by decide +kernel
theorem dX5_lookOf_133 : decode cX5_lookOf 133 = .ok (.iconst 1, 1) := by decide +kernel
theorem dX5_lookOf_134 : decode cX5_lookOf 134 = .ok (.goto 4, 3) := by decide +kernel
theorem dX5_lookOf_137 : decode cX5_lookOf 137 = .ok (.iconst 0, 1) := by decide +kernel
theorem dX5_lookOf_138 : decode cX5_lookOf 138 = .ok (.istore 9, 2) := by decide +kernel
theorem dX5_lookOf_140 : decode cX5_lookOf 140 = .ok (.iload 9, 2) := by decide +kernel
theorem dX5_lookOf_142 : decode cX5_lookOf 142 = .ok (.ifCond .eq 8, 3) := by decide +kernel
theorem dX5_lookOf_145 : decode cX5_lookOf 145 = .ok (.iload 5, 2) := by decide +kernel
theorem dX5_lookOf_147 : decode cX5_lookOf 147 = .ok (.goto 4, 3) := by decide +kernel
theorem dX5_lookOf_150 : decode cX5_lookOf 150 = .ok (.iload_n 3, 1) := by decide +kernel
theorem dX5_lookOf_151 : decode cX5_lookOf 151 = .ok (.istore_n 3, 1) := by decide +kernel
theorem dX5_lookOf_152 : decode cX5_lookOf 152 = .ok (.iload 9, 2) := by decide +kernel
theorem dX5_lookOf_154 : decode cX5_lookOf 154 = .ok (.ifCond .eq 8, 3) := by decide +kernel
theorem dX5_lookOf_157 : decode cX5_lookOf 157 = .ok (.iload 8, 2) := by decide +kernel
theorem dX5_lookOf_159 : decode cX5_lookOf 159 = .ok (.goto 5, 3) := by decide +kernel
theorem dX5_lookOf_162 : decode cX5_lookOf 162 = .ok (.iload 4, 2) := by decide +kernel
theorem dX5_lookOf_164 : decode cX5_lookOf 164 = .ok (.istore 4, 2) := by decide +kernel
theorem dX5_lookOf_166 : decode cX5_lookOf 166 = .ok (.iinc 5 1, 3) := by decide +kernel
theorem dX5_lookOf_169 : decode cX5_lookOf 169 = .ok (.goto (-161), 3) := by decide +kernel
theorem dX5_lookOf_172 : decode cX5_lookOf 172 = .ok (.iload_n 3, 1) := by decide +kernel
theorem dX5_lookOf_173 : decode cX5_lookOf 173 = .ok (.ireturn, 1) := by decide +kernel
set_option maxRecDepth 20000 in
theorem ggX5_look_X5_isPerson : GoodIn wsX5_look wsX5_isPerson := goodIn_r _ [6, 7, 8, 9, 5, 10, 41, 42, 43, 44, 45, 46, 47, 48, 49, 50, 51, 52, 53, 54, 55, 56, 57, 58, 59, 60, 61, 62, 63, 64] (by decide +kernel) (by decide +kernel)
set_option maxRecDepth 20000 in
theorem gX5_look_X5_isPerson : GoodIn wsX5_look (wsV RX5 101 RX5 yX5_isPerson wsX5_isPerson) := goodIn_app (goodIn_of _ (by decide +kernel)) ggX5_look_X5_isPerson
set_option maxRecDepth 20000 in
theorem ggX5_look_X5_in : GoodIn wsX5_look wsX5_in := goodIn_r _ [10] (by decide +kernel) (by decide +kernel)
set_option maxRecDepth 20000 in
theorem gX5_look_X5_in : GoodIn wsX5_look (va_wsS RX5 46 yX5_in wsX5_in) := goodIn_app (goodIn_of _ (by decide +kernel)) ggX5_look_X5_in
set_option maxRecDepth 20000 in
theorem ggX5_look_X5_lookOf : GoodIn wsX5_look wsX5_lookOf := goodIn_r _ [14, 15, 16, 17, 18, 19, 5, 20, 21, 22, 23, 24, 25, 26, 27, 28, 29, 30, 31, 32, 33, 34, 35, 36, 37, 38, 39, 40, 41, 42, 43, 44, 45, 46, 47, 48, 49, 50, 51, 52, 53, 54, 55, 56, 57, 58, 59, 60, 61, 62, 63, 64] (by decide +kernel) (by decide +kernel)
set_option maxRecDepth 20000 in
theorem gX5_look_X5_lookOf : GoodIn wsX5_look (wsV RX5 176 RX5 yX5_lookOf wsX5_lookOf) := goodIn_app (goodIn_of _ (by decide +kernel)) ggX5_look_X5_lookOf
theorem dX5_look_0 : decode cX5_look 0 = .ok (.aload_n 0, 1) := by decide +kernel
theorem dX5_look_1 : decode cX5_look 1 = .ok (.iload_n 1, 1) := by decide +kernel
theorem dX5_look_2 : decode cX5_look 2 = .ok (.invokevirtual 101, 3) := by decide +kernel
theorem dX5_look_5 : decode cX5_look 5 = .ok (.ifCond .ne 6, 3) := by decide +kernel
theorem dX5_look_8 : decode cX5_look 8 = .ok (.bipush (-101), 2) := by decide +kernel
theorem dX5_look_10 : decode cX5_look 10 = .ok (.ireturn, 1) := by decide +kernel
theorem dX5_look_11 : decode cX5_look 11 = .ok (.iload_n 2, 1) := by decide +kernel
theorem dX5_look_12 : decode cX5_look 12 = .ok (.i2l, 1) := by decide +kernel
theorem dX5_look_13 : decode cX5_look 13 = .ok (.lconst 1, 1) := by decide +kernel
theorem dX5_look_14 : decode cX5_look 14 = .ok (.ldc2_w 164, 3) := by decide +kernel
theorem dX5_look_17 : decode cX5_look 17 = .ok (.invokestatic 46, 3) := by decide +kernel
theorem dX5_look_20 : decode cX5_look 20 = .ok (.ifCond .eq 12, 3) := by decide +kernel
theorem dX5_look_23 : decode cX5_look 23 = .ok (.aload_n 0, 1) := by decide +kernel
theorem dX5_look_24 : decode cX5_look 24 = .ok (.iload_n 1, 1) := by decide +kernel
theorem dX5_look_25 : decode cX5_look 25 = .ok (.iload_n 2, 1) := by decide +kernel
theorem dX5_look_26 : decode cX5_look 26 = .ok (.invokevirtual 176, 3) := by decide +kernel
theorem dX5_look_29 : decode cX5_look 29 = .ok (.goto 5, 3) := by decide +kernel
theorem dX5_look_32 : decode cX5_look 32 = .ok (.bipush (-102), 2) := by decide +kernel
theorem dX5_look_34 : decode cX5_look 34 = .ok (.ireturn, 1) := by decide +kernel
theorem dX5_draw_0 : decode cX5_draw 0 = .ok (.aload_n 0, 1) := by decide +kernel
theorem dX5_draw_1 : decode cX5_draw 1 = .ok (.ldc2_w 179, 3) := by decide +kernel
theorem dX5_draw_4 : decode cX5_draw 4 = .ok (.aload_n 0, 1) := by decide +kernel
theorem dX5_draw_5 : decode cX5_draw 5 = .ok (.getfield 181, 3) := by decide +kernel
theorem dX5_draw_8 : decode cX5_draw 8 = .ok (.i2l, 1) := by decide +kernel
theorem dX5_draw_9 : decode cX5_draw 9 = .ok (.lmul, 1) := by decide +kernel
theorem dX5_draw_10 : decode cX5_draw 10 = .ok (.ldc2_w 184, 3) := by decide +kernel
theorem dX5_draw_13 : decode cX5_draw 13 = .ok (.ladd, 1) := by decide +kernel
theorem dX5_draw_14 : decode cX5_draw 14 = .ok (.ldc2_w 186, 3) := by decide +kernel
theorem dX5_draw_17 : decode cX5_draw 17 = .ok (.land, 1) := by decide +kernel
theorem dX5_draw_18 : decode cX5_draw 18 = .ok (.l2i, 1) := by decide +kernel
theorem dX5_draw_19 : decode cX5_draw 19 = .ok (.putfield 181, 3) := by decide +kernel
theorem dX5_draw_22 : decode cX5_draw 22 = .ok (.aload_n 0, 1) := by decide +kernel
theorem dX5_draw_23 : decode cX5_draw 23 = .ok (.getfield 181, 3) := by decide +kernel
theorem dX5_draw_26 : decode cX5_draw 26 = .ok (.ldc 188, 2) := by decide +kernel
theorem dX5_draw_28 : decode cX5_draw 28 = .ok (.idiv, 1) := by decide +kernel
theorem dX5_draw_29 : decode cX5_draw 29 = .ok (.iload_n 1, 1) := by decide +kernel
theorem dX5_draw_30 : decode cX5_draw 30 = .ok (.irem, 1) := by decide +kernel
theorem dX5_draw_31 : decode cX5_draw 31 = .ok (.ireturn, 1) := by decide +kernel
set_option maxRecDepth 20000 in
theorem ggX5_nights_X5_in : GoodIn wsX5_nights wsX5_in := goodIn_r _ [10] (by decide +kernel) (by decide +kernel)
set_option maxRecDepth 20000 in
theorem gX5_nights_X5_in : GoodIn wsX5_nights (va_wsS RX5 46 yX5_in wsX5_in) := goodIn_app (goodIn_of _ (by decide +kernel)) ggX5_nights_X5_in
set_option maxRecDepth 20000 in
theorem ggX5_nights_X5_lacks : GoodIn wsX5_nights wsX5_lacks := goodIn_r _ [14, 5, 45, 46, 47, 48, 49, 50, 51, 52, 53, 54, 55, 56, 57, 58, 59, 60, 61, 62, 63, 64, 65, 66, 67, 68] (by decide +kernel) (by decide +kernel)
set_option maxRecDepth 20000 in
theorem gX5_nights_X5_lacks : GoodIn wsX5_nights (wsV RX5 107 RX5 yX5_lacks wsX5_lacks) := goodIn_app (goodIn_of _ (by decide +kernel)) ggX5_nights_X5_lacks
set_option maxRecDepth 20000 in
theorem ggX5_nights_X5_asItIs : GoodIn wsX5_nights wsX5_asItIs := goodIn_r _ [18, 5, 6, 19, 45, 46, 47, 48, 49, 50, 51, 52, 53, 54, 55, 56, 57, 58, 59, 60, 61, 62, 63, 64, 65, 66, 67, 68] (by decide +kernel) (by decide +kernel)
set_option maxRecDepth 20000 in
theorem gX5_nights_X5_asItIs : GoodIn wsX5_nights (wsV RX5 111 RX5 yX5_asItIs wsX5_asItIs) := goodIn_app (goodIn_of _ (by decide +kernel)) ggX5_nights_X5_asItIs
set_option maxRecDepth 20000 in
theorem ggX5_nights_X5_draw : GoodIn wsX5_nights wsX5_draw := goodIn_r _ [23, 24, 3, 25, 26, 27, 45, 46, 47, 48, 49, 50, 51, 52, 53, 54, 55, 56, 57, 58, 59, 60, 61, 62, 63, 64, 65, 66, 67, 68] (by decide +kernel) (by decide +kernel)
set_option maxRecDepth 20000 in
theorem gX5_nights_X5_draw : GoodIn wsX5_nights (wsV RX5 193 RX5 yX5_draw wsX5_draw) := goodIn_app (goodIn_of _ (by decide +kernel)) ggX5_nights_X5_draw
set_option maxRecDepth 20000 in
theorem ggX5_nights_X5_sectionsOf : GoodIn wsX5_nights wsX5_sectionsOf := goodIn_r _ [31, 4, 32, 45, 46, 47, 48, 49, 50, 51, 52, 53, 54, 55, 56, 57, 58, 59, 60, 61, 62, 63, 64, 65, 66, 67, 68] (by decide +kernel) (by decide +kernel)
set_option maxRecDepth 20000 in
theorem gX5_nights_X5_sectionsOf : GoodIn wsX5_nights (wsV RX5 114 RX5 yX5_sectionsOf wsX5_sectionsOf) := goodIn_app (goodIn_of _ (by decide +kernel)) ggX5_nights_X5_sectionsOf
set_option maxRecDepth 20000 in
theorem ggX5_nights_X5_goesBy : GoodIn wsX5_nights wsX5_goesBy := goodIn_r _ [36, 5, 6, 19, 37, 38, 39, 9, 40, 45, 46, 47, 48, 49, 50, 51, 52, 53, 54, 55, 56, 57, 58, 59, 60, 61, 62, 63, 64, 65, 66, 67, 68] (by decide +kernel) (by decide +kernel)
set_option maxRecDepth 20000 in
theorem gX5_nights_X5_goesBy : GoodIn wsX5_nights (wsV RX5 117 RX5 yX5_goesBy wsX5_goesBy) := goodIn_app (goodIn_of _ (by decide +kernel)) ggX5_nights_X5_goesBy
set_option maxRecDepth 20000 in
theorem ggX5_nights_X5_darkNow : GoodIn wsX5_nights wsX5_darkNow := goodIn_r _ [44, 4, 6, 32, 45, 46, 47, 48, 49, 50, 51, 52, 53, 54, 55, 56, 57, 58, 59, 60, 61, 62, 63, 64, 65, 66, 67, 68] (by decide +kernel) (by decide +kernel)
set_option maxRecDepth 20000 in
theorem gX5_nights_X5_darkNow : GoodIn wsX5_nights (wsV RX5 121 RX5 yX5_darkNow wsX5_darkNow) := goodIn_app (goodIn_of _ (by decide +kernel)) ggX5_nights_X5_darkNow
theorem dX5_nights_0 : decode cX5_nights 0 = .ok (.iload_n 1, 1) := by decide +kernel
theorem dX5_nights_1 : decode cX5_nights 1 = .ok (.i2l, 1) := by decide +kernel
theorem dX5_nights_2 : decode cX5_nights 2 = .ok (.lconst 1, 1) := by decide +kernel
theorem dX5_nights_3 : decode cX5_nights 3 = .ok (.ldc2_w 189, 3) := by decide +kernel
theorem dX5_nights_6 : decode cX5_nights 6 = .ok (.invokestatic 46, 3) := by decide +kernel
theorem dX5_nights_9 : decode cX5_nights 9 = .ok (.ifCond .eq 19, 3) := by decide +kernel
theorem dX5_nights_12 : decode cX5_nights 12 = .ok (.iload_n 2, 1) := by decide +kernel
theorem dX5_nights_13 : decode cX5_nights 13 = .ok (.ifCond .lt 15, 3) := by decide +kernel
theorem dX5_nights_16 : decode cX5_nights 16 = .ok (.iload_n 3, 1) := by decide +kernel
theorem dX5_nights_17 : decode cX5_nights 17 = .ok (.i2l, 1) := by decide +kernel
theorem dX5_nights_18 : decode cX5_nights 18 = .ok (.lconst 0, 1) := by decide +kernel
theorem dX5_nights_19 : decode cX5_nights 19 = .ok (.ldc2_w 191, 3) := by decide +kernel
theorem dX5_nights_22 : decode cX5_nights 22 = .ok (.invokestatic 46, 3) := by decide +kernel
theorem dX5_nights_25 : decode cX5_nights 25 = .ok (.ifCond .ne 6, 3) := by decide +kernel
theorem dX5_nights_28 : decode cX5_nights 28 = .ok (.bipush (-102), 2) := by decide +kernel
theorem dX5_nights_30 : decode cX5_nights 30 = .ok (.ireturn, 1) := by decide +kernel
theorem dX5_nights_31 : decode cX5_nights 31 = .ok (.aload_n 0, 1) := by decide +kernel
theorem dX5_nights_32 : decode cX5_nights 32 = .ok (.invokevirtual 107, 3) := by decide +kernel
theorem dX5_nights_35 : decode cX5_nights 35 = .ok (.ifCond .eq 6, 3) := by decide +kernel
theorem dX5_nights_38 : decode cX5_nights 38 = .ok (.bipush (-103), 2) := by decide +kernel
theorem dX5_nights_40 : decode cX5_nights 40 = .ok (.ireturn, 1) := by decide +kernel
theorem dX5_nights_41 : decode cX5_nights 41 = .ok (.aload_n 0, 1) := by decide +kernel
theorem dX5_nights_42 : decode cX5_nights 42 = .ok (.invokevirtual 111, 3) := by decide +kernel
theorem dX5_nights_45 : decode cX5_nights 45 = .ok (.aload_n 0, 1) := by decide +kernel
theorem dX5_nights_46 : decode cX5_nights 46 = .ok (.iload_n 2, 1) := by decide +kernel
theorem dX5_nights_47 : decode cX5_nights 47 = .ok (.putfield 181, 3) := by decide +kernel
theorem dX5_nights_50 : decode cX5_nights 50 = .ok (.iconst 0, 1) := by decide +kernel
theorem dX5_nights_51 : decode cX5_nights 51 = .ok (.istore 4, 2) := by decide +kernel
theorem dX5_nights_53 : decode cX5_nights 53 = .ok (.iconst 0, 1) := by decide +kernel
theorem dX5_nights_54 : decode cX5_nights 54 = .ok (.istore 5, 2) := by decide +kernel
theorem dX5_nights_56 : decode cX5_nights 56 = .ok (.iload 5, 2) := by decide +kernel
theorem dX5_nights_58 : decode cX5_nights 58 = .ok (.iload_n 1, 1) := by decide +kernel
theorem dX5_nights_59 : decode cX5_nights 59 = .ok (.if_icmp .ge 71, 3) := by decide +kernel
theorem dX5_nights_62 : decode cX5_nights 62 = .ok (.iconst 0, 1) := by decide +kernel
theorem dX5_nights_63 : decode cX5_nights 63 = .ok (.istore 6, 2) := by decide +kernel
theorem dX5_nights_65 : decode cX5_nights 65 = .ok (.iconst 0, 1) := by decide +kernel
theorem dX5_nights_66 : decode cX5_nights 66 = .ok (.istore 7, 2) := by decide +kernel
theorem dX5_nights_68 : decode cX5_nights 68 = .ok (.iload 7, 2) := by decide +kernel
theorem dX5_nights_70 : decode cX5_nights 70 = .ok (.aload_n 0, 1) := by decide +kernel
theorem dX5_nights_71 : decode cX5_nights 71 = .ok (.getfield 73, 3) := by decide +kernel
theorem dX5_nights_74 : decode cX5_nights 74 = .ok (.if_icmp .ge 31, 3) := by decide +kernel
theorem dX5_nights_77 : decode cX5_nights 77 = .ok (.iload 6, 2) := by decide +kernel
theorem dX5_nights_79 : decode cX5_nights 79 = .ok (.aload_n 0, 1) := by decide +kernel
theorem dX5_nights_80 : decode cX5_nights 80 = .ok (.bipush 6, 2) := by decide +kernel
theorem dX5_nights_82 : decode cX5_nights 82 = .ok (.invokevirtual 193, 3) := by decide +kernel
theorem dX5_nights_85 : decode cX5_nights 85 = .ok (.ifCond .ne 10, 3) := by decide +kernel
theorem dX5_nights_88 : decode cX5_nights 88 = .ok (.iconst 1, 1) := by decide +kernel
theorem dX5_nights_89 : decode cX5_nights 89 = .ok (.iload 7, 2) := by decide +kernel
theorem dX5_nights_91 : decode cX5_nights 91 = .ok (.ishl, 1) := by decide +kernel
theorem dX5_nights_92 : decode cX5_nights 92 = .ok (.goto 4, 3) := by decide +kernel
theorem dX5_nights_95 : decode cX5_nights 95 = .ok (.iconst 0, 1) := by decide +kernel
theorem dX5_nights_96 : decode cX5_nights 96 = .ok (.ior, 1) := by decide +kernel
theorem dX5_nights_97 : decode cX5_nights 97 = .ok (.istore 6, 2) := by decide +kernel
theorem dX5_nights_99 : decode cX5_nights 99 = .ok (.iinc 7 1, 3) := by decide +kernel
theorem dX5_nights_102 : decode cX5_nights 102 = .ok (.goto (-34), 3) := by decide +kernel
theorem dX5_nights_105 : decode cX5_nights 105 = .ok (.aload_n 0, 1) := by decide +kernel
theorem dX5_nights_106 : decode cX5_nights 106 = .ok (.aload_n 0, 1) := by decide +kernel
theorem dX5_nights_107 : decode cX5_nights 107 = .ok (.iload 6, 2) := by decide +kernel
theorem dX5_nights_109 : decode cX5_nights 109 = .ok (.invokevirtual 114, 3) := by decide +kernel
theorem dX5_nights_112 : decode cX5_nights 112 = .ok (.invokevirtual 117, 3) := by decide +kernel
theorem dX5_nights_115 : decode cX5_nights 115 = .ok (.iload 4, 2) := by decide +kernel
theorem dX5_nights_117 : decode cX5_nights 117 = .ok (.aload_n 0, 1) := by decide +kernel
theorem dX5_nights_118 : decode cX5_nights 118 = .ok (.invokevirtual 121, 3) := by decide +kernel
theorem dX5_nights_121 : decode cX5_nights 121 = .ok (.iadd, 1) := by decide +kernel
theorem dX5_nights_122 : decode cX5_nights 122 = .ok (.istore 4, 2) := by decide +kernel
theorem dX5_nights_124 : decode cX5_nights 124 = .ok (.iinc 5 1, 3) := by decide +kernel
theorem dX5_nights_127 : decode cX5_nights 127 = .ok (.goto (-71), 3) := by decide +kernel
theorem dX5_nights_130 : decode cX5_nights 130 = .ok (.iconst 0, 1) := by decide +kernel
theorem dX5_nights_131 : decode cX5_nights 131 = .ok (.istore 5, 2) := by decide +kernel
theorem dX5_nights_133 : decode cX5_nights 133 = .ok (.iconst 0, 1) := by decide +kernel
theorem dX5_nights_134 : decode cX5_nights 134 = .ok (.istore 6, 2) := by decide +kernel
theorem dX5_nights_136 : decode cX5_nights 136 = .ok (.iload 6, 2) := by decide +kernel
theorem dX5_nights_138 : decode cX5_nights 138 = .ok (.aload_n 0, 1) := by decide +kernel
theorem dX5_nights_139 : decode cX5_nights 139 = .ok (.getfield 67, 3) := by decide +kernel
theorem dX5_nights_142 : decode cX5_nights 142 = .ok (.if_icmp .ge 29, 3) := by decide +kernel
theorem dX5_nights_145 : decode cX5_nights 145 = .ok (.iload 5, 2) := by decide +kernel
theorem dX5_nights_147 : decode cX5_nights 147 = .ok (.aload_n 0, 1) := by decide +kernel
theorem dX5_nights_148 : decode cX5_nights 148 = .ok (.getfield 19, 3) := by decide +kernel
theorem dX5_nights_151 : decode cX5_nights 151 = .ok (.iload 6, 2) := by decide +kernel
theorem dX5_nights_153 : decode cX5_nights 153 = .ok (.iaload, 1) := by decide +kernel
theorem dX5_nights_154 : decode cX5_nights 154 = .ok (.ifCond .le 7, 3) := by decide +kernel
theorem dX5_nights_157 : decode cX5_nights 157 = .ok (.iconst 1, 1) := by decide +kernel
theorem dX5_nights_158 : decode cX5_nights 158 = .ok (.goto 4, 3) := by decide +kernel
theorem dX5_nights_161 : decode cX5_nights 161 = .ok (.iconst 0, 1) := by decide +kernel
theorem dX5_nights_162 : decode cX5_nights 162 = .ok (.iadd, 1) := by decide +kernel
theorem dX5_nights_163 : decode cX5_nights 163 = .ok (.istore 5, 2) := by decide +kernel
theorem dX5_nights_165 : decode cX5_nights 165 = .ok (.iinc 6 1, 3) := by decide +kernel
theorem dX5_nights_168 : decode cX5_nights 168 = .ok (.goto (-32), 3) := by decide +kernel
theorem dX5_nights_171 : decode cX5_nights 171 = .ok (.iload_n 3, 1) := by decide +kernel
theorem dX5_nights_172 : decode cX5_nights 172 = .ok (.ifCond .ne 8, 3) := by decide +kernel
theorem dX5_nights_175 : decode cX5_nights 175 = .ok (.iload 4, 2) := by decide +kernel
theorem dX5_nights_177 : decode cX5_nights 177 = .ok (.goto 17, 3) := by decide +kernel
theorem dX5_nights_180 : decode cX5_nights 180 = .ok (.iload_n 3, 1) := by decide +kernel
theorem dX5_nights_181 : decode cX5_nights 181 = .ok (.iconst 1, 1) := by decide +kernel
theorem dX5_nights_182 : decode cX5_nights 182 = .ok (.if_icmp .ne 8, 3) := by decide +kernel
theorem dX5_nights_185 : decode cX5_nights 185 = .ok (.iload 5, 2) := by decide +kernel
theorem dX5_nights_187 : decode cX5_nights 187 = .ok (.goto 7, 3) := by decide +kernel
theorem dX5_nights_190 : decode cX5_nights 190 = .ok (.aload_n 0, 1) := by decide +kernel
theorem dX5_nights_191 : decode cX5_nights 191 = .ok (.getfield 181, 3) := by decide +kernel
theorem dX5_nights_194 : decode cX5_nights 194 = .ok (.ireturn, 1) := by decide +kernel
set_option maxRecDepth 20000 in
theorem ggX5_image_X5_lacks : GoodIn wsX5_image wsX5_lacks := goodIn_r _ [19, 20, 24, 25, 26, 27, 28, 29, 30, 31, 32, 33, 34, 35, 36, 37, 38, 39, 40, 41, 42, 43, 44, 45, 46, 47] (by decide +kernel) (by decide +kernel)
set_option maxRecDepth 20000 in
theorem gX5_image_X5_lacks : GoodIn wsX5_image (wsV RX5 107 RX5 yX5_lacks wsX5_lacks) := goodIn_app (goodIn_of _ (by decide +kernel)) ggX5_image_X5_lacks
set_option maxRecDepth 20000 in
theorem ggX5_image_X5_copy : GoodIn wsX5_image wsX5_copy := goodIn_r _ [23] (by decide +kernel) (by decide +kernel)
set_option maxRecDepth 20000 in
theorem gX5_image_X5_copy : GoodIn wsX5_image (va_wsS RX5 149 yX5_copy wsX5_copy) := goodIn_app (goodIn_of _ (by decide +kernel)) ggX5_image_X5_copy
theorem dX5_image_0 : decode cX5_image 0 = .ok (.aload_n 0, 1) := by decide +kernel
theorem dX5_image_1 : decode cX5_image 1 = .ok (.invokevirtual 107, 3) := by decide +kernel
theorem dX5_image_4 : decode cX5_image 4 = .ok (.ifCond .eq 6, 3) := by decide +kernel
theorem dX5_image_7 : decode cX5_image 7 = .ok (.bipush (-103), 2) := by decide +kernel
theorem dX5_image_9 : decode cX5_image 9 = .ok (.ireturn, 1) := by decide +kernel
theorem dX5_image_10 : decode cX5_image 10 = .ok (.aload_n 0, 1) := by decide +kernel
theorem dX5_image_11 : decode cX5_image 11 = .ok (.getfield 13, 3) := by decide +kernel
theorem dX5_image_14 : decode cX5_image 14 = .ok (.aload_n 0, 1) := by decide +kernel
theorem dX5_image_15 : decode cX5_image 15 = .ok (.getfield 31, 3) := by decide +kernel
theorem dX5_image_18 : decode cX5_image 18 = .ok (.invokestatic 149, 3) := by decide +kernel
theorem dX5_image_21 : decode cX5_image 21 = .ok (.aload_n 0, 1) := by decide +kernel
theorem dX5_image_22 : decode cX5_image 22 = .ok (.getfield 16, 3) := by decide +kernel
theorem dX5_image_25 : decode cX5_image 25 = .ok (.aload_n 0, 1) := by decide +kernel
theorem dX5_image_26 : decode cX5_image 26 = .ok (.getfield 34, 3) := by decide +kernel
theorem dX5_image_29 : decode cX5_image 29 = .ok (.invokestatic 149, 3) := by decide +kernel
theorem dX5_image_32 : decode cX5_image 32 = .ok (.aload_n 0, 1) := by decide +kernel
theorem dX5_image_33 : decode cX5_image 33 = .ok (.getfield 28, 3) := by decide +kernel
theorem dX5_image_36 : decode cX5_image 36 = .ok (.aload_n 0, 1) := by decide +kernel
theorem dX5_image_37 : decode cX5_image 37 = .ok (.getfield 37, 3) := by decide +kernel
theorem dX5_image_40 : decode cX5_image 40 = .ok (.invokestatic 149, 3) := by decide +kernel
theorem dX5_image_43 : decode cX5_image 43 = .ok (.aload_n 0, 1) := by decide +kernel
theorem dX5_image_44 : decode cX5_image 44 = .ok (.aload_n 0, 1) := by decide +kernel
theorem dX5_image_45 : decode cX5_image 45 = .ok (.getfield 73, 3) := by decide +kernel
theorem dX5_image_48 : decode cX5_image 48 = .ok (.putfield 196, 3) := by decide +kernel
theorem dX5_image_51 : decode cX5_image 51 = .ok (.aload_n 0, 1) := by decide +kernel
theorem dX5_image_52 : decode cX5_image 52 = .ok (.aload_n 0, 1) := by decide +kernel
theorem dX5_image_53 : decode cX5_image 53 = .ok (.getfield 70, 3) := by decide +kernel
theorem dX5_image_56 : decode cX5_image 56 = .ok (.putfield 199, 3) := by decide +kernel
theorem dX5_image_59 : decode cX5_image 59 = .ok (.aload_n 0, 1) := by decide +kernel
theorem dX5_image_60 : decode cX5_image 60 = .ok (.aload_n 0, 1) := by decide +kernel
theorem dX5_image_61 : decode cX5_image 61 = .ok (.getfield 76, 3) := by decide +kernel
theorem dX5_image_64 : decode cX5_image 64 = .ok (.putfield 202, 3) := by decide +kernel
theorem dX5_image_67 : decode cX5_image 67 = .ok (.aload_n 0, 1) := by decide +kernel
theorem dX5_image_68 : decode cX5_image 68 = .ok (.aload_n 0, 1) := by decide +kernel
theorem dX5_image_69 : decode cX5_image 69 = .ok (.getfield 79, 3) := by decide +kernel
theorem dX5_image_72 : decode cX5_image 72 = .ok (.putfield 40, 3) := by decide +kernel
theorem dX5_image_75 : decode cX5_image 75 = .ok (.aload_n 0, 1) := by decide +kernel
theorem dX5_image_76 : decode cX5_image 76 = .ok (.getfield 70, 3) := by decide +kernel
theorem dX5_image_79 : decode cX5_image 79 = .ok (.ireturn, 1) := by decide +kernel
set_option maxRecDepth 20000 in
theorem ggX5_restore_X5_copy : GoodIn wsX5_restore wsX5_copy := goodIn_r _ [18] (by decide +kernel) (by decide +kernel)
set_option maxRecDepth 20000 in
theorem gX5_restore_X5_copy : GoodIn wsX5_restore (va_wsS RX5 149 yX5_copy wsX5_copy) := goodIn_app (goodIn_of _ (by decide +kernel)) ggX5_restore_X5_copy
theorem dX5_restore_0 : decode cX5_restore 0 = .ok (.aload_n 0, 1) := by decide +kernel
theorem dX5_restore_1 : decode cX5_restore 1 = .ok (.getfield 40, 3) := by decide +kernel
theorem dX5_restore_4 : decode cX5_restore 4 = .ok (.aload_n 0, 1) := by decide +kernel
theorem dX5_restore_5 : decode cX5_restore 5 = .ok (.getfield 79, 3) := by decide +kernel
theorem dX5_restore_8 : decode cX5_restore 8 = .ok (.if_icmp .eq 6, 3) := by decide +kernel
theorem dX5_restore_11 : decode cX5_restore 11 = .ok (.bipush (-103), 2) := by decide +kernel
theorem dX5_restore_13 : decode cX5_restore 13 = .ok (.ireturn, 1) := by decide +kernel
theorem dX5_restore_14 : decode cX5_restore 14 = .ok (.aload_n 0, 1) := by decide +kernel
theorem dX5_restore_15 : decode cX5_restore 15 = .ok (.getfield 31, 3) := by decide +kernel
theorem dX5_restore_18 : decode cX5_restore 18 = .ok (.aload_n 0, 1) := by decide +kernel
theorem dX5_restore_19 : decode cX5_restore 19 = .ok (.getfield 13, 3) := by decide +kernel
theorem dX5_restore_22 : decode cX5_restore 22 = .ok (.invokestatic 149, 3) := by decide +kernel
theorem dX5_restore_25 : decode cX5_restore 25 = .ok (.aload_n 0, 1) := by decide +kernel
theorem dX5_restore_26 : decode cX5_restore 26 = .ok (.getfield 34, 3) := by decide +kernel
theorem dX5_restore_29 : decode cX5_restore 29 = .ok (.aload_n 0, 1) := by decide +kernel
theorem dX5_restore_30 : decode cX5_restore 30 = .ok (.getfield 16, 3) := by decide +kernel
theorem dX5_restore_33 : decode cX5_restore 33 = .ok (.invokestatic 149, 3) := by decide +kernel
theorem dX5_restore_36 : decode cX5_restore 36 = .ok (.aload_n 0, 1) := by decide +kernel
theorem dX5_restore_37 : decode cX5_restore 37 = .ok (.getfield 37, 3) := by decide +kernel
theorem dX5_restore_40 : decode cX5_restore 40 = .ok (.aload_n 0, 1) := by decide +kernel
theorem dX5_restore_41 : decode cX5_restore 41 = .ok (.getfield 28, 3) := by decide +kernel
theorem dX5_restore_44 : decode cX5_restore 44 = .ok (.invokestatic 149, 3) := by decide +kernel
theorem dX5_restore_47 : decode cX5_restore 47 = .ok (.aload_n 0, 1) := by decide +kernel
theorem dX5_restore_48 : decode cX5_restore 48 = .ok (.aload_n 0, 1) := by decide +kernel
theorem dX5_restore_49 : decode cX5_restore 49 = .ok (.getfield 196, 3) := by decide +kernel
theorem dX5_restore_52 : decode cX5_restore 52 = .ok (.putfield 73, 3) := by decide +kernel
theorem dX5_restore_55 : decode cX5_restore 55 = .ok (.aload_n 0, 1) := by decide +kernel
theorem dX5_restore_56 : decode cX5_restore 56 = .ok (.aload_n 0, 1) := by decide +kernel
theorem dX5_restore_57 : decode cX5_restore 57 = .ok (.getfield 199, 3) := by decide +kernel
theorem dX5_restore_60 : decode cX5_restore 60 = .ok (.putfield 70, 3) := by decide +kernel
theorem dX5_restore_63 : decode cX5_restore 63 = .ok (.aload_n 0, 1) := by decide +kernel
theorem dX5_restore_64 : decode cX5_restore 64 = .ok (.aload_n 0, 1) := by decide +kernel
theorem dX5_restore_65 : decode cX5_restore 65 = .ok (.getfield 202, 3) := by decide +kernel
theorem dX5_restore_68 : decode cX5_restore 68 = .ok (.putfield 76, 3) := by decide +kernel
theorem dX5_restore_71 : decode cX5_restore 71 = .ok (.aload_n 0, 1) := by decide +kernel
theorem dX5_restore_72 : decode cX5_restore 72 = .ok (.getfield 70, 3) := by decide +kernel
theorem dX5_restore_75 : decode cX5_restore 75 = .ok (.ireturn, 1) := by decide +kernel
theorem dX5_litMany_0 : decode cX5_litMany 0 = .ok (.iconst 0, 1) := by decide +kernel
theorem dX5_litMany_1 : decode cX5_litMany 1 = .ok (.istore_n 1, 1) := by decide +kernel
theorem dX5_litMany_2 : decode cX5_litMany 2 = .ok (.iconst 0, 1) := by decide +kernel
theorem dX5_litMany_3 : decode cX5_litMany 3 = .ok (.istore_n 2, 1) := by decide +kernel
theorem dX5_litMany_4 : decode cX5_litMany 4 = .ok (.iload_n 2, 1) := by decide +kernel
theorem dX5_litMany_5 : decode cX5_litMany 5 = .ok (.aload_n 0, 1) := by decide +kernel
theorem dX5_litMany_6 : decode cX5_litMany 6 = .ok (.getfield 67, 3) := by decide +kernel
theorem dX5_litMany_9 : decode cX5_litMany 9 = .ok (.if_icmp .ge 30, 3) := by decide +kernel
theorem dX5_litMany_12 : decode cX5_litMany 12 = .ok (.iload_n 1, 1) := by decide +kernel
theorem dX5_litMany_13 : decode cX5_litMany 13 = .ok (.aload_n 0, 1) := by decide +kernel
theorem dX5_litMany_14 : decode cX5_litMany 14 = .ok (.getfield 13, 3) := by decide +kernel
theorem dX5_litMany_17 : decode cX5_litMany 17 = .ok (.iconst 3, 1) := by decide +kernel
theorem dX5_litMany_18 : decode cX5_litMany 18 = .ok (.iload_n 2, 1) := by decide +kernel
theorem dX5_litMany_19 : decode cX5_litMany 19 = .ok (.imul, 1) := by decide +kernel
theorem dX5_litMany_20 : decode cX5_litMany 20 = .ok (.iconst 2, 1) := by decide +kernel
theorem dX5_litMany_21 : decode cX5_litMany 21 = .ok (.iadd, 1) := by decide +kernel
theorem dX5_litMany_22 : decode cX5_litMany 22 = .ok (.iaload, 1) := by decide +kernel
theorem dX5_litMany_23 : decode cX5_litMany 23 = .ok (.ifCond .le 7, 3) := by decide +kernel
theorem dX5_litMany_26 : decode cX5_litMany 26 = .ok (.iconst 1, 1) := by decide +kernel
theorem dX5_litMany_27 : decode cX5_litMany 27 = .ok (.goto 4, 3) := by decide +kernel
theorem dX5_litMany_30 : decode cX5_litMany 30 = .ok (.iconst 0, 1) := by decide +kernel
theorem dX5_litMany_31 : decode cX5_litMany 31 = .ok (.iadd, 1) := by decide +kernel
theorem dX5_litMany_32 : decode cX5_litMany 32 = .ok (.istore_n 1, 1) := by decide +kernel
theorem dX5_litMany_33 : decode cX5_litMany 33 = .ok (.iinc 2 1, 3) := by decide +kernel
theorem dX5_litMany_36 : decode cX5_litMany 36 = .ok (.goto (-32), 3) := by decide +kernel
theorem dX5_litMany_39 : decode cX5_litMany 39 = .ok (.iload_n 1, 1) := by decide +kernel
theorem dX5_litMany_40 : decode cX5_litMany 40 = .ok (.ireturn, 1) := by decide +kernel
set_option maxRecDepth 20000 in
theorem ggX5_sumBy_X5_tell : GoodIn wsX5_sumBy wsX5_tell := goodIn_r _ [6, 7, 8, 9, 10, 11, 12, 13, 14, 15, 16, 17, 18, 19, 20, 21, 22, 23, 24, 25, 26, 27, 28, 29, 30, 31, 32] (by decide +kernel) (by decide +kernel)
set_option maxRecDepth 20000 in
theorem gX5_sumBy_X5_tell : GoodIn wsX5_sumBy (wsV RX5 104 RX5 yX5_tell wsX5_tell) := goodIn_app (goodIn_of _ (by decide +kernel)) ggX5_sumBy_X5_tell
theorem dX5_sumBy_0 : decode cX5_sumBy 0 = .ok (.iconst 0, 1) := by decide +kernel
theorem dX5_sumBy_1 : decode cX5_sumBy 1 = .ok (.istore_n 2, 1) := by decide +kernel
theorem dX5_sumBy_2 : decode cX5_sumBy 2 = .ok (.iconst 0, 1) := by decide +kernel
theorem dX5_sumBy_3 : decode cX5_sumBy 3 = .ok (.istore_n 3, 1) := by decide +kernel
theorem dX5_sumBy_4 : decode cX5_sumBy 4 = .ok (.iload_n 3, 1) := by decide +kernel
theorem dX5_sumBy_5 : decode cX5_sumBy 5 = .ok (.aload_n 0, 1) := by decide +kernel
theorem dX5_sumBy_6 : decode cX5_sumBy 6 = .ok (.getfield 73, 3) := by decide +kernel
theorem dX5_sumBy_9 : decode cX5_sumBy 9 = .ok (.if_icmp .ge 18, 3) := by decide +kernel
theorem dX5_sumBy_12 : decode cX5_sumBy 12 = .ok (.iload_n 2, 1) := by decide +kernel
theorem dX5_sumBy_13 : decode cX5_sumBy 13 = .ok (.aload_n 0, 1) := by decide +kernel
theorem dX5_sumBy_14 : decode cX5_sumBy 14 = .ok (.iload_n 3, 1) := by decide +kernel
theorem dX5_sumBy_15 : decode cX5_sumBy 15 = .ok (.iload_n 1, 1) := by decide +kernel
theorem dX5_sumBy_16 : decode cX5_sumBy 16 = .ok (.invokevirtual 104, 3) := by decide +kernel
theorem dX5_sumBy_19 : decode cX5_sumBy 19 = .ok (.iadd, 1) := by decide +kernel
theorem dX5_sumBy_20 : decode cX5_sumBy 20 = .ok (.istore_n 2, 1) := by decide +kernel
theorem dX5_sumBy_21 : decode cX5_sumBy 21 = .ok (.iinc 3 1, 3) := by decide +kernel
theorem dX5_sumBy_24 : decode cX5_sumBy 24 = .ok (.goto (-20), 3) := by decide +kernel
theorem dX5_sumBy_27 : decode cX5_sumBy 27 = .ok (.iload_n 2, 1) := by decide +kernel
theorem dX5_sumBy_28 : decode cX5_sumBy 28 = .ok (.ireturn, 1) := by decide +kernel
set_option maxRecDepth 20000 in
theorem ggX5_countOf_X5_litMany : GoodIn wsX5_countOf wsX5_litMany := goodIn_r _ [12, 1, 13, 23, 24, 25, 26, 27, 28, 29, 30, 31, 32, 33, 34, 35, 36, 37, 38, 39, 40, 41, 42, 43, 44, 45, 46] (by decide +kernel) (by decide +kernel)
set_option maxRecDepth 20000 in
theorem gX5_countOf_X5_litMany : GoodIn wsX5_countOf (wsV RX5 205 RX5 yX5_litMany wsX5_litMany) := goodIn_app (goodIn_of _ (by decide +kernel)) ggX5_countOf_X5_litMany
set_option maxRecDepth 20000 in
theorem ggX5_countOf_X5_sumBy : GoodIn wsX5_countOf wsX5_sumBy := goodIn_r _ [17, 2, 18, 19, 20, 11, 21, 22, 13, 23, 24, 25, 26, 27, 28, 29, 30, 31, 32, 33, 34, 35, 36, 37, 38, 39, 40, 41, 42, 43, 44, 45, 46] (by decide +kernel) (by decide +kernel)
end
section
set_option maxRecDepth 20000 in
theorem gX5_countOf_X5_sumBy : GoodIn wsX5_countOf (wsV RX5 208 RX5 yX5_sumBy wsX5_sumBy) := goodIn_app (goodIn_of _ (by decide +kernel)) ggX5_countOf_X5_sumBy
theorem dX5_countOf_0 : decode cX5_countOf 0 = .ok (.iload_n 1, 1) := by decide +kernel
theorem dX5_countOf_1 : decode cX5_countOf 1 = .ok (.tableswitch 113 0 10 #[59, 64, 69, 74, 80, 85, 85, 93, 98, 103, 108], 59) := by decide +kernel
theorem dX5_countOf_60 : decode cX5_countOf 60 = .ok (.aload_n 0, 1) := by decide +kernel
theorem dX5_countOf_61 : decode cX5_countOf 61 = .ok (.getfield 67, 3) := by decide +kernel
theorem dX5_countOf_64 : decode cX5_countOf 64 = .ok (.ireturn, 1) := by decide +kernel
theorem dX5_countOf_65 : decode cX5_countOf 65 = .ok (.aload_n 0, 1) := by decide +kernel
theorem dX5_countOf_66 : decode cX5_countOf 66 = .ok (.invokevirtual 205, 3) := by decide +kernel
theorem dX5_countOf_69 : decode cX5_countOf 69 = .ok (.ireturn, 1) := by decide +kernel
theorem dX5_countOf_70 : decode cX5_countOf 70 = .ok (.aload_n 0, 1) := by decide +kernel
theorem dX5_countOf_71 : decode cX5_countOf 71 = .ok (.getfield 73, 3) := by decide +kernel
theorem dX5_countOf_74 : decode cX5_countOf 74 = .ok (.ireturn, 1) := by decide +kernel
theorem dX5_countOf_75 : decode cX5_countOf 75 = .ok (.aload_n 0, 1) := by decide +kernel
theorem dX5_countOf_76 : decode cX5_countOf 76 = .ok (.iconst 1, 1) := by decide +kernel
theorem dX5_countOf_77 : decode cX5_countOf 77 = .ok (.invokevirtual 208, 3) := by decide +kernel
theorem dX5_countOf_80 : decode cX5_countOf 80 = .ok (.ireturn, 1) := by decide +kernel
theorem dX5_countOf_81 : decode cX5_countOf 81 = .ok (.aload_n 0, 1) := by decide +kernel
theorem dX5_countOf_82 : decode cX5_countOf 82 = .ok (.getfield 70, 3) := by decide +kernel
theorem dX5_countOf_85 : decode cX5_countOf 85 = .ok (.ireturn, 1) := by decide +kernel
theorem dX5_countOf_86 : decode cX5_countOf 86 = .ok (.aload_n 0, 1) := by decide +kernel
theorem dX5_countOf_87 : decode cX5_countOf 87 = .ok (.iload_n 1, 1) := by decide +kernel
theorem dX5_countOf_88 : decode cX5_countOf 88 = .ok (.iconst 3, 1) := by decide +kernel
theorem dX5_countOf_89 : decode cX5_countOf 89 = .ok (.isub, 1) := by decide +kernel
theorem dX5_countOf_90 : decode cX5_countOf 90 = .ok (.invokevirtual 208, 3) := by decide +kernel
theorem dX5_countOf_93 : decode cX5_countOf 93 = .ok (.ireturn, 1) := by decide +kernel
theorem dX5_countOf_94 : decode cX5_countOf 94 = .ok (.aload_n 0, 1) := by decide +kernel
theorem dX5_countOf_95 : decode cX5_countOf 95 = .ok (.getfield 76, 3) := by decide +kernel
theorem dX5_countOf_98 : decode cX5_countOf 98 = .ok (.ireturn, 1) := by decide +kernel
theorem dX5_countOf_99 : decode cX5_countOf 99 = .ok (.aload_n 0, 1) := by decide +kernel
theorem dX5_countOf_100 : decode cX5_countOf 100 = .ok (.getfield 50, 3) := by decide +kernel
theorem dX5_countOf_103 : decode cX5_countOf 103 = .ok (.ireturn, 1) := by decide +kernel
theorem dX5_countOf_104 : decode cX5_countOf 104 = .ok (.aload_n 0, 1) := by decide +kernel
theorem dX5_countOf_105 : decode cX5_countOf 105 = .ok (.getfield 79, 3) := by decide +kernel
theorem dX5_countOf_108 : decode cX5_countOf 108 = .ok (.ireturn, 1) := by decide +kernel
theorem dX5_countOf_109 : decode cX5_countOf 109 = .ok (.aload_n 0, 1) := by decide +kernel
theorem dX5_countOf_110 : decode cX5_countOf 110 = .ok (.getfield 155, 3) := by decide +kernel
theorem dX5_countOf_113 : decode cX5_countOf 113 = .ok (.ireturn, 1) := by decide +kernel
theorem dX5_countOf_114 : decode cX5_countOf 114 = .ok (.bipush (-102), 2) := by decide +kernel
theorem dX5_countOf_116 : decode cX5_countOf 116 = .ok (.ireturn, 1) := by decide +kernel
set_option maxRecDepth 20000 in
theorem ggX5_count_X5_countOf : GoodIn wsX5_count wsX5_countOf := goodIn_r _ [5, 6, 7, 8, 9, 10, 11, 12, 13, 14, 15, 4, 16, 17, 18, 19, 20, 21, 22, 23, 24, 25, 26, 27, 28, 29, 30, 31, 32, 33, 34, 35, 36, 37, 38, 39, 40, 41, 42, 43, 44, 45, 46, 47, 48, 49, 50] (by decide +kernel) (by decide +kernel)
set_option maxRecDepth 20000 in
theorem gX5_count_X5_countOf : GoodIn wsX5_count (wsV RX5 211 RX5 yX5_countOf wsX5_countOf) := goodIn_app (goodIn_of _ (by decide +kernel)) ggX5_count_X5_countOf
theorem dX5_count_0 : decode cX5_count 0 = .ok (.aload_n 0, 1) := by decide +kernel
theorem dX5_count_1 : decode cX5_count 1 = .ok (.iload_n 1, 1) := by decide +kernel
theorem dX5_count_2 : decode cX5_count 2 = .ok (.invokevirtual 211, 3) := by decide +kernel
theorem dX5_count_5 : decode cX5_count 5 = .ok (.ireturn, 1) := by decide +kernel
theorem dX5_say_0 : decode cX5_say 0 = .ok (.aload_n 0, 1) := by decide +kernel
theorem dX5_say_1 : decode cX5_say 1 = .ok (.ldc2_w 214, 3) := by decide +kernel
theorem dX5_say_4 : decode cX5_say 4 = .ok (.aload_n 0, 1) := by decide +kernel
theorem dX5_say_5 : decode cX5_say 5 = .ok (.getfield 216, 3) := by decide +kernel
theorem dX5_say_8 : decode cX5_say 8 = .ok (.lmul, 1) := by decide +kernel
theorem dX5_say_9 : decode cX5_say 9 = .ok (.lload_n 1, 1) := by decide +kernel
theorem dX5_say_10 : decode cX5_say 10 = .ok (.ladd, 1) := by decide +kernel
theorem dX5_say_11 : decode cX5_say 11 = .ok (.putfield 216, 3) := by decide +kernel
theorem dX5_say_14 : decode cX5_say 14 = .ok (.return_, 1) := by decide +kernel
set_option maxRecDepth 20000 in
theorem ggX5_digest_X5_tellLamp : GoodIn wsX5_digest wsX5_tellLamp := goodIn_r _ [11, 12, 13, 14, 15, 10, 16, 3, 17, 18, 19, 20, 4, 21, 22, 23, 24, 25, 105, 106, 107, 108, 109, 110, 111, 112, 113, 114, 115, 116, 117, 118, 119, 120, 121, 122, 123, 124, 125, 126, 127, 128] (by decide +kernel) (by decide +kernel)
set_option maxRecDepth 20000 in
theorem gX5_digest_X5_tellLamp : GoodIn wsX5_digest (wsV RX5 95 RX5 yX5_tellLamp wsX5_tellLamp) := goodIn_app (goodIn_of _ (by decide +kernel)) ggX5_digest_X5_tellLamp
set_option maxRecDepth 20000 in
theorem ggX5_digest_X5_say : GoodIn wsX5_digest wsX5_say := goodIn_r _ [29, 30, 2, 105, 106, 107, 108, 109, 110, 111, 112, 113, 114, 115, 116, 117, 118, 119, 120, 121, 122, 123, 124, 125, 126, 127, 128] (by decide +kernel) (by decide +kernel)
set_option maxRecDepth 20000 in
theorem gX5_digest_X5_say : GoodIn wsX5_digest (wsV RX5 222 RX5 yX5_say wsX5_say) := goodIn_app (goodIn_of _ (by decide +kernel)) ggX5_digest_X5_say
set_option maxRecDepth 20000 in
theorem ggX5_digest_X5_tell : GoodIn wsX5_digest wsX5_tell := goodIn_r _ [34, 21, 12, 105, 106, 107, 108, 109, 110, 111, 112, 113, 114, 115, 116, 117, 118, 119, 120, 121, 122, 123, 124, 125, 126, 127, 128] (by decide +kernel) (by decide +kernel)
set_option maxRecDepth 20000 in
theorem gX5_digest_X5_tell : GoodIn wsX5_digest (wsV RX5 104 RX5 yX5_tell wsX5_tell) := goodIn_app (goodIn_of _ (by decide +kernel)) ggX5_digest_X5_tell
set_option maxRecDepth 20000 in
theorem ggX5_digest_X5_wavedOf : GoodIn wsX5_digest wsX5_wavedOf := goodIn_r _ [38, 39, 40, 41, 10, 42, 21, 43, 44, 45, 46, 3, 47, 12, 48, 49, 50, 51, 52, 53, 54, 55, 56, 57, 13, 14, 15, 16, 105, 106, 107, 108, 109, 110, 111, 112, 113, 114, 115, 116, 117, 118, 119, 120, 121, 122, 123, 124, 125, 126, 127, 128] (by decide +kernel) (by decide +kernel)
set_option maxRecDepth 20000 in
theorem gX5_digest_X5_wavedOf : GoodIn wsX5_digest (wsV RX5 172 RX5 yX5_wavedOf wsX5_wavedOf) := goodIn_app (goodIn_of _ (by decide +kernel)) ggX5_digest_X5_wavedOf
set_option maxRecDepth 20000 in
theorem ggX5_digest_X5_lookOf : GoodIn wsX5_digest wsX5_lookOf := goodIn_r _ [61, 3, 47, 39, 40, 41, 10, 42, 21, 43, 44, 45, 46, 12, 48, 49, 50, 51, 52, 53, 54, 55, 56, 57, 13, 14, 15, 16, 105, 106, 107, 108, 109, 110, 111, 112, 113, 114, 115, 116, 117, 118, 119, 120, 121, 122, 123, 124, 125, 126, 127, 128] (by decide +kernel) (by decide +kernel)
set_option maxRecDepth 20000 in
theorem gX5_digest_X5_lookOf : GoodIn wsX5_digest (wsV RX5 176 RX5 yX5_lookOf wsX5_lookOf) := goodIn_app (goodIn_of _ (by decide +kernel)) ggX5_digest_X5_lookOf
set_option maxRecDepth 20000 in
theorem ggX5_digest_X5_lacks : GoodIn wsX5_digest wsX5_lacks := goodIn_r _ [65, 3, 105, 106, 107, 108, 109, 110, 111, 112, 113, 114, 115, 116, 117, 118, 119, 120, 121, 122, 123, 124, 125, 126, 127, 128] (by decide +kernel) (by decide +kernel)
set_option maxRecDepth 20000 in
theorem gX5_digest_X5_lacks : GoodIn wsX5_digest (wsV RX5 107 RX5 yX5_lacks wsX5_lacks) := goodIn_app (goodIn_of _ (by decide +kernel)) ggX5_digest_X5_lacks
set_option maxRecDepth 20000 in
theorem ggX5_digest_X5_leastOf : GoodIn wsX5_digest wsX5_leastOf := goodIn_r _ [69, 70, 4, 71, 72, 73, 10, 74, 43, 44, 45, 46, 3, 47, 12, 75, 76, 77, 78, 79, 80, 81, 21, 54, 55, 56, 57, 13, 14, 15, 16, 82, 83, 84, 85, 105, 106, 107, 108, 109, 110, 111, 112, 113, 114, 115, 116, 117, 118, 119, 120, 121, 122, 123, 124, 125, 126, 127, 128] (by decide +kernel) (by decide +kernel)
set_option maxRecDepth 20000 in
theorem gX5_digest_X5_leastOf : GoodIn wsX5_digest (wsV RX5 139 RX5 yX5_leastOf wsX5_leastOf) := goodIn_app (goodIn_of _ (by decide +kernel)) ggX5_digest_X5_leastOf
set_option maxRecDepth 20000 in
theorem ggX5_digest_X5_togetherOf : GoodIn wsX5_digest wsX5_togetherOf := goodIn_r _ [89, 3, 22, 23, 24, 10, 25, 13, 14, 15, 16, 12, 105, 106, 107, 108, 109, 110, 111, 112, 113, 114, 115, 116, 117, 118, 119, 120, 121, 122, 123, 124, 125, 126, 127, 128] (by decide +kernel) (by decide +kernel)
set_option maxRecDepth 20000 in
theorem gX5_digest_X5_togetherOf : GoodIn wsX5_digest (wsV RX5 161 RX5 yX5_togetherOf wsX5_togetherOf) := goodIn_app (goodIn_of _ (by decide +kernel)) ggX5_digest_X5_togetherOf
set_option maxRecDepth 20000 in
theorem ggX5_digest_X5_countOf : GoodIn wsX5_digest wsX5_countOf := goodIn_r _ [93, 3, 4, 94, 52, 5, 95, 96, 97, 98, 99, 10, 100, 12, 101, 102, 103, 104, 31, 32, 33, 34, 21, 105, 106, 107, 108, 109, 110, 111, 112, 113, 114, 115, 116, 117, 118, 119, 120, 121, 122, 123, 124, 125, 126, 127, 128] (by decide +kernel) (by decide +kernel)
set_option maxRecDepth 20000 in
theorem gX5_digest_X5_countOf : GoodIn wsX5_digest (wsV RX5 211 RX5 yX5_countOf wsX5_countOf) := goodIn_app (goodIn_of _ (by decide +kernel)) ggX5_digest_X5_countOf
theorem dX5_digest_0 : decode cX5_digest 0 = .ok (.aload_n 0, 1) := by decide +kernel
theorem dX5_digest_1 : decode cX5_digest 1 = .ok (.ldc2_w 220, 3) := by decide +kernel
theorem dX5_digest_4 : decode cX5_digest 4 = .ok (.putfield 216, 3) := by decide +kernel
theorem dX5_digest_7 : decode cX5_digest 7 = .ok (.iconst 0, 1) := by decide +kernel
theorem dX5_digest_8 : decode cX5_digest 8 = .ok (.istore_n 1, 1) := by decide +kernel
theorem dX5_digest_9 : decode cX5_digest 9 = .ok (.iload_n 1, 1) := by decide +kernel
theorem dX5_digest_10 : decode cX5_digest 10 = .ok (.aload_n 0, 1) := by decide +kernel
theorem dX5_digest_11 : decode cX5_digest 11 = .ok (.getfield 67, 3) := by decide +kernel
theorem dX5_digest_14 : decode cX5_digest 14 = .ok (.if_icmp .ge 34, 3) := by decide +kernel
theorem dX5_digest_17 : decode cX5_digest 17 = .ok (.iconst 0, 1) := by decide +kernel
theorem dX5_digest_18 : decode cX5_digest 18 = .ok (.istore_n 2, 1) := by decide +kernel
theorem dX5_digest_19 : decode cX5_digest 19 = .ok (.iload_n 2, 1) := by decide +kernel
theorem dX5_digest_20 : decode cX5_digest 20 = .ok (.bipush 6, 2) := by decide +kernel
theorem dX5_digest_22 : decode cX5_digest 22 = .ok (.if_icmp .ge 20, 3) := by decide +kernel
theorem dX5_digest_25 : decode cX5_digest 25 = .ok (.aload_n 0, 1) := by decide +kernel
theorem dX5_digest_26 : decode cX5_digest 26 = .ok (.aload_n 0, 1) := by decide +kernel
theorem dX5_digest_27 : decode cX5_digest 27 = .ok (.iload_n 1, 1) := by decide +kernel
theorem dX5_digest_28 : decode cX5_digest 28 = .ok (.iload_n 2, 1) := by decide +kernel
theorem dX5_digest_29 : decode cX5_digest 29 = .ok (.invokevirtual 95, 3) := by decide +kernel
theorem dX5_digest_32 : decode cX5_digest 32 = .ok (.i2l, 1) := by decide +kernel
theorem dX5_digest_33 : decode cX5_digest 33 = .ok (.invokevirtual 222, 3) := by decide +kernel
theorem dX5_digest_36 : decode cX5_digest 36 = .ok (.iinc 2 1, 3) := by decide +kernel
theorem dX5_digest_39 : decode cX5_digest 39 = .ok (.goto (-20), 3) := by decide +kernel
theorem dX5_digest_42 : decode cX5_digest 42 = .ok (.iinc 1 1, 3) := by decide +kernel
theorem dX5_digest_45 : decode cX5_digest 45 = .ok (.goto (-36), 3) := by decide +kernel
theorem dX5_digest_48 : decode cX5_digest 48 = .ok (.iconst 0, 1) := by decide +kernel
theorem dX5_digest_49 : decode cX5_digest 49 = .ok (.istore_n 1, 1) := by decide +kernel
theorem dX5_digest_50 : decode cX5_digest 50 = .ok (.iload_n 1, 1) := by decide +kernel
theorem dX5_digest_51 : decode cX5_digest 51 = .ok (.aload_n 0, 1) := by decide +kernel
theorem dX5_digest_52 : decode cX5_digest 52 = .ok (.getfield 73, 3) := by decide +kernel
theorem dX5_digest_55 : decode cX5_digest 55 = .ok (.if_icmp .ge 68, 3) := by decide +kernel
theorem dX5_digest_58 : decode cX5_digest 58 = .ok (.iconst 0, 1) := by decide +kernel
theorem dX5_digest_59 : decode cX5_digest 59 = .ok (.istore_n 2, 1) := by decide +kernel
theorem dX5_digest_60 : decode cX5_digest 60 = .ok (.iload_n 2, 1) := by decide +kernel
theorem dX5_digest_61 : decode cX5_digest 61 = .ok (.iconst 4, 1) := by decide +kernel
theorem dX5_digest_62 : decode cX5_digest 62 = .ok (.if_icmp .ge 20, 3) := by decide +kernel
theorem dX5_digest_65 : decode cX5_digest 65 = .ok (.aload_n 0, 1) := by decide +kernel
theorem dX5_digest_66 : decode cX5_digest 66 = .ok (.aload_n 0, 1) := by decide +kernel
theorem dX5_digest_67 : decode cX5_digest 67 = .ok (.iload_n 1, 1) := by decide +kernel
theorem dX5_digest_68 : decode cX5_digest 68 = .ok (.iload_n 2, 1) := by decide +kernel
theorem dX5_digest_69 : decode cX5_digest 69 = .ok (.invokevirtual 104, 3) := by decide +kernel
theorem dX5_digest_72 : decode cX5_digest 72 = .ok (.i2l, 1) := by decide +kernel
theorem dX5_digest_73 : decode cX5_digest 73 = .ok (.invokevirtual 222, 3) := by decide +kernel
theorem dX5_digest_76 : decode cX5_digest 76 = .ok (.iinc 2 1, 3) := by decide +kernel
theorem dX5_digest_79 : decode cX5_digest 79 = .ok (.goto (-19), 3) := by decide +kernel
theorem dX5_digest_82 : decode cX5_digest 82 = .ok (.aload_n 0, 1) := by decide +kernel
theorem dX5_digest_83 : decode cX5_digest 83 = .ok (.aload_n 0, 1) := by decide +kernel
theorem dX5_digest_84 : decode cX5_digest 84 = .ok (.iload_n 1, 1) := by decide +kernel
theorem dX5_digest_85 : decode cX5_digest 85 = .ok (.iconst 4, 1) := by decide +kernel
theorem dX5_digest_86 : decode cX5_digest 86 = .ok (.iconst 0, 1) := by decide +kernel
theorem dX5_digest_87 : decode cX5_digest 87 = .ok (.invokevirtual 172, 3) := by decide +kernel
theorem dX5_digest_90 : decode cX5_digest 90 = .ok (.i2l, 1) := by decide +kernel
theorem dX5_digest_91 : decode cX5_digest 91 = .ok (.invokevirtual 222, 3) := by decide +kernel
theorem dX5_digest_94 : decode cX5_digest 94 = .ok (.aload_n 0, 1) := by decide +kernel
theorem dX5_digest_95 : decode cX5_digest 95 = .ok (.aload_n 0, 1) := by decide +kernel
theorem dX5_digest_96 : decode cX5_digest 96 = .ok (.iload_n 1, 1) := by decide +kernel
theorem dX5_digest_97 : decode cX5_digest 97 = .ok (.iconst 4, 1) := by decide +kernel
theorem dX5_digest_98 : decode cX5_digest 98 = .ok (.iconst 1, 1) := by decide +kernel
theorem dX5_digest_99 : decode cX5_digest 99 = .ok (.invokevirtual 172, 3) := by decide +kernel
theorem dX5_digest_102 : decode cX5_digest 102 = .ok (.i2l, 1) := by decide +kernel
theorem dX5_digest_103 : decode cX5_digest 103 = .ok (.invokevirtual 222, 3) := by decide +kernel
theorem dX5_digest_106 : decode cX5_digest 106 = .ok (.aload_n 0, 1) := by decide +kernel
theorem dX5_digest_107 : decode cX5_digest 107 = .ok (.aload_n 0, 1) := by decide +kernel
theorem dX5_digest_108 : decode cX5_digest 108 = .ok (.iload_n 1, 1) := by decide +kernel
theorem dX5_digest_109 : decode cX5_digest 109 = .ok (.iconst 3, 1) := by decide +kernel
theorem dX5_digest_110 : decode cX5_digest 110 = .ok (.invokevirtual 176, 3) := by decide +kernel
theorem dX5_digest_113 : decode cX5_digest 113 = .ok (.i2l, 1) := by decide +kernel
theorem dX5_digest_114 : decode cX5_digest 114 = .ok (.invokevirtual 222, 3) := by decide +kernel
theorem dX5_digest_117 : decode cX5_digest 117 = .ok (.iinc 1 1, 3) := by decide +kernel
theorem dX5_digest_120 : decode cX5_digest 120 = .ok (.goto (-70), 3) := by decide +kernel
theorem dX5_digest_123 : decode cX5_digest 123 = .ok (.aload_n 0, 1) := by decide +kernel
theorem dX5_digest_124 : decode cX5_digest 124 = .ok (.invokevirtual 107, 3) := by decide +kernel
theorem dX5_digest_127 : decode cX5_digest 127 = .ok (.ifCond .ne 58, 3) := by decide +kernel
theorem dX5_digest_130 : decode cX5_digest 130 = .ok (.aload_n 0, 1) := by decide +kernel
theorem dX5_digest_131 : decode cX5_digest 131 = .ok (.aload_n 0, 1) := by decide +kernel
theorem dX5_digest_132 : decode cX5_digest 132 = .ok (.iconst 2, 1) := by decide +kernel
theorem dX5_digest_133 : decode cX5_digest 133 = .ok (.iconst 0, 1) := by decide +kernel
theorem dX5_digest_134 : decode cX5_digest 134 = .ok (.invokevirtual 139, 3) := by decide +kernel
theorem dX5_digest_137 : decode cX5_digest 137 = .ok (.i2l, 1) := by decide +kernel
theorem dX5_digest_138 : decode cX5_digest 138 = .ok (.invokevirtual 222, 3) := by decide +kernel
theorem dX5_digest_141 : decode cX5_digest 141 = .ok (.aload_n 0, 1) := by decide +kernel
theorem dX5_digest_142 : decode cX5_digest 142 = .ok (.aload_n 0, 1) := by decide +kernel
theorem dX5_digest_143 : decode cX5_digest 143 = .ok (.iconst 2, 1) := by decide +kernel
theorem dX5_digest_144 : decode cX5_digest 144 = .ok (.bipush 10, 2) := by decide +kernel
theorem dX5_digest_146 : decode cX5_digest 146 = .ok (.invokevirtual 139, 3) := by decide +kernel
theorem dX5_digest_149 : decode cX5_digest 149 = .ok (.i2l, 1) := by decide +kernel
theorem dX5_digest_150 : decode cX5_digest 150 = .ok (.invokevirtual 222, 3) := by decide +kernel
theorem dX5_digest_153 : decode cX5_digest 153 = .ok (.aload_n 0, 1) := by decide +kernel
theorem dX5_digest_154 : decode cX5_digest 154 = .ok (.aload_n 0, 1) := by decide +kernel
theorem dX5_digest_155 : decode cX5_digest 155 = .ok (.iconst 2, 1) := by decide +kernel
theorem dX5_digest_156 : decode cX5_digest 156 = .ok (.bipush 11, 2) := by decide +kernel
theorem dX5_digest_158 : decode cX5_digest 158 = .ok (.invokevirtual 139, 3) := by decide +kernel
theorem dX5_digest_161 : decode cX5_digest 161 = .ok (.i2l, 1) := by decide +kernel
theorem dX5_digest_162 : decode cX5_digest 162 = .ok (.invokevirtual 222, 3) := by decide +kernel
theorem dX5_digest_165 : decode cX5_digest 165 = .ok (.aload_n 0, 1) := by decide +kernel
theorem dX5_digest_166 : decode cX5_digest 166 = .ok (.aload_n 0, 1) := by decide +kernel
theorem dX5_digest_167 : decode cX5_digest 167 = .ok (.iconst 0, 1) := by decide +kernel
theorem dX5_digest_168 : decode cX5_digest 168 = .ok (.invokevirtual 161, 3) := by decide +kernel
theorem dX5_digest_171 : decode cX5_digest 171 = .ok (.i2l, 1) := by decide +kernel
theorem dX5_digest_172 : decode cX5_digest 172 = .ok (.invokevirtual 222, 3) := by decide +kernel
theorem dX5_digest_175 : decode cX5_digest 175 = .ok (.aload_n 0, 1) := by decide +kernel
theorem dX5_digest_176 : decode cX5_digest 176 = .ok (.aload_n 0, 1) := by decide +kernel
theorem dX5_digest_177 : decode cX5_digest 177 = .ok (.iconst 1, 1) := by decide +kernel
theorem dX5_digest_178 : decode cX5_digest 178 = .ok (.invokevirtual 161, 3) := by decide +kernel
theorem dX5_digest_181 : decode cX5_digest 181 = .ok (.i2l, 1) := by decide +kernel
theorem dX5_digest_182 : decode cX5_digest 182 = .ok (.invokevirtual 222, 3) := by decide +kernel
theorem dX5_digest_185 : decode cX5_digest 185 = .ok (.iconst 0, 1) := by decide +kernel
theorem dX5_digest_186 : decode cX5_digest 186 = .ok (.istore_n 1, 1) := by decide +kernel
theorem dX5_digest_187 : decode cX5_digest 187 = .ok (.iload_n 1, 1) := by decide +kernel
theorem dX5_digest_188 : decode cX5_digest 188 = .ok (.aload_n 0, 1) := by decide +kernel
theorem dX5_digest_189 : decode cX5_digest 189 = .ok (.getfield 50, 3) := by decide +kernel
theorem dX5_digest_192 : decode cX5_digest 192 = .ok (.if_icmp .ge 20, 3) := by decide +kernel
theorem dX5_digest_195 : decode cX5_digest 195 = .ok (.aload_n 0, 1) := by decide +kernel
theorem dX5_digest_196 : decode cX5_digest 196 = .ok (.aload_n 0, 1) := by decide +kernel
theorem dX5_digest_197 : decode cX5_digest 197 = .ok (.getfield 7, 3) := by decide +kernel
theorem dX5_digest_200 : decode cX5_digest 200 = .ok (.iload_n 1, 1) := by decide +kernel
theorem dX5_digest_201 : decode cX5_digest 201 = .ok (.iaload, 1) := by decide +kernel
theorem dX5_digest_202 : decode cX5_digest 202 = .ok (.i2l, 1) := by decide +kernel
theorem dX5_digest_203 : decode cX5_digest 203 = .ok (.invokevirtual 222, 3) := by decide +kernel
theorem dX5_digest_206 : decode cX5_digest 206 = .ok (.iinc 1 1, 3) := by decide +kernel
theorem dX5_digest_209 : decode cX5_digest 209 = .ok (.goto (-22), 3) := by decide +kernel
theorem dX5_digest_212 : decode cX5_digest 212 = .ok (.iconst 0, 1) := by decide +kernel
theorem dX5_digest_213 : decode cX5_digest 213 = .ok (.istore_n 1, 1) := by decide +kernel
theorem dX5_digest_214 : decode cX5_digest 214 = .ok (.iload_n 1, 1) := by decide +kernel
theorem dX5_digest_215 : decode cX5_digest 215 = .ok (.bipush 11, 2) := by decide +kernel
theorem dX5_digest_217 : decode cX5_digest 217 = .ok (.if_icmp .ge 19, 3) := by decide +kernel
theorem dX5_digest_220 : decode cX5_digest 220 = .ok (.aload_n 0, 1) := by decide +kernel
theorem dX5_digest_221 : decode cX5_digest 221 = .ok (.aload_n 0, 1) := by decide +kernel
theorem dX5_digest_222 : decode cX5_digest 222 = .ok (.iload_n 1, 1) := by decide +kernel
theorem dX5_digest_223 : decode cX5_digest 223 = .ok (.invokevirtual 211, 3) := by decide +kernel
theorem dX5_digest_226 : decode cX5_digest 226 = .ok (.i2l, 1) := by decide +kernel
theorem dX5_digest_227 : decode cX5_digest 227 = .ok (.invokevirtual 222, 3) := by decide +kernel
theorem dX5_digest_230 : decode cX5_digest 230 = .ok (.iinc 1 1, 3) := by decide +kernel
theorem dX5_digest_233 : decode cX5_digest 233 = .ok (.goto (-19), 3) := by decide +kernel
theorem dX5_digest_236 : decode cX5_digest 236 = .ok (.aload_n 0, 1) := by decide +kernel
theorem dX5_digest_237 : decode cX5_digest 237 = .ok (.getfield 216, 3) := by decide +kernel
theorem dX5_digest_240 : decode cX5_digest 240 = .ok (.lreturn, 1) := by decide +kernel
theorem dJ6_bitCount_0f7a4_0 : decode cJ6_bitCount_0f7a4 0 = .ok (.iload_n 0, 1) := by decide +kernel
theorem dJ6_bitCount_0f7a4_1 : decode cJ6_bitCount_0f7a4 1 = .ok (.iload_n 0, 1) := by decide +kernel
theorem dJ6_bitCount_0f7a4_2 : decode cJ6_bitCount_0f7a4 2 = .ok (.iconst 1, 1) := by decide +kernel
theorem dJ6_bitCount_0f7a4_3 : decode cJ6_bitCount_0f7a4 3 = .ok (.iushr, 1) := by decide +kernel
theorem dJ6_bitCount_0f7a4_4 : decode cJ6_bitCount_0f7a4 4 = .ok (.ldc_w 265, 3) := by decide +kernel
theorem dJ6_bitCount_0f7a4_7 : decode cJ6_bitCount_0f7a4 7 = .ok (.iand, 1) := by decide +kernel
theorem dJ6_bitCount_0f7a4_8 : decode cJ6_bitCount_0f7a4 8 = .ok (.isub, 1) := by decide +kernel
theorem dJ6_bitCount_0f7a4_9 : decode cJ6_bitCount_0f7a4 9 = .ok (.istore_n 0, 1) := by decide +kernel
theorem dJ6_bitCount_0f7a4_10 : decode cJ6_bitCount_0f7a4 10 = .ok (.iload_n 0, 1) := by decide +kernel
theorem dJ6_bitCount_0f7a4_11 : decode cJ6_bitCount_0f7a4 11 = .ok (.ldc_w 266, 3) := by decide +kernel
theorem dJ6_bitCount_0f7a4_14 : decode cJ6_bitCount_0f7a4 14 = .ok (.iand, 1) := by decide +kernel
theorem dJ6_bitCount_0f7a4_15 : decode cJ6_bitCount_0f7a4 15 = .ok (.iload_n 0, 1) := by decide +kernel
theorem dJ6_bitCount_0f7a4_16 : decode cJ6_bitCount_0f7a4 16 = .ok (.iconst 2, 1) := by decide +kernel
theorem dJ6_bitCount_0f7a4_17 : decode cJ6_bitCount_0f7a4 17 = .ok (.iushr, 1) := by decide +kernel
theorem dJ6_bitCount_0f7a4_18 : decode cJ6_bitCount_0f7a4 18 = .ok (.ldc_w 266, 3) := by decide +kernel
theorem dJ6_bitCount_0f7a4_21 : decode cJ6_bitCount_0f7a4 21 = .ok (.iand, 1) := by decide +kernel
theorem dJ6_bitCount_0f7a4_22 : decode cJ6_bitCount_0f7a4 22 = .ok (.iadd, 1) := by decide +kernel
theorem dJ6_bitCount_0f7a4_23 : decode cJ6_bitCount_0f7a4 23 = .ok (.istore_n 0, 1) := by decide +kernel
theorem dJ6_bitCount_0f7a4_24 : decode cJ6_bitCount_0f7a4 24 = .ok (.iload_n 0, 1) := by decide +kernel
theorem dJ6_bitCount_0f7a4_25 : decode cJ6_bitCount_0f7a4 25 = .ok (.iload_n 0, 1) := by decide +kernel
theorem dJ6_bitCount_0f7a4_26 : decode cJ6_bitCount_0f7a4 26 = .ok (.iconst 4, 1) := by decide +kernel
theorem dJ6_bitCount_0f7a4_27 : decode cJ6_bitCount_0f7a4 27 = .ok (.iushr, 1) := by decide +kernel
theorem dJ6_bitCount_0f7a4_28 : decode cJ6_bitCount_0f7a4 28 = .ok (.iadd, 1) := by decide +kernel
theorem dJ6_bitCount_0f7a4_29 : decode cJ6_bitCount_0f7a4 29 = .ok (.ldc_w 267, 3) := by decide +kernel
theorem dJ6_bitCount_0f7a4_32 : decode cJ6_bitCount_0f7a4 32 = .ok (.iand, 1) := by decide +kernel
theorem dJ6_bitCount_0f7a4_33 : decode cJ6_bitCount_0f7a4 33 = .ok (.istore_n 0, 1) := by decide +kernel
theorem dJ6_bitCount_0f7a4_34 : decode cJ6_bitCount_0f7a4 34 = .ok (.iload_n 0, 1) := by decide +kernel
theorem dJ6_bitCount_0f7a4_35 : decode cJ6_bitCount_0f7a4 35 = .ok (.iload_n 0, 1) := by decide +kernel
theorem dJ6_bitCount_0f7a4_36 : decode cJ6_bitCount_0f7a4 36 = .ok (.bipush 8, 2) := by decide +kernel
theorem dJ6_bitCount_0f7a4_38 : decode cJ6_bitCount_0f7a4 38 = .ok (.iushr, 1) := by decide +kernel
theorem dJ6_bitCount_0f7a4_39 : decode cJ6_bitCount_0f7a4 39 = .ok (.iadd, 1) := by decide +kernel
theorem dJ6_bitCount_0f7a4_40 : decode cJ6_bitCount_0f7a4 40 = .ok (.istore_n 0, 1) := by decide +kernel
theorem dJ6_bitCount_0f7a4_41 : decode cJ6_bitCount_0f7a4 41 = .ok (.iload_n 0, 1) := by decide +kernel
theorem dJ6_bitCount_0f7a4_42 : decode cJ6_bitCount_0f7a4 42 = .ok (.iload_n 0, 1) := by decide +kernel
theorem dJ6_bitCount_0f7a4_43 : decode cJ6_bitCount_0f7a4 43 = .ok (.bipush 16, 2) := by decide +kernel
theorem dJ6_bitCount_0f7a4_45 : decode cJ6_bitCount_0f7a4 45 = .ok (.iushr, 1) := by decide +kernel
theorem dJ6_bitCount_0f7a4_46 : decode cJ6_bitCount_0f7a4 46 = .ok (.iadd, 1) := by decide +kernel
theorem dJ6_bitCount_0f7a4_47 : decode cJ6_bitCount_0f7a4 47 = .ok (.istore_n 0, 1) := by decide +kernel
theorem dJ6_bitCount_0f7a4_48 : decode cJ6_bitCount_0f7a4 48 = .ok (.iload_n 0, 1) := by decide +kernel
theorem dJ6_bitCount_0f7a4_49 : decode cJ6_bitCount_0f7a4 49 = .ok (.bipush 63, 2) := by decide +kernel
theorem dJ6_bitCount_0f7a4_51 : decode cJ6_bitCount_0f7a4 51 = .ok (.iand, 1) := by decide +kernel
theorem dJ6_bitCount_0f7a4_52 : decode cJ6_bitCount_0f7a4 52 = .ok (.ireturn, 1) := by decide +kernel
theorem dJ9_max_7cf53_0 : decode cJ9_max_7cf53 0 = .ok (.iload_n 0, 1) := by decide +kernel
theorem dJ9_max_7cf53_1 : decode cJ9_max_7cf53 1 = .ok (.iload_n 1, 1) := by decide +kernel
theorem dJ9_max_7cf53_2 : decode cJ9_max_7cf53 2 = .ok (.if_icmp .lt 7, 3) := by decide +kernel
theorem dJ9_max_7cf53_5 : decode cJ9_max_7cf53 5 = .ok (.iload_n 0, 1) := by decide +kernel
theorem dJ9_max_7cf53_6 : decode cJ9_max_7cf53 6 = .ok (.goto 4, 3) := by decide +kernel
theorem dJ9_max_7cf53_9 : decode cJ9_max_7cf53 9 = .ok (.iload_n 1, 1) := by decide +kernel
theorem dJ9_max_7cf53_10 : decode cJ9_max_7cf53 10 = .ok (.ireturn, 1) := by decide +kernel
theorem dJ9_min_7cf53_0 : decode cJ9_min_7cf53 0 = .ok (.iload_n 0, 1) := by decide +kernel
theorem dJ9_min_7cf53_1 : decode cJ9_min_7cf53 1 = .ok (.iload_n 1, 1) := by decide +kernel
theorem dJ9_min_7cf53_2 : decode cJ9_min_7cf53 2 = .ok (.if_icmp .gt 7, 3) := by decide +kernel
theorem dJ9_min_7cf53_5 : decode cJ9_min_7cf53 5 = .ok (.iload_n 0, 1) := by decide +kernel
theorem dJ9_min_7cf53_6 : decode cJ9_min_7cf53 6 = .ok (.goto 4, 3) := by decide +kernel
theorem dJ9_min_7cf53_9 : decode cJ9_min_7cf53 9 = .ok (.iload_n 1, 1) := by decide +kernel
theorem dJ9_min_7cf53_10 : decode cJ9_min_7cf53 10 = .ok (.ireturn, 1) := by decide +kernel
set_option maxRecDepth 20000 in
theorem ggJ0_length_8abf5_J0_coder_7d493 : GoodIn wsJ0_length_8abf5 wsJ0_coder_7d493 := goodIn_r _ [6, 7, 8] (by decide +kernel) (by decide +kernel)
set_option maxRecDepth 20000 in
theorem gJ0_length_8abf5_J0_coder_7d493 : GoodIn wsJ0_length_8abf5 (wsV RJ0 335 RJ0 yJ0_coder_7d493 wsJ0_coder_7d493) := goodIn_app (goodIn_of _ (by decide +kernel)) ggJ0_length_8abf5_J0_coder_7d493
theorem dJ0_length_8abf5_0 : decode cJ0_length_8abf5 0 = .ok (.aload_n 0, 1) := by decide +kernel
theorem dJ0_length_8abf5_1 : decode cJ0_length_8abf5 1 = .ok (.getfield 9, 3) := by decide +kernel
theorem dJ0_length_8abf5_4 : decode cJ0_length_8abf5 4 = .ok (.arraylength, 1) := by decide +kernel
theorem dJ0_length_8abf5_5 : decode cJ0_length_8abf5 5 = .ok (.aload_n 0, 1) := by decide +kernel
theorem dJ0_length_8abf5_6 : decode cJ0_length_8abf5 6 = .ok (.invokevirtual 335, 3) := by decide +kernel
theorem dJ0_length_8abf5_9 : decode cJ0_length_8abf5 9 = .ok (.ishr, 1) := by decide +kernel
theorem dJ0_length_8abf5_10 : decode cJ0_length_8abf5 10 = .ok (.ireturn, 1) := by decide +kernel
set_option maxRecDepth 20000 in
theorem ggJ0_indexOf_0f7a4_J0_indexOf_7cf53 : GoodIn wsJ0_indexOf_0f7a4 wsJ0_indexOf_7cf53 := goodIn_r _ [5, 6, 7, 8, 9, 4, 10, 11, 12, 13, 14, 15, 16, 17, 18, 19, 20, 21, 22, 23, 24, 25, 26, 27, 28, 29, 30, 31, 32, 33, 34, 35, 36, 37, 38, 39, 40, 41, 42, 43, 44, 45, 46, 47, 48, 49, 50, 51, 52, 53, 54, 55, 56, 57, 58, 59, 60, 61, 62, 63, 64, 65, 66, 67, 68, 69, 70, 71, 72, 73, 74, 75, 76, 77, 78, 79, 80, 81, 82, 83, 84, 85] (by decide +kernel) (by decide +kernel)
set_option maxRecDepth 20000 in
theorem gJ0_indexOf_0f7a4_J0_indexOf_7cf53 : GoodIn wsJ0_indexOf_0f7a4 (wsV RJ0 633 RJ0 yJ0_indexOf_7cf53 wsJ0_indexOf_7cf53) := goodIn_app (goodIn_of _ (by decide +kernel)) ggJ0_indexOf_0f7a4_J0_indexOf_7cf53
theorem dJ0_indexOf_0f7a4_0 : decode cJ0_indexOf_0f7a4 0 = .ok (.aload_n 0, 1) := by decide +kernel
theorem dJ0_indexOf_0f7a4_1 : decode cJ0_indexOf_0f7a4 1 = .ok (.iload_n 1, 1) := by decide +kernel
theorem dJ0_indexOf_0f7a4_2 : decode cJ0_indexOf_0f7a4 2 = .ok (.iconst 0, 1) := by decide +kernel
theorem dJ0_indexOf_0f7a4_3 : decode cJ0_indexOf_0f7a4 3 = .ok (.invokevirtual 633, 3) := by decide +kernel
theorem dJ0_indexOf_0f7a4_6 : decode cJ0_indexOf_0f7a4 6 = .ok (.ireturn, 1) := by decide +kernel
set_option maxRecDepth 20000 in
theorem ggJ0_indexOf_7cf53_J0_isLatin1_aae02 : GoodIn wsJ0_indexOf_7cf53 wsJ0_isLatin1_aae02 := goodIn_r _ [6, 7, 8] (by decide +kernel) (by decide +kernel)
set_option maxRecDepth 20000 in
theorem gJ0_indexOf_7cf53_J0_isLatin1_aae02 : GoodIn wsJ0_indexOf_7cf53 (wsV RJ0 492 RJ0 yJ0_isLatin1_aae02 wsJ0_isLatin1_aae02) := goodIn_app (goodIn_of _ (by decide +kernel)) ggJ0_indexOf_7cf53_J0_isLatin1_aae02
set_option maxRecDepth 20000 in
theorem ggJ0_indexOf_7cf53_J0_length_8abf5 : GoodIn wsJ0_indexOf_7cf53 wsJ0_length_8abf5 := goodIn_r _ [12, 1, 13, 14, 15, 5, 16, 7, 8] (by decide +kernel) (by decide +kernel)
set_option maxRecDepth 20000 in
theorem gJ0_indexOf_7cf53_J0_length_8abf5 : GoodIn wsJ0_indexOf_7cf53 (wsV RJ0 505 RJ0 yJ0_length_8abf5 wsJ0_length_8abf5) := goodIn_app (goodIn_of _ (by decide +kernel)) ggJ0_indexOf_7cf53_J0_length_8abf5
set_option maxRecDepth 20000 in
theorem ggJ0_indexOf_7cf53_J1_indexOf_4cfef : GoodIn wsJ0_indexOf_7cf53 wsJ1_indexOf_4cfef := goodIn_r _ [20, 21, 22, 23, 24, 25, 26, 27, 28, 29, 19, 30, 31, 32, 33] (by decide +kernel) (by decide +kernel)
set_option maxRecDepth 20000 in
theorem gJ0_indexOf_7cf53_J1_indexOf_4cfef : GoodIn wsJ0_indexOf_7cf53 (va_wsS RJ0 637 yJ1_indexOf_4cfef wsJ1_indexOf_4cfef) := goodIn_app (goodIn_of _ (by decide +kernel)) ggJ0_indexOf_7cf53_J1_indexOf_4cfef
set_option maxRecDepth 20000 in
theorem ggJ0_indexOf_7cf53_J2_indexOf_4cfef : GoodIn wsJ0_indexOf_7cf53 wsJ2_indexOf_4cfef := goodIn_r _ [37, 38, 22, 23, 24, 39, 26, 27, 40, 41, 42, 36, 43, 44, 45, 46, 47, 48, 49, 50, 51, 5, 52, 53, 54, 55, 56, 57, 58, 59, 60, 61, 62, 63, 64, 65, 66, 67, 68, 69, 70, 71, 72, 73, 74, 75, 76, 77, 78, 79, 80, 81] (by decide +kernel) (by decide +kernel)
set_option maxRecDepth 20000 in
theorem gJ0_indexOf_7cf53_J2_indexOf_4cfef : GoodIn wsJ0_indexOf_7cf53 (va_wsS RJ0 640 yJ2_indexOf_4cfef wsJ2_indexOf_4cfef) := goodIn_app (goodIn_of _ (by decide +kernel)) ggJ0_indexOf_7cf53_J2_indexOf_4cfef
theorem dJ0_indexOf_7cf53_0 : decode cJ0_indexOf_7cf53 0 = .ok (.aload_n 0, 1) := by decide +kernel
theorem dJ0_indexOf_7cf53_1 : decode cJ0_indexOf_7cf53 1 = .ok (.invokevirtual 492, 3) := by decide +kernel
theorem dJ0_indexOf_7cf53_4 : decode cJ0_indexOf_7cf53 4 = .ok (.ifCond .eq 19, 3) := by decide +kernel
theorem dJ0_indexOf_7cf53_7 : decode cJ0_indexOf_7cf53 7 = .ok (.aload_n 0, 1) := by decide +kernel
theorem dJ0_indexOf_7cf53_8 : decode cJ0_indexOf_7cf53 8 = .ok (.getfield 9, 3) := by decide +kernel
theorem dJ0_indexOf_7cf53_11 : decode cJ0_indexOf_7cf53 11 = .ok (.iload_n 1, 1) := by decide +kernel
theorem dJ0_indexOf_7cf53_12 : decode cJ0_indexOf_7cf53 12 = .ok (.iload_n 2, 1) := by decide +kernel
theorem dJ0_indexOf_7cf53_13 : decode cJ0_indexOf_7cf53 13 = .ok (.aload_n 0, 1) := by decide +kernel
theorem dJ0_indexOf_7cf53_14 : decode cJ0_indexOf_7cf53 14 = .ok (.invokevirtual 505, 3) := by decide +kernel
theorem dJ0_indexOf_7cf53_17 : decode cJ0_indexOf_7cf53 17 = .ok (.invokestatic 637, 3) := by decide +kernel
theorem dJ0_indexOf_7cf53_20 : decode cJ0_indexOf_7cf53 20 = .ok (.goto 16, 3) := by decide +kernel
theorem dJ0_indexOf_7cf53_23 : decode cJ0_indexOf_7cf53 23 = .ok (.aload_n 0, 1) := by decide +kernel
theorem dJ0_indexOf_7cf53_24 : decode cJ0_indexOf_7cf53 24 = .ok (.getfield 9, 3) := by decide +kernel
theorem dJ0_indexOf_7cf53_27 : decode cJ0_indexOf_7cf53 27 = .ok (.iload_n 1, 1) := by decide +kernel
theorem dJ0_indexOf_7cf53_28 : decode cJ0_indexOf_7cf53 28 = .ok (.iload_n 2, 1) := by decide +kernel
theorem dJ0_indexOf_7cf53_29 : decode cJ0_indexOf_7cf53 29 = .ok (.aload_n 0, 1) := by decide +kernel
theorem dJ0_indexOf_7cf53_30 : decode cJ0_indexOf_7cf53 30 = .ok (.invokevirtual 505, 3) := by decide +kernel
theorem dJ0_indexOf_7cf53_33 : decode cJ0_indexOf_7cf53 33 = .ok (.invokestatic 640, 3) := by decide +kernel
theorem dJ0_indexOf_7cf53_36 : decode cJ0_indexOf_7cf53 36 = .ok (.ireturn, 1) := by decide +kernel
theorem dJ0_coder_7d493_0 : decode cJ0_coder_7d493 0 = .ok (.getstatic 38, 3) := by decide +kernel
theorem dJ0_coder_7d493_3 : decode cJ0_coder_7d493 3 = .ok (.ifCond .eq 10, 3) := by decide +kernel
theorem dJ0_coder_7d493_6 : decode cJ0_coder_7d493 6 = .ok (.aload_n 0, 1) := by decide +kernel
theorem dJ0_coder_7d493_7 : decode cJ0_coder_7d493 7 = .ok (.getfield 15, 3) := by decide +kernel
theorem dJ0_coder_7d493_10 : decode cJ0_coder_7d493 10 = .ok (.goto 4, 3) := by decide +kernel
theorem dJ0_coder_7d493_13 : decode cJ0_coder_7d493 13 = .ok (.iconst 1, 1) := by decide +kernel
theorem dJ0_coder_7d493_14 : decode cJ0_coder_7d493 14 = .ok (.ireturn, 1) := by decide +kernel
theorem dJ0_isLatin1_aae02_0 : decode cJ0_isLatin1_aae02 0 = .ok (.getstatic 38, 3) := by decide +kernel
theorem dJ0_isLatin1_aae02_3 : decode cJ0_isLatin1_aae02 3 = .ok (.ifCond .eq 14, 3) := by decide +kernel
theorem dJ0_isLatin1_aae02_6 : decode cJ0_isLatin1_aae02 6 = .ok (.aload_n 0, 1) := by decide +kernel
theorem dJ0_isLatin1_aae02_7 : decode cJ0_isLatin1_aae02 7 = .ok (.getfield 15, 3) := by decide +kernel
theorem dJ0_isLatin1_aae02_10 : decode cJ0_isLatin1_aae02 10 = .ok (.ifCond .ne 7, 3) := by decide +kernel
theorem dJ0_isLatin1_aae02_13 : decode cJ0_isLatin1_aae02 13 = .ok (.iconst 1, 1) := by decide +kernel
theorem dJ0_isLatin1_aae02_14 : decode cJ0_isLatin1_aae02 14 = .ok (.goto 4, 3) := by decide +kernel
theorem dJ0_isLatin1_aae02_17 : decode cJ0_isLatin1_aae02 17 = .ok (.iconst 0, 1) := by decide +kernel
theorem dJ0_isLatin1_aae02_18 : decode cJ0_isLatin1_aae02 18 = .ok (.ireturn, 1) := by decide +kernel
theorem dJ1_canEncode_9a6ad_0 : decode cJ1_canEncode_9a6ad 0 = .ok (.iload_n 0, 1) := by decide +kernel
theorem dJ1_canEncode_9a6ad_1 : decode cJ1_canEncode_9a6ad 1 = .ok (.ifCond .lt 14, 3) := by decide +kernel
theorem dJ1_canEncode_9a6ad_4 : decode cJ1_canEncode_9a6ad 4 = .ok (.iload_n 0, 1) := by decide +kernel
theorem dJ1_canEncode_9a6ad_5 : decode cJ1_canEncode_9a6ad 5 = .ok (.sipush 255, 3) := by decide +kernel
theorem dJ1_canEncode_9a6ad_8 : decode cJ1_canEncode_9a6ad 8 = .ok (.if_icmp .gt 7, 3) := by decide +kernel
theorem dJ1_canEncode_9a6ad_11 : decode cJ1_canEncode_9a6ad 11 = .ok (.iconst 1, 1) := by decide +kernel
theorem dJ1_canEncode_9a6ad_12 : decode cJ1_canEncode_9a6ad 12 = .ok (.goto 4, 3) := by decide +kernel
theorem dJ1_canEncode_9a6ad_15 : decode cJ1_canEncode_9a6ad 15 = .ok (.iconst 0, 1) := by decide +kernel
theorem dJ1_canEncode_9a6ad_16 : decode cJ1_canEncode_9a6ad 16 = .ok (.ireturn, 1) := by decide +kernel
set_option maxRecDepth 20000 in
theorem ggJ1_indexOf_4cfef_J1_canEncode_9a6ad : GoodIn wsJ1_indexOf_4cfef wsJ1_canEncode_9a6ad := goodIn_r _ [11] (by decide +kernel) (by decide +kernel)
set_option maxRecDepth 20000 in
theorem gJ1_indexOf_4cfef_J1_canEncode_9a6ad : GoodIn wsJ1_indexOf_4cfef (va_wsS RJ1 88 yJ1_canEncode_9a6ad wsJ1_canEncode_9a6ad) := goodIn_app (goodIn_of _ (by decide +kernel)) ggJ1_indexOf_4cfef_J1_canEncode_9a6ad
set_option maxRecDepth 20000 in
theorem ggJ1_indexOf_4cfef_J1_indexOfChar_4cfef : GoodIn wsJ1_indexOf_4cfef wsJ1_indexOfChar_4cfef := goodIn_r _ [14] (by decide +kernel) (by decide +kernel)
set_option maxRecDepth 20000 in
theorem gJ1_indexOf_4cfef_J1_indexOfChar_4cfef : GoodIn wsJ1_indexOf_4cfef (va_wsS RJ1 95 yJ1_indexOfChar_4cfef wsJ1_indexOfChar_4cfef) := goodIn_app (goodIn_of _ (by decide +kernel)) ggJ1_indexOf_4cfef_J1_indexOfChar_4cfef
theorem dJ1_indexOf_4cfef_0 : decode cJ1_indexOf_4cfef 0 = .ok (.iload_n 1, 1) := by decide +kernel
theorem dJ1_indexOf_4cfef_1 : decode cJ1_indexOf_4cfef 1 = .ok (.invokestatic 88, 3) := by decide +kernel
theorem dJ1_indexOf_4cfef_4 : decode cJ1_indexOf_4cfef 4 = .ok (.ifCond .ne 5, 3) := by decide +kernel
theorem dJ1_indexOf_4cfef_7 : decode cJ1_indexOf_4cfef 7 = .ok (.iconst (-1), 1) := by decide +kernel
theorem dJ1_indexOf_4cfef_8 : decode cJ1_indexOf_4cfef 8 = .ok (.ireturn, 1) := by decide +kernel
theorem dJ1_indexOf_4cfef_9 : decode cJ1_indexOf_4cfef 9 = .ok (.iload_n 2, 1) := by decide +kernel
theorem dJ1_indexOf_4cfef_10 : decode cJ1_indexOf_4cfef 10 = .ok (.iconst 0, 1) := by decide +kernel
theorem dJ1_indexOf_4cfef_11 : decode cJ1_indexOf_4cfef 11 = .ok (.invokestatic 92, 3) := by decide +kernel
theorem dJ1_indexOf_4cfef_14 : decode cJ1_indexOf_4cfef 14 = .ok (.istore_n 2, 1) := by decide +kernel
theorem dJ1_indexOf_4cfef_15 : decode cJ1_indexOf_4cfef 15 = .ok (.iload_n 3, 1) := by decide +kernel
theorem dJ1_indexOf_4cfef_16 : decode cJ1_indexOf_4cfef 16 = .ok (.aload_n 0, 1) := by decide +kernel
theorem dJ1_indexOf_4cfef_17 : decode cJ1_indexOf_4cfef 17 = .ok (.arraylength, 1) := by decide +kernel
theorem dJ1_indexOf_4cfef_18 : decode cJ1_indexOf_4cfef 18 = .ok (.invokestatic 38, 3) := by decide +kernel
theorem dJ1_indexOf_4cfef_21 : decode cJ1_indexOf_4cfef 21 = .ok (.istore_n 3, 1) := by decide +kernel
theorem dJ1_indexOf_4cfef_22 : decode cJ1_indexOf_4cfef 22 = .ok (.iload_n 2, 1) := by decide +kernel
theorem dJ1_indexOf_4cfef_23 : decode cJ1_indexOf_4cfef 23 = .ok (.iload_n 3, 1) := by decide +kernel
theorem dJ1_indexOf_4cfef_24 : decode cJ1_indexOf_4cfef 24 = .ok (.if_icmp .lt 5, 3) := by decide +kernel
theorem dJ1_indexOf_4cfef_27 : decode cJ1_indexOf_4cfef 27 = .ok (.iconst (-1), 1) := by decide +kernel
theorem dJ1_indexOf_4cfef_28 : decode cJ1_indexOf_4cfef 28 = .ok (.ireturn, 1) := by decide +kernel
theorem dJ1_indexOf_4cfef_29 : decode cJ1_indexOf_4cfef 29 = .ok (.aload_n 0, 1) := by decide +kernel
theorem dJ1_indexOf_4cfef_30 : decode cJ1_indexOf_4cfef 30 = .ok (.iload_n 1, 1) := by decide +kernel
theorem dJ1_indexOf_4cfef_31 : decode cJ1_indexOf_4cfef 31 = .ok (.iload_n 2, 1) := by decide +kernel
theorem dJ1_indexOf_4cfef_32 : decode cJ1_indexOf_4cfef 32 = .ok (.iload_n 3, 1) := by decide +kernel
theorem dJ1_indexOf_4cfef_33 : decode cJ1_indexOf_4cfef 33 = .ok (.invokestatic 95, 3) := by decide +kernel
theorem dJ1_indexOf_4cfef_36 : decode cJ1_indexOf_4cfef 36 = .ok (.ireturn, 1) := by decide +kernel
theorem dJ1_indexOfChar_4cfef_0 : decode cJ1_indexOfChar_4cfef 0 = .ok (.iload_n 1, 1) := by decide +kernel
theorem dJ1_indexOfChar_4cfef_1 : decode cJ1_indexOfChar_4cfef 1 = .ok (.i2b, 1) := by decide +kernel
theorem dJ1_indexOfChar_4cfef_2 : decode cJ1_indexOfChar_4cfef 2 = .ok (.istore 4, 2) := by decide +kernel
theorem dJ1_indexOfChar_4cfef_4 : decode cJ1_indexOfChar_4cfef 4 = .ok (.iload_n 2, 1) := by decide +kernel
theorem dJ1_indexOfChar_4cfef_5 : decode cJ1_indexOfChar_4cfef 5 = .ok (.istore 5, 2) := by decide +kernel
theorem dJ1_indexOfChar_4cfef_7 : decode cJ1_indexOfChar_4cfef 7 = .ok (.iload 5, 2) := by decide +kernel
theorem dJ1_indexOfChar_4cfef_9 : decode cJ1_indexOfChar_4cfef 9 = .ok (.iload_n 3, 1) := by decide +kernel
theorem dJ1_indexOfChar_4cfef_10 : decode cJ1_indexOfChar_4cfef 10 = .ok (.if_icmp .ge 21, 3) := by decide +kernel
theorem dJ1_indexOfChar_4cfef_13 : decode cJ1_indexOfChar_4cfef 13 = .ok (.aload_n 0, 1) := by decide +kernel
theorem dJ1_indexOfChar_4cfef_14 : decode cJ1_indexOfChar_4cfef 14 = .ok (.iload 5, 2) := by decide +kernel
theorem dJ1_indexOfChar_4cfef_16 : decode cJ1_indexOfChar_4cfef 16 = .ok (.baload, 1) := by decide +kernel
theorem dJ1_indexOfChar_4cfef_17 : decode cJ1_indexOfChar_4cfef 17 = .ok (.iload 4, 2) := by decide +kernel
theorem dJ1_indexOfChar_4cfef_19 : decode cJ1_indexOfChar_4cfef 19 = .ok (.if_icmp .ne 6, 3) := by decide +kernel
theorem dJ1_indexOfChar_4cfef_22 : decode cJ1_indexOfChar_4cfef 22 = .ok (.iload 5, 2) := by decide +kernel
theorem dJ1_indexOfChar_4cfef_24 : decode cJ1_indexOfChar_4cfef 24 = .ok (.ireturn, 1) := by decide +kernel
theorem dJ1_indexOfChar_4cfef_25 : decode cJ1_indexOfChar_4cfef 25 = .ok (.iinc 5 1, 3) := by decide +kernel
theorem dJ1_indexOfChar_4cfef_28 : decode cJ1_indexOfChar_4cfef 28 = .ok (.goto (-21), 3) := by decide +kernel
theorem dJ1_indexOfChar_4cfef_31 : decode cJ1_indexOfChar_4cfef 31 = .ok (.iconst (-1), 1) := by decide +kernel
theorem dJ1_indexOfChar_4cfef_32 : decode cJ1_indexOfChar_4cfef 32 = .ok (.ireturn, 1) := by decide +kernel
theorem dL_law_0 : decode cL_law 0 = .ok (.new 7, 3) := by decide +kernel
theorem dL_law_3 : decode cL_law 3 = .ok (.dup, 1) := by decide +kernel
theorem dL_law_4 : decode cL_law 4 = .ok (.invokespecial 9, 3) := by decide +kernel
theorem dL_law_7 : decode cL_law 7 = .ok (.astore_n 1, 1) := by decide +kernel
theorem dL_law_8 : decode cL_law 8 = .ok (.new 10, 3) := by decide +kernel
theorem dL_law_11 : decode cL_law 11 = .ok (.dup, 1) := by decide +kernel
theorem dL_law_12 : decode cL_law 12 = .ok (.invokespecial 12, 3) := by decide +kernel
theorem dL_law_15 : decode cL_law 15 = .ok (.astore_n 2, 1) := by decide +kernel
theorem dL_law_16 : decode cL_law 16 = .ok (.iconst 0, 1) := by decide +kernel
theorem dL_law_17 : decode cL_law 17 = .ok (.istore_n 3, 1) := by decide +kernel
theorem dL_law_18 : decode cL_law 18 = .ok (.iload_n 3, 1) := by decide +kernel
theorem dL_law_19 : decode cL_law 19 = .ok (.aload_n 0, 1) := by decide +kernel
theorem dL_law_20 : decode cL_law 20 = .ok (.arraylength, 1) := by decide +kernel
theorem dL_law_21 : decode cL_law 21 = .ok (.iconst 4, 1) := by decide +kernel
theorem dL_law_22 : decode cL_law 22 = .ok (.isub, 1) := by decide +kernel
theorem dL_law_23 : decode cL_law 23 = .ok (.if_icmp .gt 702, 3) := by decide +kernel
theorem dL_law_26 : decode cL_law 26 = .ok (.aload_n 0, 1) := by decide +kernel
theorem dL_law_27 : decode cL_law 27 = .ok (.iload_n 3, 1) := by decide +kernel
theorem dL_law_28 : decode cL_law 28 = .ok (.iaload, 1) := by decide +kernel
theorem dL_law_29 : decode cL_law 29 = .ok (.bipush 31, 2) := by decide +kernel
theorem dL_law_31 : decode cL_law 31 = .ok (.iand, 1) := by decide +kernel
theorem dL_law_32 : decode cL_law 32 = .ok (.tableswitch 687 0 21 #[104, 127, 140, 153, 166, 199, 232, 255, 288, 321, 344, 377, 410, 433, 492, 505, 548, 581, 624, 637, 650, 673], 104) := by decide +kernel
theorem dL_law_136 : decode cL_law 136 = .ok (.aload_n 1, 1) := by decide +kernel
theorem dL_law_137 : decode cL_law 137 = .ok (.aload_n 0, 1) := by decide +kernel
theorem dL_law_138 : decode cL_law 138 = .ok (.iload_n 3, 1) := by decide +kernel
theorem dL_law_139 : decode cL_law 139 = .ok (.iconst 1, 1) := by decide +kernel
theorem dL_law_140 : decode cL_law 140 = .ok (.iadd, 1) := by decide +kernel
theorem dL_law_141 : decode cL_law 141 = .ok (.iaload, 1) := by decide +kernel
theorem dL_law_142 : decode cL_law 142 = .ok (.invokevirtual 13, 3) := by decide +kernel
theorem dL_law_145 : decode cL_law 145 = .ok (.aload_n 2, 1) := by decide +kernel
theorem dL_law_146 : decode cL_law 146 = .ok (.aload_n 0, 1) := by decide +kernel
theorem dL_law_147 : decode cL_law 147 = .ok (.iload_n 3, 1) := by decide +kernel
theorem dL_law_148 : decode cL_law 148 = .ok (.iconst 1, 1) := by decide +kernel
theorem dL_law_149 : decode cL_law 149 = .ok (.iadd, 1) := by decide +kernel
theorem dL_law_150 : decode cL_law 150 = .ok (.iaload, 1) := by decide +kernel
theorem dL_law_151 : decode cL_law 151 = .ok (.invokevirtual 17, 3) := by decide +kernel
theorem dL_law_154 : decode cL_law 154 = .ok (.if_icmp .eq 565, 3) := by decide +kernel
theorem dL_law_157 : decode cL_law 157 = .ok (.iconst 0, 1) := by decide +kernel
theorem dL_law_158 : decode cL_law 158 = .ok (.ireturn, 1) := by decide +kernel
theorem dL_law_159 : decode cL_law 159 = .ok (.aload_n 1, 1) := by decide +kernel
theorem dL_law_160 : decode cL_law 160 = .ok (.invokevirtual 18, 3) := by decide +kernel
theorem dL_law_163 : decode cL_law 163 = .ok (.aload_n 2, 1) := by decide +kernel
theorem dL_law_164 : decode cL_law 164 = .ok (.invokevirtual 22, 3) := by decide +kernel
theorem dL_law_167 : decode cL_law 167 = .ok (.if_icmp .eq 552, 3) := by decide +kernel
theorem dL_law_170 : decode cL_law 170 = .ok (.iconst 0, 1) := by decide +kernel
theorem dL_law_171 : decode cL_law 171 = .ok (.ireturn, 1) := by decide +kernel
theorem dL_law_172 : decode cL_law 172 = .ok (.aload_n 1, 1) := by decide +kernel
theorem dL_law_173 : decode cL_law 173 = .ok (.invokevirtual 23, 3) := by decide +kernel
theorem dL_law_176 : decode cL_law 176 = .ok (.aload_n 2, 1) := by decide +kernel
theorem dL_law_177 : decode cL_law 177 = .ok (.invokevirtual 26, 3) := by decide +kernel
theorem dL_law_180 : decode cL_law 180 = .ok (.if_icmp .eq 539, 3) := by decide +kernel
theorem dL_law_183 : decode cL_law 183 = .ok (.iconst 0, 1) := by decide +kernel
theorem dL_law_184 : decode cL_law 184 = .ok (.ireturn, 1) := by decide +kernel
theorem dL_law_185 : decode cL_law 185 = .ok (.aload_n 1, 1) := by decide +kernel
theorem dL_law_186 : decode cL_law 186 = .ok (.invokevirtual 27, 3) := by decide +kernel
theorem dL_law_189 : decode cL_law 189 = .ok (.aload_n 2, 1) := by decide +kernel
theorem dL_law_190 : decode cL_law 190 = .ok (.invokevirtual 30, 3) := by decide +kernel
theorem dL_law_193 : decode cL_law 193 = .ok (.if_icmp .eq 526, 3) := by decide +kernel
theorem dL_law_196 : decode cL_law 196 = .ok (.iconst 0, 1) := by decide +kernel
theorem dL_law_197 : decode cL_law 197 = .ok (.ireturn, 1) := by decide +kernel
theorem dL_law_198 : decode cL_law 198 = .ok (.aload_n 1, 1) := by decide +kernel
theorem dL_law_199 : decode cL_law 199 = .ok (.aload_n 0, 1) := by decide +kernel
theorem dL_law_200 : decode cL_law 200 = .ok (.iload_n 3, 1) := by decide +kernel
theorem dL_law_201 : decode cL_law 201 = .ok (.iconst 1, 1) := by decide +kernel
theorem dL_law_202 : decode cL_law 202 = .ok (.iadd, 1) := by decide +kernel
theorem dL_law_203 : decode cL_law 203 = .ok (.iaload, 1) := by decide +kernel
theorem dL_law_204 : decode cL_law 204 = .ok (.aload_n 0, 1) := by decide +kernel
theorem dL_law_205 : decode cL_law 205 = .ok (.iload_n 3, 1) := by decide +kernel
theorem dL_law_206 : decode cL_law 206 = .ok (.iconst 2, 1) := by decide +kernel
theorem dL_law_207 : decode cL_law 207 = .ok (.iadd, 1) := by decide +kernel
theorem dL_law_208 : decode cL_law 208 = .ok (.iaload, 1) := by decide +kernel
theorem dL_law_209 : decode cL_law 209 = .ok (.invokevirtual 31, 3) := by decide +kernel
theorem dL_law_212 : decode cL_law 212 = .ok (.aload_n 2, 1) := by decide +kernel
theorem dL_law_213 : decode cL_law 213 = .ok (.aload_n 0, 1) := by decide +kernel
theorem dL_law_214 : decode cL_law 214 = .ok (.iload_n 3, 1) := by decide +kernel
theorem dL_law_215 : decode cL_law 215 = .ok (.iconst 1, 1) := by decide +kernel
theorem dL_law_216 : decode cL_law 216 = .ok (.iadd, 1) := by decide +kernel
theorem dL_law_217 : decode cL_law 217 = .ok (.iaload, 1) := by decide +kernel
theorem dL_law_218 : decode cL_law 218 = .ok (.aload_n 0, 1) := by decide +kernel
theorem dL_law_219 : decode cL_law 219 = .ok (.iload_n 3, 1) := by decide +kernel
theorem dL_law_220 : decode cL_law 220 = .ok (.iconst 2, 1) := by decide +kernel
theorem dL_law_221 : decode cL_law 221 = .ok (.iadd, 1) := by decide +kernel
theorem dL_law_222 : decode cL_law 222 = .ok (.iaload, 1) := by decide +kernel
theorem dL_law_223 : decode cL_law 223 = .ok (.invokevirtual 35, 3) := by decide +kernel
theorem dL_law_226 : decode cL_law 226 = .ok (.if_icmp .eq 493, 3) := by decide +kernel
theorem dL_law_229 : decode cL_law 229 = .ok (.iconst 0, 1) := by decide +kernel
theorem dL_law_230 : decode cL_law 230 = .ok (.ireturn, 1) := by decide +kernel
theorem dL_law_231 : decode cL_law 231 = .ok (.aload_n 1, 1) := by decide +kernel
theorem dL_law_232 : decode cL_law 232 = .ok (.aload_n 0, 1) := by decide +kernel
theorem dL_law_233 : decode cL_law 233 = .ok (.iload_n 3, 1) := by decide +kernel
theorem dL_law_234 : decode cL_law 234 = .ok (.iconst 1, 1) := by decide +kernel
theorem dL_law_235 : decode cL_law 235 = .ok (.iadd, 1) := by decide +kernel
theorem dL_law_236 : decode cL_law 236 = .ok (.iaload, 1) := by decide +kernel
theorem dL_law_237 : decode cL_law 237 = .ok (.aload_n 0, 1) := by decide +kernel
theorem dL_law_238 : decode cL_law 238 = .ok (.iload_n 3, 1) := by decide +kernel
theorem dL_law_239 : decode cL_law 239 = .ok (.iconst 2, 1) := by decide +kernel
theorem dL_law_240 : decode cL_law 240 = .ok (.iadd, 1) := by decide +kernel
theorem dL_law_241 : decode cL_law 241 = .ok (.iaload, 1) := by decide +kernel
theorem dL_law_242 : decode cL_law 242 = .ok (.invokevirtual 36, 3) := by decide +kernel
theorem dL_law_245 : decode cL_law 245 = .ok (.aload_n 2, 1) := by decide +kernel
theorem dL_law_246 : decode cL_law 246 = .ok (.aload_n 0, 1) := by decide +kernel
theorem dL_law_247 : decode cL_law 247 = .ok (.iload_n 3, 1) := by decide +kernel
theorem dL_law_248 : decode cL_law 248 = .ok (.iconst 1, 1) := by decide +kernel
theorem dL_law_249 : decode cL_law 249 = .ok (.iadd, 1) := by decide +kernel
theorem dL_law_250 : decode cL_law 250 = .ok (.iaload, 1) := by decide +kernel
theorem dL_law_251 : decode cL_law 251 = .ok (.aload_n 0, 1) := by decide +kernel
theorem dL_law_252 : decode cL_law 252 = .ok (.iload_n 3, 1) := by decide +kernel
theorem dL_law_253 : decode cL_law 253 = .ok (.iconst 2, 1) := by decide +kernel
theorem dL_law_254 : decode cL_law 254 = .ok (.iadd, 1) := by decide +kernel
theorem dL_law_255 : decode cL_law 255 = .ok (.iaload, 1) := by decide +kernel
theorem dL_law_256 : decode cL_law 256 = .ok (.invokevirtual 39, 3) := by decide +kernel
theorem dL_law_259 : decode cL_law 259 = .ok (.if_icmp .eq 460, 3) := by decide +kernel
theorem dL_law_262 : decode cL_law 262 = .ok (.iconst 0, 1) := by decide +kernel
theorem dL_law_263 : decode cL_law 263 = .ok (.ireturn, 1) := by decide +kernel
theorem dL_law_264 : decode cL_law 264 = .ok (.aload_n 1, 1) := by decide +kernel
theorem dL_law_265 : decode cL_law 265 = .ok (.aload_n 0, 1) := by decide +kernel
theorem dL_law_266 : decode cL_law 266 = .ok (.iload_n 3, 1) := by decide +kernel
theorem dL_law_267 : decode cL_law 267 = .ok (.iconst 1, 1) := by decide +kernel
theorem dL_law_268 : decode cL_law 268 = .ok (.iadd, 1) := by decide +kernel
theorem dL_law_269 : decode cL_law 269 = .ok (.iaload, 1) := by decide +kernel
theorem dL_law_270 : decode cL_law 270 = .ok (.invokevirtual 40, 3) := by decide +kernel
theorem dL_law_273 : decode cL_law 273 = .ok (.aload_n 2, 1) := by decide +kernel
theorem dL_law_274 : decode cL_law 274 = .ok (.aload_n 0, 1) := by decide +kernel
theorem dL_law_275 : decode cL_law 275 = .ok (.iload_n 3, 1) := by decide +kernel
theorem dL_law_276 : decode cL_law 276 = .ok (.iconst 1, 1) := by decide +kernel
theorem dL_law_277 : decode cL_law 277 = .ok (.iadd, 1) := by decide +kernel
theorem dL_law_278 : decode cL_law 278 = .ok (.iaload, 1) := by decide +kernel
theorem dL_law_279 : decode cL_law 279 = .ok (.invokevirtual 43, 3) := by decide +kernel
theorem dL_law_282 : decode cL_law 282 = .ok (.if_icmp .eq 437, 3) := by decide +kernel
theorem dL_law_285 : decode cL_law 285 = .ok (.iconst 0, 1) := by decide +kernel
theorem dL_law_286 : decode cL_law 286 = .ok (.ireturn, 1) := by decide +kernel
theorem dL_law_287 : decode cL_law 287 = .ok (.aload_n 1, 1) := by decide +kernel
theorem dL_law_288 : decode cL_law 288 = .ok (.aload_n 0, 1) := by decide +kernel
theorem dL_law_289 : decode cL_law 289 = .ok (.iload_n 3, 1) := by decide +kernel
theorem dL_law_290 : decode cL_law 290 = .ok (.iconst 1, 1) := by decide +kernel
theorem dL_law_291 : decode cL_law 291 = .ok (.iadd, 1) := by decide +kernel
theorem dL_law_292 : decode cL_law 292 = .ok (.iaload, 1) := by decide +kernel
theorem dL_law_293 : decode cL_law 293 = .ok (.aload_n 0, 1) := by decide +kernel
theorem dL_law_294 : decode cL_law 294 = .ok (.iload_n 3, 1) := by decide +kernel
theorem dL_law_295 : decode cL_law 295 = .ok (.iconst 2, 1) := by decide +kernel
theorem dL_law_296 : decode cL_law 296 = .ok (.iadd, 1) := by decide +kernel
theorem dL_law_297 : decode cL_law 297 = .ok (.iaload, 1) := by decide +kernel
theorem dL_law_298 : decode cL_law 298 = .ok (.invokevirtual 44, 3) := by decide +kernel
theorem dL_law_301 : decode cL_law 301 = .ok (.aload_n 2, 1) := by decide +kernel
theorem dL_law_302 : decode cL_law 302 = .ok (.aload_n 0, 1) := by decide +kernel
theorem dL_law_303 : decode cL_law 303 = .ok (.iload_n 3, 1) := by decide +kernel
theorem dL_law_304 : decode cL_law 304 = .ok (.iconst 1, 1) := by decide +kernel
theorem dL_law_305 : decode cL_law 305 = .ok (.iadd, 1) := by decide +kernel
theorem dL_law_306 : decode cL_law 306 = .ok (.iaload, 1) := by decide +kernel
theorem dL_law_307 : decode cL_law 307 = .ok (.aload_n 0, 1) := by decide +kernel
theorem dL_law_308 : decode cL_law 308 = .ok (.iload_n 3, 1) := by decide +kernel
theorem dL_law_309 : decode cL_law 309 = .ok (.iconst 2, 1) := by decide +kernel
theorem dL_law_310 : decode cL_law 310 = .ok (.iadd, 1) := by decide +kernel
theorem dL_law_311 : decode cL_law 311 = .ok (.iaload, 1) := by decide +kernel
theorem dL_law_312 : decode cL_law 312 = .ok (.invokevirtual 47, 3) := by decide +kernel
theorem dL_law_315 : decode cL_law 315 = .ok (.if_icmp .eq 404, 3) := by decide +kernel
theorem dL_law_318 : decode cL_law 318 = .ok (.iconst 0, 1) := by decide +kernel
theorem dL_law_319 : decode cL_law 319 = .ok (.ireturn, 1) := by decide +kernel
theorem dL_law_320 : decode cL_law 320 = .ok (.aload_n 1, 1) := by decide +kernel
theorem dL_law_321 : decode cL_law 321 = .ok (.aload_n 0, 1) := by decide +kernel
theorem dL_law_322 : decode cL_law 322 = .ok (.iload_n 3, 1) := by decide +kernel
theorem dL_law_323 : decode cL_law 323 = .ok (.iconst 1, 1) := by decide +kernel
theorem dL_law_324 : decode cL_law 324 = .ok (.iadd, 1) := by decide +kernel
theorem dL_law_325 : decode cL_law 325 = .ok (.iaload, 1) := by decide +kernel
theorem dL_law_326 : decode cL_law 326 = .ok (.aload_n 0, 1) := by decide +kernel
theorem dL_law_327 : decode cL_law 327 = .ok (.iload_n 3, 1) := by decide +kernel
theorem dL_law_328 : decode cL_law 328 = .ok (.iconst 2, 1) := by decide +kernel
theorem dL_law_329 : decode cL_law 329 = .ok (.iadd, 1) := by decide +kernel
theorem dL_law_330 : decode cL_law 330 = .ok (.iaload, 1) := by decide +kernel
theorem dL_law_331 : decode cL_law 331 = .ok (.invokevirtual 48, 3) := by decide +kernel
theorem dL_law_334 : decode cL_law 334 = .ok (.aload_n 2, 1) := by decide +kernel
theorem dL_law_335 : decode cL_law 335 = .ok (.aload_n 0, 1) := by decide +kernel
theorem dL_law_336 : decode cL_law 336 = .ok (.iload_n 3, 1) := by decide +kernel
theorem dL_law_337 : decode cL_law 337 = .ok (.iconst 1, 1) := by decide +kernel
theorem dL_law_338 : decode cL_law 338 = .ok (.iadd, 1) := by decide +kernel
theorem dL_law_339 : decode cL_law 339 = .ok (.iaload, 1) := by decide +kernel
theorem dL_law_340 : decode cL_law 340 = .ok (.aload_n 0, 1) := by decide +kernel
theorem dL_law_341 : decode cL_law 341 = .ok (.iload_n 3, 1) := by decide +kernel
theorem dL_law_342 : decode cL_law 342 = .ok (.iconst 2, 1) := by decide +kernel
theorem dL_law_343 : decode cL_law 343 = .ok (.iadd, 1) := by decide +kernel
theorem dL_law_344 : decode cL_law 344 = .ok (.iaload, 1) := by decide +kernel
theorem dL_law_345 : decode cL_law 345 = .ok (.invokevirtual 51, 3) := by decide +kernel
theorem dL_law_348 : decode cL_law 348 = .ok (.if_icmp .eq 371, 3) := by decide +kernel
theorem dL_law_351 : decode cL_law 351 = .ok (.iconst 0, 1) := by decide +kernel
theorem dL_law_352 : decode cL_law 352 = .ok (.ireturn, 1) := by decide +kernel
theorem dL_law_353 : decode cL_law 353 = .ok (.aload_n 1, 1) := by decide +kernel
theorem dL_law_354 : decode cL_law 354 = .ok (.aload_n 0, 1) := by decide +kernel
theorem dL_law_355 : decode cL_law 355 = .ok (.iload_n 3, 1) := by decide +kernel
theorem dL_law_356 : decode cL_law 356 = .ok (.iconst 1, 1) := by decide +kernel
theorem dL_law_357 : decode cL_law 357 = .ok (.iadd, 1) := by decide +kernel
theorem dL_law_358 : decode cL_law 358 = .ok (.iaload, 1) := by decide +kernel
theorem dL_law_359 : decode cL_law 359 = .ok (.invokevirtual 52, 3) := by decide +kernel
theorem dL_law_362 : decode cL_law 362 = .ok (.aload_n 2, 1) := by decide +kernel
theorem dL_law_363 : decode cL_law 363 = .ok (.aload_n 0, 1) := by decide +kernel
theorem dL_law_364 : decode cL_law 364 = .ok (.iload_n 3, 1) := by decide +kernel
theorem dL_law_365 : decode cL_law 365 = .ok (.iconst 1, 1) := by decide +kernel
theorem dL_law_366 : decode cL_law 366 = .ok (.iadd, 1) := by decide +kernel
theorem dL_law_367 : decode cL_law 367 = .ok (.iaload, 1) := by decide +kernel
theorem dL_law_368 : decode cL_law 368 = .ok (.invokevirtual 55, 3) := by decide +kernel
theorem dL_law_371 : decode cL_law 371 = .ok (.if_icmp .eq 348, 3) := by decide +kernel
theorem dL_law_374 : decode cL_law 374 = .ok (.iconst 0, 1) := by decide +kernel
theorem dL_law_375 : decode cL_law 375 = .ok (.ireturn, 1) := by decide +kernel
theorem dL_law_376 : decode cL_law 376 = .ok (.aload_n 1, 1) := by decide +kernel
theorem dL_law_377 : decode cL_law 377 = .ok (.aload_n 0, 1) := by decide +kernel
theorem dL_law_378 : decode cL_law 378 = .ok (.iload_n 3, 1) := by decide +kernel
theorem dL_law_379 : decode cL_law 379 = .ok (.iconst 1, 1) := by decide +kernel
theorem dL_law_380 : decode cL_law 380 = .ok (.iadd, 1) := by decide +kernel
theorem dL_law_381 : decode cL_law 381 = .ok (.iaload, 1) := by decide +kernel
theorem dL_law_382 : decode cL_law 382 = .ok (.aload_n 0, 1) := by decide +kernel
theorem dL_law_383 : decode cL_law 383 = .ok (.iload_n 3, 1) := by decide +kernel
theorem dL_law_384 : decode cL_law 384 = .ok (.iconst 2, 1) := by decide +kernel
theorem dL_law_385 : decode cL_law 385 = .ok (.iadd, 1) := by decide +kernel
theorem dL_law_386 : decode cL_law 386 = .ok (.iaload, 1) := by decide +kernel
theorem dL_law_387 : decode cL_law 387 = .ok (.invokevirtual 56, 3) := by decide +kernel
theorem dL_law_390 : decode cL_law 390 = .ok (.aload_n 2, 1) := by decide +kernel
theorem dL_law_391 : decode cL_law 391 = .ok (.aload_n 0, 1) := by decide +kernel
theorem dL_law_392 : decode cL_law 392 = .ok (.iload_n 3, 1) := by decide +kernel
theorem dL_law_393 : decode cL_law 393 = .ok (.iconst 1, 1) := by decide +kernel
theorem dL_law_394 : decode cL_law 394 = .ok (.iadd, 1) := by decide +kernel
theorem dL_law_395 : decode cL_law 395 = .ok (.iaload, 1) := by decide +kernel
theorem dL_law_396 : decode cL_law 396 = .ok (.aload_n 0, 1) := by decide +kernel
theorem dL_law_397 : decode cL_law 397 = .ok (.iload_n 3, 1) := by decide +kernel
theorem dL_law_398 : decode cL_law 398 = .ok (.iconst 2, 1) := by decide +kernel
theorem dL_law_399 : decode cL_law 399 = .ok (.iadd, 1) := by decide +kernel
theorem dL_law_400 : decode cL_law 400 = .ok (.iaload, 1) := by decide +kernel
theorem dL_law_401 : decode cL_law 401 = .ok (.invokevirtual 59, 3) := by decide +kernel
theorem dL_law_404 : decode cL_law 404 = .ok (.if_icmp .eq 315, 3) := by decide +kernel
theorem dL_law_407 : decode cL_law 407 = .ok (.iconst 0, 1) := by decide +kernel
theorem dL_law_408 : decode cL_law 408 = .ok (.ireturn, 1) := by decide +kernel
theorem dL_law_409 : decode cL_law 409 = .ok (.aload_n 1, 1) := by decide +kernel
theorem dL_law_410 : decode cL_law 410 = .ok (.aload_n 0, 1) := by decide +kernel
theorem dL_law_411 : decode cL_law 411 = .ok (.iload_n 3, 1) := by decide +kernel
theorem dL_law_412 : decode cL_law 412 = .ok (.iconst 1, 1) := by decide +kernel
theorem dL_law_413 : decode cL_law 413 = .ok (.iadd, 1) := by decide +kernel
theorem dL_law_414 : decode cL_law 414 = .ok (.iaload, 1) := by decide +kernel
theorem dL_law_415 : decode cL_law 415 = .ok (.aload_n 0, 1) := by decide +kernel
theorem dL_law_416 : decode cL_law 416 = .ok (.iload_n 3, 1) := by decide +kernel
theorem dL_law_417 : decode cL_law 417 = .ok (.iconst 2, 1) := by decide +kernel
theorem dL_law_418 : decode cL_law 418 = .ok (.iadd, 1) := by decide +kernel
theorem dL_law_419 : decode cL_law 419 = .ok (.iaload, 1) := by decide +kernel
theorem dL_law_420 : decode cL_law 420 = .ok (.invokevirtual 60, 3) := by decide +kernel
theorem dL_law_423 : decode cL_law 423 = .ok (.aload_n 2, 1) := by decide +kernel
theorem dL_law_424 : decode cL_law 424 = .ok (.aload_n 0, 1) := by decide +kernel
theorem dL_law_425 : decode cL_law 425 = .ok (.iload_n 3, 1) := by decide +kernel
theorem dL_law_426 : decode cL_law 426 = .ok (.iconst 1, 1) := by decide +kernel
theorem dL_law_427 : decode cL_law 427 = .ok (.iadd, 1) := by decide +kernel
theorem dL_law_428 : decode cL_law 428 = .ok (.iaload, 1) := by decide +kernel
theorem dL_law_429 : decode cL_law 429 = .ok (.aload_n 0, 1) := by decide +kernel
theorem dL_law_430 : decode cL_law 430 = .ok (.iload_n 3, 1) := by decide +kernel
theorem dL_law_431 : decode cL_law 431 = .ok (.iconst 2, 1) := by decide +kernel
theorem dL_law_432 : decode cL_law 432 = .ok (.iadd, 1) := by decide +kernel
theorem dL_law_433 : decode cL_law 433 = .ok (.iaload, 1) := by decide +kernel
theorem dL_law_434 : decode cL_law 434 = .ok (.invokevirtual 63, 3) := by decide +kernel
theorem dL_law_437 : decode cL_law 437 = .ok (.if_icmp .eq 282, 3) := by decide +kernel
theorem dL_law_440 : decode cL_law 440 = .ok (.iconst 0, 1) := by decide +kernel
theorem dL_law_441 : decode cL_law 441 = .ok (.ireturn, 1) := by decide +kernel
theorem dL_law_442 : decode cL_law 442 = .ok (.aload_n 1, 1) := by decide +kernel
theorem dL_law_443 : decode cL_law 443 = .ok (.aload_n 0, 1) := by decide +kernel
theorem dL_law_444 : decode cL_law 444 = .ok (.iload_n 3, 1) := by decide +kernel
theorem dL_law_445 : decode cL_law 445 = .ok (.iconst 1, 1) := by decide +kernel
theorem dL_law_446 : decode cL_law 446 = .ok (.iadd, 1) := by decide +kernel
theorem dL_law_447 : decode cL_law 447 = .ok (.iaload, 1) := by decide +kernel
theorem dL_law_448 : decode cL_law 448 = .ok (.invokevirtual 64, 3) := by decide +kernel
theorem dL_law_451 : decode cL_law 451 = .ok (.aload_n 2, 1) := by decide +kernel
theorem dL_law_452 : decode cL_law 452 = .ok (.aload_n 0, 1) := by decide +kernel
theorem dL_law_453 : decode cL_law 453 = .ok (.iload_n 3, 1) := by decide +kernel
theorem dL_law_454 : decode cL_law 454 = .ok (.iconst 1, 1) := by decide +kernel
theorem dL_law_455 : decode cL_law 455 = .ok (.iadd, 1) := by decide +kernel
theorem dL_law_456 : decode cL_law 456 = .ok (.iaload, 1) := by decide +kernel
theorem dL_law_457 : decode cL_law 457 = .ok (.invokevirtual 67, 3) := by decide +kernel
theorem dL_law_460 : decode cL_law 460 = .ok (.if_icmp .eq 259, 3) := by decide +kernel
theorem dL_law_463 : decode cL_law 463 = .ok (.iconst 0, 1) := by decide +kernel
theorem dL_law_464 : decode cL_law 464 = .ok (.ireturn, 1) := by decide +kernel
theorem dL_law_465 : decode cL_law 465 = .ok (.aload_n 1, 1) := by decide +kernel
theorem dL_law_466 : decode cL_law 466 = .ok (.aload_n 0, 1) := by decide +kernel
theorem dL_law_467 : decode cL_law 467 = .ok (.iload_n 3, 1) := by decide +kernel
theorem dL_law_468 : decode cL_law 468 = .ok (.iconst 1, 1) := by decide +kernel
theorem dL_law_469 : decode cL_law 469 = .ok (.iadd, 1) := by decide +kernel
theorem dL_law_470 : decode cL_law 470 = .ok (.iaload, 1) := by decide +kernel
theorem dL_law_471 : decode cL_law 471 = .ok (.aload_n 0, 1) := by decide +kernel
theorem dL_law_472 : decode cL_law 472 = .ok (.iload_n 3, 1) := by decide +kernel
theorem dL_law_473 : decode cL_law 473 = .ok (.iconst 2, 1) := by decide +kernel
theorem dL_law_474 : decode cL_law 474 = .ok (.iadd, 1) := by decide +kernel
theorem dL_law_475 : decode cL_law 475 = .ok (.iaload, 1) := by decide +kernel
theorem dL_law_476 : decode cL_law 476 = .ok (.aload_n 0, 1) := by decide +kernel
theorem dL_law_477 : decode cL_law 477 = .ok (.iload_n 3, 1) := by decide +kernel
theorem dL_law_478 : decode cL_law 478 = .ok (.iconst 3, 1) := by decide +kernel
theorem dL_law_479 : decode cL_law 479 = .ok (.iadd, 1) := by decide +kernel
theorem dL_law_480 : decode cL_law 480 = .ok (.iaload, 1) := by decide +kernel
theorem dL_law_481 : decode cL_law 481 = .ok (.ifCond .eq 7, 3) := by decide +kernel
theorem dL_law_484 : decode cL_law 484 = .ok (.iconst 1, 1) := by decide +kernel
theorem dL_law_485 : decode cL_law 485 = .ok (.goto 4, 3) := by decide +kernel
theorem dL_law_488 : decode cL_law 488 = .ok (.iconst 0, 1) := by decide +kernel
theorem dL_law_489 : decode cL_law 489 = .ok (.invokevirtual 68, 3) := by decide +kernel
theorem dL_law_492 : decode cL_law 492 = .ok (.aload_n 2, 1) := by decide +kernel
theorem dL_law_493 : decode cL_law 493 = .ok (.aload_n 0, 1) := by decide +kernel
theorem dL_law_494 : decode cL_law 494 = .ok (.iload_n 3, 1) := by decide +kernel
theorem dL_law_495 : decode cL_law 495 = .ok (.iconst 1, 1) := by decide +kernel
theorem dL_law_496 : decode cL_law 496 = .ok (.iadd, 1) := by decide +kernel
theorem dL_law_497 : decode cL_law 497 = .ok (.iaload, 1) := by decide +kernel
theorem dL_law_498 : decode cL_law 498 = .ok (.aload_n 0, 1) := by decide +kernel
theorem dL_law_499 : decode cL_law 499 = .ok (.iload_n 3, 1) := by decide +kernel
theorem dL_law_500 : decode cL_law 500 = .ok (.iconst 2, 1) := by decide +kernel
theorem dL_law_501 : decode cL_law 501 = .ok (.iadd, 1) := by decide +kernel
theorem dL_law_502 : decode cL_law 502 = .ok (.iaload, 1) := by decide +kernel
theorem dL_law_503 : decode cL_law 503 = .ok (.aload_n 0, 1) := by decide +kernel
theorem dL_law_504 : decode cL_law 504 = .ok (.iload_n 3, 1) := by decide +kernel
theorem dL_law_505 : decode cL_law 505 = .ok (.iconst 3, 1) := by decide +kernel
theorem dL_law_506 : decode cL_law 506 = .ok (.iadd, 1) := by decide +kernel
theorem dL_law_507 : decode cL_law 507 = .ok (.iaload, 1) := by decide +kernel
theorem dL_law_508 : decode cL_law 508 = .ok (.ifCond .eq 7, 3) := by decide +kernel
theorem dL_law_511 : decode cL_law 511 = .ok (.iconst 1, 1) := by decide +kernel
theorem dL_law_512 : decode cL_law 512 = .ok (.goto 4, 3) := by decide +kernel
theorem dL_law_515 : decode cL_law 515 = .ok (.iconst 0, 1) := by decide +kernel
theorem dL_law_516 : decode cL_law 516 = .ok (.invokevirtual 72, 3) := by decide +kernel
theorem dL_law_519 : decode cL_law 519 = .ok (.if_icmp .eq 200, 3) := by decide +kernel
theorem dL_law_522 : decode cL_law 522 = .ok (.iconst 0, 1) := by decide +kernel
theorem dL_law_523 : decode cL_law 523 = .ok (.ireturn, 1) := by decide +kernel
theorem dL_law_524 : decode cL_law 524 = .ok (.aload_n 1, 1) := by decide +kernel
theorem dL_law_525 : decode cL_law 525 = .ok (.invokevirtual 73, 3) := by decide +kernel
theorem dL_law_528 : decode cL_law 528 = .ok (.aload_n 2, 1) := by decide +kernel
theorem dL_law_529 : decode cL_law 529 = .ok (.invokevirtual 76, 3) := by decide +kernel
theorem dL_law_532 : decode cL_law 532 = .ok (.if_icmp .eq 187, 3) := by decide +kernel
theorem dL_law_535 : decode cL_law 535 = .ok (.iconst 0, 1) := by decide +kernel
theorem dL_law_536 : decode cL_law 536 = .ok (.ireturn, 1) := by decide +kernel
theorem dL_law_537 : decode cL_law 537 = .ok (.aload_n 1, 1) := by decide +kernel
theorem dL_law_538 : decode cL_law 538 = .ok (.aload_n 0, 1) := by decide +kernel
theorem dL_law_539 : decode cL_law 539 = .ok (.iload_n 3, 1) := by decide +kernel
theorem dL_law_540 : decode cL_law 540 = .ok (.iconst 1, 1) := by decide +kernel
theorem dL_law_541 : decode cL_law 541 = .ok (.iadd, 1) := by decide +kernel
theorem dL_law_542 : decode cL_law 542 = .ok (.iaload, 1) := by decide +kernel
theorem dL_law_543 : decode cL_law 543 = .ok (.aload_n 0, 1) := by decide +kernel
theorem dL_law_544 : decode cL_law 544 = .ok (.iload_n 3, 1) := by decide +kernel
theorem dL_law_545 : decode cL_law 545 = .ok (.iconst 2, 1) := by decide +kernel
theorem dL_law_546 : decode cL_law 546 = .ok (.iadd, 1) := by decide +kernel
theorem dL_law_547 : decode cL_law 547 = .ok (.iaload, 1) := by decide +kernel
theorem dL_law_548 : decode cL_law 548 = .ok (.aload_n 0, 1) := by decide +kernel
theorem dL_law_549 : decode cL_law 549 = .ok (.iload_n 3, 1) := by decide +kernel
theorem dL_law_550 : decode cL_law 550 = .ok (.iconst 3, 1) := by decide +kernel
theorem dL_law_551 : decode cL_law 551 = .ok (.iadd, 1) := by decide +kernel
theorem dL_law_552 : decode cL_law 552 = .ok (.iaload, 1) := by decide +kernel
theorem dL_law_553 : decode cL_law 553 = .ok (.invokevirtual 77, 3) := by decide +kernel
theorem dL_law_556 : decode cL_law 556 = .ok (.aload_n 2, 1) := by decide +kernel
theorem dL_law_557 : decode cL_law 557 = .ok (.aload_n 0, 1) := by decide +kernel
theorem dL_law_558 : decode cL_law 558 = .ok (.iload_n 3, 1) := by decide +kernel
theorem dL_law_559 : decode cL_law 559 = .ok (.iconst 1, 1) := by decide +kernel
theorem dL_law_560 : decode cL_law 560 = .ok (.iadd, 1) := by decide +kernel
theorem dL_law_561 : decode cL_law 561 = .ok (.iaload, 1) := by decide +kernel
theorem dL_law_562 : decode cL_law 562 = .ok (.aload_n 0, 1) := by decide +kernel
theorem dL_law_563 : decode cL_law 563 = .ok (.iload_n 3, 1) := by decide +kernel
theorem dL_law_564 : decode cL_law 564 = .ok (.iconst 2, 1) := by decide +kernel
theorem dL_law_565 : decode cL_law 565 = .ok (.iadd, 1) := by decide +kernel
theorem dL_law_566 : decode cL_law 566 = .ok (.iaload, 1) := by decide +kernel
theorem dL_law_567 : decode cL_law 567 = .ok (.aload_n 0, 1) := by decide +kernel
theorem dL_law_568 : decode cL_law 568 = .ok (.iload_n 3, 1) := by decide +kernel
theorem dL_law_569 : decode cL_law 569 = .ok (.iconst 3, 1) := by decide +kernel
theorem dL_law_570 : decode cL_law 570 = .ok (.iadd, 1) := by decide +kernel
theorem dL_law_571 : decode cL_law 571 = .ok (.iaload, 1) := by decide +kernel
theorem dL_law_572 : decode cL_law 572 = .ok (.invokevirtual 81, 3) := by decide +kernel
theorem dL_law_575 : decode cL_law 575 = .ok (.if_icmp .eq 144, 3) := by decide +kernel
theorem dL_law_578 : decode cL_law 578 = .ok (.iconst 0, 1) := by decide +kernel
theorem dL_law_579 : decode cL_law 579 = .ok (.ireturn, 1) := by decide +kernel
theorem dL_law_580 : decode cL_law 580 = .ok (.aload_n 1, 1) := by decide +kernel
theorem dL_law_581 : decode cL_law 581 = .ok (.aload_n 0, 1) := by decide +kernel
theorem dL_law_582 : decode cL_law 582 = .ok (.iload_n 3, 1) := by decide +kernel
theorem dL_law_583 : decode cL_law 583 = .ok (.iconst 1, 1) := by decide +kernel
theorem dL_law_584 : decode cL_law 584 = .ok (.iadd, 1) := by decide +kernel
theorem dL_law_585 : decode cL_law 585 = .ok (.iaload, 1) := by decide +kernel
theorem dL_law_586 : decode cL_law 586 = .ok (.aload_n 0, 1) := by decide +kernel
theorem dL_law_587 : decode cL_law 587 = .ok (.iload_n 3, 1) := by decide +kernel
theorem dL_law_588 : decode cL_law 588 = .ok (.iconst 2, 1) := by decide +kernel
theorem dL_law_589 : decode cL_law 589 = .ok (.iadd, 1) := by decide +kernel
theorem dL_law_590 : decode cL_law 590 = .ok (.iaload, 1) := by decide +kernel
theorem dL_law_591 : decode cL_law 591 = .ok (.invokevirtual 82, 3) := by decide +kernel
theorem dL_law_594 : decode cL_law 594 = .ok (.aload_n 2, 1) := by decide +kernel
theorem dL_law_595 : decode cL_law 595 = .ok (.aload_n 0, 1) := by decide +kernel
theorem dL_law_596 : decode cL_law 596 = .ok (.iload_n 3, 1) := by decide +kernel
theorem dL_law_597 : decode cL_law 597 = .ok (.iconst 1, 1) := by decide +kernel
theorem dL_law_598 : decode cL_law 598 = .ok (.iadd, 1) := by decide +kernel
theorem dL_law_599 : decode cL_law 599 = .ok (.iaload, 1) := by decide +kernel
theorem dL_law_600 : decode cL_law 600 = .ok (.aload_n 0, 1) := by decide +kernel
theorem dL_law_601 : decode cL_law 601 = .ok (.iload_n 3, 1) := by decide +kernel
theorem dL_law_602 : decode cL_law 602 = .ok (.iconst 2, 1) := by decide +kernel
theorem dL_law_603 : decode cL_law 603 = .ok (.iadd, 1) := by decide +kernel
theorem dL_law_604 : decode cL_law 604 = .ok (.iaload, 1) := by decide +kernel
theorem dL_law_605 : decode cL_law 605 = .ok (.invokevirtual 85, 3) := by decide +kernel
theorem dL_law_608 : decode cL_law 608 = .ok (.if_icmp .eq 111, 3) := by decide +kernel
theorem dL_law_611 : decode cL_law 611 = .ok (.iconst 0, 1) := by decide +kernel
theorem dL_law_612 : decode cL_law 612 = .ok (.ireturn, 1) := by decide +kernel
theorem dL_law_613 : decode cL_law 613 = .ok (.aload_n 1, 1) := by decide +kernel
theorem dL_law_614 : decode cL_law 614 = .ok (.aload_n 0, 1) := by decide +kernel
theorem dL_law_615 : decode cL_law 615 = .ok (.iload_n 3, 1) := by decide +kernel
theorem dL_law_616 : decode cL_law 616 = .ok (.iconst 1, 1) := by decide +kernel
theorem dL_law_617 : decode cL_law 617 = .ok (.iadd, 1) := by decide +kernel
theorem dL_law_618 : decode cL_law 618 = .ok (.iaload, 1) := by decide +kernel
theorem dL_law_619 : decode cL_law 619 = .ok (.aload_n 0, 1) := by decide +kernel
theorem dL_law_620 : decode cL_law 620 = .ok (.iload_n 3, 1) := by decide +kernel
theorem dL_law_621 : decode cL_law 621 = .ok (.iconst 2, 1) := by decide +kernel
theorem dL_law_622 : decode cL_law 622 = .ok (.iadd, 1) := by decide +kernel
theorem dL_law_623 : decode cL_law 623 = .ok (.iaload, 1) := by decide +kernel
theorem dL_law_624 : decode cL_law 624 = .ok (.aload_n 0, 1) := by decide +kernel
theorem dL_law_625 : decode cL_law 625 = .ok (.iload_n 3, 1) := by decide +kernel
theorem dL_law_626 : decode cL_law 626 = .ok (.iconst 3, 1) := by decide +kernel
theorem dL_law_627 : decode cL_law 627 = .ok (.iadd, 1) := by decide +kernel
theorem dL_law_628 : decode cL_law 628 = .ok (.iaload, 1) := by decide +kernel
theorem dL_law_629 : decode cL_law 629 = .ok (.invokevirtual 86, 3) := by decide +kernel
theorem dL_law_632 : decode cL_law 632 = .ok (.aload_n 2, 1) := by decide +kernel
theorem dL_law_633 : decode cL_law 633 = .ok (.aload_n 0, 1) := by decide +kernel
theorem dL_law_634 : decode cL_law 634 = .ok (.iload_n 3, 1) := by decide +kernel
theorem dL_law_635 : decode cL_law 635 = .ok (.iconst 1, 1) := by decide +kernel
theorem dL_law_636 : decode cL_law 636 = .ok (.iadd, 1) := by decide +kernel
theorem dL_law_637 : decode cL_law 637 = .ok (.iaload, 1) := by decide +kernel
theorem dL_law_638 : decode cL_law 638 = .ok (.aload_n 0, 1) := by decide +kernel
theorem dL_law_639 : decode cL_law 639 = .ok (.iload_n 3, 1) := by decide +kernel
theorem dL_law_640 : decode cL_law 640 = .ok (.iconst 2, 1) := by decide +kernel
theorem dL_law_641 : decode cL_law 641 = .ok (.iadd, 1) := by decide +kernel
theorem dL_law_642 : decode cL_law 642 = .ok (.iaload, 1) := by decide +kernel
theorem dL_law_643 : decode cL_law 643 = .ok (.aload_n 0, 1) := by decide +kernel
theorem dL_law_644 : decode cL_law 644 = .ok (.iload_n 3, 1) := by decide +kernel
theorem dL_law_645 : decode cL_law 645 = .ok (.iconst 3, 1) := by decide +kernel
theorem dL_law_646 : decode cL_law 646 = .ok (.iadd, 1) := by decide +kernel
theorem dL_law_647 : decode cL_law 647 = .ok (.iaload, 1) := by decide +kernel
theorem dL_law_648 : decode cL_law 648 = .ok (.invokevirtual 89, 3) := by decide +kernel
theorem dL_law_651 : decode cL_law 651 = .ok (.if_icmp .eq 68, 3) := by decide +kernel
theorem dL_law_654 : decode cL_law 654 = .ok (.iconst 0, 1) := by decide +kernel
theorem dL_law_655 : decode cL_law 655 = .ok (.ireturn, 1) := by decide +kernel
theorem dL_law_656 : decode cL_law 656 = .ok (.aload_n 1, 1) := by decide +kernel
theorem dL_law_657 : decode cL_law 657 = .ok (.invokevirtual 90, 3) := by decide +kernel
theorem dL_law_660 : decode cL_law 660 = .ok (.aload_n 2, 1) := by decide +kernel
theorem dL_law_661 : decode cL_law 661 = .ok (.invokevirtual 93, 3) := by decide +kernel
theorem dL_law_664 : decode cL_law 664 = .ok (.if_icmp .eq 55, 3) := by decide +kernel
theorem dL_law_667 : decode cL_law 667 = .ok (.iconst 0, 1) := by decide +kernel
theorem dL_law_668 : decode cL_law 668 = .ok (.ireturn, 1) := by decide +kernel
theorem dL_law_669 : decode cL_law 669 = .ok (.aload_n 1, 1) := by decide +kernel
theorem dL_law_670 : decode cL_law 670 = .ok (.invokevirtual 94, 3) := by decide +kernel
theorem dL_law_673 : decode cL_law 673 = .ok (.aload_n 2, 1) := by decide +kernel
theorem dL_law_674 : decode cL_law 674 = .ok (.invokevirtual 97, 3) := by decide +kernel
theorem dL_law_677 : decode cL_law 677 = .ok (.if_icmp .eq 42, 3) := by decide +kernel
theorem dL_law_680 : decode cL_law 680 = .ok (.iconst 0, 1) := by decide +kernel
theorem dL_law_681 : decode cL_law 681 = .ok (.ireturn, 1) := by decide +kernel
theorem dL_law_682 : decode cL_law 682 = .ok (.aload_n 1, 1) := by decide +kernel
theorem dL_law_683 : decode cL_law 683 = .ok (.aload_n 0, 1) := by decide +kernel
theorem dL_law_684 : decode cL_law 684 = .ok (.iload_n 3, 1) := by decide +kernel
theorem dL_law_685 : decode cL_law 685 = .ok (.iconst 1, 1) := by decide +kernel
theorem dL_law_686 : decode cL_law 686 = .ok (.iadd, 1) := by decide +kernel
theorem dL_law_687 : decode cL_law 687 = .ok (.iaload, 1) := by decide +kernel
theorem dL_law_688 : decode cL_law 688 = .ok (.invokevirtual 98, 3) := by decide +kernel
theorem dL_law_691 : decode cL_law 691 = .ok (.aload_n 2, 1) := by decide +kernel
theorem dL_law_692 : decode cL_law 692 = .ok (.aload_n 0, 1) := by decide +kernel
theorem dL_law_693 : decode cL_law 693 = .ok (.iload_n 3, 1) := by decide +kernel
theorem dL_law_694 : decode cL_law 694 = .ok (.iconst 1, 1) := by decide +kernel
theorem dL_law_695 : decode cL_law 695 = .ok (.iadd, 1) := by decide +kernel
theorem dL_law_696 : decode cL_law 696 = .ok (.iaload, 1) := by decide +kernel
theorem dL_law_697 : decode cL_law 697 = .ok (.invokevirtual 101, 3) := by decide +kernel
theorem dL_law_700 : decode cL_law 700 = .ok (.if_icmp .eq 19, 3) := by decide +kernel
theorem dL_law_703 : decode cL_law 703 = .ok (.iconst 0, 1) := by decide +kernel
theorem dL_law_704 : decode cL_law 704 = .ok (.ireturn, 1) := by decide +kernel
theorem dL_law_705 : decode cL_law 705 = .ok (.aload_n 1, 1) := by decide +kernel
theorem dL_law_706 : decode cL_law 706 = .ok (.invokevirtual 102, 3) := by decide +kernel
theorem dL_law_709 : decode cL_law 709 = .ok (.aload_n 2, 1) := by decide +kernel
theorem dL_law_710 : decode cL_law 710 = .ok (.invokevirtual 106, 3) := by decide +kernel
theorem dL_law_713 : decode cL_law 713 = .ok (.lcmp, 1) := by decide +kernel
theorem dL_law_714 : decode cL_law 714 = .ok (.ifCond .eq 5, 3) := by decide +kernel
theorem dL_law_717 : decode cL_law 717 = .ok (.iconst 0, 1) := by decide +kernel
theorem dL_law_718 : decode cL_law 718 = .ok (.ireturn, 1) := by decide +kernel
theorem dL_law_719 : decode cL_law 719 = .ok (.iinc 3 4, 3) := by decide +kernel
theorem dL_law_722 : decode cL_law 722 = .ok (.goto (-704), 3) := by decide +kernel
theorem dL_law_725 : decode cL_law 725 = .ok (.iconst 1, 1) := by decide +kernel
theorem dL_law_726 : decode cL_law 726 = .ok (.ireturn, 1) := by decide +kernel
end
section
/-! contracts of methods that only read (MetR) and of those that change their cells (MetX), made of the kit's Met; entries, ends and calls of both -/
def rQ (v : Option Value) : Array Value → State → Outcome → State → Prop := fun _ st o t => o = .returned v ∧ t.heap = st.heap
def xQ (D : va_G) (A : Nat → Prop) (v : Option Value) (w1 : va_W) : Array Value → State → Outcome → State → Prop := fun _ st o t => (o = .returned v ∧ va_P D vwCl w1 t.heap ∧ va_D A w1) ∧ va_F A st t
abbrev rP (D : va_G) (cI : ClassId) (av : List Value) (wc : va_W) : Array Value → State → Prop := va_Pc av (fun U => va_P D vwCl wc U.heap ∧ va_K D vwCl [(cI, .int)] U)
abbrev xP (D : va_G) (cI : ClassId) (av : List Value) (wc : va_W) (sz : Nat) : Array Value → State → Prop := va_Pc av (fun U => U.heap.size = sz ∧ va_P D vwCl wc U.heap ∧ va_K D vwCl [(cI, .int)] U ∧ va_D (fun _ => True) wc)
def MetR (l : Launch) (y : MethodName) (ws : List Cond) (rm : Room) (D : va_G) (cI : ClassId) (av : List Value) (wc : va_W) (v : Option Value) : Prop := Met l y ws rm (rP D cI av wc) (rQ v) 0 0 (fun _ => False)
def MetX (l : Launch) (y : MethodName) (ws : List Cond) (rm : Room) (D : va_G) (cI : ClassId) (av : List Value) (wc : va_W) (v : Option Value) (w1 : va_W) : Prop := ∀ sz : Nat, Met l y ws rm (xP D cI av wc sz) (xQ D (va_A wc sz) v w1) 0 0 (va_A wc sz)
/-- the entry of a reading method -/
theorem mR {l : Launch} {y : MethodName} {ws ws' : List Cond} {rm : Room} {D : va_G} {cI : ClassId} {av : List Value} {wc : va_W} {v : Option Value} {cc : ByteArray} {maxL : Nat} {ret : Option FieldType}
    (hy : plainName y.cls = true) (hw : ws = Cond.code y cc maxL ret :: ws') (hlen : (lg_sl av).length ≤ maxL)
    (body : ∀ (p : Program) (e : Env) (s : State) (m : MethodId) (args : Array Value) (below : List Frame) (meth : Method) (c : Code) (Q : State → Prop), p.tables.exec = Jvm.exec → c.code = cc → meth.sig.returnType = ret → c.maxLocals = maxL → s.vm.findClass y.cls = some m.cls → (∀ w ∈ ws, w.before args s = true) → meth.locks = false →
      va_P D vwCl wc s.heap → va_K D vwCl [(cI, .int)] s → Q = MQ below (rQ v) args s 0 0 (fun _ => False) → ∀ ls : Array Slot, lv_has ls maxL (lv_args 0 av) → W p l e rm s m args below meth c s.heap [] 0 0 Q (F0 m 0 ls [])) : MetR l y ws rm D cI av wc v := by
  refine Met.ofW (cc := cc) (maxL := maxL) (ret := ret) hy hw ?_
  intro p e s m args below meth c s₁ B hml hv
  obtain ⟨rfl, hP, hK⟩ := hv
  have hl := lv_entry av (n := maxL) hlen
  rw [lg_entry_eq]
  exact body p e s m _ below meth c _ B.exec B.bytes B.returns hml (findClass_of_methodNamed B.named) (atoms_spec (ws := ws) B.pre) B.notSynchronized hP hK rfl _ hl
/-- the entry of a method that changes its cells -/
theorem mX {l : Launch} {y : MethodName} {ws ws' : List Cond} {rm : Room} {D : va_G} {cI : ClassId} {av : List Value} {wc : va_W} {v : Option Value} {w1 : va_W} {cc : ByteArray} {maxL : Nat} {ret : Option FieldType}
    (hy : plainName y.cls = true) (hw : ws = Cond.code y cc maxL ret :: ws') (hlen : (lg_sl av).length ≤ maxL)
    (body : ∀ (p : Program) (e : Env) (s : State) (m : MethodId) (args : Array Value) (below : List Frame) (meth : Method) (c : Code) (Q : State → Prop) (A : Nat → Prop), p.tables.exec = Jvm.exec → c.code = cc → meth.sig.returnType = ret → c.maxLocals = maxL → s.vm.findClass y.cls = some m.cls → (∀ w ∈ ws, w.before args s = true) → meth.locks = false →
      va_P D vwCl wc s.heap → va_K D vwCl [(cI, .int)] s → va_D A wc → (∀ q : Nat, s.heap.size ≤ q → A q) → va_S A s.heap s.heap [] → Q = MQ below (xQ D A v w1) args s 0 0 A → ∀ ls : Array Slot, lv_has ls maxL (lv_args 0 av) → W p l e rm s m args below meth c s.heap [] 0 0 Q (F0 m 0 ls [])) : MetX l y ws rm D cI av wc v w1 := by
  intro sz
  refine Met.ofW (cc := cc) (maxL := maxL) (ret := ret) hy hw ?_
  intro p e s m args below meth c s₁ B hml hv
  obtain ⟨rfl, hsz, hP, hK, hD0⟩ := hv
  subst hsz
  have hl := lv_entry av (n := maxL) hlen
  rw [lg_entry_eq]
  exact body p e s m _ below meth c _ (va_A wc s.heap.size) B.exec B.bytes B.returns hml (findClass_of_methodNamed B.named) (atoms_spec (ws := ws) B.pre) B.notSynchronized hP hK hD0.self (fun q h => Or.inr h) va_S.rf rfl _ hl
section EndsRX
variable {p : Program} {l : Launch} {e : Env} {R : Room} {s : State} {m : MethodId} {args : Array Value} {below : List Frame} {meth : Method} {c : Code} {H : Heap} {locs : List Loc} {Q : State → Prop}
variable {cc : ByteArray} {pc : Nat} {ls : Array Slot} {rest : List Value} {D : va_G} {A : Nat → Prop} {w1 : va_W}
theorem eRi {v r : Int32} (hx : p.tables.exec = Jvm.exec) (hb : c.code = cc) (hr : meth.sig.returnType = some .int) (hlk : meth.locks = false) (hQ : Q = MQ below (rQ (some (.int r))) args s 0 0 (fun _ => False)) (hd : decode cc pc = .ok (.ireturn, 1)) (hv : v = r) : W p l e R s m args below meth c s.heap [] 0 0 Q (F0 m pc ls [.int v]) := by
  subst hQ; subst hv
  exact W.iret hx hb hr (fun t ht _ => ⟨rfl, ht⟩) (fun q h => by cases h) hd hlk
theorem eRz {v r : Int32} {ty : FieldType} (hx : p.tables.exec = Jvm.exec) (hb : c.code = cc) (hr : meth.sig.returnType = some ty) (hlk : meth.locks = false) (hQ : Q = MQ below (rQ (some (.int r))) args s 0 0 (fun _ => False)) (hd : decode cc pc = .ok (.ireturn, 1)) (hn : narrow ty (.int v) = .int v) (hv : v = r) : W p l e R s m args below meth c s.heap [] 0 0 Q (F0 m pc ls [.int v]) := by
  subst hQ; subst hv
  exact W.zret hx hb hr hn (fun t ht _ => ⟨rfl, ht⟩) (fun q h => by cases h) hd hlk
theorem eRl {v r : Int64} (hx : p.tables.exec = Jvm.exec) (hb : c.code = cc) (hr : meth.sig.returnType = some .long) (hlk : meth.locks = false) (hQ : Q = MQ below (rQ (some (.long r))) args s 0 0 (fun _ => False)) (hd : decode cc pc = .ok (.lreturn, 1)) (hv : v = r) : W p l e R s m args below meth c s.heap [] 0 0 Q (F0 m pc ls [.long v]) := by
  subst hQ; subst hv
  exact W.lret hx hb hr (fun t ht _ => ⟨rfl, ht⟩) (fun q h => by cases h) hd hlk
theorem eXi {v r : Int32} (hx : p.tables.exec = Jvm.exec) (hb : c.code = cc) (hr : meth.sig.returnType = some .int) (hlk : meth.locks = false) (hQ : Q = MQ below (xQ D A (some (.int r)) w1) args s 0 0 A) (hP : va_P D vwCl w1 H) (hD : va_D A w1) (hS : va_S A s.heap H locs) (hd : decode cc pc = .ok (.ireturn, 1)) (hv : v = r) : W p l e R s m args below meth c H locs 0 0 Q (F0 m pc ls [.int v]) := by
  subst hQ; subst hv
  exact W.iret hx hb hr (fun t ht _ => ⟨⟨rfl, by rw [ht]; exact hP, hD⟩, hS.F ht⟩) hS.2.2 hd hlk
theorem eXz {v r : Int32} {ty : FieldType} (hx : p.tables.exec = Jvm.exec) (hb : c.code = cc) (hr : meth.sig.returnType = some ty) (hlk : meth.locks = false) (hQ : Q = MQ below (xQ D A (some (.int r)) w1) args s 0 0 A) (hP : va_P D vwCl w1 H) (hD : va_D A w1) (hS : va_S A s.heap H locs) (hd : decode cc pc = .ok (.ireturn, 1)) (hn : narrow ty (.int v) = .int v) (hv : v = r) : W p l e R s m args below meth c H locs 0 0 Q (F0 m pc ls [.int v]) := by
  subst hQ; subst hv
  exact W.zret hx hb hr hn (fun t ht _ => ⟨⟨rfl, by rw [ht]; exact hP, hD⟩, hS.F ht⟩) hS.2.2 hd hlk
theorem eXl {v r : Int64} (hx : p.tables.exec = Jvm.exec) (hb : c.code = cc) (hr : meth.sig.returnType = some .long) (hlk : meth.locks = false) (hQ : Q = MQ below (xQ D A (some (.long r)) w1) args s 0 0 A) (hP : va_P D vwCl w1 H) (hD : va_D A w1) (hS : va_S A s.heap H locs) (hd : decode cc pc = .ok (.lreturn, 1)) (hv : v = r) : W p l e R s m args below meth c H locs 0 0 Q (F0 m pc ls [.long v]) := by
  subst hQ; subst hv
  exact W.lret hx hb hr (fun t ht _ => ⟨⟨rfl, by rw [ht]; exact hP, hD⟩, hS.F ht⟩) hS.2.2 hd hlk
theorem eXv (hx : p.tables.exec = Jvm.exec) (hb : c.code = cc) (hr : meth.sig.returnType = none) (hlk : meth.locks = false) (hQ : Q = MQ below (xQ D A none w1) args s 0 0 A) (hP : va_P D vwCl w1 H) (hD : va_D A w1) (hS : va_S A s.heap H locs) (hd : decode cc pc = .ok (.return_, 1)) : W p l e R s m args below meth c H locs 0 0 Q (F0 m pc ls []) := by
  subst hQ
  exact W.vret hx hb hr (fun t ht _ => ⟨⟨rfl, by rw [ht]; exact hP, hD⟩, hS.F ht⟩) hS.2.2 hd hlk
/-- a place where branches meet -/
theorem jn {pc' : Nat} {ls' : Array Slot} {st' : List Value} {g : JFrame} {cells slots : Nat} (k : W p l e R s m args below meth c H locs cells slots Q (F0 m pc' ls' st')) (h : W p l e R s m args below meth c H locs cells slots Q (F0 m pc' ls' st') → W p l e R s m args below meth c H locs cells slots Q g) : W p l e R s m args below meth c H locs cells slots Q g := h k
end EndsRX
section CallsRX
variable {p : Program} {l : Launch} {e : Env} {R : Room} {s : State} {m : MethodId} {args : Array Value} {below : List Frame} {meth : Method} {c : Code} {H : Heap} {locs : List Loc} {cells slots : Nat} {Q : State → Prop}
variable {y : MethodName} {bytes cc : ByteArray} {maxL nL n index : Nat} {ret : Option FieldType} {ws : List Cond} {rm : Room} {Ts : List Cond} {own C : String} {b : Nat} {As rest st : List Value} {pc : Nat} {ls : Array Slot}
variable {D : va_G} {cI : ClassId} {A : Nat → Prop} {w wc w1 w2 : va_W} {st' : List Value}
theorem rB (av : List Value) : FrameBlind (rP D cI av wc) := by
  intro a U g mk q
  obtain ⟨q0, qP, qK⟩ := q
  exact ⟨q0, qP, va_K.moved (u := U) (U := U.calling g mk a) (Vm.Alike.refl U.vm) qK⟩
theorem xB (av : List Value) (sz : Nat) : FrameBlind (xP D cI av wc sz) := by
  intro a U g mk q
  obtain ⟨q0, q1, qP, qK, qD⟩ := q
  exact ⟨q0, q1, qP, va_K.moved (u := U) (U := U.calling g mk a) (Vm.Alike.refl U.vm) qK, qD⟩
theorem rGo {v : Option Value} {a : Array Value} (hf : cells ≤ R.cells ∧ slots ≤ R.slots) (hr : CallRun p l e R s m args below meth c H locs cells slots 0 0 (F0 m pc ls st) rest (rQ v a) (fun _ => False)) (kk : W p l e R s m args below meth c H locs cells slots Q (F0 m (pc + 3) ls (v.toList ++ rest))) : W p l e R s m args below meth c H locs cells slots Q (F0 m pc ls st) := by
  intro T hT X
  obtain ⟨v', st₀, t, T', L, h0, X', hL, e1, ⟨hv, hh⟩, go⟩ := hr T hT X
  cases hv
  obtain ⟨t2, a1, b1⟩ := kk T' (by rw [e1, hh, h0]) (Stand.forget X' (fun q h => (hL q h).elim))
  exact ⟨t2, go t2 a1, b1⟩
theorem rV {v : Option Value} (S : CallFix p m c cc nL s args Ts own) (hM : MetR l y ws rm D cI (.ref b :: As) wc v) (cw : CallW R s args own C index y bytes maxL ret ws rm 0 0 n) (hK : va_K D vwCl [(cI, .int)] s) (hP : va_P D vwCl wc H) (q0 : Nat) {ci : Nat} {q : vw_C} {fs : List Value} (hc : vwCl[ci]? = some q) (he : wc[q0]? = some (b, .inr (ci, fs))) (hC : q.1 = C)
    (hn : As.length = n) (hsize : ls.size = nL) (hstack : st = As.reverse ++ .ref b :: rest) (hst : v.toList ++ rest = st') (hW : (rest.map fun v => v.category).sum ≤ 8) (hdg : decode cc pc = .ok (.invokevirtual index, 3)) (hf : cells ≤ R.cells ∧ slots ≤ R.slots)
    (kk : W p l e R s m args below meth c H locs cells slots Q (F0 m (pc + 3) ls st')) : W p l e R s m args below meth c H locs cells slots Q (F0 m pc ls st) := by
  subst hC; subst hst
  exact rGo hf (W.runV S hM cw ⟨rB _, va_recv hK hP hc he, fun U hU hW => ⟨rfl, by rw [hU]; exact hP, va_K.moved hW.alike hK⟩⟩ rfl hn hsize hstack (lv_room hW) hdg hf) kk
theorem rS {v : Option Value} (S : CallFix p m c cc nL s args Ts own) (hM : MetR l y ws rm D cI As wc v) (cw : CallB R s args own index y bytes maxL ret ws rm 0 0 n ∧ (Cond.static y).before args s = true) (hK : va_K D vwCl [(cI, .int)] s) (hP : va_P D vwCl wc H)
    (hn : As.length = n) (hsize : ls.size = nL) (hstack : st = As.reverse ++ rest) (hst : v.toList ++ rest = st') (hW : (rest.map fun v => v.category).sum ≤ 8) (hdg : decode cc pc = .ok (.invokestatic index, 3)) (hf : cells ≤ R.cells ∧ slots ≤ R.slots)
    (kk : W p l e R s m args below meth c H locs cells slots Q (F0 m (pc + 3) ls st')) : W p l e R s m args below meth c H locs cells slots Q (F0 m pc ls st) := by
  subst hst
  exact rGo hf (W.runS S hM cw ⟨rB _, fun U hU hW => ⟨rfl, by rw [hU]; exact hP, va_K.moved hW.alike hK⟩⟩ rfl hn hsize hstack (lv_room hW) hdg hf) kk
theorem xGo {v : Option Value} {a : Array Value} (hr : CallRun p l e R s m args below meth c H locs cells slots 0 0 (F0 m pc ls st) rest (xQ D (va_A wc H.size) v w1 a) (va_A wc H.size)) (hP : va_P D vwCl w H) (hD : va_D A w) (hS : va_S A s.heap H locs) (hA : ∀ q : Nat, s.heap.size ≤ q → A q)
    (isC isR perm : List Nat) (hC : isC.map (fun i => w[i]?) = wc.map some) (hR : isR.map (fun i => w[i]?) = (isR.filterMap (fun i => w[i]?)).map some) (hnd : va_nd isR = true) (hdis : ∀ i ∈ isR, i ∉ isC) (hp1 : va_nd perm = true) (hp : perm.map (fun i => (isR.filterMap (fun i => w[i]?) ++ w1)[i]?) = w2.map some) (hp2 : perm.filterMap (fun i => (isR.filterMap (fun i => w[i]?) ++ w1)[i]?) = w2)
    (kk : ∀ (H1 : Heap) (locs1 : List Loc), va_P D vwCl w2 H1 → va_D A w2 → va_S A s.heap H1 locs1 → W p l e R s m args below meth c H1 locs1 cells slots Q (F0 m (pc + 3) ls (v.toList ++ rest))) : W p l e R s m args below meth c H locs cells slots Q (F0 m pc ls st) := by
  have hF := va_free (wc := wc) hD hS hA isC hC
  intro T hT X
  obtain ⟨v', st₀, t, T', L, h0, X', hL, e1, ⟨⟨hv, hP1, hD1⟩, hz, hk⟩, go⟩ := hr T hT X
  cases hv
  rw [h0] at hz hk
  obtain ⟨hPj, hDj⟩ := va_join (wr := isR.filterMap (fun i => w[i]?)) hP hD isC isR hC hR hnd hdis hk hF hP1 hD1
  obtain ⟨t2, a1, b1⟩ := kk T'.heap (locs ++ L) (by rw [e1]; exact hPj.sub perm hp2) (hDj.sub perm hp1 hp)
    ⟨Nat.le_trans hS.1 (by rw [e1]; exact hz), fun q h1 h2 => by rw [e1, hk q (Nat.lt_of_lt_of_le h1 hS.1) (fun z => h2 (hF q z))]; exact hS.2.1 q h1 h2, fun q hq => by
      rcases List.mem_append.mp hq with h | h
      · exact hS.2.2 q h
      · exact hF _ (hL q h)⟩ T' rfl X'
  exact ⟨t2, go t2 a1, b1⟩
theorem xV {v : Option Value} (S : CallFix p m c cc nL s args Ts own) (hM : MetX l y ws rm D cI (.ref b :: As) wc v w1) (cw : CallW R s args own C index y bytes maxL ret ws rm 0 0 n) (hK : va_K D vwCl [(cI, .int)] s) (hP : va_P D vwCl w H) (hD : va_D A w) (hS : va_S A s.heap H locs) (hA : ∀ q : Nat, s.heap.size ≤ q → A q)
    (isC isR perm : List Nat) (hC : isC.map (fun i => w[i]?) = wc.map some) (hC2 : isC.filterMap (fun i => w[i]?) = wc) (hC3 : va_nd isC = true) (hR : isR.map (fun i => w[i]?) = (isR.filterMap (fun i => w[i]?)).map some) (hnd : va_nd isR = true) (hdis : ∀ i ∈ isR, i ∉ isC) (hp1 : va_nd perm = true) (hp : perm.map (fun i => (isR.filterMap (fun i => w[i]?) ++ w1)[i]?) = w2.map some) (hp2 : perm.filterMap (fun i => (isR.filterMap (fun i => w[i]?) ++ w1)[i]?) = w2)
    (q0 : Nat) {ci : Nat} {q : vw_C} {fs : List Value} (hc : vwCl[ci]? = some q) (he : wc[q0]? = some (b, .inr (ci, fs))) (hCq : q.1 = C)
    (hn : As.length = n) (hsize : ls.size = nL) (hstack : st = As.reverse ++ .ref b :: rest) (hst : v.toList ++ rest = st') (hW : (rest.map fun v => v.category).sum ≤ 8) (hdg : decode cc pc = .ok (.invokevirtual index, 3)) (hf : cells ≤ R.cells ∧ slots ≤ R.slots)
    (kk : ∀ (H1 : Heap) (locs1 : List Loc), va_P D vwCl w2 H1 → va_D A w2 → va_S A s.heap H1 locs1 → W p l e R s m args below meth c H1 locs1 cells slots Q (F0 m (pc + 3) ls st')) : W p l e R s m args below meth c H locs cells slots Q (F0 m pc ls st) := by
  subst hCq; subst hst
  have hPc := hP.sub isC hC2
  have hDc := hD.sub isC hC3 hC
  exact xGo (W.runV S (hM H.size) cw ⟨xB _ _, va_recv hK hPc hc he, fun U hU hW => ⟨rfl, by rw [hU], by rw [hU]; exact hPc, va_K.moved hW.alike hK, hDc.weaken (fun _ _ _ _ => trivial)⟩⟩ rfl hn hsize hstack (lv_room hW) hdg hf) hP hD hS hA isC isR perm hC hR hnd hdis hp1 hp hp2 kk
theorem xS {v : Option Value} (S : CallFix p m c cc nL s args Ts own) (hM : MetX l y ws rm D cI As wc v w1) (cw : CallB R s args own index y bytes maxL ret ws rm 0 0 n ∧ (Cond.static y).before args s = true) (hK : va_K D vwCl [(cI, .int)] s) (hP : va_P D vwCl w H) (hD : va_D A w) (hS : va_S A s.heap H locs) (hA : ∀ q : Nat, s.heap.size ≤ q → A q)
    (isC isR perm : List Nat) (hC : isC.map (fun i => w[i]?) = wc.map some) (hC2 : isC.filterMap (fun i => w[i]?) = wc) (hC3 : va_nd isC = true) (hR : isR.map (fun i => w[i]?) = (isR.filterMap (fun i => w[i]?)).map some) (hnd : va_nd isR = true) (hdis : ∀ i ∈ isR, i ∉ isC) (hp1 : va_nd perm = true) (hp : perm.map (fun i => (isR.filterMap (fun i => w[i]?) ++ w1)[i]?) = w2.map some) (hp2 : perm.filterMap (fun i => (isR.filterMap (fun i => w[i]?) ++ w1)[i]?) = w2)
    (hn : As.length = n) (hsize : ls.size = nL) (hstack : st = As.reverse ++ rest) (hst : v.toList ++ rest = st') (hW : (rest.map fun v => v.category).sum ≤ 8) (hdg : decode cc pc = .ok (.invokestatic index, 3)) (hf : cells ≤ R.cells ∧ slots ≤ R.slots)
    (kk : ∀ (H1 : Heap) (locs1 : List Loc), va_P D vwCl w2 H1 → va_D A w2 → va_S A s.heap H1 locs1 → W p l e R s m args below meth c H1 locs1 cells slots Q (F0 m (pc + 3) ls st')) : W p l e R s m args below meth c H locs cells slots Q (F0 m pc ls st) := by
  subst hst
  have hPc := hP.sub isC hC2
  have hDc := hD.sub isC hC3 hC
  exact xGo (W.runS S (hM H.size) cw ⟨xB _ _, fun U hU hW => ⟨rfl, by rw [hU], by rw [hU]; exact hPc, va_K.moved hW.alike hK, hDc.weaken (fun _ _ _ _ => trivial)⟩⟩ rfl hn hsize hstack (lv_room hW) hdg hf) hP hD hS hA isC isR perm hC hR hnd hdis hp1 hp hp2 kk
end CallsRX
section RowsRX
variable {p : Program} {l : Launch} {e : Env} {R : Room} {s : State} {m : MethodId} {args : Array Value} {below : List Frame} {meth : Method} {c : Code} {H H0 : Heap} {locs : List Loc} {cells slots : Nat} {Q : State → Prop}
variable {cc : ByteArray} {pc : Nat} {ls : Array Slot} {rest : List Value} {D : va_G} {cI : ClassId} {A : Nat → Prop} {w : va_W} {a : Nat}
/-- an int array read at a place that is a Nat -/
theorem xald (hx : p.tables.exec = Jvm.exec) (hb : c.code = cc) (hK : va_K D vwCl [(cI, .int)] s) (hP : va_P D vwCl w H) (q0 : Nat) {n : Nat} {f : Nat → Int32} (ha : w[q0]? = some (a, .inl (cI, n, .inl f))) {i : Int32} (j : Nat) (hi : i = nI j) (hj : j < n) (hn : n < 2 ^ 31) (hdg : decode cc pc = .ok (.iaload, 1))
    (kk : W p l e R s m args below meth c H locs cells slots Q (F0 m (pc + 1) ls (.int (f j) :: rest))) : W p l e R s m args below meth c H locs cells slots Q (F0 m pc ls (.int i :: .ref a :: rest)) := by
  subst hi
  refine va_iald hx hb hK hP q0 0 ha rfl (vp_in_nI hj hn) hdg ?_
  rw [nI_clamp (Nat.lt_trans hj hn)]
  exact kk
/-- an int array written at a place that is a Nat -/
theorem xast (hx : p.tables.exec = Jvm.exec) (hb : c.code = cc) (hK : va_K D vwCl [(cI, .int)] s) (hP : va_P D vwCl w H) (hD : va_D A w) (hS : va_S A H0 H locs) (q0 : Nat) {n : Nat} {f : Nat → Int32} (ha : w[q0]? = some (a, .inl (cI, n, .inl f))) {i x : Int32} (j : Nat) (hi : i = nI j) (hj : j < n) (hn : n < 2 ^ 31) (hdg : decode cc pc = .ok (.iastore, 1))
    (kk : ∀ (H1 : Heap) (locs1 : List Loc), va_P D vwCl (w.set q0 (a, .inl (cI, n, .inl (upd f j x)))) H1 → va_D A (w.set q0 (a, .inl (cI, n, .inl (upd f j x)))) → va_S A H0 H1 locs1 → W p l e R s m args below meth c H1 locs1 cells slots Q (F0 m (pc + 1) ls rest)) : W p l e R s m args below meth c H locs cells slots Q (F0 m pc ls (.int x :: .int i :: .ref a :: rest)) := by
  subst hi
  refine va_iast hx hb hK hP hD hS q0 0 ha rfl (vp_in_nI hj hn) hdg ?_
  rw [nI_clamp (Nat.lt_trans hj hn)]
  exact kk
/-- a number on the stack under another name -/
theorem tpi {x y : Int32} (h : x = y) (k : W p l e R s m args below meth c H locs cells slots Q (F0 m pc ls (.int y :: rest))) : W p l e R s m args below meth c H locs cells slots Q (F0 m pc ls (.int x :: rest)) := h ▸ k
end RowsRX
theorem ix_add {a b : Int32} {x y : Nat} (ha : a = nI x) (hb : b = nI y) : a + b = nI (x + y) := by rw [ha, hb, nI_add]
theorem ix_mul {a b : Int32} {x y : Nat} (ha : a = nI x) (hb : b = nI y) : a * b = nI (x * y) := by rw [ha, hb, pk_mul]
theorem ix_sub {a b : Int32} {x y : Nat} (h : y ≤ x) (ha : a = nI x) (hb : b = nI y) : a - b = nI (x - y) := by rw [ha, hb, pk_sub h]
theorem nlt_t {A B : Int32} {a b : Nat} (hA : A = nI a) (hB : B = nI b) (ha : a < 2 ^ 31) (hb : b < 2 ^ 31) (h : a < b) : A < B := by rw [hA, hB]; exact (nI_ltI ha hb).mpr h
theorem nlt_f {A B : Int32} {a b : Nat} (hA : A = nI a) (hB : B = nI b) (ha : a < 2 ^ 31) (hb : b < 2 ^ 31) (h : b ≤ a) : ¬ A < B := by rw [hA, hB]; exact fun q => absurd ((nI_ltI ha hb).mp q) (by omega)
theorem nlt_d {A B : Int32} {a b : Nat} (hA : A = nI a) (hB : B = nI b) (ha : a < 2 ^ 31) (hb : b < 2 ^ 31) (h : A < B) : a < b := by rw [hA, hB] at h; exact (nI_ltI ha hb).mp h
theorem nlt_e {A B : Int32} {a b : Nat} (hA : A = nI a) (hB : B = nI b) (ha : a < 2 ^ 31) (hb : b < 2 ^ 31) (h : ¬ A < B) : b ≤ a := by rw [hA, hB] at h; exact Nat.le_of_not_lt (fun q => h ((nI_ltI ha hb).mpr q))
theorem nle_t {A B : Int32} {a b : Nat} (hA : A = nI a) (hB : B = nI b) (ha : a < 2 ^ 31) (hb : b < 2 ^ 31) (h : a ≤ b) : A ≤ B := by rw [hA, hB]; exact (nI_leI ha hb).mpr h
theorem nle_f {A B : Int32} {a b : Nat} (hA : A = nI a) (hB : B = nI b) (ha : a < 2 ^ 31) (hb : b < 2 ^ 31) (h : b < a) : ¬ A ≤ B := by rw [hA, hB]; exact fun q => absurd ((nI_leI ha hb).mp q) (by omega)
theorem nle_d {A B : Int32} {a b : Nat} (hA : A = nI a) (hB : B = nI b) (ha : a < 2 ^ 31) (hb : b < 2 ^ 31) (h : A ≤ B) : a ≤ b := by rw [hA, hB] at h; exact (nI_leI ha hb).mp h
theorem nle_e {A B : Int32} {a b : Nat} (hA : A = nI a) (hB : B = nI b) (ha : a < 2 ^ 31) (hb : b < 2 ^ 31) (h : ¬ A ≤ B) : b < a := by rw [hA, hB] at h; exact Nat.lt_of_not_le (fun q => h ((nI_leI ha hb).mpr q))
theorem neq_t {A B : Int32} {a b : Nat} (hA : A = nI a) (hB : B = nI b) (_ : a < 2 ^ 31) (_ : b < 2 ^ 31) (h : a = b) : A = B := by rw [hA, hB, h]
theorem neq_f {A B : Int32} {a b : Nat} (hA : A = nI a) (hB : B = nI b) (ha : a < 2 ^ 31) (hb : b < 2 ^ 31) (h : ¬ a = b) : ¬ A = B := by rw [hA, hB]; exact fun q => h ((nI_eq ha hb).mp q)
theorem neq_d {A B : Int32} {a b : Nat} (hA : A = nI a) (hB : B = nI b) (ha : a < 2 ^ 31) (hb : b < 2 ^ 31) (h : A = B) : a = b := by rw [hA, hB] at h; exact (nI_eq ha hb).mp h
theorem neq_e {A B : Int32} {a b : Nat} (hA : A = nI a) (hB : B = nI b) (ha : a < 2 ^ 31) (hb : b < 2 ^ 31) (h : ¬ A = B) : ¬ a = b := by rw [hA, hB] at h; exact fun q => h ((nI_eq ha hb).mpr q)
/-- a counter that falls to -1 -/
def dI : Nat → Int32
  | 0 => -1
  | k + 1 => nI k
theorem dI_dec (k : Nat) : nI k + (-1) = dI k := by
  cases k with
  | zero => rfl
  | succ k => exact pk_m1 k
end
section
theorem vin6 {x : Int32} (h1 : ¬ x < 0) (h2 : x ≤ 6) : vp_in x 7 := by
  obtain ⟨j, hj, rfl⟩ := nI_of h1
  exact vp_in_nI (by have := nle_d (A := nI j) (B := 6) (b := 6) rfl rfl hj (by decide) h2; omega) (by decide)
theorem vin_nI {x : Int32} {n : Nat} (h0 : ¬ x < 0) (h : ¬ nI n ≤ x) (hn : n < 2 ^ 31) : vp_in x n := by
  obtain ⟨j, hj, rfl⟩ := nI_of h0
  exact vp_in_nI (nle_e (A := nI n) rfl rfl hn hj h) hn
theorem one_shl : ∀ k, k < 31 → (1 : Int32) <<< (nI k &&& 31) = nI (2 ^ k) := by decide +kernel
theorem nI_self {x B : Int32} (hB : 0 ≤ B.toInt) (h : ¬ x < B) : x = nI x.toNatClampNeg := by
  have h0 : ¬ x < 0 := fun q => h (Int32.lt_iff_toInt_lt.mpr (by have := Int32.lt_iff_toInt_lt.mp q; simp at this; omega))
  obtain ⟨j, hj, rfl⟩ := nI_of h0
  rw [nI_clamp hj]
theorem nI_bd {x B : Int32} {b : Nat} (hb : B = nI b) (hbb : b < 2 ^ 31) (h0 : x = nI x.toNatClampNeg) (h : ¬ B < x) : x.toNatClampNeg ≤ b := by
  have hc : x.toNatClampNeg < 2 ^ 31 := by
    have := Int32.toInt_lt x
    have e : x.toNatClampNeg = x.toInt.toNat := rfl
    omega
  rw [hb, h0] at h
  exact nlt_e rfl rfl hbb hc h

def rm_X1_left : Room := { frames := 0, cells := 0, slots := 0, locals := 0 }
def f_X1_left (lamp : Int32) (lit : Int32) : Int32 := ((lit >>> ((4 * lamp) &&& 31)) &&& 15)
theorem hd_X1_left : yX1_left.cls ≠ "java/lang/invoke/MethodHandle" ∧ yX1_left.cls ≠ "java/lang/invoke/VarHandle" ∧ (parseMethodDescriptor yX1_left.desc).map (fun d => d.parameters.length) = some 2 := by decide +kernel
set_option maxHeartbeats 4000000 in
set_option maxRecDepth 100000 in
theorem c_X1_left (l : Launch) (D : va_G) (cI : ClassId) (lamp : Int32) (lit : Int32) : MetR l yX1_left wsX1_left rm_X1_left D cI [.int lit, .int lamp] [] (some (.int (f_X1_left lamp lit))) := by
  refine mR (cc := cX1_left) (maxL := 2) (ret := (some .int)) (by decide) rfl (Nat.le_of_ble_eq_true rfl) ?_
  intro p e s m args below meth c Q hx hb hr hml hown hts hlk hP hK hQ ls hl
  have hown : s.vm.findClass RX1 = some m.cls := hown
  have hl : lv_has ls 2 [(0, .int lit), (1, .int lamp)] := hl
  refine lv_iload_n hx hb dX1_left_0 rfl (lv_at hl 0 rfl) ?_
  refine lv_iconst (v := 4) hx hb dX1_left_1 (by decide) ?_
  refine lv_iload_n hx hb dX1_left_2 rfl (lv_at hl 1 rfl) ?_
  refine lv_imul hx hb dX1_left_3 ?_
  refine lv_ishr hx hb dX1_left_4 ?_
  refine lv_bipush (v := 15) hx hb dX1_left_5 (by decide) ?_
  refine lv_iand hx hb dX1_left_7 ?_
  exact eRi hx hb hr hlk hQ dX1_left_8 (Eq.symm (by simp only [f_X1_left]))

def rm_X1_litOnes : Room := { frames := 1, cells := 0, slots := 0, locals := 21 }
def f_X1_litOnes_4_v2 (lit : Int32) : Nat → Int32
  | 0 => 0
  | i1 + 1 => (if (f_X1_left (nI i1) lit) ≤ 0 then ((f_X1_litOnes_4_v2 lit i1) ||| 0) else ((f_X1_litOnes_4_v2 lit i1) ||| (1 <<< (nI i1 &&& 31))))
def f_X1_litOnes (nl : Nat) (lit : Int32) : Int32 := (f_X1_litOnes_4_v2 lit nl)
theorem hd_X1_litOnes : yX1_litOnes.cls = RX1 ∧ yX1_litOnes.cls ≠ "java/lang/invoke/MethodHandle" ∧ yX1_litOnes.cls ≠ "java/lang/invoke/VarHandle" ∧ (parseMethodDescriptor yX1_litOnes.desc).map (fun d => d.parameters.length) = some 1 := by decide +kernel
set_option maxHeartbeats 4000000 in
set_option maxRecDepth 100000 in
theorem c_X1_litOnes (l : Launch) (D : va_G) (cI : ClassId) (aL aLk aLh aLs : Nat) (nl : Nat) (lit : Int32) (hn : nl ≤ 6) : MetR l yX1_litOnes wsX1_litOnes rm_X1_litOnes D cI [.ref aL, .int lit] [(aL, .inr (1, [.ref aLk, .ref aLh, .ref aLs, .int (nI nl)]))] (some (.int (f_X1_litOnes nl lit))) := by
  refine mR (cc := cX1_litOnes) (maxL := 4) (ret := (some .int)) (by decide) rfl (Nat.le_of_ble_eq_true rfl) ?_
  intro p e s m args below meth c Q hx hb hr hml hown hts hlk hP hK hQ ls hl
  have hown : s.vm.findClass RX1 = some m.cls := hown
  have hl : lv_has ls 4 [(0, .ref aL), (1, .int lit)] := hl
  have w1 := hts (.fieldLink RX1 33 "DarkOffice$Lamps" "size" "I") (List.mem_of_getElem? (i := 1) rfl)
  have uX1 : ∀ w ∈ wsX10, w ∈ wsX1_litOnes := fun _ h => List.mem_cons_of_mem _ (List.mem_append_right _ h)
  refine lv_iconst (v := 0) hx hb dX1_litOnes_0 (by decide) ?_
  refine lv_istore_n (lv' := [(2, .int 0), (0, .ref aL), (1, .int lit)]) hx hb dX1_litOnes_1 rfl hl (by decide) rfl (fun ls hl => ?_)
  refine lv_iconst (v := 0) hx hb dX1_litOnes_2 (by decide) ?_
  refine lv_istore_n (lv' := [(3, .int 0), (2, .int 0), (0, .ref aL), (1, .int lit)]) hx hb dX1_litOnes_3 rfl hl (by decide) rfl (fun ls hl => ?_)
  have lp4 : ∀ (k4 i1 : Nat), i1 + k4 = nl → ∀ ls : Array Slot, lv_has ls 4 [(0, .ref aL), (1, .int lit), (2, .int ((f_X1_litOnes_4_v2 lit i1))), (3, .int (nI i1))] → W p l e rm_X1_litOnes s m args below meth c s.heap [] 0 0 Q (F0 m 4 ls []) := by
    intro k4
    induction k4 with
    | zero =>
      intro i1 hk4 ls hl
      have hN4 : nl = i1 := by omega
      subst hN4
      refine lv_iload_n hx hb dX1_litOnes_4 rfl (lv_at hl 3 rfl) ?_
      refine lv_aload_n hx hb dX1_litOnes_5 rfl (lv_at hl 0 rfl) ?_
      refine va_get (D := D) (ci := 1) (v := .int (nI nl)) (C := RX1) (T := TX1) (N := 4) hx hb hts uX1 hown hK hP 0 rfl rfl 3 (by decide) w1 (fun _ h9 => h9) rfl dX1_litOnes_6 ?_
      refine lv_icmp_ge (tgt := 36) hx hb dX1_litOnes_9 (by decide) (fun _ => ?_) (fun c => absurd (nle_t (a := nl) (b := nl) rfl rfl (by omega) (by omega) (by omega)) c)
      refine lv_iload_n hx hb dX1_litOnes_36 rfl (lv_at hl 2 rfl) ?_
      exact eRi hx hb hr hlk hQ dX1_litOnes_37 (Eq.symm (by simp only [f_X1_litOnes]))
    | succ k4 ih4 =>
      intro i1 hk4 ls hl
      refine lv_iload_n hx hb dX1_litOnes_4 rfl (lv_at hl 3 rfl) ?_
      refine lv_aload_n hx hb dX1_litOnes_5 rfl (lv_at hl 0 rfl) ?_
      refine va_get (D := D) (ci := 1) (v := .int (nI nl)) (C := RX1) (T := TX1) (N := 4) hx hb hts uX1 hown hK hP 0 rfl rfl 3 (by decide) w1 (fun _ h9 => h9) rfl dX1_litOnes_6 ?_
      refine lv_icmp_ge (tgt := 36) hx hb dX1_litOnes_9 (by decide) (fun c => absurd c (nle_f (a := nl) (b := i1) rfl rfl (by omega) (by omega) (by omega))) (fun _ => ?_)
      refine lv_iload_n hx hb dX1_litOnes_12 rfl (lv_at hl 2 rfl) ?_
      refine lv_iload_n hx hb dX1_litOnes_13 rfl (lv_at hl 1 rfl) ?_
      refine lv_iload_n hx hb dX1_litOnes_14 rfl (lv_at hl 3 rfl) ?_
      refine rS ⟨hx, hb, hml, hown, hts⟩ (c_X1_left l D cI (nI i1) lit) (va_cwS 2 hts gX1_litOnes_X1_left rfl rfl rfl hd_X1_left ⟨Nat.le_of_ble_eq_true rfl, Nat.le_of_ble_eq_true rfl⟩) hK (hP.sub [] rfl) rfl hl.1 (rest := [.int ((f_X1_litOnes_4_v2 lit i1))]) (st' := [.int (f_X1_left (nI i1) lit), .int ((f_X1_litOnes_4_v2 lit i1))]) rfl rfl (Nat.le_of_ble_eq_true rfl) dX1_litOnes_15 ⟨Nat.zero_le _, Nat.zero_le _⟩ ?_
      refine lv_if_le (tgt := 27) hx hb dX1_litOnes_18 (by decide) (fun c1 => ?_) (fun c1 => ?_)
      · refine lv_iconst (v := 0) hx hb dX1_litOnes_27 (by decide) ?_
        refine lv_ior hx hb dX1_litOnes_28 ?_
        refine lv_istore_n (lv' := [(2, .int ((f_X1_litOnes_4_v2 lit i1) ||| 0)), (0, .ref aL), (1, .int lit), (3, .int (nI i1))]) hx hb dX1_litOnes_29 rfl hl (by decide) rfl (fun ls hl => ?_)
        refine lv_iinc (v := nI (i1 + 1)) (lv' := [(3, .int (nI (i1 + 1))), (2, .int ((f_X1_litOnes_4_v2 lit i1) ||| 0)), (0, .ref aL), (1, .int lit)]) hx hb dX1_litOnes_30 hl (k := 3) rfl (nI_add i1 1) (by decide) rfl (fun ls hl => ?_)
        refine lv_goto (tgt := 4) hx hb dX1_litOnes_33 (by decide) ?_
        have e_v2 : (f_X1_litOnes_4_v2 lit (i1 + 1)) = ((f_X1_litOnes_4_v2 lit i1) ||| 0) := (by simp only [f_X1_litOnes_4_v2, if_pos c1])
        exact ih4 (i1 + 1) (by omega) ls (by rw [e_v2]; exact lv_sub hl [2, 3, 1, 0] rfl)
      · refine lv_iconst (v := 1) hx hb dX1_litOnes_21 (by decide) ?_
        refine lv_iload_n hx hb dX1_litOnes_22 rfl (lv_at hl 3 rfl) ?_
        refine lv_ishl hx hb dX1_litOnes_23 ?_
        refine lv_goto (tgt := 28) hx hb dX1_litOnes_24 (by decide) ?_
        refine lv_ior hx hb dX1_litOnes_28 ?_
        refine lv_istore_n (lv' := [(2, .int ((f_X1_litOnes_4_v2 lit i1) ||| (1 <<< (nI i1 &&& 31)))), (0, .ref aL), (1, .int lit), (3, .int (nI i1))]) hx hb dX1_litOnes_29 rfl hl (by decide) rfl (fun ls hl => ?_)
        refine lv_iinc (v := nI (i1 + 1)) (lv' := [(3, .int (nI (i1 + 1))), (2, .int ((f_X1_litOnes_4_v2 lit i1) ||| (1 <<< (nI i1 &&& 31)))), (0, .ref aL), (1, .int lit)]) hx hb dX1_litOnes_30 hl (k := 3) rfl (nI_add i1 1) (by decide) rfl (fun ls hl => ?_)
        refine lv_goto (tgt := 4) hx hb dX1_litOnes_33 (by decide) ?_
        have e_v2 : (f_X1_litOnes_4_v2 lit (i1 + 1)) = ((f_X1_litOnes_4_v2 lit i1) ||| (1 <<< (nI i1 &&& 31))) := (by simp only [f_X1_litOnes_4_v2, if_neg c1])
        exact ih4 (i1 + 1) (by omega) ls (by rw [e_v2]; exact lv_sub hl [2, 3, 1, 0] rfl)
  exact lp4 nl 0 (by omega) ls (lv_sub hl [2, 3, 1, 0] rfl)

def rm_X1_after : Room := { frames := 1, cells := 0, slots := 0, locals := 21 }
def f_X1_after_5_v3 (ho : Nat → Int32) (sn : Nat → Int32) (lit : Int32) (stirred : Int32) : Nat → Int32
  | 0 => 0
  | i1 + 1 => (if ((sn i1) &&& stirred) = 0 then ((f_X1_after_5_v3 ho sn lit stirred i1) ||| ((if 0 < ((f_X1_left (nI i1) lit) - 1) then ((f_X1_left (nI i1) lit) - 1) else 0) <<< ((4 * nI i1) &&& 31))) else ((f_X1_after_5_v3 ho sn lit stirred i1) ||| ((ho i1) <<< ((4 * nI i1) &&& 31))))
def f_X1_after (nl : Nat) (ho : Nat → Int32) (sn : Nat → Int32) (lit : Int32) (stirred : Int32) : Int32 := (f_X1_after_5_v3 ho sn lit stirred nl)
theorem hd_X1_after : yX1_after.cls = RX1 ∧ yX1_after.cls ≠ "java/lang/invoke/MethodHandle" ∧ yX1_after.cls ≠ "java/lang/invoke/VarHandle" ∧ (parseMethodDescriptor yX1_after.desc).map (fun d => d.parameters.length) = some 2 := by decide +kernel
set_option maxHeartbeats 4000000 in
set_option maxRecDepth 100000 in
theorem c_X1_after (l : Launch) (D : va_G) (cI : ClassId) (aL aLk aLh aLs : Nat) (nl : Nat) (ho : Nat → Int32) (sn : Nat → Int32) (lit : Int32) (stirred : Int32) (hn : nl ≤ 6) : MetR l yX1_after wsX1_after rm_X1_after D cI [.ref aL, .int lit, .int stirred] [(aL, .inr (1, [.ref aLk, .ref aLh, .ref aLs, .int (nI nl)])), (aLh, .inl (cI, 6, .inl ho)), (aLs, .inl (cI, 6, .inl sn))] (some (.int (f_X1_after nl ho sn lit stirred))) := by
  refine mR (cc := cX1_after) (maxL := 6) (ret := (some .int)) (by decide) rfl (Nat.le_of_ble_eq_true rfl) ?_
  intro p e s m args below meth c Q hx hb hr hml hown hts hlk hP hK hQ ls hl
  have hown : s.vm.findClass RX1 = some m.cls := hown
  have hl : lv_has ls 6 [(0, .ref aL), (1, .int lit), (2, .int stirred)] := hl
  have w1 := hts (.fieldLink RX1 33 "DarkOffice$Lamps" "size" "I") (List.mem_of_getElem? (i := 1) rfl)
  have uX1 : ∀ w ∈ wsX10, w ∈ wsX1_after := fun _ h => List.mem_cons_of_mem _ (List.mem_append_right _ h)
  have w2 := hts (.fieldLink RX1 18 "DarkOffice$Lamps" "sees" "[I") (List.mem_of_getElem? (i := 2) rfl)
  have w4 := hts (.methodLink RX1 57 Lib.Math.max.name) (List.mem_of_getElem? (i := 4) rfl)
  have w5 := hts (.static Lib.Math.max.name) (List.mem_of_getElem? (i := 5) rfl)
  have w6 := hts (.initialized "java/lang/Math") (List.mem_of_getElem? (i := 6) rfl)
  have w7 := hts (.code Lib.Math.max.name Lib.Math.max.code 2 (some .int)) (List.mem_of_getElem? (i := 7) rfl)
  have w3 := hts (.fieldLink RX1 15 "DarkOffice$Lamps" "holds" "[I") (List.mem_of_getElem? (i := 3) rfl)
  refine lv_iconst (v := 0) hx hb dX1_after_0 (by decide) ?_
  refine lv_istore_n (lv' := [(3, .int 0), (0, .ref aL), (1, .int lit), (2, .int stirred)]) hx hb dX1_after_1 rfl hl (by decide) rfl (fun ls hl => ?_)
  refine lv_iconst (v := 0) hx hb dX1_after_2 (by decide) ?_
  refine lv_istore (lv' := [(4, .int 0), (3, .int 0), (0, .ref aL), (1, .int lit), (2, .int stirred)]) hx hb dX1_after_3 hl (by decide) rfl (fun ls hl => ?_)
  have lp5 : ∀ (k5 i1 : Nat), i1 + k5 = nl → ∀ ls : Array Slot, lv_has ls 6 [(0, .ref aL), (1, .int lit), (2, .int stirred), (3, .int ((f_X1_after_5_v3 ho sn lit stirred i1))), (4, .int (nI i1))] → W p l e rm_X1_after s m args below meth c s.heap [] 0 0 Q (F0 m 5 ls []) := by
    intro k5
    induction k5 with
    | zero =>
      intro i1 hk5 ls hl
      have hN5 : nl = i1 := by omega
      subst hN5
      refine lv_iload hx hb dX1_after_5 (lv_at hl 4 rfl) ?_
      refine lv_aload_n hx hb dX1_after_7 rfl (lv_at hl 0 rfl) ?_
      refine va_get (D := D) (ci := 1) (v := .int (nI nl)) (C := RX1) (T := TX1) (N := 4) hx hb hts uX1 hown hK hP 0 rfl rfl 3 (by decide) w1 (fun _ h9 => h9) rfl dX1_after_8 ?_
      refine lv_icmp_ge (tgt := 66) hx hb dX1_after_11 (by decide) (fun _ => ?_) (fun c => absurd (nle_t (a := nl) (b := nl) rfl rfl (by omega) (by omega) (by omega)) c)
      refine lv_iload_n hx hb dX1_after_66 rfl (lv_at hl 3 rfl) ?_
      exact eRi hx hb hr hlk hQ dX1_after_67 (Eq.symm (by simp only [f_X1_after]))
    | succ k5 ih5 =>
      intro i1 hk5 ls hl
      refine lv_iload hx hb dX1_after_5 (lv_at hl 4 rfl) ?_
      refine lv_aload_n hx hb dX1_after_7 rfl (lv_at hl 0 rfl) ?_
      refine va_get (D := D) (ci := 1) (v := .int (nI nl)) (C := RX1) (T := TX1) (N := 4) hx hb hts uX1 hown hK hP 0 rfl rfl 3 (by decide) w1 (fun _ h9 => h9) rfl dX1_after_8 ?_
      refine lv_icmp_ge (tgt := 66) hx hb dX1_after_11 (by decide) (fun c => absurd c (nle_f (a := nl) (b := i1) rfl rfl (by omega) (by omega) (by omega))) (fun _ => ?_)
      refine lv_aload_n hx hb dX1_after_14 rfl (lv_at hl 0 rfl) ?_
      refine va_get (D := D) (ci := 1) (v := .ref aLs) (C := RX1) (T := TX1) (N := 4) hx hb hts uX1 hown hK hP 0 rfl rfl 2 (by decide) w2 (fun _ h9 => h9) rfl dX1_after_15 ?_
      refine lv_iload hx hb dX1_after_18 (lv_at hl 4 rfl) ?_
      refine xald hx hb hK hP 2 rfl i1 rfl (by omega) (by decide) dX1_after_20 ?_
      refine lv_iload_n hx hb dX1_after_21 rfl (lv_at hl 2 rfl) ?_
      refine lv_iand hx hb dX1_after_22 ?_
      refine lv_if_eq (tgt := 36) hx hb dX1_after_23 (by decide) (fun c1 => ?_) (fun c1 => ?_)
      · refine lv_iconst (v := 0) hx hb dX1_after_36 (by decide) ?_
        refine lv_iload_n hx hb dX1_after_37 rfl (lv_at hl 1 rfl) ?_
        refine lv_iload hx hb dX1_after_38 (lv_at hl 4 rfl) ?_
        refine rS ⟨hx, hb, hml, hown, hts⟩ (c_X1_left l D cI (nI i1) lit) (va_cwS 2 hts gX1_after_X1_left rfl rfl rfl hd_X1_left ⟨Nat.le_of_ble_eq_true rfl, Nat.le_of_ble_eq_true rfl⟩) hK (hP.sub [] rfl) rfl hl.1 (rest := [.int 0]) (st' := [.int (f_X1_left (nI i1) lit), .int 0]) rfl rfl (Nat.le_of_ble_eq_true rfl) dX1_after_40 ⟨Nat.zero_le _, Nat.zero_le _⟩ ?_
        refine lv_iconst (v := 1) hx hb dX1_after_43 (by decide) ?_
        refine lv_isub hx hb dX1_after_44 ?_
        refine va_mmax hx hb (hml.trans hl.1.symm) hown w4 w5 w6 w7 (Nat.le_of_ble_eq_true rfl) (Nat.le_of_ble_eq_true rfl) (Nat.zero_le _) (Nat.zero_le _) dX1_after_45 ?_
        refine lv_istore (lv' := [(5, .int (if 0 < ((f_X1_left (nI i1) lit) - 1) then ((f_X1_left (nI i1) lit) - 1) else 0)), (0, .ref aL), (1, .int lit), (2, .int stirred), (3, .int ((f_X1_after_5_v3 ho sn lit stirred i1))), (4, .int (nI i1))]) hx hb dX1_after_48 hl (by decide) rfl (fun ls hl => ?_)
        refine lv_iload_n hx hb dX1_after_50 rfl (lv_at hl 4 rfl) ?_
        refine lv_iload hx hb dX1_after_51 (lv_at hl 0 rfl) ?_
        refine lv_iconst (v := 4) hx hb dX1_after_53 (by decide) ?_
        refine lv_iload hx hb dX1_after_54 (lv_at hl 5 rfl) ?_
        refine lv_imul hx hb dX1_after_56 ?_
        refine lv_ishl hx hb dX1_after_57 ?_
        refine lv_ior hx hb dX1_after_58 ?_
        refine lv_istore_n (lv' := [(3, .int ((f_X1_after_5_v3 ho sn lit stirred i1) ||| ((if 0 < ((f_X1_left (nI i1) lit) - 1) then ((f_X1_left (nI i1) lit) - 1) else 0) <<< ((4 * nI i1) &&& 31)))), (5, .int (if 0 < ((f_X1_left (nI i1) lit) - 1) then ((f_X1_left (nI i1) lit) - 1) else 0)), (0, .ref aL), (1, .int lit), (2, .int stirred), (4, .int (nI i1))]) hx hb dX1_after_59 rfl hl (by decide) rfl (fun ls hl => ?_)
        refine lv_iinc (v := nI (i1 + 1)) (lv' := [(4, .int (nI (i1 + 1))), (3, .int ((f_X1_after_5_v3 ho sn lit stirred i1) ||| ((if 0 < ((f_X1_left (nI i1) lit) - 1) then ((f_X1_left (nI i1) lit) - 1) else 0) <<< ((4 * nI i1) &&& 31)))), (5, .int (if 0 < ((f_X1_left (nI i1) lit) - 1) then ((f_X1_left (nI i1) lit) - 1) else 0)), (0, .ref aL), (1, .int lit), (2, .int stirred)]) hx hb dX1_after_60 hl (k := 5) rfl (nI_add i1 1) (by decide) rfl (fun ls hl => ?_)
        refine lv_goto (tgt := 5) hx hb dX1_after_63 (by decide) ?_
        have e_v3 : (f_X1_after_5_v3 ho sn lit stirred (i1 + 1)) = ((f_X1_after_5_v3 ho sn lit stirred i1) ||| ((if 0 < ((f_X1_left (nI i1) lit) - 1) then ((f_X1_left (nI i1) lit) - 1) else 0) <<< ((4 * nI i1) &&& 31))) := (by simp only [f_X1_after_5_v3, if_pos c1])
        exact ih5 (i1 + 1) (by omega) ls (by rw [e_v3]; exact lv_sub hl [3, 4, 5, 1, 0] rfl)
      · refine lv_aload_n hx hb dX1_after_26 rfl (lv_at hl 0 rfl) ?_
        refine va_get (D := D) (ci := 1) (v := .ref aLh) (C := RX1) (T := TX1) (N := 4) hx hb hts uX1 hown hK hP 0 rfl rfl 1 (by decide) w3 (fun _ h9 => h9) rfl dX1_after_27 ?_
        refine lv_iload hx hb dX1_after_30 (lv_at hl 4 rfl) ?_
        refine xald hx hb hK hP 1 rfl i1 rfl (by omega) (by decide) dX1_after_32 ?_
        refine lv_goto (tgt := 48) hx hb dX1_after_33 (by decide) ?_
        refine lv_istore (lv' := [(5, .int (ho i1)), (0, .ref aL), (1, .int lit), (2, .int stirred), (3, .int ((f_X1_after_5_v3 ho sn lit stirred i1))), (4, .int (nI i1))]) hx hb dX1_after_48 hl (by decide) rfl (fun ls hl => ?_)
        refine lv_iload_n hx hb dX1_after_50 rfl (lv_at hl 4 rfl) ?_
        refine lv_iload hx hb dX1_after_51 (lv_at hl 0 rfl) ?_
        refine lv_iconst (v := 4) hx hb dX1_after_53 (by decide) ?_
        refine lv_iload hx hb dX1_after_54 (lv_at hl 5 rfl) ?_
        refine lv_imul hx hb dX1_after_56 ?_
        refine lv_ishl hx hb dX1_after_57 ?_
        refine lv_ior hx hb dX1_after_58 ?_
        refine lv_istore_n (lv' := [(3, .int ((f_X1_after_5_v3 ho sn lit stirred i1) ||| ((ho i1) <<< ((4 * nI i1) &&& 31)))), (5, .int (ho i1)), (0, .ref aL), (1, .int lit), (2, .int stirred), (4, .int (nI i1))]) hx hb dX1_after_59 rfl hl (by decide) rfl (fun ls hl => ?_)
        refine lv_iinc (v := nI (i1 + 1)) (lv' := [(4, .int (nI (i1 + 1))), (3, .int ((f_X1_after_5_v3 ho sn lit stirred i1) ||| ((ho i1) <<< ((4 * nI i1) &&& 31)))), (5, .int (ho i1)), (0, .ref aL), (1, .int lit), (2, .int stirred)]) hx hb dX1_after_60 hl (k := 5) rfl (nI_add i1 1) (by decide) rfl (fun ls hl => ?_)
        refine lv_goto (tgt := 5) hx hb dX1_after_63 (by decide) ?_
        have e_v3 : (f_X1_after_5_v3 ho sn lit stirred (i1 + 1)) = ((f_X1_after_5_v3 ho sn lit stirred i1) ||| ((ho i1) <<< ((4 * nI i1) &&& 31))) := (by simp only [f_X1_after_5_v3, if_neg c1])
        exact ih5 (i1 + 1) (by omega) ls (by rw [e_v3]; exact lv_sub hl [3, 4, 5, 1, 0] rfl)
  exact lp5 nl 0 (by omega) ls (lv_sub hl [2, 3, 4, 1, 0] rfl)

def rm_X1_seenBy : Room := { frames := 0, cells := 0, slots := 0, locals := 0 }
def f_X1_seenBy (kind : Int32) (own : Int32) : Int32 := (if kind = 1 then (((own >>> (1 &&& 31)) ||| own) ||| (own <<< (1 &&& 31))) else (if kind = 2 then (own ||| (own <<< (1 &&& 31))) else (if kind = 3 then own else (if kind = 4 then (-1) else own))))
theorem hd_X1_seenBy : yX1_seenBy.cls ≠ "java/lang/invoke/MethodHandle" ∧ yX1_seenBy.cls ≠ "java/lang/invoke/VarHandle" ∧ (parseMethodDescriptor yX1_seenBy.desc).map (fun d => d.parameters.length) = some 2 := by decide +kernel
set_option maxHeartbeats 4000000 in
set_option maxRecDepth 100000 in
theorem c_X1_seenBy (l : Launch) (D : va_G) (cI : ClassId) (kind : Int32) (own : Int32) : MetR l yX1_seenBy wsX1_seenBy rm_X1_seenBy D cI [.int kind, .int own] [] (some (.int (f_X1_seenBy kind own))) := by
  refine mR (cc := cX1_seenBy) (maxL := 2) (ret := (some .int)) (by decide) rfl (Nat.le_of_ble_eq_true rfl) ?_
  intro p e s m args below meth c Q hx hb hr hml hown hts hlk hP hK hQ ls hl
  have hown : s.vm.findClass RX1 = some m.cls := hown
  have hl : lv_has ls 2 [(0, .int kind), (1, .int own)] := hl
  refine lv_iload_n hx hb dX1_seenBy_0 rfl (lv_at hl 0 rfl) ?_
  by_cases c1 : kind = 1
  · refine lv_tableIn (off := 31) (tgt := 32) hx hb dX1_seenBy_1 (by rw [c1]; decide) (by rw [c1]; decide) (by rw [c1]; rfl) (by decide) ?_
    refine lv_iload_n hx hb dX1_seenBy_32 rfl (lv_at hl 1 rfl) ?_
    refine lv_iconst (v := 1) hx hb dX1_seenBy_33 (by decide) ?_
    refine lv_ishr hx hb dX1_seenBy_34 ?_
    refine lv_iload_n hx hb dX1_seenBy_35 rfl (lv_at hl 1 rfl) ?_
    refine lv_ior hx hb dX1_seenBy_36 ?_
    refine lv_iload_n hx hb dX1_seenBy_37 rfl (lv_at hl 1 rfl) ?_
    refine lv_iconst (v := 1) hx hb dX1_seenBy_38 (by decide) ?_
    refine lv_ishl hx hb dX1_seenBy_39 ?_
    refine lv_ior hx hb dX1_seenBy_40 ?_
    exact eRi hx hb hr hlk hQ dX1_seenBy_41 (Eq.symm (by simp only [f_X1_seenBy, if_pos c1]))
  · by_cases c2 : kind = 2
    · refine lv_tableIn (off := 41) (tgt := 42) hx hb dX1_seenBy_1 (by rw [c2]; decide) (by rw [c2]; decide) (by rw [c2]; rfl) (by decide) ?_
      refine lv_iload_n hx hb dX1_seenBy_42 rfl (lv_at hl 1 rfl) ?_
      refine lv_iload_n hx hb dX1_seenBy_43 rfl (lv_at hl 1 rfl) ?_
      refine lv_iconst (v := 1) hx hb dX1_seenBy_44 (by decide) ?_
      refine lv_ishl hx hb dX1_seenBy_45 ?_
      refine lv_ior hx hb dX1_seenBy_46 ?_
      exact eRi hx hb hr hlk hQ dX1_seenBy_47 (Eq.symm (by simp only [f_X1_seenBy, if_neg c1, if_pos c2]))
    · by_cases c3 : kind = 3
      · refine lv_tableIn (off := 49) (tgt := 50) hx hb dX1_seenBy_1 (by rw [c3]; decide) (by rw [c3]; decide) (by rw [c3]; rfl) (by decide) ?_
        refine lv_iload_n hx hb dX1_seenBy_50 rfl (lv_at hl 1 rfl) ?_
        exact eRi hx hb hr hlk hQ dX1_seenBy_51 (Eq.symm (by simp only [f_X1_seenBy, if_neg c1, if_neg c2, if_pos c3]))
      · by_cases c4 : kind = 4
        · refine lv_tableIn (off := 47) (tgt := 48) hx hb dX1_seenBy_1 (by rw [c4]; decide) (by rw [c4]; decide) (by rw [c4]; rfl) (by decide) ?_
          refine lv_iconst (v := (-1)) hx hb dX1_seenBy_48 (by decide) ?_
          exact eRi hx hb hr hlk hQ dX1_seenBy_49 (Eq.symm (by simp only [f_X1_seenBy, if_neg c1, if_neg c2, if_neg c3, if_pos c4]))
        · have z1_0 := lv_neT (a := 1) c1 (by decide)
          have z1_1 := lv_neT (a := 2) c2 (by decide)
          have z1_2 := lv_neT (a := 3) c3 (by decide)
          have z1_3 := lv_neT (a := 4) c4 (by decide)
          refine lv_tableOut (tgt := 50) hx hb dX1_seenBy_1 (by omega) (by decide) ?_
          refine lv_iload_n hx hb dX1_seenBy_50 rfl (lv_at hl 1 rfl) ?_
          exact eRi hx hb hr hlk hQ dX1_seenBy_51 (Eq.symm (by simp only [f_X1_seenBy, if_neg c1, if_neg c2, if_neg c3, if_neg c4]))

def rm_X1_isOf : Room := { frames := 0, cells := 0, slots := 0, locals := 0 }
def f_X1_isOf (kd : Nat → Int32) (kind : Int32) (lamp : Int32) : Int32 := (if kind = 0 then 1 else (if kind = (kd lamp.toNatClampNeg) then 1 else (if kind = 1 then (if (kd lamp.toNatClampNeg) = 4 then 1 else 0) else 0)))
theorem hd_X1_isOf : yX1_isOf.cls = RX1 ∧ yX1_isOf.cls ≠ "java/lang/invoke/MethodHandle" ∧ yX1_isOf.cls ≠ "java/lang/invoke/VarHandle" ∧ (parseMethodDescriptor yX1_isOf.desc).map (fun d => d.parameters.length) = some 2 := by decide +kernel
set_option maxHeartbeats 4000000 in
set_option maxRecDepth 100000 in
theorem c_X1_isOf (l : Launch) (D : va_G) (cI : ClassId) (aL aLk aLh aLs : Nat) (nl : Nat) (kd : Nat → Int32) (kind : Int32) (lamp : Int32) (hv_lamp : vp_in lamp 6) : MetR l yX1_isOf wsX1_isOf rm_X1_isOf D cI [.ref aL, .int lamp, .int kind] [(aL, .inr (1, [.ref aLk, .ref aLh, .ref aLs, .int (nI nl)])), (aLk, .inl (cI, 6, .inl kd))] (some (.int (f_X1_isOf kd kind lamp))) := by
  refine mR (cc := cX1_isOf) (maxL := 3) (ret := (some .boolean)) (by decide) rfl (Nat.le_of_ble_eq_true rfl) ?_
  intro p e s m args below meth c Q hx hb hr hml hown hts hlk hP hK hQ ls hl
  have hown : s.vm.findClass RX1 = some m.cls := hown
  have hl : lv_has ls 3 [(0, .ref aL), (1, .int lamp), (2, .int kind)] := hl
  have w1 := hts (.fieldLink RX1 9 "DarkOffice$Lamps" "kinds" "[I") (List.mem_of_getElem? (i := 1) rfl)
  have uX1 : ∀ w ∈ wsX10, w ∈ wsX1_isOf := fun _ h => List.mem_cons_of_mem _ (List.mem_append_right _ h)
  refine lv_iload_n hx hb dX1_isOf_0 rfl (lv_at hl 2 rfl) ?_
  refine lv_if_eq (tgt := 29) hx hb dX1_isOf_1 (by decide) (fun c1 => ?_) (fun c1 => ?_)
  · refine lv_iconst (v := 1) hx hb dX1_isOf_29 (by decide) ?_
    refine lv_goto (tgt := 34) hx hb dX1_isOf_30 (by decide) ?_
    exact eRz hx hb hr hlk hQ dX1_isOf_34 rfl (Eq.symm (by simp only [f_X1_isOf, if_pos c1]))
  · refine lv_iload_n hx hb dX1_isOf_4 rfl (lv_at hl 2 rfl) ?_
    refine lv_aload_n hx hb dX1_isOf_5 rfl (lv_at hl 0 rfl) ?_
    refine va_get (D := D) (ci := 1) (v := .ref aLk) (C := RX1) (T := TX1) (N := 4) hx hb hts uX1 hown hK hP 0 rfl rfl 0 (by decide) w1 (fun _ h9 => h9) rfl dX1_isOf_6 ?_
    refine lv_iload_n hx hb dX1_isOf_9 rfl (lv_at hl 1 rfl) ?_
    refine va_iald hx hb hK hP 1 0 rfl rfl hv_lamp dX1_isOf_10 ?_
    refine lv_icmp_eq (tgt := 29) hx hb dX1_isOf_11 (by decide) (fun c2 => ?_) (fun c2 => ?_)
    · refine lv_iconst (v := 1) hx hb dX1_isOf_29 (by decide) ?_
      refine lv_goto (tgt := 34) hx hb dX1_isOf_30 (by decide) ?_
      exact eRz hx hb hr hlk hQ dX1_isOf_34 rfl (Eq.symm (by simp only [f_X1_isOf, if_neg c1, if_pos c2]))
    · refine lv_iload_n hx hb dX1_isOf_14 rfl (lv_at hl 2 rfl) ?_
      refine lv_iconst (v := 1) hx hb dX1_isOf_15 (by decide) ?_
      refine lv_icmp_ne (tgt := 33) hx hb dX1_isOf_16 (by decide) (fun c3 => ?_) (fun c3 => ?_)
      · refine lv_iconst (v := 0) hx hb dX1_isOf_33 (by decide) ?_
        exact eRz hx hb hr hlk hQ dX1_isOf_34 rfl (Eq.symm (by simp only [f_X1_isOf, if_neg c1, if_neg c2, if_neg c3]))
      · refine lv_aload_n hx hb dX1_isOf_19 rfl (lv_at hl 0 rfl) ?_
        refine va_get (D := D) (ci := 1) (v := .ref aLk) (C := RX1) (T := TX1) (N := 4) hx hb hts uX1 hown hK hP 0 rfl rfl 0 (by decide) w1 (fun _ h9 => h9) rfl dX1_isOf_20 ?_
        refine lv_iload_n hx hb dX1_isOf_23 rfl (lv_at hl 1 rfl) ?_
        refine va_iald hx hb hK hP 1 0 rfl rfl hv_lamp dX1_isOf_24 ?_
        refine lv_iconst (v := 4) hx hb dX1_isOf_25 (by decide) ?_
        refine lv_icmp_ne (tgt := 33) hx hb dX1_isOf_26 (by decide) (fun c4 => ?_) (fun c4 => ?_)
        · refine lv_iconst (v := 0) hx hb dX1_isOf_33 (by decide) ?_
          exact eRz hx hb hr hlk hQ dX1_isOf_34 rfl (Eq.symm (by simp only [f_X1_isOf, if_neg c1, if_neg c2, if_pos c3, if_neg c4]))
        · refine lv_iconst (v := 1) hx hb dX1_isOf_29 (by decide) ?_
          refine lv_goto (tgt := 34) hx hb dX1_isOf_30 (by decide) ?_
          exact eRz hx hb hr hlk hQ dX1_isOf_34 rfl (Eq.symm (by simp only [f_X1_isOf, if_neg c1, if_neg c2, if_pos c3, if_pos c4]))

def rm_X1_allOnes : Room := { frames := 0, cells := 0, slots := 0, locals := 0 }
def f_X1_allOnes (nl : Nat) : Int32 := ((1 <<< (nI nl &&& 31)) - 1)
theorem hd_X1_allOnes : yX1_allOnes.cls = RX1 ∧ yX1_allOnes.cls ≠ "java/lang/invoke/MethodHandle" ∧ yX1_allOnes.cls ≠ "java/lang/invoke/VarHandle" ∧ (parseMethodDescriptor yX1_allOnes.desc).map (fun d => d.parameters.length) = some 0 := by decide +kernel
set_option maxHeartbeats 4000000 in
set_option maxRecDepth 100000 in
theorem c_X1_allOnes (l : Launch) (D : va_G) (cI : ClassId) (aL aLk aLh aLs : Nat) (nl : Nat) : MetR l yX1_allOnes wsX1_allOnes rm_X1_allOnes D cI [.ref aL] [(aL, .inr (1, [.ref aLk, .ref aLh, .ref aLs, .int (nI nl)]))] (some (.int (f_X1_allOnes nl))) := by
  refine mR (cc := cX1_allOnes) (maxL := 1) (ret := (some .int)) (by decide) rfl (Nat.le_of_ble_eq_true rfl) ?_
  intro p e s m args below meth c Q hx hb hr hml hown hts hlk hP hK hQ ls hl
  have hown : s.vm.findClass RX1 = some m.cls := hown
  have hl : lv_has ls 1 [(0, .ref aL)] := hl
  have w1 := hts (.fieldLink RX1 33 "DarkOffice$Lamps" "size" "I") (List.mem_of_getElem? (i := 1) rfl)
  have uX1 : ∀ w ∈ wsX10, w ∈ wsX1_allOnes := fun _ h => List.mem_cons_of_mem _ (List.mem_append_right _ h)
  refine lv_iconst (v := 1) hx hb dX1_allOnes_0 (by decide) ?_
  refine lv_aload_n hx hb dX1_allOnes_1 rfl (lv_at hl 0 rfl) ?_
  refine va_get (D := D) (ci := 1) (v := .int (nI nl)) (C := RX1) (T := TX1) (N := 4) hx hb hts uX1 hown hK hP 0 rfl rfl 3 (by decide) w1 (fun _ h9 => h9) rfl dX1_allOnes_2 ?_
  refine lv_ishl hx hb dX1_allOnes_5 ?_
  refine lv_iconst (v := 1) hx hb dX1_allOnes_6 (by decide) ?_
  refine lv_isub hx hb dX1_allOnes_7 ?_
  exact eRi hx hb hr hlk hQ dX1_allOnes_8 (Eq.symm (by simp only [f_X1_allOnes]))

def rm_X1_seeing : Room := { frames := 0, cells := 0, slots := 0, locals := 0 }
def f_X1_seeing_4_v2 (sn : Nat → Int32) (sect : Int32) : Nat → Int32
  | 0 => 0
  | i1 + 1 => ((f_X1_seeing_4_v2 sn sect i1) + (((sn i1) >>> (sect &&& 31)) &&& 1))
def f_X1_seeing (nl : Nat) (sn : Nat → Int32) (sect : Int32) : Int32 := (f_X1_seeing_4_v2 sn sect nl)
theorem hd_X1_seeing : yX1_seeing.cls = RX1 ∧ yX1_seeing.cls ≠ "java/lang/invoke/MethodHandle" ∧ yX1_seeing.cls ≠ "java/lang/invoke/VarHandle" ∧ (parseMethodDescriptor yX1_seeing.desc).map (fun d => d.parameters.length) = some 1 := by decide +kernel
set_option maxHeartbeats 4000000 in
set_option maxRecDepth 100000 in
theorem c_X1_seeing (l : Launch) (D : va_G) (cI : ClassId) (aL aLk aLh aLs : Nat) (nl : Nat) (sn : Nat → Int32) (sect : Int32) (hn : nl ≤ 6) : MetR l yX1_seeing wsX1_seeing rm_X1_seeing D cI [.ref aL, .int sect] [(aL, .inr (1, [.ref aLk, .ref aLh, .ref aLs, .int (nI nl)])), (aLs, .inl (cI, 6, .inl sn))] (some (.int (f_X1_seeing nl sn sect))) := by
  refine mR (cc := cX1_seeing) (maxL := 4) (ret := (some .int)) (by decide) rfl (Nat.le_of_ble_eq_true rfl) ?_
  intro p e s m args below meth c Q hx hb hr hml hown hts hlk hP hK hQ ls hl
  have hown : s.vm.findClass RX1 = some m.cls := hown
  have hl : lv_has ls 4 [(0, .ref aL), (1, .int sect)] := hl
  have w1 := hts (.fieldLink RX1 33 "DarkOffice$Lamps" "size" "I") (List.mem_of_getElem? (i := 1) rfl)
  have uX1 : ∀ w ∈ wsX10, w ∈ wsX1_seeing := fun _ h => List.mem_cons_of_mem _ (List.mem_append_right _ h)
  have w2 := hts (.fieldLink RX1 18 "DarkOffice$Lamps" "sees" "[I") (List.mem_of_getElem? (i := 2) rfl)
  refine lv_iconst (v := 0) hx hb dX1_seeing_0 (by decide) ?_
  refine lv_istore_n (lv' := [(2, .int 0), (0, .ref aL), (1, .int sect)]) hx hb dX1_seeing_1 rfl hl (by decide) rfl (fun ls hl => ?_)
  refine lv_iconst (v := 0) hx hb dX1_seeing_2 (by decide) ?_
  refine lv_istore_n (lv' := [(3, .int 0), (2, .int 0), (0, .ref aL), (1, .int sect)]) hx hb dX1_seeing_3 rfl hl (by decide) rfl (fun ls hl => ?_)
  have lp4 : ∀ (k4 i1 : Nat), i1 + k4 = nl → ∀ ls : Array Slot, lv_has ls 4 [(0, .ref aL), (1, .int sect), (2, .int ((f_X1_seeing_4_v2 sn sect i1))), (3, .int (nI i1))] → W p l e rm_X1_seeing s m args below meth c s.heap [] 0 0 Q (F0 m 4 ls []) := by
    intro k4
    induction k4 with
    | zero =>
      intro i1 hk4 ls hl
      have hN4 : nl = i1 := by omega
      subst hN4
      refine lv_iload_n hx hb dX1_seeing_4 rfl (lv_at hl 3 rfl) ?_
      refine lv_aload_n hx hb dX1_seeing_5 rfl (lv_at hl 0 rfl) ?_
      refine va_get (D := D) (ci := 1) (v := .int (nI nl)) (C := RX1) (T := TX1) (N := 4) hx hb hts uX1 hown hK hP 0 rfl rfl 3 (by decide) w1 (fun _ h9 => h9) rfl dX1_seeing_6 ?_
      refine lv_icmp_ge (tgt := 31) hx hb dX1_seeing_9 (by decide) (fun _ => ?_) (fun c => absurd (nle_t (a := nl) (b := nl) rfl rfl (by omega) (by omega) (by omega)) c)
      refine lv_iload_n hx hb dX1_seeing_31 rfl (lv_at hl 2 rfl) ?_
      exact eRi hx hb hr hlk hQ dX1_seeing_32 (Eq.symm (by simp only [f_X1_seeing]))
    | succ k4 ih4 =>
      intro i1 hk4 ls hl
      refine lv_iload_n hx hb dX1_seeing_4 rfl (lv_at hl 3 rfl) ?_
      refine lv_aload_n hx hb dX1_seeing_5 rfl (lv_at hl 0 rfl) ?_
      refine va_get (D := D) (ci := 1) (v := .int (nI nl)) (C := RX1) (T := TX1) (N := 4) hx hb hts uX1 hown hK hP 0 rfl rfl 3 (by decide) w1 (fun _ h9 => h9) rfl dX1_seeing_6 ?_
      refine lv_icmp_ge (tgt := 31) hx hb dX1_seeing_9 (by decide) (fun c => absurd c (nle_f (a := nl) (b := i1) rfl rfl (by omega) (by omega) (by omega))) (fun _ => ?_)
      refine lv_iload_n hx hb dX1_seeing_12 rfl (lv_at hl 2 rfl) ?_
      refine lv_aload_n hx hb dX1_seeing_13 rfl (lv_at hl 0 rfl) ?_
      refine va_get (D := D) (ci := 1) (v := .ref aLs) (C := RX1) (T := TX1) (N := 4) hx hb hts uX1 hown hK hP 0 rfl rfl 2 (by decide) w2 (fun _ h9 => h9) rfl dX1_seeing_14 ?_
      refine lv_iload_n hx hb dX1_seeing_17 rfl (lv_at hl 3 rfl) ?_
      refine xald hx hb hK hP 1 rfl i1 rfl (by omega) (by decide) dX1_seeing_18 ?_
      refine lv_iload_n hx hb dX1_seeing_19 rfl (lv_at hl 1 rfl) ?_
      refine lv_ishr hx hb dX1_seeing_20 ?_
      refine lv_iconst (v := 1) hx hb dX1_seeing_21 (by decide) ?_
      refine lv_iand hx hb dX1_seeing_22 ?_
      refine lv_iadd hx hb dX1_seeing_23 ?_
      refine lv_istore_n (lv' := [(2, .int ((f_X1_seeing_4_v2 sn sect i1) + (((sn i1) >>> (sect &&& 31)) &&& 1))), (0, .ref aL), (1, .int sect), (3, .int (nI i1))]) hx hb dX1_seeing_24 rfl hl (by decide) rfl (fun ls hl => ?_)
      refine lv_iinc (v := nI (i1 + 1)) (lv' := [(3, .int (nI (i1 + 1))), (2, .int ((f_X1_seeing_4_v2 sn sect i1) + (((sn i1) >>> (sect &&& 31)) &&& 1))), (0, .ref aL), (1, .int sect)]) hx hb dX1_seeing_25 hl (k := 3) rfl (nI_add i1 1) (by decide) rfl (fun ls hl => ?_)
      refine lv_goto (tgt := 4) hx hb dX1_seeing_28 (by decide) ?_
      have e_v2 : (f_X1_seeing_4_v2 sn sect (i1 + 1)) = ((f_X1_seeing_4_v2 sn sect i1) + (((sn i1) >>> (sect &&& 31)) &&& 1)) := (by simp only [f_X1_seeing_4_v2])
      exact ih4 (i1 + 1) (by omega) ls (by rw [e_v2]; exact lv_sub hl [2, 3, 1, 0] rfl)
  exact lp4 nl 0 (by omega) ls (lv_sub hl [2, 3, 1, 0] rfl)

def rm_X1_mostSeen : Room := { frames := 1, cells := 0, slots := 0, locals := 23 }
def f_X1_mostSeen_4_v1 (nl : Nat) (sn : Nat → Int32) : Nat → Int32
  | 0 => 0
  | i1 + 1 => (if (f_X1_seeing nl sn (nI (i1 + 1))) ≤ (f_X1_seeing nl sn ((f_X1_mostSeen_4_v1 nl sn i1))) then (f_X1_mostSeen_4_v1 nl sn i1) else nI (i1 + 1))
def f_X1_mostSeen (nl : Nat) (sn : Nat → Int32) : Int32 := (f_X1_mostSeen_4_v1 nl sn (nl - 1))
theorem hd_X1_mostSeen : yX1_mostSeen.cls = RX1 ∧ yX1_mostSeen.cls ≠ "java/lang/invoke/MethodHandle" ∧ yX1_mostSeen.cls ≠ "java/lang/invoke/VarHandle" ∧ (parseMethodDescriptor yX1_mostSeen.desc).map (fun d => d.parameters.length) = some 0 := by decide +kernel
set_option maxHeartbeats 4000000 in
set_option maxRecDepth 100000 in
theorem c_X1_mostSeen (l : Launch) (D : va_G) (cI : ClassId) (aL aLk aLh aLs : Nat) (nl : Nat) (sn : Nat → Int32) (hn : nl ≤ 6) : MetR l yX1_mostSeen wsX1_mostSeen rm_X1_mostSeen D cI [.ref aL] [(aL, .inr (1, [.ref aLk, .ref aLh, .ref aLs, .int (nI nl)])), (aLs, .inl (cI, 6, .inl sn))] (some (.int (f_X1_mostSeen nl sn))) := by
  refine mR (cc := cX1_mostSeen) (maxL := 3) (ret := (some .int)) (by decide) rfl (Nat.le_of_ble_eq_true rfl) ?_
  intro p e s m args below meth c Q hx hb hr hml hown hts hlk hP hK hQ ls hl
  have hown : s.vm.findClass RX1 = some m.cls := hown
  have hl : lv_has ls 3 [(0, .ref aL)] := hl
  have w1 := hts (.fieldLink RX1 33 "DarkOffice$Lamps" "size" "I") (List.mem_of_getElem? (i := 1) rfl)
  have uX1 : ∀ w ∈ wsX10, w ∈ wsX1_mostSeen := fun _ h => List.mem_cons_of_mem _ (List.mem_append_right _ h)
  refine lv_iconst (v := 0) hx hb dX1_mostSeen_0 (by decide) ?_
  refine lv_istore_n (lv' := [(1, .int 0), (0, .ref aL)]) hx hb dX1_mostSeen_1 rfl hl (by decide) rfl (fun ls hl => ?_)
  refine lv_iconst (v := 1) hx hb dX1_mostSeen_2 (by decide) ?_
  refine lv_istore_n (lv' := [(2, .int 1), (1, .int 0), (0, .ref aL)]) hx hb dX1_mostSeen_3 rfl hl (by decide) rfl (fun ls hl => ?_)
  have lp4 : ∀ (k4 i1 : Nat), i1 + k4 = nl - 1 → ∀ ls : Array Slot, lv_has ls 3 [(0, .ref aL), (1, .int ((f_X1_mostSeen_4_v1 nl sn i1))), (2, .int (nI (i1 + 1)))] → W p l e rm_X1_mostSeen s m args below meth c s.heap [] 0 0 Q (F0 m 4 ls []) := by
    intro k4
    induction k4 with
    | zero =>
      intro i1 hk4 ls hl
      have hN4 : nl - 1 = i1 := by omega
      subst hN4
      refine lv_iload_n hx hb dX1_mostSeen_4 rfl (lv_at hl 2 rfl) ?_
      refine lv_aload_n hx hb dX1_mostSeen_5 rfl (lv_at hl 0 rfl) ?_
      refine va_get (D := D) (ci := 1) (v := .int (nI nl)) (C := RX1) (T := TX1) (N := 4) hx hb hts uX1 hown hK hP 0 rfl rfl 3 (by decide) w1 (fun _ h9 => h9) rfl dX1_mostSeen_6 ?_
      refine lv_icmp_ge (tgt := 33) hx hb dX1_mostSeen_9 (by decide) (fun _ => ?_) (fun c => absurd (nle_t (a := nl) (b := (nl - 1) + 1) rfl rfl (by omega) (by omega) (by omega)) c)
      refine lv_iload_n hx hb dX1_mostSeen_33 rfl (lv_at hl 1 rfl) ?_
      exact eRi hx hb hr hlk hQ dX1_mostSeen_34 (Eq.symm (by simp only [f_X1_mostSeen]))
    | succ k4 ih4 =>
      intro i1 hk4 ls hl
      refine lv_iload_n hx hb dX1_mostSeen_4 rfl (lv_at hl 2 rfl) ?_
      refine lv_aload_n hx hb dX1_mostSeen_5 rfl (lv_at hl 0 rfl) ?_
      refine va_get (D := D) (ci := 1) (v := .int (nI nl)) (C := RX1) (T := TX1) (N := 4) hx hb hts uX1 hown hK hP 0 rfl rfl 3 (by decide) w1 (fun _ h9 => h9) rfl dX1_mostSeen_6 ?_
      refine lv_icmp_ge (tgt := 33) hx hb dX1_mostSeen_9 (by decide) (fun c => absurd c (nle_f (a := nl) (b := i1 + 1) rfl rfl (by omega) (by omega) (by omega))) (fun _ => ?_)
      refine lv_aload_n hx hb dX1_mostSeen_12 rfl (lv_at hl 0 rfl) ?_
      refine lv_iload_n hx hb dX1_mostSeen_13 rfl (lv_at hl 2 rfl) ?_
      refine rV ⟨hx, hb, hml, hown, hts⟩ (c_X1_seeing l D cI aL aLk aLh aLs nl sn (nI (i1 + 1)) hn) (cwV 1 hts gX1_mostSeen_X1_seeing rfl rfl rfl hd_X1_seeing ⟨Nat.le_of_ble_eq_true rfl, Nat.le_of_ble_eq_true rfl⟩) hK (hP.sub [0, 1] rfl) 0 rfl rfl rfl rfl hl.1 (rest := []) (st' := [.int (f_X1_seeing nl sn (nI (i1 + 1)))]) rfl rfl (Nat.le_of_ble_eq_true rfl) dX1_mostSeen_14 ⟨Nat.zero_le _, Nat.zero_le _⟩ ?_
      refine lv_aload_n hx hb dX1_mostSeen_17 rfl (lv_at hl 0 rfl) ?_
      refine lv_iload_n hx hb dX1_mostSeen_18 rfl (lv_at hl 1 rfl) ?_
      refine rV ⟨hx, hb, hml, hown, hts⟩ (c_X1_seeing l D cI aL aLk aLh aLs nl sn ((f_X1_mostSeen_4_v1 nl sn i1)) hn) (cwV 1 hts gX1_mostSeen_X1_seeing rfl rfl rfl hd_X1_seeing ⟨Nat.le_of_ble_eq_true rfl, Nat.le_of_ble_eq_true rfl⟩) hK (hP.sub [0, 1] rfl) 0 rfl rfl rfl rfl hl.1 (rest := [.int (f_X1_seeing nl sn (nI (i1 + 1)))]) (st' := [.int (f_X1_seeing nl sn ((f_X1_mostSeen_4_v1 nl sn i1))), .int (f_X1_seeing nl sn (nI (i1 + 1)))]) rfl rfl (Nat.le_of_ble_eq_true rfl) dX1_mostSeen_19 ⟨Nat.zero_le _, Nat.zero_le _⟩ ?_
      refine lv_icmp_le (tgt := 27) hx hb dX1_mostSeen_22 (by decide) (fun c1 => ?_) (fun c1 => ?_)
      · refine lv_iinc (v := nI ((i1 + 1) + 1)) (lv' := [(2, .int (nI ((i1 + 1) + 1))), (0, .ref aL), (1, .int ((f_X1_mostSeen_4_v1 nl sn i1)))]) hx hb dX1_mostSeen_27 hl (k := 2) rfl (nI_add (i1 + 1) 1) (by decide) rfl (fun ls hl => ?_)
        refine lv_goto (tgt := 4) hx hb dX1_mostSeen_30 (by decide) ?_
        have e_v1 : (f_X1_mostSeen_4_v1 nl sn (i1 + 1)) = (f_X1_mostSeen_4_v1 nl sn i1) := (by simp only [f_X1_mostSeen_4_v1, if_pos c1])
        exact ih4 (i1 + 1) (by omega) ls (by rw [e_v1]; exact lv_sub hl [1, 2, 0] rfl)
      · refine lv_iload_n hx hb dX1_mostSeen_25 rfl (lv_at hl 2 rfl) ?_
        refine lv_istore_n (lv' := [(1, .int (nI (i1 + 1))), (0, .ref aL), (2, .int (nI (i1 + 1)))]) hx hb dX1_mostSeen_26 rfl hl (by decide) rfl (fun ls hl => ?_)
        refine lv_iinc (v := nI ((i1 + 1) + 1)) (lv' := [(2, .int (nI ((i1 + 1) + 1))), (1, .int (nI (i1 + 1))), (0, .ref aL)]) hx hb dX1_mostSeen_27 hl (k := 2) rfl (nI_add (i1 + 1) 1) (by decide) rfl (fun ls hl => ?_)
        refine lv_goto (tgt := 4) hx hb dX1_mostSeen_30 (by decide) ?_
        have e_v1 : (f_X1_mostSeen_4_v1 nl sn (i1 + 1)) = nI (i1 + 1) := (by simp only [f_X1_mostSeen_4_v1, if_neg c1])
        exact ih4 (i1 + 1) (by omega) ls (by rw [e_v1]; exact lv_sub hl [2, 1, 0] rfl)
  exact lp4 (nl - 1) 0 (by omega) ls (lv_sub hl [2, 1, 0] rfl)

def rm_X0_stirred : Room := { frames := 0, cells := 0, slots := 0, locals := 0 }
def f_X0_stirred_4_v2 (sc : Nat → Int32) (who : Int32) : Nat → Int32
  | 0 => 0
  | i1 + 1 => ((f_X0_stirred_4_v2 sc who i1) ||| (((who >>> (nI i1 &&& 31)) &&& 1) <<< ((sc i1) &&& 31)))
def f_X0_stirred (pe : Nat) (sc : Nat → Int32) (who : Int32) : Int32 := (f_X0_stirred_4_v2 sc who pe)
theorem hd_X0_stirred : yX0_stirred.cls = RX0 ∧ yX0_stirred.cls ≠ "java/lang/invoke/MethodHandle" ∧ yX0_stirred.cls ≠ "java/lang/invoke/VarHandle" ∧ (parseMethodDescriptor yX0_stirred.desc).map (fun d => d.parameters.length) = some 1 := by decide +kernel
set_option maxHeartbeats 4000000 in
set_option maxRecDepth 100000 in
theorem c_X0_stirred (l : Launch) (D : va_G) (cI : ClassId) (aE aEs aEw aEd aEl aEt : Nat) (li : Int32) (mi : Int32) (pe : Nat) (to : Int32) (sc : Nat → Int32) (who : Int32) (hpe : pe ≤ 4) : MetR l yX0_stirred wsX0_stirred rm_X0_stirred D cI [.ref aE, .int who] [(aE, .inr (0, [.int li, .int mi, .int (nI pe), .ref aEs, .ref aEw, .ref aEd, .int to, .ref aEl, .ref aEt])), (aEs, .inl (cI, 4, .inl sc))] (some (.int (f_X0_stirred pe sc who))) := by
  refine mR (cc := cX0_stirred) (maxL := 4) (ret := (some .int)) (by decide) rfl (Nat.le_of_ble_eq_true rfl) ?_
  intro p e s m args below meth c Q hx hb hr hml hown hts hlk hP hK hQ ls hl
  have hown : s.vm.findClass RX0 = some m.cls := hown
  have hl : lv_has ls 4 [(0, .ref aE), (1, .int who)] := hl
  have w1 := hts (.fieldLink RX0 34 "DarkOffice$Evening" "people" "I") (List.mem_of_getElem? (i := 1) rfl)
  have uX0 : ∀ w ∈ wsX00, w ∈ wsX0_stirred := fun _ h => List.mem_cons_of_mem _ (List.mem_append_right _ h)
  have w2 := hts (.fieldLink RX0 9 "DarkOffice$Evening" "sections" "[I") (List.mem_of_getElem? (i := 2) rfl)
  refine lv_iconst (v := 0) hx hb dX0_stirred_0 (by decide) ?_
  refine lv_istore_n (lv' := [(2, .int 0), (0, .ref aE), (1, .int who)]) hx hb dX0_stirred_1 rfl hl (by decide) rfl (fun ls hl => ?_)
  refine lv_iconst (v := 0) hx hb dX0_stirred_2 (by decide) ?_
  refine lv_istore_n (lv' := [(3, .int 0), (2, .int 0), (0, .ref aE), (1, .int who)]) hx hb dX0_stirred_3 rfl hl (by decide) rfl (fun ls hl => ?_)
  have lp4 : ∀ (k4 i1 : Nat), i1 + k4 = pe → ∀ ls : Array Slot, lv_has ls 4 [(0, .ref aE), (1, .int who), (2, .int ((f_X0_stirred_4_v2 sc who i1))), (3, .int (nI i1))] → W p l e rm_X0_stirred s m args below meth c s.heap [] 0 0 Q (F0 m 4 ls []) := by
    intro k4
    induction k4 with
    | zero =>
      intro i1 hk4 ls hl
      have hN4 : pe = i1 := by omega
      subst hN4
      refine lv_iload_n hx hb dX0_stirred_4 rfl (lv_at hl 3 rfl) ?_
      refine lv_aload_n hx hb dX0_stirred_5 rfl (lv_at hl 0 rfl) ?_
      refine va_get (D := D) (ci := 0) (v := .int (nI pe)) (C := RX0) (T := TX0) (N := 9) hx hb hts uX0 hown hK hP 0 rfl rfl 2 (by decide) w1 (fun _ h9 => h9) rfl dX0_stirred_6 ?_
      refine lv_icmp_ge (tgt := 33) hx hb dX0_stirred_9 (by decide) (fun _ => ?_) (fun c => absurd (nle_t (a := pe) (b := pe) rfl rfl (by omega) (by omega) (by omega)) c)
      refine lv_iload_n hx hb dX0_stirred_33 rfl (lv_at hl 2 rfl) ?_
      exact eRi hx hb hr hlk hQ dX0_stirred_34 (Eq.symm (by simp only [f_X0_stirred]))
    | succ k4 ih4 =>
      intro i1 hk4 ls hl
      refine lv_iload_n hx hb dX0_stirred_4 rfl (lv_at hl 3 rfl) ?_
      refine lv_aload_n hx hb dX0_stirred_5 rfl (lv_at hl 0 rfl) ?_
      refine va_get (D := D) (ci := 0) (v := .int (nI pe)) (C := RX0) (T := TX0) (N := 9) hx hb hts uX0 hown hK hP 0 rfl rfl 2 (by decide) w1 (fun _ h9 => h9) rfl dX0_stirred_6 ?_
      refine lv_icmp_ge (tgt := 33) hx hb dX0_stirred_9 (by decide) (fun c => absurd c (nle_f (a := pe) (b := i1) rfl rfl (by omega) (by omega) (by omega))) (fun _ => ?_)
      refine lv_iload_n hx hb dX0_stirred_12 rfl (lv_at hl 2 rfl) ?_
      refine lv_iload_n hx hb dX0_stirred_13 rfl (lv_at hl 1 rfl) ?_
      refine lv_iload_n hx hb dX0_stirred_14 rfl (lv_at hl 3 rfl) ?_
      refine lv_ishr hx hb dX0_stirred_15 ?_
      refine lv_iconst (v := 1) hx hb dX0_stirred_16 (by decide) ?_
      refine lv_iand hx hb dX0_stirred_17 ?_
      refine lv_aload_n hx hb dX0_stirred_18 rfl (lv_at hl 0 rfl) ?_
      refine va_get (D := D) (ci := 0) (v := .ref aEs) (C := RX0) (T := TX0) (N := 9) hx hb hts uX0 hown hK hP 0 rfl rfl 3 (by decide) w2 (fun _ h9 => h9) rfl dX0_stirred_19 ?_
      refine lv_iload_n hx hb dX0_stirred_22 rfl (lv_at hl 3 rfl) ?_
      refine xald hx hb hK hP 1 rfl i1 rfl (by omega) (by decide) dX0_stirred_23 ?_
      refine lv_ishl hx hb dX0_stirred_24 ?_
      refine lv_ior hx hb dX0_stirred_25 ?_
      refine lv_istore_n (lv' := [(2, .int ((f_X0_stirred_4_v2 sc who i1) ||| (((who >>> (nI i1 &&& 31)) &&& 1) <<< ((sc i1) &&& 31)))), (0, .ref aE), (1, .int who), (3, .int (nI i1))]) hx hb dX0_stirred_26 rfl hl (by decide) rfl (fun ls hl => ?_)
      refine lv_iinc (v := nI (i1 + 1)) (lv' := [(3, .int (nI (i1 + 1))), (2, .int ((f_X0_stirred_4_v2 sc who i1) ||| (((who >>> (nI i1 &&& 31)) &&& 1) <<< ((sc i1) &&& 31)))), (0, .ref aE), (1, .int who)]) hx hb dX0_stirred_27 hl (k := 3) rfl (nI_add i1 1) (by decide) rfl (fun ls hl => ?_)
      refine lv_goto (tgt := 4) hx hb dX0_stirred_30 (by decide) ?_
      have e_v2 : (f_X0_stirred_4_v2 sc who (i1 + 1)) = ((f_X0_stirred_4_v2 sc who i1) ||| (((who >>> (nI i1 &&& 31)) &&& 1) <<< ((sc i1) &&& 31))) := (by simp only [f_X0_stirred_4_v2])
      exact ih4 (i1 + 1) (by omega) ls (by rw [e_v2]; exact lv_sub hl [2, 3, 1, 0] rfl)
  exact lp4 pe 0 (by omega) ls (lv_sub hl [2, 3, 1, 0] rfl)

def rm_X0_inDark : Room := { frames := 0, cells := 0, slots := 0, locals := 0 }
def f_X0_inDark_4_v2 (sc : Nat → Int32) (litOnes : Int32) : Nat → Int32
  | 0 => 0
  | i1 + 1 => ((f_X0_inDark_4_v2 sc litOnes i1) + (1 - ((litOnes >>> ((sc i1) &&& 31)) &&& 1)))
def f_X0_inDark (pe : Nat) (sc : Nat → Int32) (litOnes : Int32) : Int32 := (f_X0_inDark_4_v2 sc litOnes pe)
theorem hd_X0_inDark : yX0_inDark.cls = RX0 ∧ yX0_inDark.cls ≠ "java/lang/invoke/MethodHandle" ∧ yX0_inDark.cls ≠ "java/lang/invoke/VarHandle" ∧ (parseMethodDescriptor yX0_inDark.desc).map (fun d => d.parameters.length) = some 1 := by decide +kernel
set_option maxHeartbeats 4000000 in
set_option maxRecDepth 100000 in
theorem c_X0_inDark (l : Launch) (D : va_G) (cI : ClassId) (aE aEs aEw aEd aEl aEt : Nat) (li : Int32) (mi : Int32) (pe : Nat) (to : Int32) (sc : Nat → Int32) (litOnes : Int32) (hpe : pe ≤ 4) : MetR l yX0_inDark wsX0_inDark rm_X0_inDark D cI [.ref aE, .int litOnes] [(aE, .inr (0, [.int li, .int mi, .int (nI pe), .ref aEs, .ref aEw, .ref aEd, .int to, .ref aEl, .ref aEt])), (aEs, .inl (cI, 4, .inl sc))] (some (.int (f_X0_inDark pe sc litOnes))) := by
  refine mR (cc := cX0_inDark) (maxL := 4) (ret := (some .int)) (by decide) rfl (Nat.le_of_ble_eq_true rfl) ?_
  intro p e s m args below meth c Q hx hb hr hml hown hts hlk hP hK hQ ls hl
  have hown : s.vm.findClass RX0 = some m.cls := hown
  have hl : lv_has ls 4 [(0, .ref aE), (1, .int litOnes)] := hl
  have w1 := hts (.fieldLink RX0 34 "DarkOffice$Evening" "people" "I") (List.mem_of_getElem? (i := 1) rfl)
  have uX0 : ∀ w ∈ wsX00, w ∈ wsX0_inDark := fun _ h => List.mem_cons_of_mem _ (List.mem_append_right _ h)
  have w2 := hts (.fieldLink RX0 9 "DarkOffice$Evening" "sections" "[I") (List.mem_of_getElem? (i := 2) rfl)
  refine lv_iconst (v := 0) hx hb dX0_inDark_0 (by decide) ?_
  refine lv_istore_n (lv' := [(2, .int 0), (0, .ref aE), (1, .int litOnes)]) hx hb dX0_inDark_1 rfl hl (by decide) rfl (fun ls hl => ?_)
  refine lv_iconst (v := 0) hx hb dX0_inDark_2 (by decide) ?_
  refine lv_istore_n (lv' := [(3, .int 0), (2, .int 0), (0, .ref aE), (1, .int litOnes)]) hx hb dX0_inDark_3 rfl hl (by decide) rfl (fun ls hl => ?_)
  have lp4 : ∀ (k4 i1 : Nat), i1 + k4 = pe → ∀ ls : Array Slot, lv_has ls 4 [(0, .ref aE), (1, .int litOnes), (2, .int ((f_X0_inDark_4_v2 sc litOnes i1))), (3, .int (nI i1))] → W p l e rm_X0_inDark s m args below meth c s.heap [] 0 0 Q (F0 m 4 ls []) := by
    intro k4
    induction k4 with
    | zero =>
      intro i1 hk4 ls hl
      have hN4 : pe = i1 := by omega
      subst hN4
      refine lv_iload_n hx hb dX0_inDark_4 rfl (lv_at hl 3 rfl) ?_
      refine lv_aload_n hx hb dX0_inDark_5 rfl (lv_at hl 0 rfl) ?_
      refine va_get (D := D) (ci := 0) (v := .int (nI pe)) (C := RX0) (T := TX0) (N := 9) hx hb hts uX0 hown hK hP 0 rfl rfl 2 (by decide) w1 (fun _ h9 => h9) rfl dX0_inDark_6 ?_
      refine lv_icmp_ge (tgt := 33) hx hb dX0_inDark_9 (by decide) (fun _ => ?_) (fun c => absurd (nle_t (a := pe) (b := pe) rfl rfl (by omega) (by omega) (by omega)) c)
      refine lv_iload_n hx hb dX0_inDark_33 rfl (lv_at hl 2 rfl) ?_
      exact eRi hx hb hr hlk hQ dX0_inDark_34 (Eq.symm (by simp only [f_X0_inDark]))
    | succ k4 ih4 =>
      intro i1 hk4 ls hl
      refine lv_iload_n hx hb dX0_inDark_4 rfl (lv_at hl 3 rfl) ?_
      refine lv_aload_n hx hb dX0_inDark_5 rfl (lv_at hl 0 rfl) ?_
      refine va_get (D := D) (ci := 0) (v := .int (nI pe)) (C := RX0) (T := TX0) (N := 9) hx hb hts uX0 hown hK hP 0 rfl rfl 2 (by decide) w1 (fun _ h9 => h9) rfl dX0_inDark_6 ?_
      refine lv_icmp_ge (tgt := 33) hx hb dX0_inDark_9 (by decide) (fun c => absurd c (nle_f (a := pe) (b := i1) rfl rfl (by omega) (by omega) (by omega))) (fun _ => ?_)
      refine lv_iload_n hx hb dX0_inDark_12 rfl (lv_at hl 2 rfl) ?_
      refine lv_iconst (v := 1) hx hb dX0_inDark_13 (by decide) ?_
      refine lv_iload_n hx hb dX0_inDark_14 rfl (lv_at hl 1 rfl) ?_
      refine lv_aload_n hx hb dX0_inDark_15 rfl (lv_at hl 0 rfl) ?_
      refine va_get (D := D) (ci := 0) (v := .ref aEs) (C := RX0) (T := TX0) (N := 9) hx hb hts uX0 hown hK hP 0 rfl rfl 3 (by decide) w2 (fun _ h9 => h9) rfl dX0_inDark_16 ?_
      refine lv_iload_n hx hb dX0_inDark_19 rfl (lv_at hl 3 rfl) ?_
      refine xald hx hb hK hP 1 rfl i1 rfl (by omega) (by decide) dX0_inDark_20 ?_
      refine lv_ishr hx hb dX0_inDark_21 ?_
      refine lv_iconst (v := 1) hx hb dX0_inDark_22 (by decide) ?_
      refine lv_iand hx hb dX0_inDark_23 ?_
      refine lv_isub hx hb dX0_inDark_24 ?_
      refine lv_iadd hx hb dX0_inDark_25 ?_
      refine lv_istore_n (lv' := [(2, .int ((f_X0_inDark_4_v2 sc litOnes i1) + (1 - ((litOnes >>> ((sc i1) &&& 31)) &&& 1)))), (0, .ref aE), (1, .int litOnes), (3, .int (nI i1))]) hx hb dX0_inDark_26 rfl hl (by decide) rfl (fun ls hl => ?_)
      refine lv_iinc (v := nI (i1 + 1)) (lv' := [(3, .int (nI (i1 + 1))), (2, .int ((f_X0_inDark_4_v2 sc litOnes i1) + (1 - ((litOnes >>> ((sc i1) &&& 31)) &&& 1)))), (0, .ref aE), (1, .int litOnes)]) hx hb dX0_inDark_27 hl (k := 3) rfl (nI_add i1 1) (by decide) rfl (fun ls hl => ?_)
      refine lv_goto (tgt := 4) hx hb dX0_inDark_30 (by decide) ?_
      have e_v2 : (f_X0_inDark_4_v2 sc litOnes (i1 + 1)) = ((f_X0_inDark_4_v2 sc litOnes i1) + (1 - ((litOnes >>> ((sc i1) &&& 31)) &&& 1))) := (by simp only [f_X0_inDark_4_v2])
      exact ih4 (i1 + 1) (by omega) ls (by rw [e_v2]; exact lv_sub hl [2, 3, 1, 0] rfl)
  exact lp4 pe 0 (by omega) ls (lv_sub hl [2, 3, 1, 0] rfl)

def rm_X0_peopleIn : Room := { frames := 0, cells := 0, slots := 0, locals := 0 }
def f_X0_peopleIn_4_v2 (sc : Nat → Int32) (sect : Int32) : Nat → Int32
  | 0 => 0
  | i1 + 1 => (if (sc i1) = sect then ((f_X0_peopleIn_4_v2 sc sect i1) ||| (1 <<< (nI i1 &&& 31))) else ((f_X0_peopleIn_4_v2 sc sect i1) ||| 0))
def f_X0_peopleIn (pe : Nat) (sc : Nat → Int32) (sect : Int32) : Int32 := (f_X0_peopleIn_4_v2 sc sect pe)
theorem hd_X0_peopleIn : yX0_peopleIn.cls = RX0 ∧ yX0_peopleIn.cls ≠ "java/lang/invoke/MethodHandle" ∧ yX0_peopleIn.cls ≠ "java/lang/invoke/VarHandle" ∧ (parseMethodDescriptor yX0_peopleIn.desc).map (fun d => d.parameters.length) = some 1 := by decide +kernel
set_option maxHeartbeats 4000000 in
set_option maxRecDepth 100000 in
theorem c_X0_peopleIn (l : Launch) (D : va_G) (cI : ClassId) (aE aEs aEw aEd aEl aEt : Nat) (li : Int32) (mi : Int32) (pe : Nat) (to : Int32) (sc : Nat → Int32) (sect : Int32) (hpe : pe ≤ 4) : MetR l yX0_peopleIn wsX0_peopleIn rm_X0_peopleIn D cI [.ref aE, .int sect] [(aE, .inr (0, [.int li, .int mi, .int (nI pe), .ref aEs, .ref aEw, .ref aEd, .int to, .ref aEl, .ref aEt])), (aEs, .inl (cI, 4, .inl sc))] (some (.int (f_X0_peopleIn pe sc sect))) := by
  refine mR (cc := cX0_peopleIn) (maxL := 4) (ret := (some .int)) (by decide) rfl (Nat.le_of_ble_eq_true rfl) ?_
  intro p e s m args below meth c Q hx hb hr hml hown hts hlk hP hK hQ ls hl
  have hown : s.vm.findClass RX0 = some m.cls := hown
  have hl : lv_has ls 4 [(0, .ref aE), (1, .int sect)] := hl
  have w1 := hts (.fieldLink RX0 34 "DarkOffice$Evening" "people" "I") (List.mem_of_getElem? (i := 1) rfl)
  have uX0 : ∀ w ∈ wsX00, w ∈ wsX0_peopleIn := fun _ h => List.mem_cons_of_mem _ (List.mem_append_right _ h)
  have w2 := hts (.fieldLink RX0 9 "DarkOffice$Evening" "sections" "[I") (List.mem_of_getElem? (i := 2) rfl)
  refine lv_iconst (v := 0) hx hb dX0_peopleIn_0 (by decide) ?_
  refine lv_istore_n (lv' := [(2, .int 0), (0, .ref aE), (1, .int sect)]) hx hb dX0_peopleIn_1 rfl hl (by decide) rfl (fun ls hl => ?_)
  refine lv_iconst (v := 0) hx hb dX0_peopleIn_2 (by decide) ?_
  refine lv_istore_n (lv' := [(3, .int 0), (2, .int 0), (0, .ref aE), (1, .int sect)]) hx hb dX0_peopleIn_3 rfl hl (by decide) rfl (fun ls hl => ?_)
  have lp4 : ∀ (k4 i1 : Nat), i1 + k4 = pe → ∀ ls : Array Slot, lv_has ls 4 [(0, .ref aE), (1, .int sect), (2, .int ((f_X0_peopleIn_4_v2 sc sect i1))), (3, .int (nI i1))] → W p l e rm_X0_peopleIn s m args below meth c s.heap [] 0 0 Q (F0 m 4 ls []) := by
    intro k4
    induction k4 with
    | zero =>
      intro i1 hk4 ls hl
      have hN4 : pe = i1 := by omega
      subst hN4
      refine lv_iload_n hx hb dX0_peopleIn_4 rfl (lv_at hl 3 rfl) ?_
      refine lv_aload_n hx hb dX0_peopleIn_5 rfl (lv_at hl 0 rfl) ?_
      refine va_get (D := D) (ci := 0) (v := .int (nI pe)) (C := RX0) (T := TX0) (N := 9) hx hb hts uX0 hown hK hP 0 rfl rfl 2 (by decide) w1 (fun _ h9 => h9) rfl dX0_peopleIn_6 ?_
      refine lv_icmp_ge (tgt := 38) hx hb dX0_peopleIn_9 (by decide) (fun _ => ?_) (fun c => absurd (nle_t (a := pe) (b := pe) rfl rfl (by omega) (by omega) (by omega)) c)
      refine lv_iload_n hx hb dX0_peopleIn_38 rfl (lv_at hl 2 rfl) ?_
      exact eRi hx hb hr hlk hQ dX0_peopleIn_39 (Eq.symm (by simp only [f_X0_peopleIn]))
    | succ k4 ih4 =>
      intro i1 hk4 ls hl
      refine lv_iload_n hx hb dX0_peopleIn_4 rfl (lv_at hl 3 rfl) ?_
      refine lv_aload_n hx hb dX0_peopleIn_5 rfl (lv_at hl 0 rfl) ?_
      refine va_get (D := D) (ci := 0) (v := .int (nI pe)) (C := RX0) (T := TX0) (N := 9) hx hb hts uX0 hown hK hP 0 rfl rfl 2 (by decide) w1 (fun _ h9 => h9) rfl dX0_peopleIn_6 ?_
      refine lv_icmp_ge (tgt := 38) hx hb dX0_peopleIn_9 (by decide) (fun c => absurd c (nle_f (a := pe) (b := i1) rfl rfl (by omega) (by omega) (by omega))) (fun _ => ?_)
      refine lv_iload_n hx hb dX0_peopleIn_12 rfl (lv_at hl 2 rfl) ?_
      refine lv_aload_n hx hb dX0_peopleIn_13 rfl (lv_at hl 0 rfl) ?_
      refine va_get (D := D) (ci := 0) (v := .ref aEs) (C := RX0) (T := TX0) (N := 9) hx hb hts uX0 hown hK hP 0 rfl rfl 3 (by decide) w2 (fun _ h9 => h9) rfl dX0_peopleIn_14 ?_
      refine lv_iload_n hx hb dX0_peopleIn_17 rfl (lv_at hl 3 rfl) ?_
      refine xald hx hb hK hP 1 rfl i1 rfl (by omega) (by decide) dX0_peopleIn_18 ?_
      refine lv_iload_n hx hb dX0_peopleIn_19 rfl (lv_at hl 1 rfl) ?_
      refine lv_icmp_ne (tgt := 29) hx hb dX0_peopleIn_20 (by decide) (fun c1 => ?_) (fun c1 => ?_)
      · refine lv_iconst (v := 0) hx hb dX0_peopleIn_29 (by decide) ?_
        refine lv_ior hx hb dX0_peopleIn_30 ?_
        refine lv_istore_n (lv' := [(2, .int ((f_X0_peopleIn_4_v2 sc sect i1) ||| 0)), (0, .ref aE), (1, .int sect), (3, .int (nI i1))]) hx hb dX0_peopleIn_31 rfl hl (by decide) rfl (fun ls hl => ?_)
        refine lv_iinc (v := nI (i1 + 1)) (lv' := [(3, .int (nI (i1 + 1))), (2, .int ((f_X0_peopleIn_4_v2 sc sect i1) ||| 0)), (0, .ref aE), (1, .int sect)]) hx hb dX0_peopleIn_32 hl (k := 3) rfl (nI_add i1 1) (by decide) rfl (fun ls hl => ?_)
        refine lv_goto (tgt := 4) hx hb dX0_peopleIn_35 (by decide) ?_
        have e_v2 : (f_X0_peopleIn_4_v2 sc sect (i1 + 1)) = ((f_X0_peopleIn_4_v2 sc sect i1) ||| 0) := (by simp only [f_X0_peopleIn_4_v2, if_neg c1])
        exact ih4 (i1 + 1) (by omega) ls (by rw [e_v2]; exact lv_sub hl [2, 3, 1, 0] rfl)
      · refine lv_iconst (v := 1) hx hb dX0_peopleIn_23 (by decide) ?_
        refine lv_iload_n hx hb dX0_peopleIn_24 rfl (lv_at hl 3 rfl) ?_
        refine lv_ishl hx hb dX0_peopleIn_25 ?_
        refine lv_goto (tgt := 30) hx hb dX0_peopleIn_26 (by decide) ?_
        refine lv_ior hx hb dX0_peopleIn_30 ?_
        refine lv_istore_n (lv' := [(2, .int ((f_X0_peopleIn_4_v2 sc sect i1) ||| (1 <<< (nI i1 &&& 31)))), (0, .ref aE), (1, .int sect), (3, .int (nI i1))]) hx hb dX0_peopleIn_31 rfl hl (by decide) rfl (fun ls hl => ?_)
        refine lv_iinc (v := nI (i1 + 1)) (lv' := [(3, .int (nI (i1 + 1))), (2, .int ((f_X0_peopleIn_4_v2 sc sect i1) ||| (1 <<< (nI i1 &&& 31)))), (0, .ref aE), (1, .int sect)]) hx hb dX0_peopleIn_32 hl (k := 3) rfl (nI_add i1 1) (by decide) rfl (fun ls hl => ?_)
        refine lv_goto (tgt := 4) hx hb dX0_peopleIn_35 (by decide) ?_
        have e_v2 : (f_X0_peopleIn_4_v2 sc sect (i1 + 1)) = ((f_X0_peopleIn_4_v2 sc sect i1) ||| (1 <<< (nI i1 &&& 31))) := (by simp only [f_X0_peopleIn_4_v2, if_pos c1])
        exact ih4 (i1 + 1) (by omega) ls (by rw [e_v2]; exact lv_sub hl [2, 3, 1, 0] rfl)
  exact lp4 pe 0 (by omega) ls (lv_sub hl [2, 3, 1, 0] rfl)

def rm_X0_write : Room := { frames := 0, cells := 0, slots := 0, locals := 0 }
def f_X0_write_2_Ew (wv : Nat → Int32) (who : Int32) : Nat → (Nat → Int32)
  | 0 => wv
  | i1 + 1 => (upd (f_X0_write_2_Ew wv who i1) i1 (((f_X0_write_2_Ew wv who i1) i1) + ((who >>> (nI i1 &&& 31)) &&& 1)))
def f_X0_write_2_Ed (sc : Nat → Int32) (dk : Nat → Int32) (litOnes : Int32) : Nat → (Nat → Int32)
  | 0 => dk
  | i1 + 1 => (upd (f_X0_write_2_Ed sc dk litOnes i1) i1 (((f_X0_write_2_Ed sc dk litOnes i1) i1) + (1 - ((litOnes >>> ((sc i1) &&& 31)) &&& 1))))
def f_X0_write_Ew (pe : Nat) (wv : Nat → Int32) (who : Int32) : Nat → Int32 := (f_X0_write_2_Ew wv who pe)
def f_X0_write_Ed (pe : Nat) (sc : Nat → Int32) (dk : Nat → Int32) (litOnes : Int32) : Nat → Int32 := (f_X0_write_2_Ed sc dk litOnes pe)
theorem hd_X0_write : yX0_write.cls = RX0 ∧ yX0_write.cls ≠ "java/lang/invoke/MethodHandle" ∧ yX0_write.cls ≠ "java/lang/invoke/VarHandle" ∧ (parseMethodDescriptor yX0_write.desc).map (fun d => d.parameters.length) = some 2 := by decide +kernel
set_option maxHeartbeats 4000000 in
set_option maxRecDepth 100000 in
theorem c_X0_write (l : Launch) (D : va_G) (cI : ClassId) (aE aEs aEw aEd aEl aEt : Nat) (li : Int32) (mi : Int32) (pe : Nat) (to : Int32) (sc : Nat → Int32) (wv : Nat → Int32) (dk : Nat → Int32) (litOnes : Int32) (who : Int32) (hpe : pe ≤ 4) : MetX l yX0_write wsX0_write rm_X0_write D cI [.ref aE, .int who, .int litOnes] [(aE, .inr (0, [.int li, .int mi, .int (nI pe), .ref aEs, .ref aEw, .ref aEd, .int to, .ref aEl, .ref aEt])), (aEs, .inl (cI, 4, .inl sc)), (aEw, .inl (cI, 4, .inl wv)), (aEd, .inl (cI, 4, .inl dk))] none [(aE, .inr (0, [.int li, .int mi, .int (nI pe), .ref aEs, .ref aEw, .ref aEd, .int to, .ref aEl, .ref aEt])), (aEs, .inl (cI, 4, .inl sc)), (aEw, .inl (cI, 4, .inl (f_X0_write_Ew pe wv who))), (aEd, .inl (cI, 4, .inl (f_X0_write_Ed pe sc dk litOnes)))] := by
  refine mX (cc := cX0_write) (maxL := 4) (ret := none) (by decide) rfl (Nat.le_of_ble_eq_true rfl) ?_
  intro p e s m args below meth c Q A hx hb hr hml hown hts hlk hP hK hD hA hS hQ ls hl
  have hown : s.vm.findClass RX0 = some m.cls := hown
  have hl : lv_has ls 4 [(0, .ref aE), (1, .int who), (2, .int litOnes)] := hl
  have w1 := hts (.fieldLink RX0 34 "DarkOffice$Evening" "people" "I") (List.mem_of_getElem? (i := 1) rfl)
  have uX0 : ∀ w ∈ wsX00, w ∈ wsX0_write := fun _ h => List.mem_cons_of_mem _ (List.mem_append_right _ h)
  have w2 := hts (.fieldLink RX0 15 "DarkOffice$Evening" "waves" "[I") (List.mem_of_getElem? (i := 2) rfl)
  have w3 := hts (.fieldLink RX0 18 "DarkOffice$Evening" "darks" "[I") (List.mem_of_getElem? (i := 3) rfl)
  have w4 := hts (.fieldLink RX0 9 "DarkOffice$Evening" "sections" "[I") (List.mem_of_getElem? (i := 4) rfl)
  refine lv_iconst (v := 0) hx hb dX0_write_0 (by decide) ?_
  refine lv_istore_n (lv' := [(3, .int 0), (0, .ref aE), (1, .int who), (2, .int litOnes)]) hx hb dX0_write_1 rfl hl (by decide) rfl (fun ls hl => ?_)
  have lp2 : ∀ (k2 i1 : Nat), i1 + k2 = pe → ∀ (H : Heap) (locs : List Loc), va_P D vwCl [(aE, .inr (0, [.int li, .int mi, .int (nI pe), .ref aEs, .ref aEw, .ref aEd, .int to, .ref aEl, .ref aEt])), (aEs, .inl (cI, 4, .inl sc)), (aEw, .inl (cI, 4, .inl ((f_X0_write_2_Ew wv who i1)))), (aEd, .inl (cI, 4, .inl ((f_X0_write_2_Ed sc dk litOnes i1))))] H → va_D A [(aE, .inr (0, [.int li, .int mi, .int (nI pe), .ref aEs, .ref aEw, .ref aEd, .int to, .ref aEl, .ref aEt])), (aEs, .inl (cI, 4, .inl sc)), (aEw, .inl (cI, 4, .inl ((f_X0_write_2_Ew wv who i1)))), (aEd, .inl (cI, 4, .inl ((f_X0_write_2_Ed sc dk litOnes i1))))] → va_S A s.heap H locs → ∀ ls : Array Slot, lv_has ls 4 [(0, .ref aE), (1, .int who), (2, .int litOnes), (3, .int (nI i1))] → W p l e rm_X0_write s m args below meth c H locs 0 0 Q (F0 m 2 ls []) := by
    intro k2
    induction k2 with
    | zero =>
      intro i1 hk2 H locs hP hD hS ls hl
      have hN2 : pe = i1 := by omega
      subst hN2
      refine lv_iload_n hx hb dX0_write_2 rfl (lv_at hl 3 rfl) ?_
      refine lv_aload_n hx hb dX0_write_3 rfl (lv_at hl 0 rfl) ?_
      refine va_get (D := D) (ci := 0) (v := .int (nI pe)) (C := RX0) (T := TX0) (N := 9) hx hb hts uX0 hown hK hP 0 rfl rfl 2 (by decide) w1 (fun _ h9 => h9) rfl dX0_write_4 ?_
      refine lv_icmp_ge (tgt := 51) hx hb dX0_write_7 (by decide) (fun _ => ?_) (fun c => absurd (nle_t (a := pe) (b := pe) rfl rfl (by omega) (by omega) (by omega)) c)
      have e_Ew : (f_X0_write_Ew pe wv who) = (f_X0_write_2_Ew wv who pe) := (by simp only [f_X0_write_Ew])
      have e_Ed : (f_X0_write_Ed pe sc dk litOnes) = (f_X0_write_2_Ed sc dk litOnes pe) := (by simp only [f_X0_write_Ed])
      exact eXv hx hb hr hlk hQ (by rw [e_Ew, e_Ed]; exact hP) (by rw [e_Ew, e_Ed]; exact hD) hS dX0_write_51
    | succ k2 ih2 =>
      intro i1 hk2 H locs hP hD hS ls hl
      refine lv_iload_n hx hb dX0_write_2 rfl (lv_at hl 3 rfl) ?_
      refine lv_aload_n hx hb dX0_write_3 rfl (lv_at hl 0 rfl) ?_
      refine va_get (D := D) (ci := 0) (v := .int (nI pe)) (C := RX0) (T := TX0) (N := 9) hx hb hts uX0 hown hK hP 0 rfl rfl 2 (by decide) w1 (fun _ h9 => h9) rfl dX0_write_4 ?_
      refine lv_icmp_ge (tgt := 51) hx hb dX0_write_7 (by decide) (fun c => absurd c (nle_f (a := pe) (b := i1) rfl rfl (by omega) (by omega) (by omega))) (fun _ => ?_)
      refine lv_aload_n hx hb dX0_write_10 rfl (lv_at hl 0 rfl) ?_
      refine va_get (D := D) (ci := 0) (v := .ref aEw) (C := RX0) (T := TX0) (N := 9) hx hb hts uX0 hown hK hP 0 rfl rfl 4 (by decide) w2 (fun _ h9 => h9) rfl dX0_write_11 ?_
      refine lv_iload_n hx hb dX0_write_14 rfl (lv_at hl 3 rfl) ?_
      refine lv_dup2_11 hx hb dX0_write_15 rfl rfl ?_
      refine xald hx hb hK hP 2 rfl i1 rfl (by omega) (by decide) dX0_write_16 ?_
      refine lv_iload_n hx hb dX0_write_17 rfl (lv_at hl 1 rfl) ?_
      refine lv_iload_n hx hb dX0_write_18 rfl (lv_at hl 3 rfl) ?_
      refine lv_ishr hx hb dX0_write_19 ?_
      refine lv_iconst (v := 1) hx hb dX0_write_20 (by decide) ?_
      refine lv_iand hx hb dX0_write_21 ?_
      refine lv_iadd hx hb dX0_write_22 ?_
      refine xast hx hb hK hP hD hS 2 rfl i1 rfl (by omega) (by decide) dX0_write_23 (fun H locs hP hD hS => ?_)
      have hP : va_P D vwCl [(aE, .inr (0, [.int li, .int mi, .int (nI pe), .ref aEs, .ref aEw, .ref aEd, .int to, .ref aEl, .ref aEt])), (aEs, .inl (cI, 4, .inl sc)), (aEw, .inl (cI, 4, .inl (upd (f_X0_write_2_Ew wv who i1) i1 (((f_X0_write_2_Ew wv who i1) i1) + ((who >>> (nI i1 &&& 31)) &&& 1))))), (aEd, .inl (cI, 4, .inl ((f_X0_write_2_Ed sc dk litOnes i1))))] H := hP
      have hD : va_D A [(aE, .inr (0, [.int li, .int mi, .int (nI pe), .ref aEs, .ref aEw, .ref aEd, .int to, .ref aEl, .ref aEt])), (aEs, .inl (cI, 4, .inl sc)), (aEw, .inl (cI, 4, .inl (upd (f_X0_write_2_Ew wv who i1) i1 (((f_X0_write_2_Ew wv who i1) i1) + ((who >>> (nI i1 &&& 31)) &&& 1))))), (aEd, .inl (cI, 4, .inl ((f_X0_write_2_Ed sc dk litOnes i1))))] := hD
      refine lv_aload_n hx hb dX0_write_24 rfl (lv_at hl 0 rfl) ?_
      refine va_get (D := D) (ci := 0) (v := .ref aEd) (C := RX0) (T := TX0) (N := 9) hx hb hts uX0 hown hK hP 0 rfl rfl 5 (by decide) w3 (fun _ h9 => h9) rfl dX0_write_25 ?_
      refine lv_iload_n hx hb dX0_write_28 rfl (lv_at hl 3 rfl) ?_
      refine lv_dup2_11 hx hb dX0_write_29 rfl rfl ?_
      refine xald hx hb hK hP 3 rfl i1 rfl (by omega) (by decide) dX0_write_30 ?_
      refine lv_iconst (v := 1) hx hb dX0_write_31 (by decide) ?_
      refine lv_iload_n hx hb dX0_write_32 rfl (lv_at hl 2 rfl) ?_
      refine lv_aload_n hx hb dX0_write_33 rfl (lv_at hl 0 rfl) ?_
      refine va_get (D := D) (ci := 0) (v := .ref aEs) (C := RX0) (T := TX0) (N := 9) hx hb hts uX0 hown hK hP 0 rfl rfl 3 (by decide) w4 (fun _ h9 => h9) rfl dX0_write_34 ?_
      refine lv_iload_n hx hb dX0_write_37 rfl (lv_at hl 3 rfl) ?_
      refine xald hx hb hK hP 1 rfl i1 rfl (by omega) (by decide) dX0_write_38 ?_
      refine lv_ishr hx hb dX0_write_39 ?_
      refine lv_iconst (v := 1) hx hb dX0_write_40 (by decide) ?_
      refine lv_iand hx hb dX0_write_41 ?_
      refine lv_isub hx hb dX0_write_42 ?_
      refine lv_iadd hx hb dX0_write_43 ?_
      refine xast hx hb hK hP hD hS 3 rfl i1 rfl (by omega) (by decide) dX0_write_44 (fun H locs hP hD hS => ?_)
      have hP : va_P D vwCl [(aE, .inr (0, [.int li, .int mi, .int (nI pe), .ref aEs, .ref aEw, .ref aEd, .int to, .ref aEl, .ref aEt])), (aEs, .inl (cI, 4, .inl sc)), (aEw, .inl (cI, 4, .inl (upd (f_X0_write_2_Ew wv who i1) i1 (((f_X0_write_2_Ew wv who i1) i1) + ((who >>> (nI i1 &&& 31)) &&& 1))))), (aEd, .inl (cI, 4, .inl (upd (f_X0_write_2_Ed sc dk litOnes i1) i1 (((f_X0_write_2_Ed sc dk litOnes i1) i1) + (1 - ((litOnes >>> ((sc i1) &&& 31)) &&& 1))))))] H := hP
      have hD : va_D A [(aE, .inr (0, [.int li, .int mi, .int (nI pe), .ref aEs, .ref aEw, .ref aEd, .int to, .ref aEl, .ref aEt])), (aEs, .inl (cI, 4, .inl sc)), (aEw, .inl (cI, 4, .inl (upd (f_X0_write_2_Ew wv who i1) i1 (((f_X0_write_2_Ew wv who i1) i1) + ((who >>> (nI i1 &&& 31)) &&& 1))))), (aEd, .inl (cI, 4, .inl (upd (f_X0_write_2_Ed sc dk litOnes i1) i1 (((f_X0_write_2_Ed sc dk litOnes i1) i1) + (1 - ((litOnes >>> ((sc i1) &&& 31)) &&& 1))))))] := hD
      refine lv_iinc (v := nI (i1 + 1)) (lv' := [(3, .int (nI (i1 + 1))), (0, .ref aE), (1, .int who), (2, .int litOnes)]) hx hb dX0_write_45 hl (k := 3) rfl (nI_add i1 1) (by decide) rfl (fun ls hl => ?_)
      refine lv_goto (tgt := 2) hx hb dX0_write_48 (by decide) ?_
      have e_Ew : (f_X0_write_2_Ew wv who (i1 + 1)) = (upd (f_X0_write_2_Ew wv who i1) i1 (((f_X0_write_2_Ew wv who i1) i1) + ((who >>> (nI i1 &&& 31)) &&& 1))) := (by simp only [f_X0_write_2_Ew])
      have e_Ed : (f_X0_write_2_Ed sc dk litOnes (i1 + 1)) = (upd (f_X0_write_2_Ed sc dk litOnes i1) i1 (((f_X0_write_2_Ed sc dk litOnes i1) i1) + (1 - ((litOnes >>> ((sc i1) &&& 31)) &&& 1)))) := (by simp only [f_X0_write_2_Ed])
      exact ih2 (i1 + 1) (by omega) _ _ (by rw [e_Ew, e_Ed]; exact hP) (by rw [e_Ew, e_Ed]; exact hD) hS ls (lv_sub hl [1, 2, 3, 0] rfl)
  exact lp2 pe 0 (by omega) _ _ hP hD hS ls (lv_sub hl [1, 2, 3, 0] rfl)

def rm_X0_ofAll : Room := { frames := 0, cells := 0, slots := 0, locals := 0 }
def f_X0_ofAll_4_v2 (fr : Nat → Int32) : Nat → Int32
  | 0 => 0
  | i1 + 1 => ((f_X0_ofAll_4_v2 fr i1) + (fr i1))
def f_X0_ofAll (pe : Nat) (fr : Nat → Int32) : Int32 := (f_X0_ofAll_4_v2 fr pe)
theorem hd_X0_ofAll : yX0_ofAll.cls = RX0 ∧ yX0_ofAll.cls ≠ "java/lang/invoke/MethodHandle" ∧ yX0_ofAll.cls ≠ "java/lang/invoke/VarHandle" ∧ (parseMethodDescriptor yX0_ofAll.desc).map (fun d => d.parameters.length) = some 1 := by decide +kernel
set_option maxHeartbeats 4000000 in
set_option maxRecDepth 100000 in
theorem c_X0_ofAll (l : Launch) (D : va_G) (cI : ClassId) (aE aEs aEw aEd aEl aEt aF : Nat) (li : Int32) (mi : Int32) (pe : Nat) (to : Int32) (fr : Nat → Int32) (hpe : pe ≤ 4) : MetR l yX0_ofAll wsX0_ofAll rm_X0_ofAll D cI [.ref aE, .ref aF] [(aE, .inr (0, [.int li, .int mi, .int (nI pe), .ref aEs, .ref aEw, .ref aEd, .int to, .ref aEl, .ref aEt])), (aF, .inl (cI, 4, .inl fr))] (some (.int (f_X0_ofAll pe fr))) := by
  refine mR (cc := cX0_ofAll) (maxL := 4) (ret := (some .int)) (by decide) rfl (Nat.le_of_ble_eq_true rfl) ?_
  intro p e s m args below meth c Q hx hb hr hml hown hts hlk hP hK hQ ls hl
  have hown : s.vm.findClass RX0 = some m.cls := hown
  have hl : lv_has ls 4 [(0, .ref aE), (1, .ref aF)] := hl
  have w1 := hts (.fieldLink RX0 34 "DarkOffice$Evening" "people" "I") (List.mem_of_getElem? (i := 1) rfl)
  have uX0 : ∀ w ∈ wsX00, w ∈ wsX0_ofAll := fun _ h => List.mem_cons_of_mem _ (List.mem_append_right _ h)
  refine lv_iconst (v := 0) hx hb dX0_ofAll_0 (by decide) ?_
  refine lv_istore_n (lv' := [(2, .int 0), (0, .ref aE), (1, .ref aF)]) hx hb dX0_ofAll_1 rfl hl (by decide) rfl (fun ls hl => ?_)
  refine lv_iconst (v := 0) hx hb dX0_ofAll_2 (by decide) ?_
  refine lv_istore_n (lv' := [(3, .int 0), (2, .int 0), (0, .ref aE), (1, .ref aF)]) hx hb dX0_ofAll_3 rfl hl (by decide) rfl (fun ls hl => ?_)
  have lp4 : ∀ (k4 i1 : Nat), i1 + k4 = pe → ∀ ls : Array Slot, lv_has ls 4 [(0, .ref aE), (1, .ref aF), (2, .int ((f_X0_ofAll_4_v2 fr i1))), (3, .int (nI i1))] → W p l e rm_X0_ofAll s m args below meth c s.heap [] 0 0 Q (F0 m 4 ls []) := by
    intro k4
    induction k4 with
    | zero =>
      intro i1 hk4 ls hl
      have hN4 : pe = i1 := by omega
      subst hN4
      refine lv_iload_n hx hb dX0_ofAll_4 rfl (lv_at hl 3 rfl) ?_
      refine lv_aload_n hx hb dX0_ofAll_5 rfl (lv_at hl 0 rfl) ?_
      refine va_get (D := D) (ci := 0) (v := .int (nI pe)) (C := RX0) (T := TX0) (N := 9) hx hb hts uX0 hown hK hP 0 rfl rfl 2 (by decide) w1 (fun _ h9 => h9) rfl dX0_ofAll_6 ?_
      refine lv_icmp_ge (tgt := 30) hx hb dX0_ofAll_9 (by decide) (fun _ => ?_) (fun c => absurd (nle_t (a := pe) (b := pe) rfl rfl (by omega) (by omega) (by omega)) c)
      refine lv_iload_n hx hb dX0_ofAll_30 rfl (lv_at hl 2 rfl) ?_
      exact eRi hx hb hr hlk hQ dX0_ofAll_31 (Eq.symm (by simp only [f_X0_ofAll]))
    | succ k4 ih4 =>
      intro i1 hk4 ls hl
      refine lv_iload_n hx hb dX0_ofAll_4 rfl (lv_at hl 3 rfl) ?_
      refine lv_aload_n hx hb dX0_ofAll_5 rfl (lv_at hl 0 rfl) ?_
      refine va_get (D := D) (ci := 0) (v := .int (nI pe)) (C := RX0) (T := TX0) (N := 9) hx hb hts uX0 hown hK hP 0 rfl rfl 2 (by decide) w1 (fun _ h9 => h9) rfl dX0_ofAll_6 ?_
      refine lv_icmp_ge (tgt := 30) hx hb dX0_ofAll_9 (by decide) (fun c => absurd c (nle_f (a := pe) (b := i1) rfl rfl (by omega) (by omega) (by omega))) (fun _ => ?_)
      refine lv_iload_n hx hb dX0_ofAll_12 rfl (lv_at hl 3 rfl) ?_
      refine lv_aload_n hx hb dX0_ofAll_13 rfl (lv_at hl 1 rfl) ?_
      refine va_alen (v := 4) hx hb hK hP 1 0 rfl rfl rfl dX0_ofAll_14 ?_
      refine lv_icmp_ge (tgt := 30) hx hb dX0_ofAll_15 (by decide) (fun c => absurd c (nle_f (a := 4) (b := i1) rfl rfl (by omega) (by omega) (by omega))) (fun _ => ?_)
      refine lv_iload_n hx hb dX0_ofAll_18 rfl (lv_at hl 2 rfl) ?_
      refine lv_aload_n hx hb dX0_ofAll_19 rfl (lv_at hl 1 rfl) ?_
      refine lv_iload_n hx hb dX0_ofAll_20 rfl (lv_at hl 3 rfl) ?_
      refine xald hx hb hK hP 1 rfl i1 rfl (by omega) (by decide) dX0_ofAll_21 ?_
      refine lv_iadd hx hb dX0_ofAll_22 ?_
      refine lv_istore_n (lv' := [(2, .int ((f_X0_ofAll_4_v2 fr i1) + (fr i1))), (0, .ref aE), (1, .ref aF), (3, .int (nI i1))]) hx hb dX0_ofAll_23 rfl hl (by decide) rfl (fun ls hl => ?_)
      refine lv_iinc (v := nI (i1 + 1)) (lv' := [(3, .int (nI (i1 + 1))), (2, .int ((f_X0_ofAll_4_v2 fr i1) + (fr i1))), (0, .ref aE), (1, .ref aF)]) hx hb dX0_ofAll_24 hl (k := 3) rfl (nI_add i1 1) (by decide) rfl (fun ls hl => ?_)
      refine lv_goto (tgt := 4) hx hb dX0_ofAll_27 (by decide) ?_
      have e_v2 : (f_X0_ofAll_4_v2 fr (i1 + 1)) = ((f_X0_ofAll_4_v2 fr i1) + (fr i1)) := (by simp only [f_X0_ofAll_4_v2])
      exact ih4 (i1 + 1) (by omega) ls (by rw [e_v2]; exact lv_sub hl [2, 3, 1, 0] rfl)
  exact lp4 pe 0 (by omega) ls (lv_sub hl [2, 3, 1, 0] rfl)

def rm_X0_tell : Room := { frames := 0, cells := 0, slots := 0, locals := 0 }
def f_X0_tell (to : Int32) : Int32 := (if to < 8 then (to + 1) else (-104))
def f_X0_tell_E_6 (to : Int32) : Int32 := (if to < 8 then (to + 1) else to)
def f_X0_tell_El (to : Int32) (tl : Nat → Int32) (isLit : Int32) (lamp : Int32) (minute : Int32) : Nat → Int32 := (if to < 8 then (if isLit = 0 then tl else (upd tl minute.toNatClampNeg ((tl minute.toNatClampNeg) ||| (1 <<< (lamp &&& 31))))) else tl)
def f_X0_tell_Et (to : Int32) (td : Nat → Int32) (isLit : Int32) (lamp : Int32) (minute : Int32) : Nat → Int32 := (if to < 8 then (if isLit = 0 then (upd td minute.toNatClampNeg ((td minute.toNatClampNeg) ||| (1 <<< (lamp &&& 31)))) else td) else td)
theorem hd_X0_tell : yX0_tell.cls = RX0 ∧ yX0_tell.cls ≠ "java/lang/invoke/MethodHandle" ∧ yX0_tell.cls ≠ "java/lang/invoke/VarHandle" ∧ (parseMethodDescriptor yX0_tell.desc).map (fun d => d.parameters.length) = some 3 := by decide +kernel
set_option maxHeartbeats 4000000 in
set_option maxRecDepth 100000 in
theorem c_X0_tell (l : Launch) (D : va_G) (cI : ClassId) (aE aEs aEw aEd aEl aEt : Nat) (li : Int32) (mi : Int32) (pe : Nat) (to : Int32) (tl : Nat → Int32) (td : Nat → Int32) (isLit : Int32) (lamp : Int32) (minute : Int32) (hv_minute : vp_in minute 7) : MetX l yX0_tell wsX0_tell rm_X0_tell D cI [.ref aE, .int minute, .int lamp, .int isLit] [(aE, .inr (0, [.int li, .int mi, .int (nI pe), .ref aEs, .ref aEw, .ref aEd, .int to, .ref aEl, .ref aEt])), (aEl, .inl (cI, 7, .inl tl)), (aEt, .inl (cI, 7, .inl td))] (some (.int (f_X0_tell to))) [(aE, .inr (0, [.int li, .int mi, .int (nI pe), .ref aEs, .ref aEw, .ref aEd, .int (f_X0_tell_E_6 to), .ref aEl, .ref aEt])), (aEl, .inl (cI, 7, .inl (f_X0_tell_El to tl isLit lamp minute))), (aEt, .inl (cI, 7, .inl (f_X0_tell_Et to td isLit lamp minute)))] := by
  refine mX (cc := cX0_tell) (maxL := 4) (ret := (some .int)) (by decide) rfl (Nat.le_of_ble_eq_true rfl) ?_
  intro p e s m args below meth c Q A hx hb hr hml hown hts hlk hP hK hD hA hS hQ ls hl
  have hown : s.vm.findClass RX0 = some m.cls := hown
  have hl : lv_has ls 4 [(0, .ref aE), (1, .int minute), (2, .int lamp), (3, .int isLit)] := hl
  have w1 := hts (.fieldLink RX0 40 "DarkOffice$Evening" "told" "I") (List.mem_of_getElem? (i := 1) rfl)
  have uX0 : ∀ w ∈ wsX00, w ∈ wsX0_tell := fun _ h => List.mem_cons_of_mem _ (List.mem_append_right _ h)
  have w3 := hts (.fieldLink RX0 24 "DarkOffice$Evening" "toldDark" "[I") (List.mem_of_getElem? (i := 3) rfl)
  have w2 := hts (.fieldLink RX0 21 "DarkOffice$Evening" "toldLit" "[I") (List.mem_of_getElem? (i := 2) rfl)
  refine lv_aload_n hx hb dX0_tell_0 rfl (lv_at hl 0 rfl) ?_
  refine va_get (D := D) (ci := 0) (v := .int to) (C := RX0) (T := TX0) (N := 9) hx hb hts uX0 hown hK hP 0 rfl rfl 6 (by decide) w1 (fun _ h9 => h9) rfl dX0_tell_1 ?_
  refine lv_bipush (v := 8) hx hb dX0_tell_4 (by decide) ?_
  refine lv_icmp_lt (tgt := 12) hx hb dX0_tell_6 (by decide) (fun c1 => ?_) (fun c1 => ?_)
  · refine lv_iload_n hx hb dX0_tell_12 rfl (lv_at hl 3 rfl) ?_
    refine lv_if_eq (tgt := 31) hx hb dX0_tell_13 (by decide) (fun c2 => ?_) (fun c2 => ?_)
    · refine lv_aload_n hx hb dX0_tell_31 rfl (lv_at hl 0 rfl) ?_
      refine va_get (D := D) (ci := 0) (v := .ref aEt) (C := RX0) (T := TX0) (N := 9) hx hb hts uX0 hown hK hP 0 rfl rfl 8 (by decide) w3 (fun _ h9 => h9) rfl dX0_tell_32 ?_
      refine lv_iload_n hx hb dX0_tell_35 rfl (lv_at hl 1 rfl) ?_
      refine lv_dup2_11 hx hb dX0_tell_36 rfl rfl ?_
      refine va_iald hx hb hK hP 2 0 rfl rfl hv_minute dX0_tell_37 ?_
      refine lv_iconst (v := 1) hx hb dX0_tell_38 (by decide) ?_
      refine lv_iload_n hx hb dX0_tell_39 rfl (lv_at hl 2 rfl) ?_
      refine lv_ishl hx hb dX0_tell_40 ?_
      refine lv_ior hx hb dX0_tell_41 ?_
      refine va_iast hx hb hK hP hD hS 2 0 rfl rfl hv_minute dX0_tell_42 (fun H locs hP hD hS => ?_)
      have hP : va_P D vwCl [(aE, .inr (0, [.int li, .int mi, .int (nI pe), .ref aEs, .ref aEw, .ref aEd, .int to, .ref aEl, .ref aEt])), (aEl, .inl (cI, 7, .inl tl)), (aEt, .inl (cI, 7, .inl (upd td minute.toNatClampNeg ((td minute.toNatClampNeg) ||| (1 <<< (lamp &&& 31))))))] H := hP
      have hD : va_D A [(aE, .inr (0, [.int li, .int mi, .int (nI pe), .ref aEs, .ref aEw, .ref aEd, .int to, .ref aEl, .ref aEt])), (aEl, .inl (cI, 7, .inl tl)), (aEt, .inl (cI, 7, .inl (upd td minute.toNatClampNeg ((td minute.toNatClampNeg) ||| (1 <<< (lamp &&& 31))))))] := hD
      refine lv_aload_n hx hb dX0_tell_43 rfl (lv_at hl 0 rfl) ?_
      refine lv_dup hx hb dX0_tell_44 rfl ?_
      refine va_get (D := D) (ci := 0) (v := .int to) (C := RX0) (T := TX0) (N := 9) hx hb hts uX0 hown hK hP 0 rfl rfl 6 (by decide) w1 (fun _ h9 => h9) rfl dX0_tell_45 ?_
      refine lv_iconst (v := 1) hx hb dX0_tell_48 (by decide) ?_
      refine lv_iadd hx hb dX0_tell_49 ?_
      refine va_put (D := D) (ci := 0) (v := .int (to + 1)) (ty := .int) (C := RX0) (T := TX0) (N := 9) hx hb hts uX0 tyX0 tyX0_ok nmX0 hown hK hP hD hS 0 rfl rfl 6 (by decide) w1 (fun _ h9 => h9) rfl (by decide +kernel) rfl rfl (Nat.le_of_ble_eq_true rfl) dX0_tell_50 (fun H locs hP hD hS => ?_)
      have hP : va_P D vwCl [(aE, .inr (0, [.int li, .int mi, .int (nI pe), .ref aEs, .ref aEw, .ref aEd, .int (to + 1), .ref aEl, .ref aEt])), (aEl, .inl (cI, 7, .inl tl)), (aEt, .inl (cI, 7, .inl (upd td minute.toNatClampNeg ((td minute.toNatClampNeg) ||| (1 <<< (lamp &&& 31))))))] H := hP
      have hD : va_D A [(aE, .inr (0, [.int li, .int mi, .int (nI pe), .ref aEs, .ref aEw, .ref aEd, .int (to + 1), .ref aEl, .ref aEt])), (aEl, .inl (cI, 7, .inl tl)), (aEt, .inl (cI, 7, .inl (upd td minute.toNatClampNeg ((td minute.toNatClampNeg) ||| (1 <<< (lamp &&& 31))))))] := hD
      refine lv_aload_n hx hb dX0_tell_53 rfl (lv_at hl 0 rfl) ?_
      refine va_get (D := D) (ci := 0) (v := .int (to + 1)) (C := RX0) (T := TX0) (N := 9) hx hb hts uX0 hown hK hP 0 rfl rfl 6 (by decide) w1 (fun _ h9 => h9) rfl dX0_tell_54 ?_
      have e_E_6 : (f_X0_tell_E_6 to) = (to + 1) := (by simp only [f_X0_tell_E_6, if_pos c1, if_pos c2])
      have e_El : (f_X0_tell_El to tl isLit lamp minute) = tl := (by simp only [f_X0_tell_El, if_pos c1, if_pos c2])
      have e_Et : (f_X0_tell_Et to td isLit lamp minute) = (upd td minute.toNatClampNeg ((td minute.toNatClampNeg) ||| (1 <<< (lamp &&& 31)))) := (by simp only [f_X0_tell_Et, if_pos c1, if_pos c2])
      exact eXi hx hb hr hlk hQ (by rw [e_E_6, e_El, e_Et]; exact hP) (by rw [e_E_6, e_El, e_Et]; exact hD) hS dX0_tell_57 (Eq.symm (by simp only [f_X0_tell, if_pos c1, if_pos c2]))
    · refine lv_aload_n hx hb dX0_tell_16 rfl (lv_at hl 0 rfl) ?_
      refine va_get (D := D) (ci := 0) (v := .ref aEl) (C := RX0) (T := TX0) (N := 9) hx hb hts uX0 hown hK hP 0 rfl rfl 7 (by decide) w2 (fun _ h9 => h9) rfl dX0_tell_17 ?_
      refine lv_iload_n hx hb dX0_tell_20 rfl (lv_at hl 1 rfl) ?_
      refine lv_dup2_11 hx hb dX0_tell_21 rfl rfl ?_
      refine va_iald hx hb hK hP 1 0 rfl rfl hv_minute dX0_tell_22 ?_
      refine lv_iconst (v := 1) hx hb dX0_tell_23 (by decide) ?_
      refine lv_iload_n hx hb dX0_tell_24 rfl (lv_at hl 2 rfl) ?_
      refine lv_ishl hx hb dX0_tell_25 ?_
      refine lv_ior hx hb dX0_tell_26 ?_
      refine va_iast hx hb hK hP hD hS 1 0 rfl rfl hv_minute dX0_tell_27 (fun H locs hP hD hS => ?_)
      have hP : va_P D vwCl [(aE, .inr (0, [.int li, .int mi, .int (nI pe), .ref aEs, .ref aEw, .ref aEd, .int to, .ref aEl, .ref aEt])), (aEl, .inl (cI, 7, .inl (upd tl minute.toNatClampNeg ((tl minute.toNatClampNeg) ||| (1 <<< (lamp &&& 31)))))), (aEt, .inl (cI, 7, .inl td))] H := hP
      have hD : va_D A [(aE, .inr (0, [.int li, .int mi, .int (nI pe), .ref aEs, .ref aEw, .ref aEd, .int to, .ref aEl, .ref aEt])), (aEl, .inl (cI, 7, .inl (upd tl minute.toNatClampNeg ((tl minute.toNatClampNeg) ||| (1 <<< (lamp &&& 31)))))), (aEt, .inl (cI, 7, .inl td))] := hD
      refine lv_goto (tgt := 43) hx hb dX0_tell_28 (by decide) ?_
      refine lv_aload_n hx hb dX0_tell_43 rfl (lv_at hl 0 rfl) ?_
      refine lv_dup hx hb dX0_tell_44 rfl ?_
      refine va_get (D := D) (ci := 0) (v := .int to) (C := RX0) (T := TX0) (N := 9) hx hb hts uX0 hown hK hP 0 rfl rfl 6 (by decide) w1 (fun _ h9 => h9) rfl dX0_tell_45 ?_
      refine lv_iconst (v := 1) hx hb dX0_tell_48 (by decide) ?_
      refine lv_iadd hx hb dX0_tell_49 ?_
      refine va_put (D := D) (ci := 0) (v := .int (to + 1)) (ty := .int) (C := RX0) (T := TX0) (N := 9) hx hb hts uX0 tyX0 tyX0_ok nmX0 hown hK hP hD hS 0 rfl rfl 6 (by decide) w1 (fun _ h9 => h9) rfl (by decide +kernel) rfl rfl (Nat.le_of_ble_eq_true rfl) dX0_tell_50 (fun H locs hP hD hS => ?_)
      have hP : va_P D vwCl [(aE, .inr (0, [.int li, .int mi, .int (nI pe), .ref aEs, .ref aEw, .ref aEd, .int (to + 1), .ref aEl, .ref aEt])), (aEl, .inl (cI, 7, .inl (upd tl minute.toNatClampNeg ((tl minute.toNatClampNeg) ||| (1 <<< (lamp &&& 31)))))), (aEt, .inl (cI, 7, .inl td))] H := hP
      have hD : va_D A [(aE, .inr (0, [.int li, .int mi, .int (nI pe), .ref aEs, .ref aEw, .ref aEd, .int (to + 1), .ref aEl, .ref aEt])), (aEl, .inl (cI, 7, .inl (upd tl minute.toNatClampNeg ((tl minute.toNatClampNeg) ||| (1 <<< (lamp &&& 31)))))), (aEt, .inl (cI, 7, .inl td))] := hD
      refine lv_aload_n hx hb dX0_tell_53 rfl (lv_at hl 0 rfl) ?_
      refine va_get (D := D) (ci := 0) (v := .int (to + 1)) (C := RX0) (T := TX0) (N := 9) hx hb hts uX0 hown hK hP 0 rfl rfl 6 (by decide) w1 (fun _ h9 => h9) rfl dX0_tell_54 ?_
      have e_E_6 : (f_X0_tell_E_6 to) = (to + 1) := (by simp only [f_X0_tell_E_6, if_pos c1, if_neg c2])
      have e_El : (f_X0_tell_El to tl isLit lamp minute) = (upd tl minute.toNatClampNeg ((tl minute.toNatClampNeg) ||| (1 <<< (lamp &&& 31)))) := (by simp only [f_X0_tell_El, if_pos c1, if_neg c2])
      have e_Et : (f_X0_tell_Et to td isLit lamp minute) = td := (by simp only [f_X0_tell_Et, if_pos c1, if_neg c2])
      exact eXi hx hb hr hlk hQ (by rw [e_E_6, e_El, e_Et]; exact hP) (by rw [e_E_6, e_El, e_Et]; exact hD) hS dX0_tell_57 (Eq.symm (by simp only [f_X0_tell, if_pos c1, if_neg c2]))
  · refine lv_bipush (v := (-104)) hx hb dX0_tell_9 (by decide) ?_
    have e_E_6 : (f_X0_tell_E_6 to) = to := (by simp only [f_X0_tell_E_6, if_neg c1])
    have e_El : (f_X0_tell_El to tl isLit lamp minute) = tl := (by simp only [f_X0_tell_El, if_neg c1])
    have e_Et : (f_X0_tell_Et to td isLit lamp minute) = td := (by simp only [f_X0_tell_Et, if_neg c1])
    exact eXi hx hb hr hlk hQ (by rw [e_E_6, e_El, e_Et]; exact hP) (by rw [e_E_6, e_El, e_Et]; exact hD) hS dX0_tell_11 (Eq.symm (by simp only [f_X0_tell, if_neg c1]))

def rm_X0_emptyBook : Room := { frames := 0, cells := 0, slots := 0, locals := 0 }
def f_X0_emptyBook_7_El (tl : Nat → Int32) : Nat → (Nat → Int32)
  | 0 => tl
  | i1 + 1 => (upd (f_X0_emptyBook_7_El tl i1) i1 0)
def f_X0_emptyBook_7_Et (td : Nat → Int32) : Nat → (Nat → Int32)
  | 0 => td
  | i1 + 1 => (upd (f_X0_emptyBook_7_Et td i1) i1 0)
def f_X0_emptyBook_E_6  : Int32 := 0
def f_X0_emptyBook_El (tl : Nat → Int32) : Nat → Int32 := (f_X0_emptyBook_7_El tl 7)
def f_X0_emptyBook_Et (td : Nat → Int32) : Nat → Int32 := (f_X0_emptyBook_7_Et td 7)
theorem hd_X0_emptyBook : yX0_emptyBook.cls = RX0 ∧ yX0_emptyBook.cls ≠ "java/lang/invoke/MethodHandle" ∧ yX0_emptyBook.cls ≠ "java/lang/invoke/VarHandle" ∧ (parseMethodDescriptor yX0_emptyBook.desc).map (fun d => d.parameters.length) = some 0 := by decide +kernel
set_option maxHeartbeats 4000000 in
set_option maxRecDepth 100000 in
theorem c_X0_emptyBook (l : Launch) (D : va_G) (cI : ClassId) (aE aEs aEw aEd aEl aEt : Nat) (li : Int32) (mi : Int32) (pe : Nat) (to : Int32) (tl : Nat → Int32) (td : Nat → Int32) : MetX l yX0_emptyBook wsX0_emptyBook rm_X0_emptyBook D cI [.ref aE] [(aE, .inr (0, [.int li, .int mi, .int (nI pe), .ref aEs, .ref aEw, .ref aEd, .int to, .ref aEl, .ref aEt])), (aEl, .inl (cI, 7, .inl tl)), (aEt, .inl (cI, 7, .inl td))] none [(aE, .inr (0, [.int li, .int mi, .int (nI pe), .ref aEs, .ref aEw, .ref aEd, .int f_X0_emptyBook_E_6, .ref aEl, .ref aEt])), (aEl, .inl (cI, 7, .inl (f_X0_emptyBook_El tl))), (aEt, .inl (cI, 7, .inl (f_X0_emptyBook_Et td)))] := by
  refine mX (cc := cX0_emptyBook) (maxL := 2) (ret := none) (by decide) rfl (Nat.le_of_ble_eq_true rfl) ?_
  intro p e s m args below meth c Q A hx hb hr hml hown hts hlk hP hK hD hA hS hQ ls hl
  have hown : s.vm.findClass RX0 = some m.cls := hown
  have hl : lv_has ls 2 [(0, .ref aE)] := hl
  have w1 := hts (.fieldLink RX0 40 "DarkOffice$Evening" "told" "I") (List.mem_of_getElem? (i := 1) rfl)
  have uX0 : ∀ w ∈ wsX00, w ∈ wsX0_emptyBook := fun _ h => List.mem_cons_of_mem _ (List.mem_append_right _ h)
  have w2 := hts (.fieldLink RX0 21 "DarkOffice$Evening" "toldLit" "[I") (List.mem_of_getElem? (i := 2) rfl)
  have w3 := hts (.fieldLink RX0 24 "DarkOffice$Evening" "toldDark" "[I") (List.mem_of_getElem? (i := 3) rfl)
  refine lv_aload_n hx hb dX0_emptyBook_0 rfl (lv_at hl 0 rfl) ?_
  refine lv_iconst (v := 0) hx hb dX0_emptyBook_1 (by decide) ?_
  refine va_put (D := D) (ci := 0) (v := .int 0) (ty := .int) (C := RX0) (T := TX0) (N := 9) hx hb hts uX0 tyX0 tyX0_ok nmX0 hown hK hP hD hS 0 rfl rfl 6 (by decide) w1 (fun _ h9 => h9) rfl (by decide +kernel) rfl rfl (Nat.le_of_ble_eq_true rfl) dX0_emptyBook_2 (fun H locs hP hD hS => ?_)
  have hP : va_P D vwCl [(aE, .inr (0, [.int li, .int mi, .int (nI pe), .ref aEs, .ref aEw, .ref aEd, .int 0, .ref aEl, .ref aEt])), (aEl, .inl (cI, 7, .inl tl)), (aEt, .inl (cI, 7, .inl td))] H := hP
  have hD : va_D A [(aE, .inr (0, [.int li, .int mi, .int (nI pe), .ref aEs, .ref aEw, .ref aEd, .int 0, .ref aEl, .ref aEt])), (aEl, .inl (cI, 7, .inl tl)), (aEt, .inl (cI, 7, .inl td))] := hD
  refine lv_iconst (v := 0) hx hb dX0_emptyBook_5 (by decide) ?_
  refine lv_istore_n (lv' := [(1, .int 0), (0, .ref aE)]) hx hb dX0_emptyBook_6 rfl hl (by decide) rfl (fun ls hl => ?_)
  have lp7 : ∀ (k7 i1 : Nat), i1 + k7 = 7 → ∀ (H : Heap) (locs : List Loc), va_P D vwCl [(aE, .inr (0, [.int li, .int mi, .int (nI pe), .ref aEs, .ref aEw, .ref aEd, .int 0, .ref aEl, .ref aEt])), (aEl, .inl (cI, 7, .inl ((f_X0_emptyBook_7_El tl i1)))), (aEt, .inl (cI, 7, .inl ((f_X0_emptyBook_7_Et td i1))))] H → va_D A [(aE, .inr (0, [.int li, .int mi, .int (nI pe), .ref aEs, .ref aEw, .ref aEd, .int 0, .ref aEl, .ref aEt])), (aEl, .inl (cI, 7, .inl ((f_X0_emptyBook_7_El tl i1)))), (aEt, .inl (cI, 7, .inl ((f_X0_emptyBook_7_Et td i1))))] → va_S A s.heap H locs → ∀ ls : Array Slot, lv_has ls 2 [(0, .ref aE), (1, .int (nI i1))] → W p l e rm_X0_emptyBook s m args below meth c H locs 0 0 Q (F0 m 7 ls []) := by
    intro k7
    induction k7 with
    | zero =>
      intro i1 hk7 H locs hP hD hS ls hl
      have hN7 : 7 = i1 := by omega
      subst hN7
      refine lv_iload_n hx hb dX0_emptyBook_7 rfl (lv_at hl 1 rfl) ?_
      refine lv_bipush (v := 6) hx hb dX0_emptyBook_8 (by decide) ?_
      refine lv_icmp_gt (tgt := 33) hx hb dX0_emptyBook_10 (by decide) (fun _ => ?_) (fun c => absurd (nlt_t (a := 6) (b := 7) rfl rfl (by omega) (by omega) (by omega)) c)
      have e_E_6 : f_X0_emptyBook_E_6 = 0 := (by simp only [f_X0_emptyBook_E_6])
      have e_El : (f_X0_emptyBook_El tl) = (f_X0_emptyBook_7_El tl 7) := (by simp only [f_X0_emptyBook_El])
      have e_Et : (f_X0_emptyBook_Et td) = (f_X0_emptyBook_7_Et td 7) := (by simp only [f_X0_emptyBook_Et])
      exact eXv hx hb hr hlk hQ (by rw [e_E_6, e_El, e_Et]; exact hP) (by rw [e_E_6, e_El, e_Et]; exact hD) hS dX0_emptyBook_33
    | succ k7 ih7 =>
      intro i1 hk7 H locs hP hD hS ls hl
      refine lv_iload_n hx hb dX0_emptyBook_7 rfl (lv_at hl 1 rfl) ?_
      refine lv_bipush (v := 6) hx hb dX0_emptyBook_8 (by decide) ?_
      refine lv_icmp_gt (tgt := 33) hx hb dX0_emptyBook_10 (by decide) (fun c => absurd c (nlt_f (a := 6) (b := i1) rfl rfl (by omega) (by omega) (by omega))) (fun _ => ?_)
      refine lv_aload_n hx hb dX0_emptyBook_13 rfl (lv_at hl 0 rfl) ?_
      refine va_get (D := D) (ci := 0) (v := .ref aEl) (C := RX0) (T := TX0) (N := 9) hx hb hts uX0 hown hK hP 0 rfl rfl 7 (by decide) w2 (fun _ h9 => h9) rfl dX0_emptyBook_14 ?_
      refine lv_iload_n hx hb dX0_emptyBook_17 rfl (lv_at hl 1 rfl) ?_
      refine lv_iconst (v := 0) hx hb dX0_emptyBook_18 (by decide) ?_
      refine xast hx hb hK hP hD hS 1 rfl i1 rfl (by omega) (by decide) dX0_emptyBook_19 (fun H locs hP hD hS => ?_)
      have hP : va_P D vwCl [(aE, .inr (0, [.int li, .int mi, .int (nI pe), .ref aEs, .ref aEw, .ref aEd, .int 0, .ref aEl, .ref aEt])), (aEl, .inl (cI, 7, .inl (upd (f_X0_emptyBook_7_El tl i1) i1 0))), (aEt, .inl (cI, 7, .inl ((f_X0_emptyBook_7_Et td i1))))] H := hP
      have hD : va_D A [(aE, .inr (0, [.int li, .int mi, .int (nI pe), .ref aEs, .ref aEw, .ref aEd, .int 0, .ref aEl, .ref aEt])), (aEl, .inl (cI, 7, .inl (upd (f_X0_emptyBook_7_El tl i1) i1 0))), (aEt, .inl (cI, 7, .inl ((f_X0_emptyBook_7_Et td i1))))] := hD
      refine lv_aload_n hx hb dX0_emptyBook_20 rfl (lv_at hl 0 rfl) ?_
      refine va_get (D := D) (ci := 0) (v := .ref aEt) (C := RX0) (T := TX0) (N := 9) hx hb hts uX0 hown hK hP 0 rfl rfl 8 (by decide) w3 (fun _ h9 => h9) rfl dX0_emptyBook_21 ?_
      refine lv_iload_n hx hb dX0_emptyBook_24 rfl (lv_at hl 1 rfl) ?_
      refine lv_iconst (v := 0) hx hb dX0_emptyBook_25 (by decide) ?_
      refine xast hx hb hK hP hD hS 2 rfl i1 rfl (by omega) (by decide) dX0_emptyBook_26 (fun H locs hP hD hS => ?_)
      have hP : va_P D vwCl [(aE, .inr (0, [.int li, .int mi, .int (nI pe), .ref aEs, .ref aEw, .ref aEd, .int 0, .ref aEl, .ref aEt])), (aEl, .inl (cI, 7, .inl (upd (f_X0_emptyBook_7_El tl i1) i1 0))), (aEt, .inl (cI, 7, .inl (upd (f_X0_emptyBook_7_Et td i1) i1 0)))] H := hP
      have hD : va_D A [(aE, .inr (0, [.int li, .int mi, .int (nI pe), .ref aEs, .ref aEw, .ref aEd, .int 0, .ref aEl, .ref aEt])), (aEl, .inl (cI, 7, .inl (upd (f_X0_emptyBook_7_El tl i1) i1 0))), (aEt, .inl (cI, 7, .inl (upd (f_X0_emptyBook_7_Et td i1) i1 0)))] := hD
      refine lv_iinc (v := nI (i1 + 1)) (lv' := [(1, .int (nI (i1 + 1))), (0, .ref aE)]) hx hb dX0_emptyBook_27 hl (k := 1) rfl (nI_add i1 1) (by decide) rfl (fun ls hl => ?_)
      refine lv_goto (tgt := 7) hx hb dX0_emptyBook_30 (by decide) ?_
      have e_El : (f_X0_emptyBook_7_El tl (i1 + 1)) = (upd (f_X0_emptyBook_7_El tl i1) i1 0) := (by simp only [f_X0_emptyBook_7_El])
      have e_Et : (f_X0_emptyBook_7_Et td (i1 + 1)) = (upd (f_X0_emptyBook_7_Et td i1) i1 0) := (by simp only [f_X0_emptyBook_7_Et])
      exact ih7 (i1 + 1) (by omega) _ _ (by rw [e_El, e_Et]; exact hP) (by rw [e_El, e_Et]; exact hD) hS ls (lv_sub hl [1, 0] rfl)
  exact lp7 7 0 (by omega) _ _ hP hD hS ls (lv_sub hl [1, 0] rfl)

def rm_X0_begin : Room := { frames := 1, cells := 0, slots := 0, locals := 21 }
def f_X0_begin_E_0  : Int32 := 0
def f_X0_begin_E_1  : Int32 := 0
def f_X0_begin_E_2  : Int32 := 0
def f_X0_begin_E_6  : Int32 := f_X0_emptyBook_E_6
def f_X0_begin_El (tl : Nat → Int32) : Nat → Int32 := (f_X0_emptyBook_El tl)
def f_X0_begin_Et (td : Nat → Int32) : Nat → Int32 := (f_X0_emptyBook_Et td)
theorem hd_X0_begin : yX0_begin.cls = RX0 ∧ yX0_begin.cls ≠ "java/lang/invoke/MethodHandle" ∧ yX0_begin.cls ≠ "java/lang/invoke/VarHandle" ∧ (parseMethodDescriptor yX0_begin.desc).map (fun d => d.parameters.length) = some 0 := by decide +kernel
set_option maxHeartbeats 4000000 in
set_option maxRecDepth 100000 in
theorem c_X0_begin (l : Launch) (D : va_G) (cI : ClassId) (aE aEs aEw aEd aEl aEt : Nat) (li : Int32) (mi : Int32) (pe : Nat) (to : Int32) (tl : Nat → Int32) (td : Nat → Int32) : MetX l yX0_begin wsX0_begin rm_X0_begin D cI [.ref aE] [(aE, .inr (0, [.int li, .int mi, .int (nI pe), .ref aEs, .ref aEw, .ref aEd, .int to, .ref aEl, .ref aEt])), (aEl, .inl (cI, 7, .inl tl)), (aEt, .inl (cI, 7, .inl td))] none [(aE, .inr (0, [.int f_X0_begin_E_0, .int f_X0_begin_E_1, .int f_X0_begin_E_2, .ref aEs, .ref aEw, .ref aEd, .int f_X0_begin_E_6, .ref aEl, .ref aEt])), (aEl, .inl (cI, 7, .inl (f_X0_begin_El tl))), (aEt, .inl (cI, 7, .inl (f_X0_begin_Et td)))] := by
  refine mX (cc := cX0_begin) (maxL := 1) (ret := none) (by decide) rfl (Nat.le_of_ble_eq_true rfl) ?_
  intro p e s m args below meth c Q A hx hb hr hml hown hts hlk hP hK hD hA hS hQ ls hl
  have hown : s.vm.findClass RX0 = some m.cls := hown
  have hl : lv_has ls 1 [(0, .ref aE)] := hl
  have w1 := hts (.fieldLink RX0 27 "DarkOffice$Evening" "lit" "I") (List.mem_of_getElem? (i := 1) rfl)
  have uX0 : ∀ w ∈ wsX00, w ∈ wsX0_begin := fun _ h => List.mem_cons_of_mem _ (List.mem_append_right _ h)
  have w2 := hts (.fieldLink RX0 31 "DarkOffice$Evening" "minutes" "I") (List.mem_of_getElem? (i := 2) rfl)
  have w3 := hts (.fieldLink RX0 34 "DarkOffice$Evening" "people" "I") (List.mem_of_getElem? (i := 3) rfl)
  refine lv_aload_n hx hb dX0_begin_0 rfl (lv_at hl 0 rfl) ?_
  refine lv_iconst (v := 0) hx hb dX0_begin_1 (by decide) ?_
  refine va_put (D := D) (ci := 0) (v := .int 0) (ty := .int) (C := RX0) (T := TX0) (N := 9) hx hb hts uX0 tyX0 tyX0_ok nmX0 hown hK hP hD hS 0 rfl rfl 0 (by decide) w1 (fun _ h9 => h9) rfl (by decide +kernel) rfl rfl (Nat.le_of_ble_eq_true rfl) dX0_begin_2 (fun H locs hP hD hS => ?_)
  have hP : va_P D vwCl [(aE, .inr (0, [.int 0, .int mi, .int (nI pe), .ref aEs, .ref aEw, .ref aEd, .int to, .ref aEl, .ref aEt])), (aEl, .inl (cI, 7, .inl tl)), (aEt, .inl (cI, 7, .inl td))] H := hP
  have hD : va_D A [(aE, .inr (0, [.int 0, .int mi, .int (nI pe), .ref aEs, .ref aEw, .ref aEd, .int to, .ref aEl, .ref aEt])), (aEl, .inl (cI, 7, .inl tl)), (aEt, .inl (cI, 7, .inl td))] := hD
  refine lv_aload_n hx hb dX0_begin_5 rfl (lv_at hl 0 rfl) ?_
  refine lv_iconst (v := 0) hx hb dX0_begin_6 (by decide) ?_
  refine va_put (D := D) (ci := 0) (v := .int 0) (ty := .int) (C := RX0) (T := TX0) (N := 9) hx hb hts uX0 tyX0 tyX0_ok nmX0 hown hK hP hD hS 0 rfl rfl 1 (by decide) w2 (fun _ h9 => h9) rfl (by decide +kernel) rfl rfl (Nat.le_of_ble_eq_true rfl) dX0_begin_7 (fun H locs hP hD hS => ?_)
  have hP : va_P D vwCl [(aE, .inr (0, [.int 0, .int 0, .int (nI pe), .ref aEs, .ref aEw, .ref aEd, .int to, .ref aEl, .ref aEt])), (aEl, .inl (cI, 7, .inl tl)), (aEt, .inl (cI, 7, .inl td))] H := hP
  have hD : va_D A [(aE, .inr (0, [.int 0, .int 0, .int (nI pe), .ref aEs, .ref aEw, .ref aEd, .int to, .ref aEl, .ref aEt])), (aEl, .inl (cI, 7, .inl tl)), (aEt, .inl (cI, 7, .inl td))] := hD
  refine lv_aload_n hx hb dX0_begin_10 rfl (lv_at hl 0 rfl) ?_
  refine lv_iconst (v := 0) hx hb dX0_begin_11 (by decide) ?_
  refine va_put (D := D) (ci := 0) (v := .int 0) (ty := .int) (C := RX0) (T := TX0) (N := 9) hx hb hts uX0 tyX0 tyX0_ok nmX0 hown hK hP hD hS 0 rfl rfl 2 (by decide) w3 (fun _ h9 => h9) rfl (by decide +kernel) rfl rfl (Nat.le_of_ble_eq_true rfl) dX0_begin_12 (fun H locs hP hD hS => ?_)
  have hP : va_P D vwCl [(aE, .inr (0, [.int 0, .int 0, .int 0, .ref aEs, .ref aEw, .ref aEd, .int to, .ref aEl, .ref aEt])), (aEl, .inl (cI, 7, .inl tl)), (aEt, .inl (cI, 7, .inl td))] H := hP
  have hD : va_D A [(aE, .inr (0, [.int 0, .int 0, .int 0, .ref aEs, .ref aEw, .ref aEd, .int to, .ref aEl, .ref aEt])), (aEl, .inl (cI, 7, .inl tl)), (aEt, .inl (cI, 7, .inl td))] := hD
  refine lv_aload_n hx hb dX0_begin_15 rfl (lv_at hl 0 rfl) ?_
  refine xV (w2 := [(aE, .inr (0, [.int 0, .int 0, .int 0, .ref aEs, .ref aEw, .ref aEd, .int f_X0_emptyBook_E_6, .ref aEl, .ref aEt])), (aEl, .inl (cI, 7, .inl (f_X0_emptyBook_El tl))), (aEt, .inl (cI, 7, .inl (f_X0_emptyBook_Et td)))]) ⟨hx, hb, hml, hown, hts⟩ (c_X0_emptyBook l D cI aE aEs aEw aEd aEl aEt 0 0 0 to tl td) (cwV 0 hts gX0_begin_X0_emptyBook rfl rfl rfl hd_X0_emptyBook ⟨Nat.le_of_ble_eq_true rfl, Nat.le_of_ble_eq_true rfl⟩) hK hP hD hS hA [0, 1, 2] [] [0, 1, 2] rfl rfl rfl rfl rfl (by decide) rfl rfl rfl 0 rfl rfl rfl rfl hl.1 (rest := []) (st' := []) rfl rfl (Nat.le_of_ble_eq_true rfl) dX0_begin_16 ⟨Nat.zero_le _, Nat.zero_le _⟩ (fun H locs hP hD hS => ?_)
  have e_E_0 : f_X0_begin_E_0 = 0 := (by simp only [f_X0_begin_E_0])
  have e_E_1 : f_X0_begin_E_1 = 0 := (by simp only [f_X0_begin_E_1])
  have e_E_2 : f_X0_begin_E_2 = 0 := (by simp only [f_X0_begin_E_2])
  have e_E_6 : f_X0_begin_E_6 = f_X0_emptyBook_E_6 := (by simp only [f_X0_begin_E_6])
  have e_El : (f_X0_begin_El tl) = (f_X0_emptyBook_El tl) := (by simp only [f_X0_begin_El])
  have e_Et : (f_X0_begin_Et td) = (f_X0_emptyBook_Et td) := (by simp only [f_X0_begin_Et])
  exact eXv hx hb hr hlk hQ (by rw [e_E_0, e_E_1, e_E_2, e_E_6, e_El, e_Et]; exact hP) (by rw [e_E_0, e_E_1, e_E_2, e_E_6, e_El, e_Et]; exact hD) hS dX0_begin_19

def rm_X0_seat : Room := { frames := 0, cells := 0, slots := 0, locals := 0 }
def f_X0_seat (pe : Nat) : Int32 := (if nI pe < 4 then nI pe else (-104))
def f_X0_seat_E_2 (pe : Nat) : Int32 := (if nI pe < 4 then (nI pe + 1) else nI pe)
def f_X0_seat_Es (pe : Nat) (sc : Nat → Int32) (sect : Int32) : Nat → Int32 := (if nI pe < 4 then (upd sc pe sect) else sc)
def f_X0_seat_Ew (pe : Nat) (wv : Nat → Int32) : Nat → Int32 := (if nI pe < 4 then (upd wv pe 0) else wv)
def f_X0_seat_Ed (pe : Nat) (dk : Nat → Int32) : Nat → Int32 := (if nI pe < 4 then (upd dk pe 0) else dk)
theorem hd_X0_seat : yX0_seat.cls = RX0 ∧ yX0_seat.cls ≠ "java/lang/invoke/MethodHandle" ∧ yX0_seat.cls ≠ "java/lang/invoke/VarHandle" ∧ (parseMethodDescriptor yX0_seat.desc).map (fun d => d.parameters.length) = some 1 := by decide +kernel
set_option maxHeartbeats 4000000 in
set_option maxRecDepth 100000 in
theorem c_X0_seat (l : Launch) (D : va_G) (cI : ClassId) (aE aEs aEw aEd aEl aEt : Nat) (li : Int32) (mi : Int32) (pe : Nat) (to : Int32) (sc : Nat → Int32) (wv : Nat → Int32) (dk : Nat → Int32) (sect : Int32) (hpe : pe ≤ 4) : MetX l yX0_seat wsX0_seat rm_X0_seat D cI [.ref aE, .int sect] [(aE, .inr (0, [.int li, .int mi, .int (nI pe), .ref aEs, .ref aEw, .ref aEd, .int to, .ref aEl, .ref aEt])), (aEs, .inl (cI, 4, .inl sc)), (aEw, .inl (cI, 4, .inl wv)), (aEd, .inl (cI, 4, .inl dk))] (some (.int (f_X0_seat pe))) [(aE, .inr (0, [.int li, .int mi, .int (f_X0_seat_E_2 pe), .ref aEs, .ref aEw, .ref aEd, .int to, .ref aEl, .ref aEt])), (aEs, .inl (cI, 4, .inl (f_X0_seat_Es pe sc sect))), (aEw, .inl (cI, 4, .inl (f_X0_seat_Ew pe wv))), (aEd, .inl (cI, 4, .inl (f_X0_seat_Ed pe dk)))] := by
  refine mX (cc := cX0_seat) (maxL := 3) (ret := (some .int)) (by decide) rfl (Nat.le_of_ble_eq_true rfl) ?_
  intro p e s m args below meth c Q A hx hb hr hml hown hts hlk hP hK hD hA hS hQ ls hl
  have hown : s.vm.findClass RX0 = some m.cls := hown
  have hl : lv_has ls 3 [(0, .ref aE), (1, .int sect)] := hl
  have w1 := hts (.fieldLink RX0 34 "DarkOffice$Evening" "people" "I") (List.mem_of_getElem? (i := 1) rfl)
  have uX0 : ∀ w ∈ wsX00, w ∈ wsX0_seat := fun _ h => List.mem_cons_of_mem _ (List.mem_append_right _ h)
  have w2 := hts (.fieldLink RX0 9 "DarkOffice$Evening" "sections" "[I") (List.mem_of_getElem? (i := 2) rfl)
  have w3 := hts (.fieldLink RX0 15 "DarkOffice$Evening" "waves" "[I") (List.mem_of_getElem? (i := 3) rfl)
  have w4 := hts (.fieldLink RX0 18 "DarkOffice$Evening" "darks" "[I") (List.mem_of_getElem? (i := 4) rfl)
  refine lv_aload_n hx hb dX0_seat_0 rfl (lv_at hl 0 rfl) ?_
  refine va_get (D := D) (ci := 0) (v := .int (nI pe)) (C := RX0) (T := TX0) (N := 9) hx hb hts uX0 hown hK hP 0 rfl rfl 2 (by decide) w1 (fun _ h9 => h9) rfl dX0_seat_1 ?_
  refine lv_iconst (v := 4) hx hb dX0_seat_4 (by decide) ?_
  refine lv_icmp_lt (tgt := 11) hx hb dX0_seat_5 (by decide) (fun c1 => ?_) (fun c1 => ?_)
  · have q1 : pe < 4 := nlt_d (a := pe) (b := 4) rfl rfl (by omega) (by omega) c1
    refine lv_aload_n hx hb dX0_seat_11 rfl (lv_at hl 0 rfl) ?_
    refine va_get (D := D) (ci := 0) (v := .int (nI pe)) (C := RX0) (T := TX0) (N := 9) hx hb hts uX0 hown hK hP 0 rfl rfl 2 (by decide) w1 (fun _ h9 => h9) rfl dX0_seat_12 ?_
    refine lv_istore_n (lv' := [(2, .int (nI pe)), (0, .ref aE), (1, .int sect)]) hx hb dX0_seat_15 rfl hl (by decide) rfl (fun ls hl => ?_)
    refine lv_aload_n hx hb dX0_seat_16 rfl (lv_at hl 1 rfl) ?_
    refine va_get (D := D) (ci := 0) (v := .ref aEs) (C := RX0) (T := TX0) (N := 9) hx hb hts uX0 hown hK hP 0 rfl rfl 3 (by decide) w2 (fun _ h9 => h9) rfl dX0_seat_17 ?_
    refine lv_iload_n hx hb dX0_seat_20 rfl (lv_at hl 0 rfl) ?_
    refine lv_iload_n hx hb dX0_seat_21 rfl (lv_at hl 2 rfl) ?_
    refine xast hx hb hK hP hD hS 1 rfl pe rfl (by omega) (by decide) dX0_seat_22 (fun H locs hP hD hS => ?_)
    have hP : va_P D vwCl [(aE, .inr (0, [.int li, .int mi, .int (nI pe), .ref aEs, .ref aEw, .ref aEd, .int to, .ref aEl, .ref aEt])), (aEs, .inl (cI, 4, .inl (upd sc pe sect))), (aEw, .inl (cI, 4, .inl wv)), (aEd, .inl (cI, 4, .inl dk))] H := hP
    have hD : va_D A [(aE, .inr (0, [.int li, .int mi, .int (nI pe), .ref aEs, .ref aEw, .ref aEd, .int to, .ref aEl, .ref aEt])), (aEs, .inl (cI, 4, .inl (upd sc pe sect))), (aEw, .inl (cI, 4, .inl wv)), (aEd, .inl (cI, 4, .inl dk))] := hD
    refine lv_aload_n hx hb dX0_seat_23 rfl (lv_at hl 1 rfl) ?_
    refine va_get (D := D) (ci := 0) (v := .ref aEw) (C := RX0) (T := TX0) (N := 9) hx hb hts uX0 hown hK hP 0 rfl rfl 4 (by decide) w3 (fun _ h9 => h9) rfl dX0_seat_24 ?_
    refine lv_iload_n hx hb dX0_seat_27 rfl (lv_at hl 0 rfl) ?_
    refine lv_iconst (v := 0) hx hb dX0_seat_28 (by decide) ?_
    refine xast hx hb hK hP hD hS 2 rfl pe rfl (by omega) (by decide) dX0_seat_29 (fun H locs hP hD hS => ?_)
    have hP : va_P D vwCl [(aE, .inr (0, [.int li, .int mi, .int (nI pe), .ref aEs, .ref aEw, .ref aEd, .int to, .ref aEl, .ref aEt])), (aEs, .inl (cI, 4, .inl (upd sc pe sect))), (aEw, .inl (cI, 4, .inl (upd wv pe 0))), (aEd, .inl (cI, 4, .inl dk))] H := hP
    have hD : va_D A [(aE, .inr (0, [.int li, .int mi, .int (nI pe), .ref aEs, .ref aEw, .ref aEd, .int to, .ref aEl, .ref aEt])), (aEs, .inl (cI, 4, .inl (upd sc pe sect))), (aEw, .inl (cI, 4, .inl (upd wv pe 0))), (aEd, .inl (cI, 4, .inl dk))] := hD
    refine lv_aload_n hx hb dX0_seat_30 rfl (lv_at hl 1 rfl) ?_
    refine va_get (D := D) (ci := 0) (v := .ref aEd) (C := RX0) (T := TX0) (N := 9) hx hb hts uX0 hown hK hP 0 rfl rfl 5 (by decide) w4 (fun _ h9 => h9) rfl dX0_seat_31 ?_
    refine lv_iload_n hx hb dX0_seat_34 rfl (lv_at hl 0 rfl) ?_
    refine lv_iconst (v := 0) hx hb dX0_seat_35 (by decide) ?_
    refine xast hx hb hK hP hD hS 3 rfl pe rfl (by omega) (by decide) dX0_seat_36 (fun H locs hP hD hS => ?_)
    have hP : va_P D vwCl [(aE, .inr (0, [.int li, .int mi, .int (nI pe), .ref aEs, .ref aEw, .ref aEd, .int to, .ref aEl, .ref aEt])), (aEs, .inl (cI, 4, .inl (upd sc pe sect))), (aEw, .inl (cI, 4, .inl (upd wv pe 0))), (aEd, .inl (cI, 4, .inl (upd dk pe 0)))] H := hP
    have hD : va_D A [(aE, .inr (0, [.int li, .int mi, .int (nI pe), .ref aEs, .ref aEw, .ref aEd, .int to, .ref aEl, .ref aEt])), (aEs, .inl (cI, 4, .inl (upd sc pe sect))), (aEw, .inl (cI, 4, .inl (upd wv pe 0))), (aEd, .inl (cI, 4, .inl (upd dk pe 0)))] := hD
    refine lv_aload_n hx hb dX0_seat_37 rfl (lv_at hl 1 rfl) ?_
    refine lv_dup hx hb dX0_seat_38 rfl ?_
    refine va_get (D := D) (ci := 0) (v := .int (nI pe)) (C := RX0) (T := TX0) (N := 9) hx hb hts uX0 hown hK hP 0 rfl rfl 2 (by decide) w1 (fun _ h9 => h9) rfl dX0_seat_39 ?_
    refine lv_iconst (v := 1) hx hb dX0_seat_42 (by decide) ?_
    refine lv_iadd hx hb dX0_seat_43 ?_
    refine va_put (D := D) (ci := 0) (v := .int (nI pe + 1)) (ty := .int) (C := RX0) (T := TX0) (N := 9) hx hb hts uX0 tyX0 tyX0_ok nmX0 hown hK hP hD hS 0 rfl rfl 2 (by decide) w1 (fun _ h9 => h9) rfl (by decide +kernel) rfl rfl (Nat.le_of_ble_eq_true rfl) dX0_seat_44 (fun H locs hP hD hS => ?_)
    have hP : va_P D vwCl [(aE, .inr (0, [.int li, .int mi, .int (nI pe + 1), .ref aEs, .ref aEw, .ref aEd, .int to, .ref aEl, .ref aEt])), (aEs, .inl (cI, 4, .inl (upd sc pe sect))), (aEw, .inl (cI, 4, .inl (upd wv pe 0))), (aEd, .inl (cI, 4, .inl (upd dk pe 0)))] H := hP
    have hD : va_D A [(aE, .inr (0, [.int li, .int mi, .int (nI pe + 1), .ref aEs, .ref aEw, .ref aEd, .int to, .ref aEl, .ref aEt])), (aEs, .inl (cI, 4, .inl (upd sc pe sect))), (aEw, .inl (cI, 4, .inl (upd wv pe 0))), (aEd, .inl (cI, 4, .inl (upd dk pe 0)))] := hD
    refine lv_iload_n hx hb dX0_seat_47 rfl (lv_at hl 0 rfl) ?_
    have e_E_2 : (f_X0_seat_E_2 pe) = (nI pe + 1) := (by simp only [f_X0_seat_E_2, if_pos c1])
    have e_Es : (f_X0_seat_Es pe sc sect) = (upd sc pe sect) := (by simp only [f_X0_seat_Es, if_pos c1])
    have e_Ew : (f_X0_seat_Ew pe wv) = (upd wv pe 0) := (by simp only [f_X0_seat_Ew, if_pos c1])
    have e_Ed : (f_X0_seat_Ed pe dk) = (upd dk pe 0) := (by simp only [f_X0_seat_Ed, if_pos c1])
    exact eXi hx hb hr hlk hQ (by rw [e_E_2, e_Es, e_Ew, e_Ed]; exact hP) (by rw [e_E_2, e_Es, e_Ew, e_Ed]; exact hD) hS dX0_seat_48 (Eq.symm (by simp only [f_X0_seat, if_pos c1]))
  · have q1 : 4 ≤ pe := nlt_e (a := pe) (b := 4) rfl rfl (by omega) (by omega) c1
    refine lv_bipush (v := (-104)) hx hb dX0_seat_8 (by decide) ?_
    have e_E_2 : (f_X0_seat_E_2 pe) = nI pe := (by simp only [f_X0_seat_E_2, if_neg c1])
    have e_Es : (f_X0_seat_Es pe sc sect) = sc := (by simp only [f_X0_seat_Es, if_neg c1])
    have e_Ew : (f_X0_seat_Ew pe wv) = wv := (by simp only [f_X0_seat_Ew, if_neg c1])
    have e_Ed : (f_X0_seat_Ed pe dk) = dk := (by simp only [f_X0_seat_Ed, if_neg c1])
    exact eXi hx hb hr hlk hQ (by rw [e_E_2, e_Es, e_Ew, e_Ed]; exact hP) (by rw [e_E_2, e_Es, e_Ew, e_Ed]; exact hD) hS dX0_seat_10 (Eq.symm (by simp only [f_X0_seat, if_neg c1]))

def rm_X0_bookAgrees : Room := { frames := 0, cells := 0, slots := 0, locals := 0 }
def f_X0_bookAgrees (tl : Nat → Int32) (td : Nat → Int32) (litOnes : Int32) (minute : Int32) : Int32 := (if minute < 0 then 1 else (if minute ≤ 6 then (if ((tl minute.toNatClampNeg) &&& (litOnes ^^^ (-1))) = 0 then (if ((td minute.toNatClampNeg) &&& litOnes) = 0 then 1 else 0) else 0) else 1))
theorem hd_X0_bookAgrees : yX0_bookAgrees.cls = RX0 ∧ yX0_bookAgrees.cls ≠ "java/lang/invoke/MethodHandle" ∧ yX0_bookAgrees.cls ≠ "java/lang/invoke/VarHandle" ∧ (parseMethodDescriptor yX0_bookAgrees.desc).map (fun d => d.parameters.length) = some 2 := by decide +kernel
set_option maxHeartbeats 4000000 in
set_option maxRecDepth 100000 in
theorem c_X0_bookAgrees (l : Launch) (D : va_G) (cI : ClassId) (aE aEs aEw aEd aEl aEt : Nat) (li : Int32) (mi : Int32) (pe : Nat) (to : Int32) (tl : Nat → Int32) (td : Nat → Int32) (litOnes : Int32) (minute : Int32) : MetR l yX0_bookAgrees wsX0_bookAgrees rm_X0_bookAgrees D cI [.ref aE, .int minute, .int litOnes] [(aE, .inr (0, [.int li, .int mi, .int (nI pe), .ref aEs, .ref aEw, .ref aEd, .int to, .ref aEl, .ref aEt])), (aEl, .inl (cI, 7, .inl tl)), (aEt, .inl (cI, 7, .inl td))] (some (.int (f_X0_bookAgrees tl td litOnes minute))) := by
  refine mR (cc := cX0_bookAgrees) (maxL := 3) (ret := (some .boolean)) (by decide) rfl (Nat.le_of_ble_eq_true rfl) ?_
  intro p e s m args below meth c Q hx hb hr hml hown hts hlk hP hK hQ ls hl
  have hown : s.vm.findClass RX0 = some m.cls := hown
  have hl : lv_has ls 3 [(0, .ref aE), (1, .int minute), (2, .int litOnes)] := hl
  have w1 := hts (.fieldLink RX0 21 "DarkOffice$Evening" "toldLit" "[I") (List.mem_of_getElem? (i := 1) rfl)
  have uX0 : ∀ w ∈ wsX00, w ∈ wsX0_bookAgrees := fun _ h => List.mem_cons_of_mem _ (List.mem_append_right _ h)
  have w2 := hts (.fieldLink RX0 24 "DarkOffice$Evening" "toldDark" "[I") (List.mem_of_getElem? (i := 2) rfl)
  refine lv_iload_n hx hb dX0_bookAgrees_0 rfl (lv_at hl 1 rfl) ?_
  refine lv_if_lt (tgt := 10) hx hb dX0_bookAgrees_1 (by decide) (fun c1 => ?_) (fun c1 => ?_)
  · refine lv_iconst (v := 1) hx hb dX0_bookAgrees_10 (by decide) ?_
    exact eRz hx hb hr hlk hQ dX0_bookAgrees_11 rfl (Eq.symm (by simp only [f_X0_bookAgrees, if_pos c1]))
  · refine lv_iload_n hx hb dX0_bookAgrees_4 rfl (lv_at hl 1 rfl) ?_
    refine lv_bipush (v := 6) hx hb dX0_bookAgrees_5 (by decide) ?_
    refine lv_icmp_le (tgt := 12) hx hb dX0_bookAgrees_7 (by decide) (fun c2 => ?_) (fun c2 => ?_)
    · refine lv_aload_n hx hb dX0_bookAgrees_12 rfl (lv_at hl 0 rfl) ?_
      refine va_get (D := D) (ci := 0) (v := .ref aEl) (C := RX0) (T := TX0) (N := 9) hx hb hts uX0 hown hK hP 0 rfl rfl 7 (by decide) w1 (fun _ h9 => h9) rfl dX0_bookAgrees_13 ?_
      refine lv_iload_n hx hb dX0_bookAgrees_16 rfl (lv_at hl 1 rfl) ?_
      refine va_iald hx hb hK hP 1 0 rfl rfl (vin6 c1 c2) dX0_bookAgrees_17 ?_
      refine lv_iload_n hx hb dX0_bookAgrees_18 rfl (lv_at hl 2 rfl) ?_
      refine lv_iconst (v := (-1)) hx hb dX0_bookAgrees_19 (by decide) ?_
      refine lv_ixor hx hb dX0_bookAgrees_20 ?_
      refine lv_iand hx hb dX0_bookAgrees_21 ?_
      refine lv_if_ne (tgt := 40) hx hb dX0_bookAgrees_22 (by decide) (fun c3 => ?_) (fun c3 => ?_)
      · refine lv_iconst (v := 0) hx hb dX0_bookAgrees_40 (by decide) ?_
        exact eRz hx hb hr hlk hQ dX0_bookAgrees_41 rfl (Eq.symm (by simp only [f_X0_bookAgrees, if_neg c1, if_pos c2, if_neg c3]))
      · refine lv_aload_n hx hb dX0_bookAgrees_25 rfl (lv_at hl 0 rfl) ?_
        refine va_get (D := D) (ci := 0) (v := .ref aEt) (C := RX0) (T := TX0) (N := 9) hx hb hts uX0 hown hK hP 0 rfl rfl 8 (by decide) w2 (fun _ h9 => h9) rfl dX0_bookAgrees_26 ?_
        refine lv_iload_n hx hb dX0_bookAgrees_29 rfl (lv_at hl 1 rfl) ?_
        refine va_iald hx hb hK hP 2 0 rfl rfl (vin6 c1 c2) dX0_bookAgrees_30 ?_
        refine lv_iload_n hx hb dX0_bookAgrees_31 rfl (lv_at hl 2 rfl) ?_
        refine lv_iand hx hb dX0_bookAgrees_32 ?_
        refine lv_if_ne (tgt := 40) hx hb dX0_bookAgrees_33 (by decide) (fun c4 => ?_) (fun c4 => ?_)
        · refine lv_iconst (v := 0) hx hb dX0_bookAgrees_40 (by decide) ?_
          exact eRz hx hb hr hlk hQ dX0_bookAgrees_41 rfl (Eq.symm (by simp only [f_X0_bookAgrees, if_neg c1, if_pos c2, if_pos c3, if_neg c4]))
        · refine lv_iconst (v := 1) hx hb dX0_bookAgrees_36 (by decide) ?_
          refine lv_goto (tgt := 41) hx hb dX0_bookAgrees_37 (by decide) ?_
          exact eRz hx hb hr hlk hQ dX0_bookAgrees_41 rfl (Eq.symm (by simp only [f_X0_bookAgrees, if_neg c1, if_pos c2, if_pos c3, if_pos c4]))
    · refine lv_iconst (v := 1) hx hb dX0_bookAgrees_10 (by decide) ?_
      exact eRz hx hb hr hlk hQ dX0_bookAgrees_11 rfl (Eq.symm (by simp only [f_X0_bookAgrees, if_neg c1, if_neg c2]))

def rm_X0_copy : Room := { frames := 0, cells := 0, slots := 0, locals := 0 }
def f_X0_copy_83_El (tl : Nat → Int32) (ktl : Nat → Int32) : Nat → (Nat → Int32)
  | 0 => tl
  | i2 + 1 => (upd (f_X0_copy_83_El tl ktl i2) i2 (ktl i2))
def f_X0_copy_83_Et (td : Nat → Int32) (ktd : Nat → Int32) : Nat → (Nat → Int32)
  | 0 => td
  | i2 + 1 => (upd (f_X0_copy_83_Et td ktd i2) i2 (ktd i2))
def f_X0_copy_34_Es (sc : Nat → Int32) (ksc : Nat → Int32) : Nat → (Nat → Int32)
  | 0 => sc
  | i1 + 1 => (upd (f_X0_copy_34_Es sc ksc i1) i1 (ksc i1))
def f_X0_copy_34_Ew (wv : Nat → Int32) (kwv : Nat → Int32) : Nat → (Nat → Int32)
  | 0 => wv
  | i1 + 1 => (upd (f_X0_copy_34_Ew wv kwv i1) i1 (kwv i1))
def f_X0_copy_34_Ed (dk : Nat → Int32) (kdk : Nat → Int32) : Nat → (Nat → Int32)
  | 0 => dk
  | i1 + 1 => (upd (f_X0_copy_34_Ed dk kdk i1) i1 (kdk i1))
def f_X0_copy_E_0 (kli : Int32) : Int32 := kli
def f_X0_copy_E_1 (kmi : Int32) : Int32 := kmi
def f_X0_copy_E_2 (kpe : Int32) : Int32 := kpe
def f_X0_copy_E_6 (kto : Int32) : Int32 := kto
def f_X0_copy_Es (sc : Nat → Int32) (ksc : Nat → Int32) : Nat → Int32 := (f_X0_copy_34_Es sc ksc 4)
def f_X0_copy_Ew (wv : Nat → Int32) (kwv : Nat → Int32) : Nat → Int32 := (f_X0_copy_34_Ew wv kwv 4)
def f_X0_copy_Ed (dk : Nat → Int32) (kdk : Nat → Int32) : Nat → Int32 := (f_X0_copy_34_Ed dk kdk 4)
def f_X0_copy_El (tl : Nat → Int32) (ktl : Nat → Int32) : Nat → Int32 := (f_X0_copy_83_El tl ktl 7)
def f_X0_copy_Et (td : Nat → Int32) (ktd : Nat → Int32) : Nat → Int32 := (f_X0_copy_83_Et td ktd 7)
theorem hd_X0_copy : yX0_copy.cls = RX0 ∧ yX0_copy.cls ≠ "java/lang/invoke/MethodHandle" ∧ yX0_copy.cls ≠ "java/lang/invoke/VarHandle" ∧ (parseMethodDescriptor yX0_copy.desc).map (fun d => d.parameters.length) = some 1 := by decide +kernel
set_option maxHeartbeats 4000000 in
set_option maxRecDepth 100000 in
theorem c_X0_copy (l : Launch) (D : va_G) (cI : ClassId) (aE aEs aEw aEd aEl aEt aK aKs aKw aKd aKl aKt : Nat) (li : Int32) (mi : Int32) (to : Int32) (sc : Nat → Int32) (wv : Nat → Int32) (dk : Nat → Int32) (tl : Nat → Int32) (td : Nat → Int32) (kli : Int32) (kmi : Int32) (kpe : Int32) (kto : Int32) (ksc : Nat → Int32) (kwv : Nat → Int32) (kdk : Nat → Int32) (ktl : Nat → Int32) (ktd : Nat → Int32) (qe : Int32) : MetX l yX0_copy wsX0_copy rm_X0_copy D cI [.ref aE, .ref aK] [(aE, .inr (0, [.int li, .int mi, .int qe, .ref aEs, .ref aEw, .ref aEd, .int to, .ref aEl, .ref aEt])), (aEs, .inl (cI, 4, .inl sc)), (aEw, .inl (cI, 4, .inl wv)), (aEd, .inl (cI, 4, .inl dk)), (aEl, .inl (cI, 7, .inl tl)), (aEt, .inl (cI, 7, .inl td)), (aK, .inr (0, [.int kli, .int kmi, .int kpe, .ref aKs, .ref aKw, .ref aKd, .int kto, .ref aKl, .ref aKt])), (aKs, .inl (cI, 4, .inl ksc)), (aKw, .inl (cI, 4, .inl kwv)), (aKd, .inl (cI, 4, .inl kdk)), (aKl, .inl (cI, 7, .inl ktl)), (aKt, .inl (cI, 7, .inl ktd))] none [(aE, .inr (0, [.int (f_X0_copy_E_0 kli), .int (f_X0_copy_E_1 kmi), .int (f_X0_copy_E_2 kpe), .ref aEs, .ref aEw, .ref aEd, .int (f_X0_copy_E_6 kto), .ref aEl, .ref aEt])), (aEs, .inl (cI, 4, .inl (f_X0_copy_Es sc ksc))), (aEw, .inl (cI, 4, .inl (f_X0_copy_Ew wv kwv))), (aEd, .inl (cI, 4, .inl (f_X0_copy_Ed dk kdk))), (aEl, .inl (cI, 7, .inl (f_X0_copy_El tl ktl))), (aEt, .inl (cI, 7, .inl (f_X0_copy_Et td ktd))), (aK, .inr (0, [.int kli, .int kmi, .int kpe, .ref aKs, .ref aKw, .ref aKd, .int kto, .ref aKl, .ref aKt])), (aKs, .inl (cI, 4, .inl ksc)), (aKw, .inl (cI, 4, .inl kwv)), (aKd, .inl (cI, 4, .inl kdk)), (aKl, .inl (cI, 7, .inl ktl)), (aKt, .inl (cI, 7, .inl ktd))] := by
  refine mX (cc := cX0_copy) (maxL := 3) (ret := none) (by decide) rfl (Nat.le_of_ble_eq_true rfl) ?_
  intro p e s m args below meth c Q A hx hb hr hml hown hts hlk hP hK hD hA hS hQ ls hl
  have hown : s.vm.findClass RX0 = some m.cls := hown
  have hl : lv_has ls 3 [(0, .ref aE), (1, .ref aK)] := hl
  have w1 := hts (.fieldLink RX0 27 "DarkOffice$Evening" "lit" "I") (List.mem_of_getElem? (i := 1) rfl)
  have uX0 : ∀ w ∈ wsX00, w ∈ wsX0_copy := fun _ h => List.mem_cons_of_mem _ (List.mem_append_right _ h)
  have w2 := hts (.fieldLink RX0 31 "DarkOffice$Evening" "minutes" "I") (List.mem_of_getElem? (i := 2) rfl)
  have w3 := hts (.fieldLink RX0 34 "DarkOffice$Evening" "people" "I") (List.mem_of_getElem? (i := 3) rfl)
  have w4 := hts (.fieldLink RX0 40 "DarkOffice$Evening" "told" "I") (List.mem_of_getElem? (i := 4) rfl)
  have w8 := hts (.fieldLink RX0 21 "DarkOffice$Evening" "toldLit" "[I") (List.mem_of_getElem? (i := 8) rfl)
  have w9 := hts (.fieldLink RX0 24 "DarkOffice$Evening" "toldDark" "[I") (List.mem_of_getElem? (i := 9) rfl)
  have w5 := hts (.fieldLink RX0 9 "DarkOffice$Evening" "sections" "[I") (List.mem_of_getElem? (i := 5) rfl)
  have w6 := hts (.fieldLink RX0 15 "DarkOffice$Evening" "waves" "[I") (List.mem_of_getElem? (i := 6) rfl)
  have w7 := hts (.fieldLink RX0 18 "DarkOffice$Evening" "darks" "[I") (List.mem_of_getElem? (i := 7) rfl)
  refine lv_aload_n hx hb dX0_copy_0 rfl (lv_at hl 0 rfl) ?_
  refine lv_aload_n hx hb dX0_copy_1 rfl (lv_at hl 1 rfl) ?_
  refine va_get (D := D) (ci := 0) (v := .int kli) (C := RX0) (T := TX0) (N := 9) hx hb hts uX0 hown hK hP 6 rfl rfl 0 (by decide) w1 (fun _ h9 => h9) rfl dX0_copy_2 ?_
  refine va_put (D := D) (ci := 0) (v := .int kli) (ty := .int) (C := RX0) (T := TX0) (N := 9) hx hb hts uX0 tyX0 tyX0_ok nmX0 hown hK hP hD hS 0 rfl rfl 0 (by decide) w1 (fun _ h9 => h9) rfl (by decide +kernel) rfl rfl (Nat.le_of_ble_eq_true rfl) dX0_copy_5 (fun H locs hP hD hS => ?_)
  have hP : va_P D vwCl [(aE, .inr (0, [.int kli, .int mi, .int qe, .ref aEs, .ref aEw, .ref aEd, .int to, .ref aEl, .ref aEt])), (aEs, .inl (cI, 4, .inl sc)), (aEw, .inl (cI, 4, .inl wv)), (aEd, .inl (cI, 4, .inl dk)), (aEl, .inl (cI, 7, .inl tl)), (aEt, .inl (cI, 7, .inl td)), (aK, .inr (0, [.int kli, .int kmi, .int kpe, .ref aKs, .ref aKw, .ref aKd, .int kto, .ref aKl, .ref aKt])), (aKs, .inl (cI, 4, .inl ksc)), (aKw, .inl (cI, 4, .inl kwv)), (aKd, .inl (cI, 4, .inl kdk)), (aKl, .inl (cI, 7, .inl ktl)), (aKt, .inl (cI, 7, .inl ktd))] H := hP
  have hD : va_D A [(aE, .inr (0, [.int kli, .int mi, .int qe, .ref aEs, .ref aEw, .ref aEd, .int to, .ref aEl, .ref aEt])), (aEs, .inl (cI, 4, .inl sc)), (aEw, .inl (cI, 4, .inl wv)), (aEd, .inl (cI, 4, .inl dk)), (aEl, .inl (cI, 7, .inl tl)), (aEt, .inl (cI, 7, .inl td)), (aK, .inr (0, [.int kli, .int kmi, .int kpe, .ref aKs, .ref aKw, .ref aKd, .int kto, .ref aKl, .ref aKt])), (aKs, .inl (cI, 4, .inl ksc)), (aKw, .inl (cI, 4, .inl kwv)), (aKd, .inl (cI, 4, .inl kdk)), (aKl, .inl (cI, 7, .inl ktl)), (aKt, .inl (cI, 7, .inl ktd))] := hD
  refine lv_aload_n hx hb dX0_copy_8 rfl (lv_at hl 0 rfl) ?_
  refine lv_aload_n hx hb dX0_copy_9 rfl (lv_at hl 1 rfl) ?_
  refine va_get (D := D) (ci := 0) (v := .int kmi) (C := RX0) (T := TX0) (N := 9) hx hb hts uX0 hown hK hP 6 rfl rfl 1 (by decide) w2 (fun _ h9 => h9) rfl dX0_copy_10 ?_
  refine va_put (D := D) (ci := 0) (v := .int kmi) (ty := .int) (C := RX0) (T := TX0) (N := 9) hx hb hts uX0 tyX0 tyX0_ok nmX0 hown hK hP hD hS 0 rfl rfl 1 (by decide) w2 (fun _ h9 => h9) rfl (by decide +kernel) rfl rfl (Nat.le_of_ble_eq_true rfl) dX0_copy_13 (fun H locs hP hD hS => ?_)
  have hP : va_P D vwCl [(aE, .inr (0, [.int kli, .int kmi, .int qe, .ref aEs, .ref aEw, .ref aEd, .int to, .ref aEl, .ref aEt])), (aEs, .inl (cI, 4, .inl sc)), (aEw, .inl (cI, 4, .inl wv)), (aEd, .inl (cI, 4, .inl dk)), (aEl, .inl (cI, 7, .inl tl)), (aEt, .inl (cI, 7, .inl td)), (aK, .inr (0, [.int kli, .int kmi, .int kpe, .ref aKs, .ref aKw, .ref aKd, .int kto, .ref aKl, .ref aKt])), (aKs, .inl (cI, 4, .inl ksc)), (aKw, .inl (cI, 4, .inl kwv)), (aKd, .inl (cI, 4, .inl kdk)), (aKl, .inl (cI, 7, .inl ktl)), (aKt, .inl (cI, 7, .inl ktd))] H := hP
  have hD : va_D A [(aE, .inr (0, [.int kli, .int kmi, .int qe, .ref aEs, .ref aEw, .ref aEd, .int to, .ref aEl, .ref aEt])), (aEs, .inl (cI, 4, .inl sc)), (aEw, .inl (cI, 4, .inl wv)), (aEd, .inl (cI, 4, .inl dk)), (aEl, .inl (cI, 7, .inl tl)), (aEt, .inl (cI, 7, .inl td)), (aK, .inr (0, [.int kli, .int kmi, .int kpe, .ref aKs, .ref aKw, .ref aKd, .int kto, .ref aKl, .ref aKt])), (aKs, .inl (cI, 4, .inl ksc)), (aKw, .inl (cI, 4, .inl kwv)), (aKd, .inl (cI, 4, .inl kdk)), (aKl, .inl (cI, 7, .inl ktl)), (aKt, .inl (cI, 7, .inl ktd))] := hD
  refine lv_aload_n hx hb dX0_copy_16 rfl (lv_at hl 0 rfl) ?_
  refine lv_aload_n hx hb dX0_copy_17 rfl (lv_at hl 1 rfl) ?_
  refine va_get (D := D) (ci := 0) (v := .int kpe) (C := RX0) (T := TX0) (N := 9) hx hb hts uX0 hown hK hP 6 rfl rfl 2 (by decide) w3 (fun _ h9 => h9) rfl dX0_copy_18 ?_
  refine va_put (D := D) (ci := 0) (v := .int kpe) (ty := .int) (C := RX0) (T := TX0) (N := 9) hx hb hts uX0 tyX0 tyX0_ok nmX0 hown hK hP hD hS 0 rfl rfl 2 (by decide) w3 (fun _ h9 => h9) rfl (by decide +kernel) rfl rfl (Nat.le_of_ble_eq_true rfl) dX0_copy_21 (fun H locs hP hD hS => ?_)
  have hP : va_P D vwCl [(aE, .inr (0, [.int kli, .int kmi, .int kpe, .ref aEs, .ref aEw, .ref aEd, .int to, .ref aEl, .ref aEt])), (aEs, .inl (cI, 4, .inl sc)), (aEw, .inl (cI, 4, .inl wv)), (aEd, .inl (cI, 4, .inl dk)), (aEl, .inl (cI, 7, .inl tl)), (aEt, .inl (cI, 7, .inl td)), (aK, .inr (0, [.int kli, .int kmi, .int kpe, .ref aKs, .ref aKw, .ref aKd, .int kto, .ref aKl, .ref aKt])), (aKs, .inl (cI, 4, .inl ksc)), (aKw, .inl (cI, 4, .inl kwv)), (aKd, .inl (cI, 4, .inl kdk)), (aKl, .inl (cI, 7, .inl ktl)), (aKt, .inl (cI, 7, .inl ktd))] H := hP
  have hD : va_D A [(aE, .inr (0, [.int kli, .int kmi, .int kpe, .ref aEs, .ref aEw, .ref aEd, .int to, .ref aEl, .ref aEt])), (aEs, .inl (cI, 4, .inl sc)), (aEw, .inl (cI, 4, .inl wv)), (aEd, .inl (cI, 4, .inl dk)), (aEl, .inl (cI, 7, .inl tl)), (aEt, .inl (cI, 7, .inl td)), (aK, .inr (0, [.int kli, .int kmi, .int kpe, .ref aKs, .ref aKw, .ref aKd, .int kto, .ref aKl, .ref aKt])), (aKs, .inl (cI, 4, .inl ksc)), (aKw, .inl (cI, 4, .inl kwv)), (aKd, .inl (cI, 4, .inl kdk)), (aKl, .inl (cI, 7, .inl ktl)), (aKt, .inl (cI, 7, .inl ktd))] := hD
  refine lv_aload_n hx hb dX0_copy_24 rfl (lv_at hl 0 rfl) ?_
  refine lv_aload_n hx hb dX0_copy_25 rfl (lv_at hl 1 rfl) ?_
  refine va_get (D := D) (ci := 0) (v := .int kto) (C := RX0) (T := TX0) (N := 9) hx hb hts uX0 hown hK hP 6 rfl rfl 6 (by decide) w4 (fun _ h9 => h9) rfl dX0_copy_26 ?_
  refine va_put (D := D) (ci := 0) (v := .int kto) (ty := .int) (C := RX0) (T := TX0) (N := 9) hx hb hts uX0 tyX0 tyX0_ok nmX0 hown hK hP hD hS 0 rfl rfl 6 (by decide) w4 (fun _ h9 => h9) rfl (by decide +kernel) rfl rfl (Nat.le_of_ble_eq_true rfl) dX0_copy_29 (fun H locs hP hD hS => ?_)
  have hP : va_P D vwCl [(aE, .inr (0, [.int kli, .int kmi, .int kpe, .ref aEs, .ref aEw, .ref aEd, .int kto, .ref aEl, .ref aEt])), (aEs, .inl (cI, 4, .inl sc)), (aEw, .inl (cI, 4, .inl wv)), (aEd, .inl (cI, 4, .inl dk)), (aEl, .inl (cI, 7, .inl tl)), (aEt, .inl (cI, 7, .inl td)), (aK, .inr (0, [.int kli, .int kmi, .int kpe, .ref aKs, .ref aKw, .ref aKd, .int kto, .ref aKl, .ref aKt])), (aKs, .inl (cI, 4, .inl ksc)), (aKw, .inl (cI, 4, .inl kwv)), (aKd, .inl (cI, 4, .inl kdk)), (aKl, .inl (cI, 7, .inl ktl)), (aKt, .inl (cI, 7, .inl ktd))] H := hP
  have hD : va_D A [(aE, .inr (0, [.int kli, .int kmi, .int kpe, .ref aEs, .ref aEw, .ref aEd, .int kto, .ref aEl, .ref aEt])), (aEs, .inl (cI, 4, .inl sc)), (aEw, .inl (cI, 4, .inl wv)), (aEd, .inl (cI, 4, .inl dk)), (aEl, .inl (cI, 7, .inl tl)), (aEt, .inl (cI, 7, .inl td)), (aK, .inr (0, [.int kli, .int kmi, .int kpe, .ref aKs, .ref aKw, .ref aKd, .int kto, .ref aKl, .ref aKt])), (aKs, .inl (cI, 4, .inl ksc)), (aKw, .inl (cI, 4, .inl kwv)), (aKd, .inl (cI, 4, .inl kdk)), (aKl, .inl (cI, 7, .inl ktl)), (aKt, .inl (cI, 7, .inl ktd))] := hD
  refine lv_iconst (v := 0) hx hb dX0_copy_32 (by decide) ?_
  refine lv_istore_n (lv' := [(2, .int 0), (0, .ref aE), (1, .ref aK)]) hx hb dX0_copy_33 rfl hl (by decide) rfl (fun ls hl => ?_)
  have lp34 : ∀ (k34 i1 : Nat), i1 + k34 = 4 → ∀ (H : Heap) (locs : List Loc), va_P D vwCl [(aE, .inr (0, [.int kli, .int kmi, .int kpe, .ref aEs, .ref aEw, .ref aEd, .int kto, .ref aEl, .ref aEt])), (aEs, .inl (cI, 4, .inl ((f_X0_copy_34_Es sc ksc i1)))), (aEw, .inl (cI, 4, .inl ((f_X0_copy_34_Ew wv kwv i1)))), (aEd, .inl (cI, 4, .inl ((f_X0_copy_34_Ed dk kdk i1)))), (aEl, .inl (cI, 7, .inl tl)), (aEt, .inl (cI, 7, .inl td)), (aK, .inr (0, [.int kli, .int kmi, .int kpe, .ref aKs, .ref aKw, .ref aKd, .int kto, .ref aKl, .ref aKt])), (aKs, .inl (cI, 4, .inl ksc)), (aKw, .inl (cI, 4, .inl kwv)), (aKd, .inl (cI, 4, .inl kdk)), (aKl, .inl (cI, 7, .inl ktl)), (aKt, .inl (cI, 7, .inl ktd))] H → va_D A [(aE, .inr (0, [.int kli, .int kmi, .int kpe, .ref aEs, .ref aEw, .ref aEd, .int kto, .ref aEl, .ref aEt])), (aEs, .inl (cI, 4, .inl ((f_X0_copy_34_Es sc ksc i1)))), (aEw, .inl (cI, 4, .inl ((f_X0_copy_34_Ew wv kwv i1)))), (aEd, .inl (cI, 4, .inl ((f_X0_copy_34_Ed dk kdk i1)))), (aEl, .inl (cI, 7, .inl tl)), (aEt, .inl (cI, 7, .inl td)), (aK, .inr (0, [.int kli, .int kmi, .int kpe, .ref aKs, .ref aKw, .ref aKd, .int kto, .ref aKl, .ref aKt])), (aKs, .inl (cI, 4, .inl ksc)), (aKw, .inl (cI, 4, .inl kwv)), (aKd, .inl (cI, 4, .inl kdk)), (aKl, .inl (cI, 7, .inl ktl)), (aKt, .inl (cI, 7, .inl ktd))] → va_S A s.heap H locs → ∀ ls : Array Slot, lv_has ls 3 [(0, .ref aE), (1, .ref aK), (2, .int (nI i1))] → W p l e rm_X0_copy s m args below meth c H locs 0 0 Q (F0 m 34 ls []) := by
    intro k34
    induction k34 with
    | zero =>
      intro i1 hk34 H locs hP hD hS ls hl
      have hN34 : 4 = i1 := by omega
      subst hN34
      refine lv_iload_n hx hb dX0_copy_34 rfl (lv_at hl 2 rfl) ?_
      refine lv_iconst (v := 4) hx hb dX0_copy_35 (by decide) ?_
      refine lv_icmp_ge (tgt := 81) hx hb dX0_copy_36 (by decide) (fun _ => ?_) (fun c => absurd (nle_t (a := 4) (b := 4) rfl rfl (by omega) (by omega) (by omega)) c)
      refine lv_iconst (v := 0) hx hb dX0_copy_81 (by decide) ?_
      refine lv_istore_n (lv' := [(2, .int 0), (0, .ref aE), (1, .ref aK)]) hx hb dX0_copy_82 rfl hl (by decide) rfl (fun ls hl => ?_)
      have lp83 : ∀ (k83 i2 : Nat), i2 + k83 = 7 → ∀ (H : Heap) (locs : List Loc), va_P D vwCl [(aE, .inr (0, [.int kli, .int kmi, .int kpe, .ref aEs, .ref aEw, .ref aEd, .int kto, .ref aEl, .ref aEt])), (aEs, .inl (cI, 4, .inl ((f_X0_copy_34_Es sc ksc 4)))), (aEw, .inl (cI, 4, .inl ((f_X0_copy_34_Ew wv kwv 4)))), (aEd, .inl (cI, 4, .inl ((f_X0_copy_34_Ed dk kdk 4)))), (aEl, .inl (cI, 7, .inl ((f_X0_copy_83_El tl ktl i2)))), (aEt, .inl (cI, 7, .inl ((f_X0_copy_83_Et td ktd i2)))), (aK, .inr (0, [.int kli, .int kmi, .int kpe, .ref aKs, .ref aKw, .ref aKd, .int kto, .ref aKl, .ref aKt])), (aKs, .inl (cI, 4, .inl ksc)), (aKw, .inl (cI, 4, .inl kwv)), (aKd, .inl (cI, 4, .inl kdk)), (aKl, .inl (cI, 7, .inl ktl)), (aKt, .inl (cI, 7, .inl ktd))] H → va_D A [(aE, .inr (0, [.int kli, .int kmi, .int kpe, .ref aEs, .ref aEw, .ref aEd, .int kto, .ref aEl, .ref aEt])), (aEs, .inl (cI, 4, .inl ((f_X0_copy_34_Es sc ksc 4)))), (aEw, .inl (cI, 4, .inl ((f_X0_copy_34_Ew wv kwv 4)))), (aEd, .inl (cI, 4, .inl ((f_X0_copy_34_Ed dk kdk 4)))), (aEl, .inl (cI, 7, .inl ((f_X0_copy_83_El tl ktl i2)))), (aEt, .inl (cI, 7, .inl ((f_X0_copy_83_Et td ktd i2)))), (aK, .inr (0, [.int kli, .int kmi, .int kpe, .ref aKs, .ref aKw, .ref aKd, .int kto, .ref aKl, .ref aKt])), (aKs, .inl (cI, 4, .inl ksc)), (aKw, .inl (cI, 4, .inl kwv)), (aKd, .inl (cI, 4, .inl kdk)), (aKl, .inl (cI, 7, .inl ktl)), (aKt, .inl (cI, 7, .inl ktd))] → va_S A s.heap H locs → ∀ ls : Array Slot, lv_has ls 3 [(0, .ref aE), (1, .ref aK), (2, .int (nI i2))] → W p l e rm_X0_copy s m args below meth c H locs 0 0 Q (F0 m 83 ls []) := by
        intro k83
        induction k83 with
        | zero =>
          intro i2 hk83 H locs hP hD hS ls hl
          have hN83 : 7 = i2 := by omega
          subst hN83
          refine lv_iload_n hx hb dX0_copy_83 rfl (lv_at hl 2 rfl) ?_
          refine lv_bipush (v := 6) hx hb dX0_copy_84 (by decide) ?_
          refine lv_icmp_gt (tgt := 119) hx hb dX0_copy_86 (by decide) (fun _ => ?_) (fun c => absurd (nlt_t (a := 6) (b := 7) rfl rfl (by omega) (by omega) (by omega)) c)
          have e_E_0 : (f_X0_copy_E_0 kli) = kli := (by simp only [f_X0_copy_E_0])
          have e_E_1 : (f_X0_copy_E_1 kmi) = kmi := (by simp only [f_X0_copy_E_1])
          have e_E_2 : (f_X0_copy_E_2 kpe) = kpe := (by simp only [f_X0_copy_E_2])
          have e_E_6 : (f_X0_copy_E_6 kto) = kto := (by simp only [f_X0_copy_E_6])
          have e_Es : (f_X0_copy_Es sc ksc) = (f_X0_copy_34_Es sc ksc 4) := (by simp only [f_X0_copy_Es])
          have e_Ew : (f_X0_copy_Ew wv kwv) = (f_X0_copy_34_Ew wv kwv 4) := (by simp only [f_X0_copy_Ew])
          have e_Ed : (f_X0_copy_Ed dk kdk) = (f_X0_copy_34_Ed dk kdk 4) := (by simp only [f_X0_copy_Ed])
          have e_El : (f_X0_copy_El tl ktl) = (f_X0_copy_83_El tl ktl 7) := (by simp only [f_X0_copy_El])
          have e_Et : (f_X0_copy_Et td ktd) = (f_X0_copy_83_Et td ktd 7) := (by simp only [f_X0_copy_Et])
          exact eXv hx hb hr hlk hQ (by rw [e_E_0, e_E_1, e_E_2, e_E_6, e_Es, e_Ew, e_Ed, e_El, e_Et]; exact hP) (by rw [e_E_0, e_E_1, e_E_2, e_E_6, e_Es, e_Ew, e_Ed, e_El, e_Et]; exact hD) hS dX0_copy_119
        | succ k83 ih83 =>
          intro i2 hk83 H locs hP hD hS ls hl
          refine lv_iload_n hx hb dX0_copy_83 rfl (lv_at hl 2 rfl) ?_
          refine lv_bipush (v := 6) hx hb dX0_copy_84 (by decide) ?_
          refine lv_icmp_gt (tgt := 119) hx hb dX0_copy_86 (by decide) (fun c => absurd c (nlt_f (a := 6) (b := i2) rfl rfl (by omega) (by omega) (by omega))) (fun _ => ?_)
          refine lv_aload_n hx hb dX0_copy_89 rfl (lv_at hl 0 rfl) ?_
          refine va_get (D := D) (ci := 0) (v := .ref aEl) (C := RX0) (T := TX0) (N := 9) hx hb hts uX0 hown hK hP 0 rfl rfl 7 (by decide) w8 (fun _ h9 => h9) rfl dX0_copy_90 ?_
          refine lv_iload_n hx hb dX0_copy_93 rfl (lv_at hl 2 rfl) ?_
          refine lv_aload_n hx hb dX0_copy_94 rfl (lv_at hl 1 rfl) ?_
          refine va_get (D := D) (ci := 0) (v := .ref aKl) (C := RX0) (T := TX0) (N := 9) hx hb hts uX0 hown hK hP 6 rfl rfl 7 (by decide) w8 (fun _ h9 => h9) rfl dX0_copy_95 ?_
          refine lv_iload_n hx hb dX0_copy_98 rfl (lv_at hl 2 rfl) ?_
          refine xald hx hb hK hP 10 rfl i2 rfl (by omega) (by decide) dX0_copy_99 ?_
          refine xast hx hb hK hP hD hS 4 rfl i2 rfl (by omega) (by decide) dX0_copy_100 (fun H locs hP hD hS => ?_)
          have hP : va_P D vwCl [(aE, .inr (0, [.int kli, .int kmi, .int kpe, .ref aEs, .ref aEw, .ref aEd, .int kto, .ref aEl, .ref aEt])), (aEs, .inl (cI, 4, .inl ((f_X0_copy_34_Es sc ksc 4)))), (aEw, .inl (cI, 4, .inl ((f_X0_copy_34_Ew wv kwv 4)))), (aEd, .inl (cI, 4, .inl ((f_X0_copy_34_Ed dk kdk 4)))), (aEl, .inl (cI, 7, .inl (upd (f_X0_copy_83_El tl ktl i2) i2 (ktl i2)))), (aEt, .inl (cI, 7, .inl ((f_X0_copy_83_Et td ktd i2)))), (aK, .inr (0, [.int kli, .int kmi, .int kpe, .ref aKs, .ref aKw, .ref aKd, .int kto, .ref aKl, .ref aKt])), (aKs, .inl (cI, 4, .inl ksc)), (aKw, .inl (cI, 4, .inl kwv)), (aKd, .inl (cI, 4, .inl kdk)), (aKl, .inl (cI, 7, .inl ktl)), (aKt, .inl (cI, 7, .inl ktd))] H := hP
          have hD : va_D A [(aE, .inr (0, [.int kli, .int kmi, .int kpe, .ref aEs, .ref aEw, .ref aEd, .int kto, .ref aEl, .ref aEt])), (aEs, .inl (cI, 4, .inl ((f_X0_copy_34_Es sc ksc 4)))), (aEw, .inl (cI, 4, .inl ((f_X0_copy_34_Ew wv kwv 4)))), (aEd, .inl (cI, 4, .inl ((f_X0_copy_34_Ed dk kdk 4)))), (aEl, .inl (cI, 7, .inl (upd (f_X0_copy_83_El tl ktl i2) i2 (ktl i2)))), (aEt, .inl (cI, 7, .inl ((f_X0_copy_83_Et td ktd i2)))), (aK, .inr (0, [.int kli, .int kmi, .int kpe, .ref aKs, .ref aKw, .ref aKd, .int kto, .ref aKl, .ref aKt])), (aKs, .inl (cI, 4, .inl ksc)), (aKw, .inl (cI, 4, .inl kwv)), (aKd, .inl (cI, 4, .inl kdk)), (aKl, .inl (cI, 7, .inl ktl)), (aKt, .inl (cI, 7, .inl ktd))] := hD
          refine lv_aload_n hx hb dX0_copy_101 rfl (lv_at hl 0 rfl) ?_
          refine va_get (D := D) (ci := 0) (v := .ref aEt) (C := RX0) (T := TX0) (N := 9) hx hb hts uX0 hown hK hP 0 rfl rfl 8 (by decide) w9 (fun _ h9 => h9) rfl dX0_copy_102 ?_
          refine lv_iload_n hx hb dX0_copy_105 rfl (lv_at hl 2 rfl) ?_
          refine lv_aload_n hx hb dX0_copy_106 rfl (lv_at hl 1 rfl) ?_
          refine va_get (D := D) (ci := 0) (v := .ref aKt) (C := RX0) (T := TX0) (N := 9) hx hb hts uX0 hown hK hP 6 rfl rfl 8 (by decide) w9 (fun _ h9 => h9) rfl dX0_copy_107 ?_
          refine lv_iload_n hx hb dX0_copy_110 rfl (lv_at hl 2 rfl) ?_
          refine xald hx hb hK hP 11 rfl i2 rfl (by omega) (by decide) dX0_copy_111 ?_
          refine xast hx hb hK hP hD hS 5 rfl i2 rfl (by omega) (by decide) dX0_copy_112 (fun H locs hP hD hS => ?_)
          have hP : va_P D vwCl [(aE, .inr (0, [.int kli, .int kmi, .int kpe, .ref aEs, .ref aEw, .ref aEd, .int kto, .ref aEl, .ref aEt])), (aEs, .inl (cI, 4, .inl ((f_X0_copy_34_Es sc ksc 4)))), (aEw, .inl (cI, 4, .inl ((f_X0_copy_34_Ew wv kwv 4)))), (aEd, .inl (cI, 4, .inl ((f_X0_copy_34_Ed dk kdk 4)))), (aEl, .inl (cI, 7, .inl (upd (f_X0_copy_83_El tl ktl i2) i2 (ktl i2)))), (aEt, .inl (cI, 7, .inl (upd (f_X0_copy_83_Et td ktd i2) i2 (ktd i2)))), (aK, .inr (0, [.int kli, .int kmi, .int kpe, .ref aKs, .ref aKw, .ref aKd, .int kto, .ref aKl, .ref aKt])), (aKs, .inl (cI, 4, .inl ksc)), (aKw, .inl (cI, 4, .inl kwv)), (aKd, .inl (cI, 4, .inl kdk)), (aKl, .inl (cI, 7, .inl ktl)), (aKt, .inl (cI, 7, .inl ktd))] H := hP
          have hD : va_D A [(aE, .inr (0, [.int kli, .int kmi, .int kpe, .ref aEs, .ref aEw, .ref aEd, .int kto, .ref aEl, .ref aEt])), (aEs, .inl (cI, 4, .inl ((f_X0_copy_34_Es sc ksc 4)))), (aEw, .inl (cI, 4, .inl ((f_X0_copy_34_Ew wv kwv 4)))), (aEd, .inl (cI, 4, .inl ((f_X0_copy_34_Ed dk kdk 4)))), (aEl, .inl (cI, 7, .inl (upd (f_X0_copy_83_El tl ktl i2) i2 (ktl i2)))), (aEt, .inl (cI, 7, .inl (upd (f_X0_copy_83_Et td ktd i2) i2 (ktd i2)))), (aK, .inr (0, [.int kli, .int kmi, .int kpe, .ref aKs, .ref aKw, .ref aKd, .int kto, .ref aKl, .ref aKt])), (aKs, .inl (cI, 4, .inl ksc)), (aKw, .inl (cI, 4, .inl kwv)), (aKd, .inl (cI, 4, .inl kdk)), (aKl, .inl (cI, 7, .inl ktl)), (aKt, .inl (cI, 7, .inl ktd))] := hD
          refine lv_iinc (v := nI (i2 + 1)) (lv' := [(2, .int (nI (i2 + 1))), (0, .ref aE), (1, .ref aK)]) hx hb dX0_copy_113 hl (k := 2) rfl (nI_add i2 1) (by decide) rfl (fun ls hl => ?_)
          refine lv_goto (tgt := 83) hx hb dX0_copy_116 (by decide) ?_
          have e_El : (f_X0_copy_83_El tl ktl (i2 + 1)) = (upd (f_X0_copy_83_El tl ktl i2) i2 (ktl i2)) := (by simp only [f_X0_copy_83_El])
          have e_Et : (f_X0_copy_83_Et td ktd (i2 + 1)) = (upd (f_X0_copy_83_Et td ktd i2) i2 (ktd i2)) := (by simp only [f_X0_copy_83_Et])
          exact ih83 (i2 + 1) (by omega) _ _ (by rw [e_El, e_Et]; exact hP) (by rw [e_El, e_Et]; exact hD) hS ls (lv_sub hl [1, 2, 0] rfl)
      exact lp83 7 0 (by omega) _ _ hP hD hS ls (lv_sub hl [1, 2, 0] rfl)
    | succ k34 ih34 =>
      intro i1 hk34 H locs hP hD hS ls hl
      refine lv_iload_n hx hb dX0_copy_34 rfl (lv_at hl 2 rfl) ?_
      refine lv_iconst (v := 4) hx hb dX0_copy_35 (by decide) ?_
      refine lv_icmp_ge (tgt := 81) hx hb dX0_copy_36 (by decide) (fun c => absurd c (nle_f (a := 4) (b := i1) rfl rfl (by omega) (by omega) (by omega))) (fun _ => ?_)
      refine lv_aload_n hx hb dX0_copy_39 rfl (lv_at hl 0 rfl) ?_
      refine va_get (D := D) (ci := 0) (v := .ref aEs) (C := RX0) (T := TX0) (N := 9) hx hb hts uX0 hown hK hP 0 rfl rfl 3 (by decide) w5 (fun _ h9 => h9) rfl dX0_copy_40 ?_
      refine lv_iload_n hx hb dX0_copy_43 rfl (lv_at hl 2 rfl) ?_
      refine lv_aload_n hx hb dX0_copy_44 rfl (lv_at hl 1 rfl) ?_
      refine va_get (D := D) (ci := 0) (v := .ref aKs) (C := RX0) (T := TX0) (N := 9) hx hb hts uX0 hown hK hP 6 rfl rfl 3 (by decide) w5 (fun _ h9 => h9) rfl dX0_copy_45 ?_
      refine lv_iload_n hx hb dX0_copy_48 rfl (lv_at hl 2 rfl) ?_
      refine xald hx hb hK hP 7 rfl i1 rfl (by omega) (by decide) dX0_copy_49 ?_
      refine xast hx hb hK hP hD hS 1 rfl i1 rfl (by omega) (by decide) dX0_copy_50 (fun H locs hP hD hS => ?_)
      have hP : va_P D vwCl [(aE, .inr (0, [.int kli, .int kmi, .int kpe, .ref aEs, .ref aEw, .ref aEd, .int kto, .ref aEl, .ref aEt])), (aEs, .inl (cI, 4, .inl (upd (f_X0_copy_34_Es sc ksc i1) i1 (ksc i1)))), (aEw, .inl (cI, 4, .inl ((f_X0_copy_34_Ew wv kwv i1)))), (aEd, .inl (cI, 4, .inl ((f_X0_copy_34_Ed dk kdk i1)))), (aEl, .inl (cI, 7, .inl tl)), (aEt, .inl (cI, 7, .inl td)), (aK, .inr (0, [.int kli, .int kmi, .int kpe, .ref aKs, .ref aKw, .ref aKd, .int kto, .ref aKl, .ref aKt])), (aKs, .inl (cI, 4, .inl ksc)), (aKw, .inl (cI, 4, .inl kwv)), (aKd, .inl (cI, 4, .inl kdk)), (aKl, .inl (cI, 7, .inl ktl)), (aKt, .inl (cI, 7, .inl ktd))] H := hP
      have hD : va_D A [(aE, .inr (0, [.int kli, .int kmi, .int kpe, .ref aEs, .ref aEw, .ref aEd, .int kto, .ref aEl, .ref aEt])), (aEs, .inl (cI, 4, .inl (upd (f_X0_copy_34_Es sc ksc i1) i1 (ksc i1)))), (aEw, .inl (cI, 4, .inl ((f_X0_copy_34_Ew wv kwv i1)))), (aEd, .inl (cI, 4, .inl ((f_X0_copy_34_Ed dk kdk i1)))), (aEl, .inl (cI, 7, .inl tl)), (aEt, .inl (cI, 7, .inl td)), (aK, .inr (0, [.int kli, .int kmi, .int kpe, .ref aKs, .ref aKw, .ref aKd, .int kto, .ref aKl, .ref aKt])), (aKs, .inl (cI, 4, .inl ksc)), (aKw, .inl (cI, 4, .inl kwv)), (aKd, .inl (cI, 4, .inl kdk)), (aKl, .inl (cI, 7, .inl ktl)), (aKt, .inl (cI, 7, .inl ktd))] := hD
      refine lv_aload_n hx hb dX0_copy_51 rfl (lv_at hl 0 rfl) ?_
      refine va_get (D := D) (ci := 0) (v := .ref aEw) (C := RX0) (T := TX0) (N := 9) hx hb hts uX0 hown hK hP 0 rfl rfl 4 (by decide) w6 (fun _ h9 => h9) rfl dX0_copy_52 ?_
      refine lv_iload_n hx hb dX0_copy_55 rfl (lv_at hl 2 rfl) ?_
      refine lv_aload_n hx hb dX0_copy_56 rfl (lv_at hl 1 rfl) ?_
      refine va_get (D := D) (ci := 0) (v := .ref aKw) (C := RX0) (T := TX0) (N := 9) hx hb hts uX0 hown hK hP 6 rfl rfl 4 (by decide) w6 (fun _ h9 => h9) rfl dX0_copy_57 ?_
      refine lv_iload_n hx hb dX0_copy_60 rfl (lv_at hl 2 rfl) ?_
      refine xald hx hb hK hP 8 rfl i1 rfl (by omega) (by decide) dX0_copy_61 ?_
      refine xast hx hb hK hP hD hS 2 rfl i1 rfl (by omega) (by decide) dX0_copy_62 (fun H locs hP hD hS => ?_)
      have hP : va_P D vwCl [(aE, .inr (0, [.int kli, .int kmi, .int kpe, .ref aEs, .ref aEw, .ref aEd, .int kto, .ref aEl, .ref aEt])), (aEs, .inl (cI, 4, .inl (upd (f_X0_copy_34_Es sc ksc i1) i1 (ksc i1)))), (aEw, .inl (cI, 4, .inl (upd (f_X0_copy_34_Ew wv kwv i1) i1 (kwv i1)))), (aEd, .inl (cI, 4, .inl ((f_X0_copy_34_Ed dk kdk i1)))), (aEl, .inl (cI, 7, .inl tl)), (aEt, .inl (cI, 7, .inl td)), (aK, .inr (0, [.int kli, .int kmi, .int kpe, .ref aKs, .ref aKw, .ref aKd, .int kto, .ref aKl, .ref aKt])), (aKs, .inl (cI, 4, .inl ksc)), (aKw, .inl (cI, 4, .inl kwv)), (aKd, .inl (cI, 4, .inl kdk)), (aKl, .inl (cI, 7, .inl ktl)), (aKt, .inl (cI, 7, .inl ktd))] H := hP
      have hD : va_D A [(aE, .inr (0, [.int kli, .int kmi, .int kpe, .ref aEs, .ref aEw, .ref aEd, .int kto, .ref aEl, .ref aEt])), (aEs, .inl (cI, 4, .inl (upd (f_X0_copy_34_Es sc ksc i1) i1 (ksc i1)))), (aEw, .inl (cI, 4, .inl (upd (f_X0_copy_34_Ew wv kwv i1) i1 (kwv i1)))), (aEd, .inl (cI, 4, .inl ((f_X0_copy_34_Ed dk kdk i1)))), (aEl, .inl (cI, 7, .inl tl)), (aEt, .inl (cI, 7, .inl td)), (aK, .inr (0, [.int kli, .int kmi, .int kpe, .ref aKs, .ref aKw, .ref aKd, .int kto, .ref aKl, .ref aKt])), (aKs, .inl (cI, 4, .inl ksc)), (aKw, .inl (cI, 4, .inl kwv)), (aKd, .inl (cI, 4, .inl kdk)), (aKl, .inl (cI, 7, .inl ktl)), (aKt, .inl (cI, 7, .inl ktd))] := hD
      refine lv_aload_n hx hb dX0_copy_63 rfl (lv_at hl 0 rfl) ?_
      refine va_get (D := D) (ci := 0) (v := .ref aEd) (C := RX0) (T := TX0) (N := 9) hx hb hts uX0 hown hK hP 0 rfl rfl 5 (by decide) w7 (fun _ h9 => h9) rfl dX0_copy_64 ?_
      refine lv_iload_n hx hb dX0_copy_67 rfl (lv_at hl 2 rfl) ?_
      refine lv_aload_n hx hb dX0_copy_68 rfl (lv_at hl 1 rfl) ?_
      refine va_get (D := D) (ci := 0) (v := .ref aKd) (C := RX0) (T := TX0) (N := 9) hx hb hts uX0 hown hK hP 6 rfl rfl 5 (by decide) w7 (fun _ h9 => h9) rfl dX0_copy_69 ?_
      refine lv_iload_n hx hb dX0_copy_72 rfl (lv_at hl 2 rfl) ?_
      refine xald hx hb hK hP 9 rfl i1 rfl (by omega) (by decide) dX0_copy_73 ?_
      refine xast hx hb hK hP hD hS 3 rfl i1 rfl (by omega) (by decide) dX0_copy_74 (fun H locs hP hD hS => ?_)
      have hP : va_P D vwCl [(aE, .inr (0, [.int kli, .int kmi, .int kpe, .ref aEs, .ref aEw, .ref aEd, .int kto, .ref aEl, .ref aEt])), (aEs, .inl (cI, 4, .inl (upd (f_X0_copy_34_Es sc ksc i1) i1 (ksc i1)))), (aEw, .inl (cI, 4, .inl (upd (f_X0_copy_34_Ew wv kwv i1) i1 (kwv i1)))), (aEd, .inl (cI, 4, .inl (upd (f_X0_copy_34_Ed dk kdk i1) i1 (kdk i1)))), (aEl, .inl (cI, 7, .inl tl)), (aEt, .inl (cI, 7, .inl td)), (aK, .inr (0, [.int kli, .int kmi, .int kpe, .ref aKs, .ref aKw, .ref aKd, .int kto, .ref aKl, .ref aKt])), (aKs, .inl (cI, 4, .inl ksc)), (aKw, .inl (cI, 4, .inl kwv)), (aKd, .inl (cI, 4, .inl kdk)), (aKl, .inl (cI, 7, .inl ktl)), (aKt, .inl (cI, 7, .inl ktd))] H := hP
      have hD : va_D A [(aE, .inr (0, [.int kli, .int kmi, .int kpe, .ref aEs, .ref aEw, .ref aEd, .int kto, .ref aEl, .ref aEt])), (aEs, .inl (cI, 4, .inl (upd (f_X0_copy_34_Es sc ksc i1) i1 (ksc i1)))), (aEw, .inl (cI, 4, .inl (upd (f_X0_copy_34_Ew wv kwv i1) i1 (kwv i1)))), (aEd, .inl (cI, 4, .inl (upd (f_X0_copy_34_Ed dk kdk i1) i1 (kdk i1)))), (aEl, .inl (cI, 7, .inl tl)), (aEt, .inl (cI, 7, .inl td)), (aK, .inr (0, [.int kli, .int kmi, .int kpe, .ref aKs, .ref aKw, .ref aKd, .int kto, .ref aKl, .ref aKt])), (aKs, .inl (cI, 4, .inl ksc)), (aKw, .inl (cI, 4, .inl kwv)), (aKd, .inl (cI, 4, .inl kdk)), (aKl, .inl (cI, 7, .inl ktl)), (aKt, .inl (cI, 7, .inl ktd))] := hD
      refine lv_iinc (v := nI (i1 + 1)) (lv' := [(2, .int (nI (i1 + 1))), (0, .ref aE), (1, .ref aK)]) hx hb dX0_copy_75 hl (k := 2) rfl (nI_add i1 1) (by decide) rfl (fun ls hl => ?_)
      refine lv_goto (tgt := 34) hx hb dX0_copy_78 (by decide) ?_
      have e_Es : (f_X0_copy_34_Es sc ksc (i1 + 1)) = (upd (f_X0_copy_34_Es sc ksc i1) i1 (ksc i1)) := (by simp only [f_X0_copy_34_Es])
      have e_Ew : (f_X0_copy_34_Ew wv kwv (i1 + 1)) = (upd (f_X0_copy_34_Ew wv kwv i1) i1 (kwv i1)) := (by simp only [f_X0_copy_34_Ew])
      have e_Ed : (f_X0_copy_34_Ed dk kdk (i1 + 1)) = (upd (f_X0_copy_34_Ed dk kdk i1) i1 (kdk i1)) := (by simp only [f_X0_copy_34_Ed])
      exact ih34 (i1 + 1) (by omega) _ _ (by rw [e_Es, e_Ew, e_Ed]; exact hP) (by rw [e_Es, e_Ew, e_Ed]; exact hD) hS ls (lv_sub hl [1, 2, 0] rfl)
  exact lp34 4 0 (by omega) _ _ hP hD hS ls (lv_sub hl [1, 2, 0] rfl)

def rm_X2_put : Room := { frames := 0, cells := 0, slots := 0, locals := 0 }
def f_X2_put (pl : Nat) : Int32 := (if nI pl < 20 then (nI pl + 1) else (-104))
def f_X2_put_P_1 (pl : Nat) : Int32 := (if nI pl < 20 then (nI pl + 1) else nI pl)
def f_X2_put_Pc (pl : Nat) (co : Nat → Int32) (code : Int32) : Nat → Int32 := (if nI pl < 20 then (upd co pl code) else co)
theorem hd_X2_put : yX2_put.cls = RX2 ∧ yX2_put.cls ≠ "java/lang/invoke/MethodHandle" ∧ yX2_put.cls ≠ "java/lang/invoke/VarHandle" ∧ (parseMethodDescriptor yX2_put.desc).map (fun d => d.parameters.length) = some 1 := by decide +kernel
set_option maxHeartbeats 4000000 in
set_option maxRecDepth 100000 in
theorem c_X2_put (l : Launch) (D : va_G) (cI : ClassId) (aP aPc : Nat) (pl : Nat) (co : Nat → Int32) (code : Int32) (hpl : pl ≤ 20) : MetX l yX2_put wsX2_put rm_X2_put D cI [.ref aP, .int code] [(aP, .inr (2, [.ref aPc, .int (nI pl)])), (aPc, .inl (cI, 20, .inl co))] (some (.int (f_X2_put pl))) [(aP, .inr (2, [.ref aPc, .int (f_X2_put_P_1 pl)])), (aPc, .inl (cI, 20, .inl (f_X2_put_Pc pl co code)))] := by
  refine mX (cc := cX2_put) (maxL := 2) (ret := (some .int)) (by decide) rfl (Nat.le_of_ble_eq_true rfl) ?_
  intro p e s m args below meth c Q A hx hb hr hml hown hts hlk hP hK hD hA hS hQ ls hl
  have hown : s.vm.findClass RX2 = some m.cls := hown
  have hl : lv_has ls 2 [(0, .ref aP), (1, .int code)] := hl
  have w1 := hts (.fieldLink RX2 15 "DarkOffice$Page" "length" "I") (List.mem_of_getElem? (i := 1) rfl)
  have uX2 : ∀ w ∈ wsX20, w ∈ wsX2_put := fun _ h => List.mem_cons_of_mem _ (List.mem_append_right _ h)
  have w2 := hts (.fieldLink RX2 9 "DarkOffice$Page" "codes" "[I") (List.mem_of_getElem? (i := 2) rfl)
  refine lv_aload_n hx hb dX2_put_0 rfl (lv_at hl 0 rfl) ?_
  refine va_get (D := D) (ci := 2) (v := .int (nI pl)) (C := RX2) (T := TX2) (N := 2) hx hb hts uX2 hown hK hP 0 rfl rfl 1 (by decide) w1 (fun _ h9 => h9) rfl dX2_put_1 ?_
  refine lv_bipush (v := 20) hx hb dX2_put_4 (by decide) ?_
  refine lv_icmp_lt (tgt := 12) hx hb dX2_put_6 (by decide) (fun c1 => ?_) (fun c1 => ?_)
  · have q1 : pl < 20 := nlt_d (a := pl) (b := 20) rfl rfl (by omega) (by omega) c1
    refine lv_aload_n hx hb dX2_put_12 rfl (lv_at hl 0 rfl) ?_
    refine va_get (D := D) (ci := 2) (v := .ref aPc) (C := RX2) (T := TX2) (N := 2) hx hb hts uX2 hown hK hP 0 rfl rfl 0 (by decide) w2 (fun _ h9 => h9) rfl dX2_put_13 ?_
    refine lv_aload_n hx hb dX2_put_16 rfl (lv_at hl 0 rfl) ?_
    refine va_get (D := D) (ci := 2) (v := .int (nI pl)) (C := RX2) (T := TX2) (N := 2) hx hb hts uX2 hown hK hP 0 rfl rfl 1 (by decide) w1 (fun _ h9 => h9) rfl dX2_put_17 ?_
    refine lv_iload_n hx hb dX2_put_20 rfl (lv_at hl 1 rfl) ?_
    refine xast hx hb hK hP hD hS 1 rfl pl rfl (by omega) (by decide) dX2_put_21 (fun H locs hP hD hS => ?_)
    have hP : va_P D vwCl [(aP, .inr (2, [.ref aPc, .int (nI pl)])), (aPc, .inl (cI, 20, .inl (upd co pl code)))] H := hP
    have hD : va_D A [(aP, .inr (2, [.ref aPc, .int (nI pl)])), (aPc, .inl (cI, 20, .inl (upd co pl code)))] := hD
    refine lv_aload_n hx hb dX2_put_22 rfl (lv_at hl 0 rfl) ?_
    refine lv_dup hx hb dX2_put_23 rfl ?_
    refine va_get (D := D) (ci := 2) (v := .int (nI pl)) (C := RX2) (T := TX2) (N := 2) hx hb hts uX2 hown hK hP 0 rfl rfl 1 (by decide) w1 (fun _ h9 => h9) rfl dX2_put_24 ?_
    refine lv_iconst (v := 1) hx hb dX2_put_27 (by decide) ?_
    refine lv_iadd hx hb dX2_put_28 ?_
    refine va_put (D := D) (ci := 2) (v := .int (nI pl + 1)) (ty := .int) (C := RX2) (T := TX2) (N := 2) hx hb hts uX2 tyX2 tyX2_ok nmX2 hown hK hP hD hS 0 rfl rfl 1 (by decide) w1 (fun _ h9 => h9) rfl (by decide +kernel) rfl rfl (Nat.le_of_ble_eq_true rfl) dX2_put_29 (fun H locs hP hD hS => ?_)
    have hP : va_P D vwCl [(aP, .inr (2, [.ref aPc, .int (nI pl + 1)])), (aPc, .inl (cI, 20, .inl (upd co pl code)))] H := hP
    have hD : va_D A [(aP, .inr (2, [.ref aPc, .int (nI pl + 1)])), (aPc, .inl (cI, 20, .inl (upd co pl code)))] := hD
    refine lv_aload_n hx hb dX2_put_32 rfl (lv_at hl 0 rfl) ?_
    refine va_get (D := D) (ci := 2) (v := .int (nI pl + 1)) (C := RX2) (T := TX2) (N := 2) hx hb hts uX2 hown hK hP 0 rfl rfl 1 (by decide) w1 (fun _ h9 => h9) rfl dX2_put_33 ?_
    have e_P_1 : (f_X2_put_P_1 pl) = (nI pl + 1) := (by simp only [f_X2_put_P_1, if_pos c1])
    have e_Pc : (f_X2_put_Pc pl co code) = (upd co pl code) := (by simp only [f_X2_put_Pc, if_pos c1])
    exact eXi hx hb hr hlk hQ (by rw [e_P_1, e_Pc]; exact hP) (by rw [e_P_1, e_Pc]; exact hD) hS dX2_put_36 (Eq.symm (by simp only [f_X2_put, if_pos c1]))
  · have q1 : 20 ≤ pl := nlt_e (a := pl) (b := 20) rfl rfl (by omega) (by omega) c1
    refine lv_bipush (v := (-104)) hx hb dX2_put_9 (by decide) ?_
    have e_P_1 : (f_X2_put_P_1 pl) = nI pl := (by simp only [f_X2_put_P_1, if_neg c1])
    have e_Pc : (f_X2_put_Pc pl co code) = co := (by simp only [f_X2_put_Pc, if_neg c1])
    exact eXi hx hb hr hlk hQ (by rw [e_P_1, e_Pc]; exact hP) (by rw [e_P_1, e_Pc]; exact hD) hS dX2_put_11 (Eq.symm (by simp only [f_X2_put, if_neg c1]))

def rm_X3_left : Room := { frames := 0, cells := 0, slots := 0, locals := 0 }
def f_X3_left_4_v1 (en : Nat → Int32) : Nat → Int32
  | 0 => 0
  | i1 + 1 => (if (en i1) = (-1) then ((f_X3_left_4_v1 en i1) + 0) else ((f_X3_left_4_v1 en i1) + 1))
def f_X3_left (z : Nat) (en : Nat → Int32) : Int32 := (f_X3_left_4_v1 en z)
theorem hd_X3_left : yX3_left.cls = RX3 ∧ yX3_left.cls ≠ "java/lang/invoke/MethodHandle" ∧ yX3_left.cls ≠ "java/lang/invoke/VarHandle" ∧ (parseMethodDescriptor yX3_left.desc).map (fun d => d.parameters.length) = some 0 := by decide +kernel
set_option maxHeartbeats 4000000 in
set_option maxRecDepth 100000 in
theorem c_X3_left (l : Launch) (D : va_G) (cI : ClassId) (aY aYe : Nat) (z : Nat) (en : Nat → Int32) (hz : z ≤ 64) : MetR l yX3_left wsX3_left rm_X3_left D cI [.ref aY] [(aY, .inr (3, [.ref aYe, .int (nI z)])), (aYe, .inl (cI, 64, .inl en))] (some (.int (f_X3_left z en))) := by
  refine mR (cc := cX3_left) (maxL := 3) (ret := (some .int)) (by decide) rfl (Nat.le_of_ble_eq_true rfl) ?_
  intro p e s m args below meth c Q hx hb hr hml hown hts hlk hP hK hQ ls hl
  have hown : s.vm.findClass RX3 = some m.cls := hown
  have hl : lv_has ls 3 [(0, .ref aY)] := hl
  have w1 := hts (.fieldLink RX3 15 "DarkOffice$Ways" "size" "I") (List.mem_of_getElem? (i := 1) rfl)
  have uX3 : ∀ w ∈ wsX30, w ∈ wsX3_left := fun _ h => List.mem_cons_of_mem _ (List.mem_append_right _ h)
  have w2 := hts (.fieldLink RX3 9 "DarkOffice$Ways" "ends" "[I") (List.mem_of_getElem? (i := 2) rfl)
  refine lv_iconst (v := 0) hx hb dX3_left_0 (by decide) ?_
  refine lv_istore_n (lv' := [(1, .int 0), (0, .ref aY)]) hx hb dX3_left_1 rfl hl (by decide) rfl (fun ls hl => ?_)
  refine lv_iconst (v := 0) hx hb dX3_left_2 (by decide) ?_
  refine lv_istore_n (lv' := [(2, .int 0), (1, .int 0), (0, .ref aY)]) hx hb dX3_left_3 rfl hl (by decide) rfl (fun ls hl => ?_)
  have lp4 : ∀ (k4 i1 : Nat), i1 + k4 = z → ∀ ls : Array Slot, lv_has ls 3 [(0, .ref aY), (1, .int ((f_X3_left_4_v1 en i1))), (2, .int (nI i1))] → W p l e rm_X3_left s m args below meth c s.heap [] 0 0 Q (F0 m 4 ls []) := by
    intro k4
    induction k4 with
    | zero =>
      intro i1 hk4 ls hl
      have hN4 : z = i1 := by omega
      subst hN4
      refine lv_iload_n hx hb dX3_left_4 rfl (lv_at hl 2 rfl) ?_
      refine lv_aload_n hx hb dX3_left_5 rfl (lv_at hl 0 rfl) ?_
      refine va_get (D := D) (ci := 3) (v := .int (nI z)) (C := RX3) (T := TX3) (N := 2) hx hb hts uX3 hown hK hP 0 rfl rfl 1 (by decide) w1 (fun _ h9 => h9) rfl dX3_left_6 ?_
      refine lv_icmp_ge (tgt := 36) hx hb dX3_left_9 (by decide) (fun _ => ?_) (fun c => absurd (nle_t (a := z) (b := z) rfl rfl (by omega) (by omega) (by omega)) c)
      refine lv_iload_n hx hb dX3_left_36 rfl (lv_at hl 1 rfl) ?_
      exact eRi hx hb hr hlk hQ dX3_left_37 (Eq.symm (by simp only [f_X3_left]))
    | succ k4 ih4 =>
      intro i1 hk4 ls hl
      refine lv_iload_n hx hb dX3_left_4 rfl (lv_at hl 2 rfl) ?_
      refine lv_aload_n hx hb dX3_left_5 rfl (lv_at hl 0 rfl) ?_
      refine va_get (D := D) (ci := 3) (v := .int (nI z)) (C := RX3) (T := TX3) (N := 2) hx hb hts uX3 hown hK hP 0 rfl rfl 1 (by decide) w1 (fun _ h9 => h9) rfl dX3_left_6 ?_
      refine lv_icmp_ge (tgt := 36) hx hb dX3_left_9 (by decide) (fun c => absurd c (nle_f (a := z) (b := i1) rfl rfl (by omega) (by omega) (by omega))) (fun _ => ?_)
      refine lv_iload_n hx hb dX3_left_12 rfl (lv_at hl 1 rfl) ?_
      refine lv_aload_n hx hb dX3_left_13 rfl (lv_at hl 0 rfl) ?_
      refine va_get (D := D) (ci := 3) (v := .ref aYe) (C := RX3) (T := TX3) (N := 2) hx hb hts uX3 hown hK hP 0 rfl rfl 0 (by decide) w2 (fun _ h9 => h9) rfl dX3_left_14 ?_
      refine lv_iload_n hx hb dX3_left_17 rfl (lv_at hl 2 rfl) ?_
      refine xald hx hb hK hP 1 rfl i1 rfl (by omega) (by decide) dX3_left_18 ?_
      refine lv_iconst (v := (-1)) hx hb dX3_left_19 (by decide) ?_
      refine lv_icmp_eq (tgt := 27) hx hb dX3_left_20 (by decide) (fun c1 => ?_) (fun c1 => ?_)
      · refine lv_iconst (v := 0) hx hb dX3_left_27 (by decide) ?_
        refine lv_iadd hx hb dX3_left_28 ?_
        refine lv_istore_n (lv' := [(1, .int ((f_X3_left_4_v1 en i1) + 0)), (0, .ref aY), (2, .int (nI i1))]) hx hb dX3_left_29 rfl hl (by decide) rfl (fun ls hl => ?_)
        refine lv_iinc (v := nI (i1 + 1)) (lv' := [(2, .int (nI (i1 + 1))), (1, .int ((f_X3_left_4_v1 en i1) + 0)), (0, .ref aY)]) hx hb dX3_left_30 hl (k := 2) rfl (nI_add i1 1) (by decide) rfl (fun ls hl => ?_)
        refine lv_goto (tgt := 4) hx hb dX3_left_33 (by decide) ?_
        have e_v1 : (f_X3_left_4_v1 en (i1 + 1)) = ((f_X3_left_4_v1 en i1) + 0) := (by simp only [f_X3_left_4_v1, if_pos c1])
        exact ih4 (i1 + 1) (by omega) ls (by rw [e_v1]; exact lv_sub hl [2, 1, 0] rfl)
      · refine lv_iconst (v := 1) hx hb dX3_left_23 (by decide) ?_
        refine lv_goto (tgt := 28) hx hb dX3_left_24 (by decide) ?_
        refine lv_iadd hx hb dX3_left_28 ?_
        refine lv_istore_n (lv' := [(1, .int ((f_X3_left_4_v1 en i1) + 1)), (0, .ref aY), (2, .int (nI i1))]) hx hb dX3_left_29 rfl hl (by decide) rfl (fun ls hl => ?_)
        refine lv_iinc (v := nI (i1 + 1)) (lv' := [(2, .int (nI (i1 + 1))), (1, .int ((f_X3_left_4_v1 en i1) + 1)), (0, .ref aY)]) hx hb dX3_left_30 hl (k := 2) rfl (nI_add i1 1) (by decide) rfl (fun ls hl => ?_)
        refine lv_goto (tgt := 4) hx hb dX3_left_33 (by decide) ?_
        have e_v1 : (f_X3_left_4_v1 en (i1 + 1)) = ((f_X3_left_4_v1 en i1) + 1) := (by simp only [f_X3_left_4_v1, if_neg c1])
        exact ih4 (i1 + 1) (by omega) ls (by rw [e_v1]; exact lv_sub hl [2, 1, 0] rfl)
  exact lp4 z 0 (by omega) ls (lv_sub hl [2, 1, 0] rfl)

def rm_X3_first : Room := { frames := 0, cells := 0, slots := 0, locals := 0 }
def f_X3_first_2_r (z : Nat) (en : Nat → Int32) : Nat → Nat → Int32
  | 0, _ => 0
  | k2 + 1, i1 => (if nI z ≤ nI i1 then (-1) else (if (en i1) = (-1) then (f_X3_first_2_r z en k2 (i1 + 1)) else nI i1))
def f_X3_first (z : Nat) (en : Nat → Int32) : Int32 := (f_X3_first_2_r z en (z + 1) 0)
theorem hd_X3_first : yX3_first.cls = RX3 ∧ yX3_first.cls ≠ "java/lang/invoke/MethodHandle" ∧ yX3_first.cls ≠ "java/lang/invoke/VarHandle" ∧ (parseMethodDescriptor yX3_first.desc).map (fun d => d.parameters.length) = some 0 := by decide +kernel
set_option maxHeartbeats 4000000 in
set_option maxRecDepth 100000 in
theorem c_X3_first (l : Launch) (D : va_G) (cI : ClassId) (aY aYe : Nat) (z : Nat) (en : Nat → Int32) (hz : z ≤ 64) : MetR l yX3_first wsX3_first rm_X3_first D cI [.ref aY] [(aY, .inr (3, [.ref aYe, .int (nI z)])), (aYe, .inl (cI, 64, .inl en))] (some (.int (f_X3_first z en))) := by
  refine mR (cc := cX3_first) (maxL := 2) (ret := (some .int)) (by decide) rfl (Nat.le_of_ble_eq_true rfl) ?_
  intro p e s m args below meth c Q hx hb hr hml hown hts hlk hP hK hQ ls hl
  have hown : s.vm.findClass RX3 = some m.cls := hown
  have hl : lv_has ls 2 [(0, .ref aY)] := hl
  have w1 := hts (.fieldLink RX3 15 "DarkOffice$Ways" "size" "I") (List.mem_of_getElem? (i := 1) rfl)
  have uX3 : ∀ w ∈ wsX30, w ∈ wsX3_first := fun _ h => List.mem_cons_of_mem _ (List.mem_append_right _ h)
  have w2 := hts (.fieldLink RX3 9 "DarkOffice$Ways" "ends" "[I") (List.mem_of_getElem? (i := 2) rfl)
  refine lv_iconst (v := 0) hx hb dX3_first_0 (by decide) ?_
  refine lv_istore_n (lv' := [(1, .int 0), (0, .ref aY)]) hx hb dX3_first_1 rfl hl (by decide) rfl (fun ls hl => ?_)
  have lp2 : ∀ (k2 : Nat) (i1 : Nat), i1 ≤ z ∧ z < i1 + k2 → ((f_X3_first z en) = (f_X3_first_2_r z en k2 i1)) → ∀ ls : Array Slot, lv_has ls 2 [(0, .ref aY), (1, .int (nI i1))] → W p l e rm_X3_first s m args below meth c s.heap [] 0 0 Q (F0 m 2 ls []) := by
    intro k2
    induction k2 with
    | zero =>
      intro i1 hh2 h2_r ls hl
      exact absurd hh2 (by omega)
    | succ k2 ih2 =>
      intro i1 hh2 h2_r ls hl
      refine lv_iload_n hx hb dX3_first_2 rfl (lv_at hl 1 rfl) ?_
      refine lv_aload_n hx hb dX3_first_3 rfl (lv_at hl 0 rfl) ?_
      refine va_get (D := D) (ci := 3) (v := .int (nI z)) (C := RX3) (T := TX3) (N := 2) hx hb hts uX3 hown hK hP 0 rfl rfl 1 (by decide) w1 (fun _ h9 => h9) rfl dX3_first_4 ?_
      refine lv_icmp_ge (tgt := 28) hx hb dX3_first_7 (by decide) (fun c1 => ?_) (fun c1 => ?_)
      · have q1 : z ≤ i1 := nle_d (a := z) (b := i1) rfl rfl (by omega) (by omega) c1
        refine lv_iconst (v := (-1)) hx hb dX3_first_28 (by decide) ?_
        exact eRi hx hb hr hlk hQ dX3_first_29 (Eq.symm (h2_r.trans (by simp only [f_X3_first_2_r, if_pos c1])))
      · have q1 : i1 < z := nle_e (a := z) (b := i1) rfl rfl (by omega) (by omega) c1
        refine lv_aload_n hx hb dX3_first_10 rfl (lv_at hl 0 rfl) ?_
        refine va_get (D := D) (ci := 3) (v := .ref aYe) (C := RX3) (T := TX3) (N := 2) hx hb hts uX3 hown hK hP 0 rfl rfl 0 (by decide) w2 (fun _ h9 => h9) rfl dX3_first_11 ?_
        refine lv_iload_n hx hb dX3_first_14 rfl (lv_at hl 1 rfl) ?_
        refine xald hx hb hK hP 1 rfl i1 rfl (by omega) (by decide) dX3_first_15 ?_
        refine lv_iconst (v := (-1)) hx hb dX3_first_16 (by decide) ?_
        refine lv_icmp_eq (tgt := 22) hx hb dX3_first_17 (by decide) (fun c2 => ?_) (fun c2 => ?_)
        · refine lv_iinc (v := nI (i1 + 1)) (lv' := [(1, .int (nI (i1 + 1))), (0, .ref aY)]) hx hb dX3_first_22 hl (k := 1) rfl (nI_add i1 1) (by decide) rfl (fun ls hl => ?_)
          refine lv_goto (tgt := 2) hx hb dX3_first_25 (by decide) ?_
          exact ih2 (i1 + 1) (by omega) (h2_r.trans (by simp only [f_X3_first_2_r, if_neg c1, if_pos c2])) ls (lv_sub hl [1, 0] rfl)
        · refine lv_iload_n hx hb dX3_first_20 rfl (lv_at hl 1 rfl) ?_
          exact eRi hx hb hr hlk hQ dX3_first_21 (Eq.symm (h2_r.trans (by simp only [f_X3_first_2_r, if_neg c1, if_neg c2])))
  exact lp2 (z + 1) 0 (by omega) (by simp only [f_X3_first]) ls (lv_sub hl [1, 0] rfl)

def rm_X3_endLit : Room := { frames := 1, cells := 0, slots := 0, locals := 21 }
def f_X3_endLit_4_v2 (en : Nat → Int32) (lamp : Int32) : Nat → Int32
  | 0 => 0
  | i1 + 1 => (if (en i1) = (-1) then ((f_X3_endLit_4_v2 en lamp i1) + 0) else (if (f_X1_left lamp (en i1)) ≤ 0 then ((f_X3_endLit_4_v2 en lamp i1) + 0) else ((f_X3_endLit_4_v2 en lamp i1) + 1)))
def f_X3_endLit (z : Nat) (en : Nat → Int32) (lamp : Int32) : Int32 := (f_X3_endLit_4_v2 en lamp z)
theorem hd_X3_endLit : yX3_endLit.cls = RX3 ∧ yX3_endLit.cls ≠ "java/lang/invoke/MethodHandle" ∧ yX3_endLit.cls ≠ "java/lang/invoke/VarHandle" ∧ (parseMethodDescriptor yX3_endLit.desc).map (fun d => d.parameters.length) = some 1 := by decide +kernel
set_option maxHeartbeats 4000000 in
set_option maxRecDepth 100000 in
theorem c_X3_endLit (l : Launch) (D : va_G) (cI : ClassId) (aY aYe : Nat) (z : Nat) (en : Nat → Int32) (lamp : Int32) (hz : z ≤ 64) : MetR l yX3_endLit wsX3_endLit rm_X3_endLit D cI [.ref aY, .int lamp] [(aY, .inr (3, [.ref aYe, .int (nI z)])), (aYe, .inl (cI, 64, .inl en))] (some (.int (f_X3_endLit z en lamp))) := by
  refine mR (cc := cX3_endLit) (maxL := 4) (ret := (some .int)) (by decide) rfl (Nat.le_of_ble_eq_true rfl) ?_
  intro p e s m args below meth c Q hx hb hr hml hown hts hlk hP hK hQ ls hl
  have hown : s.vm.findClass RX3 = some m.cls := hown
  have hl : lv_has ls 4 [(0, .ref aY), (1, .int lamp)] := hl
  have w1 := hts (.fieldLink RX3 15 "DarkOffice$Ways" "size" "I") (List.mem_of_getElem? (i := 1) rfl)
  have uX3 : ∀ w ∈ wsX30, w ∈ wsX3_endLit := fun _ h => List.mem_cons_of_mem _ (List.mem_append_right _ h)
  have w2 := hts (.fieldLink RX3 9 "DarkOffice$Ways" "ends" "[I") (List.mem_of_getElem? (i := 2) rfl)
  refine lv_iconst (v := 0) hx hb dX3_endLit_0 (by decide) ?_
  refine lv_istore_n (lv' := [(2, .int 0), (0, .ref aY), (1, .int lamp)]) hx hb dX3_endLit_1 rfl hl (by decide) rfl (fun ls hl => ?_)
  refine lv_iconst (v := 0) hx hb dX3_endLit_2 (by decide) ?_
  refine lv_istore_n (lv' := [(3, .int 0), (2, .int 0), (0, .ref aY), (1, .int lamp)]) hx hb dX3_endLit_3 rfl hl (by decide) rfl (fun ls hl => ?_)
  have lp4 : ∀ (k4 i1 : Nat), i1 + k4 = z → ∀ ls : Array Slot, lv_has ls 4 [(0, .ref aY), (1, .int lamp), (2, .int ((f_X3_endLit_4_v2 en lamp i1))), (3, .int (nI i1))] → W p l e rm_X3_endLit s m args below meth c s.heap [] 0 0 Q (F0 m 4 ls []) := by
    intro k4
    induction k4 with
    | zero =>
      intro i1 hk4 ls hl
      have hN4 : z = i1 := by omega
      subst hN4
      refine lv_iload_n hx hb dX3_endLit_4 rfl (lv_at hl 3 rfl) ?_
      refine lv_aload_n hx hb dX3_endLit_5 rfl (lv_at hl 0 rfl) ?_
      refine va_get (D := D) (ci := 3) (v := .int (nI z)) (C := RX3) (T := TX3) (N := 2) hx hb hts uX3 hown hK hP 0 rfl rfl 1 (by decide) w1 (fun _ h9 => h9) rfl dX3_endLit_6 ?_
      refine lv_icmp_ge (tgt := 49) hx hb dX3_endLit_9 (by decide) (fun _ => ?_) (fun c => absurd (nle_t (a := z) (b := z) rfl rfl (by omega) (by omega) (by omega)) c)
      refine lv_iload_n hx hb dX3_endLit_49 rfl (lv_at hl 2 rfl) ?_
      exact eRi hx hb hr hlk hQ dX3_endLit_50 (Eq.symm (by simp only [f_X3_endLit]))
    | succ k4 ih4 =>
      intro i1 hk4 ls hl
      refine lv_iload_n hx hb dX3_endLit_4 rfl (lv_at hl 3 rfl) ?_
      refine lv_aload_n hx hb dX3_endLit_5 rfl (lv_at hl 0 rfl) ?_
      refine va_get (D := D) (ci := 3) (v := .int (nI z)) (C := RX3) (T := TX3) (N := 2) hx hb hts uX3 hown hK hP 0 rfl rfl 1 (by decide) w1 (fun _ h9 => h9) rfl dX3_endLit_6 ?_
      refine lv_icmp_ge (tgt := 49) hx hb dX3_endLit_9 (by decide) (fun c => absurd c (nle_f (a := z) (b := i1) rfl rfl (by omega) (by omega) (by omega))) (fun _ => ?_)
      refine lv_iload_n hx hb dX3_endLit_12 rfl (lv_at hl 2 rfl) ?_
      refine lv_aload_n hx hb dX3_endLit_13 rfl (lv_at hl 0 rfl) ?_
      refine va_get (D := D) (ci := 3) (v := .ref aYe) (C := RX3) (T := TX3) (N := 2) hx hb hts uX3 hown hK hP 0 rfl rfl 0 (by decide) w2 (fun _ h9 => h9) rfl dX3_endLit_14 ?_
      refine lv_iload_n hx hb dX3_endLit_17 rfl (lv_at hl 3 rfl) ?_
      refine xald hx hb hK hP 1 rfl i1 rfl (by omega) (by decide) dX3_endLit_18 ?_
      refine lv_iconst (v := (-1)) hx hb dX3_endLit_19 (by decide) ?_
      refine lv_icmp_eq (tgt := 40) hx hb dX3_endLit_20 (by decide) (fun c1 => ?_) (fun c1 => ?_)
      · refine lv_iconst (v := 0) hx hb dX3_endLit_40 (by decide) ?_
        refine lv_iadd hx hb dX3_endLit_41 ?_
        refine lv_istore_n (lv' := [(2, .int ((f_X3_endLit_4_v2 en lamp i1) + 0)), (0, .ref aY), (1, .int lamp), (3, .int (nI i1))]) hx hb dX3_endLit_42 rfl hl (by decide) rfl (fun ls hl => ?_)
        refine lv_iinc (v := nI (i1 + 1)) (lv' := [(3, .int (nI (i1 + 1))), (2, .int ((f_X3_endLit_4_v2 en lamp i1) + 0)), (0, .ref aY), (1, .int lamp)]) hx hb dX3_endLit_43 hl (k := 3) rfl (nI_add i1 1) (by decide) rfl (fun ls hl => ?_)
        refine lv_goto (tgt := 4) hx hb dX3_endLit_46 (by decide) ?_
        have e_v2 : (f_X3_endLit_4_v2 en lamp (i1 + 1)) = ((f_X3_endLit_4_v2 en lamp i1) + 0) := (by simp only [f_X3_endLit_4_v2, if_pos c1])
        exact ih4 (i1 + 1) (by omega) ls (by rw [e_v2]; exact lv_sub hl [2, 3, 1, 0] rfl)
      · refine lv_aload_n hx hb dX3_endLit_23 rfl (lv_at hl 0 rfl) ?_
        refine va_get (D := D) (ci := 3) (v := .ref aYe) (C := RX3) (T := TX3) (N := 2) hx hb hts uX3 hown hK hP 0 rfl rfl 0 (by decide) w2 (fun _ h9 => h9) rfl dX3_endLit_24 ?_
        refine lv_iload_n hx hb dX3_endLit_27 rfl (lv_at hl 3 rfl) ?_
        refine xald hx hb hK hP 1 rfl i1 rfl (by omega) (by decide) dX3_endLit_28 ?_
        refine lv_iload_n hx hb dX3_endLit_29 rfl (lv_at hl 1 rfl) ?_
        refine rS ⟨hx, hb, hml, hown, hts⟩ (c_X1_left l D cI lamp (en i1)) (va_cwS 2 hts gX3_endLit_X1_left rfl rfl rfl hd_X1_left ⟨Nat.le_of_ble_eq_true rfl, Nat.le_of_ble_eq_true rfl⟩) hK (hP.sub [] rfl) rfl hl.1 (rest := [.int ((f_X3_endLit_4_v2 en lamp i1))]) (st' := [.int (f_X1_left lamp (en i1)), .int ((f_X3_endLit_4_v2 en lamp i1))]) rfl rfl (Nat.le_of_ble_eq_true rfl) dX3_endLit_30 ⟨Nat.zero_le _, Nat.zero_le _⟩ ?_
        refine lv_if_le (tgt := 40) hx hb dX3_endLit_33 (by decide) (fun c2 => ?_) (fun c2 => ?_)
        · refine lv_iconst (v := 0) hx hb dX3_endLit_40 (by decide) ?_
          refine lv_iadd hx hb dX3_endLit_41 ?_
          refine lv_istore_n (lv' := [(2, .int ((f_X3_endLit_4_v2 en lamp i1) + 0)), (0, .ref aY), (1, .int lamp), (3, .int (nI i1))]) hx hb dX3_endLit_42 rfl hl (by decide) rfl (fun ls hl => ?_)
          refine lv_iinc (v := nI (i1 + 1)) (lv' := [(3, .int (nI (i1 + 1))), (2, .int ((f_X3_endLit_4_v2 en lamp i1) + 0)), (0, .ref aY), (1, .int lamp)]) hx hb dX3_endLit_43 hl (k := 3) rfl (nI_add i1 1) (by decide) rfl (fun ls hl => ?_)
          refine lv_goto (tgt := 4) hx hb dX3_endLit_46 (by decide) ?_
          have e_v2 : (f_X3_endLit_4_v2 en lamp (i1 + 1)) = ((f_X3_endLit_4_v2 en lamp i1) + 0) := (by simp only [f_X3_endLit_4_v2, if_neg c1, if_pos c2])
          exact ih4 (i1 + 1) (by omega) ls (by rw [e_v2]; exact lv_sub hl [2, 3, 1, 0] rfl)
        · refine lv_iconst (v := 1) hx hb dX3_endLit_36 (by decide) ?_
          refine lv_goto (tgt := 41) hx hb dX3_endLit_37 (by decide) ?_
          refine lv_iadd hx hb dX3_endLit_41 ?_
          refine lv_istore_n (lv' := [(2, .int ((f_X3_endLit_4_v2 en lamp i1) + 1)), (0, .ref aY), (1, .int lamp), (3, .int (nI i1))]) hx hb dX3_endLit_42 rfl hl (by decide) rfl (fun ls hl => ?_)
          refine lv_iinc (v := nI (i1 + 1)) (lv' := [(3, .int (nI (i1 + 1))), (2, .int ((f_X3_endLit_4_v2 en lamp i1) + 1)), (0, .ref aY), (1, .int lamp)]) hx hb dX3_endLit_43 hl (k := 3) rfl (nI_add i1 1) (by decide) rfl (fun ls hl => ?_)
          refine lv_goto (tgt := 4) hx hb dX3_endLit_46 (by decide) ?_
          have e_v2 : (f_X3_endLit_4_v2 en lamp (i1 + 1)) = ((f_X3_endLit_4_v2 en lamp i1) + 1) := (by simp only [f_X3_endLit_4_v2, if_neg c1, if_neg c2])
          exact ih4 (i1 + 1) (by omega) ls (by rw [e_v2]; exact lv_sub hl [2, 3, 1, 0] rfl)
  exact lp4 z 0 (by omega) ls (lv_sub hl [2, 3, 1, 0] rfl)

def rm_X3_tellingLamp : Room := { frames := 2, cells := 0, slots := 0, locals := 44 }
def f_X3_tellingLamp_15_r (nl : Nat) (z : Nat) (en : Nat → Int32) : Nat → Nat → Int32 → Int32 → Int32
  | 0, _, _, _ => 0
  | k15 + 1, i1, x15_v3, x15_v4 => (if nI nl ≤ nI i1 then x15_v3 else (if (f_X3_left z en) ≤ 0 then x15_v3 else (if x15_v4 ≤ (if (f_X3_endLit z en (nI i1)) < ((f_X3_left z en) - (f_X3_endLit z en (nI i1))) then ((f_X3_left z en) - (f_X3_endLit z en (nI i1))) else (f_X3_endLit z en (nI i1))) then (f_X3_tellingLamp_15_r nl z en k15 (i1 + 1) x15_v3 x15_v4) else (f_X3_tellingLamp_15_r nl z en k15 (i1 + 1) (nI i1) (if (f_X3_endLit z en (nI i1)) < ((f_X3_left z en) - (f_X3_endLit z en (nI i1))) then ((f_X3_left z en) - (f_X3_endLit z en (nI i1))) else (f_X3_endLit z en (nI i1)))))))
def f_X3_tellingLamp (nl : Nat) (z : Nat) (en : Nat → Int32) : Int32 := (f_X3_tellingLamp_15_r nl z en (nl + 1) 0 (-1) ((f_X3_left z en) + 1))
theorem hd_X3_tellingLamp : yX3_tellingLamp.cls = RX3 ∧ yX3_tellingLamp.cls ≠ "java/lang/invoke/MethodHandle" ∧ yX3_tellingLamp.cls ≠ "java/lang/invoke/VarHandle" ∧ (parseMethodDescriptor yX3_tellingLamp.desc).map (fun d => d.parameters.length) = some 1 := by decide +kernel
set_option maxHeartbeats 4000000 in
set_option maxRecDepth 100000 in
theorem c_X3_tellingLamp (l : Launch) (D : va_G) (cI : ClassId) (aY aYe : Nat) (nl : Nat) (z : Nat) (en : Nat → Int32) (hn : nl ≤ 6) (hz : z ≤ 64) : MetR l yX3_tellingLamp wsX3_tellingLamp rm_X3_tellingLamp D cI [.ref aY, .int (nI nl)] [(aY, .inr (3, [.ref aYe, .int (nI z)])), (aYe, .inl (cI, 64, .inl en))] (some (.int (f_X3_tellingLamp nl z en))) := by
  refine mR (cc := cX3_tellingLamp) (maxL := 8) (ret := (some .int)) (by decide) rfl (Nat.le_of_ble_eq_true rfl) ?_
  intro p e s m args below meth c Q hx hb hr hml hown hts hlk hP hK hQ ls hl
  have hown : s.vm.findClass RX3 = some m.cls := hown
  have hl : lv_has ls 8 [(0, .ref aY), (1, .int (nI nl))] := hl
  have w1 := hts (.methodLink RX3 49 Lib.Math.max.name) (List.mem_of_getElem? (i := 1) rfl)
  have w2 := hts (.static Lib.Math.max.name) (List.mem_of_getElem? (i := 2) rfl)
  have w3 := hts (.initialized "java/lang/Math") (List.mem_of_getElem? (i := 3) rfl)
  have w4 := hts (.code Lib.Math.max.name Lib.Math.max.code 2 (some .int)) (List.mem_of_getElem? (i := 4) rfl)
  refine lv_aload_n hx hb dX3_tellingLamp_0 rfl (lv_at hl 0 rfl) ?_
  refine rV ⟨hx, hb, hml, hown, hts⟩ (c_X3_left l D cI aY aYe z en hz) (cwV 0 hts gX3_tellingLamp_X3_left rfl rfl rfl hd_X3_left ⟨Nat.le_of_ble_eq_true rfl, Nat.le_of_ble_eq_true rfl⟩) hK (hP.sub [0, 1] rfl) 0 rfl rfl rfl rfl hl.1 (rest := []) (st' := [.int (f_X3_left z en)]) rfl rfl (Nat.le_of_ble_eq_true rfl) dX3_tellingLamp_1 ⟨Nat.zero_le _, Nat.zero_le _⟩ ?_
  refine lv_istore_n (lv' := [(2, .int (f_X3_left z en)), (0, .ref aY), (1, .int (nI nl))]) hx hb dX3_tellingLamp_4 rfl hl (by decide) rfl (fun ls hl => ?_)
  refine lv_iconst (v := (-1)) hx hb dX3_tellingLamp_5 (by decide) ?_
  refine lv_istore_n (lv' := [(3, .int (-1)), (2, .int (f_X3_left z en)), (0, .ref aY), (1, .int (nI nl))]) hx hb dX3_tellingLamp_6 rfl hl (by decide) rfl (fun ls hl => ?_)
  refine lv_iload_n hx hb dX3_tellingLamp_7 rfl (lv_at hl 1 rfl) ?_
  refine lv_iconst (v := 1) hx hb dX3_tellingLamp_8 (by decide) ?_
  refine lv_iadd hx hb dX3_tellingLamp_9 ?_
  refine lv_istore (lv' := [(4, .int ((f_X3_left z en) + 1)), (3, .int (-1)), (2, .int (f_X3_left z en)), (0, .ref aY), (1, .int (nI nl))]) hx hb dX3_tellingLamp_10 hl (by decide) rfl (fun ls hl => ?_)
  refine lv_iconst (v := 0) hx hb dX3_tellingLamp_12 (by decide) ?_
  refine lv_istore (lv' := [(5, .int 0), (4, .int ((f_X3_left z en) + 1)), (3, .int (-1)), (2, .int (f_X3_left z en)), (0, .ref aY), (1, .int (nI nl))]) hx hb dX3_tellingLamp_13 hl (by decide) rfl (fun ls hl => ?_)
  have lp15 : ∀ (k15 : Nat) (i1 : Nat) (x15_v3 : Int32) (x15_v4 : Int32), i1 ≤ nl ∧ nl < i1 + k15 → ((f_X3_tellingLamp nl z en) = (f_X3_tellingLamp_15_r nl z en k15 i1 x15_v3 x15_v4)) → ∀ ls : Array Slot, lv_has ls 8 [(0, .ref aY), (1, .int (nI nl)), (2, .int (f_X3_left z en)), (3, .int x15_v3), (4, .int x15_v4), (5, .int (nI i1))] → W p l e rm_X3_tellingLamp s m args below meth c s.heap [] 0 0 Q (F0 m 15 ls []) := by
    intro k15
    induction k15 with
    | zero =>
      intro i1 x15_v3 x15_v4 hh15 h15_r ls hl
      exact absurd hh15 (by omega)
    | succ k15 ih15 =>
      intro i1 x15_v3 x15_v4 hh15 h15_r ls hl
      refine lv_iload hx hb dX3_tellingLamp_15 (lv_at hl 5 rfl) ?_
      refine lv_iload_n hx hb dX3_tellingLamp_17 rfl (lv_at hl 1 rfl) ?_
      refine lv_icmp_ge (tgt := 64) hx hb dX3_tellingLamp_18 (by decide) (fun c1 => ?_) (fun c1 => ?_)
      · have q1 : nl ≤ i1 := nle_d (a := nl) (b := i1) rfl rfl (by omega) (by omega) c1
        refine lv_iload_n hx hb dX3_tellingLamp_64 rfl (lv_at hl 3 rfl) ?_
        exact eRi hx hb hr hlk hQ dX3_tellingLamp_65 (Eq.symm (h15_r.trans (by simp only [f_X3_tellingLamp_15_r, if_pos c1])))
      · have q1 : i1 < nl := nle_e (a := nl) (b := i1) rfl rfl (by omega) (by omega) c1
        refine lv_iload_n hx hb dX3_tellingLamp_21 rfl (lv_at hl 2 rfl) ?_
        refine lv_if_le (tgt := 64) hx hb dX3_tellingLamp_22 (by decide) (fun c2 => ?_) (fun c2 => ?_)
        · refine lv_iload_n hx hb dX3_tellingLamp_64 rfl (lv_at hl 3 rfl) ?_
          exact eRi hx hb hr hlk hQ dX3_tellingLamp_65 (Eq.symm (h15_r.trans (by simp only [f_X3_tellingLamp_15_r, if_neg c1, if_pos c2])))
        · refine lv_aload_n hx hb dX3_tellingLamp_25 rfl (lv_at hl 0 rfl) ?_
          refine lv_iload hx hb dX3_tellingLamp_26 (lv_at hl 5 rfl) ?_
          refine rV ⟨hx, hb, hml, hown, hts⟩ (c_X3_endLit l D cI aY aYe z en (nI i1) hz) (cwV 1 hts gX3_tellingLamp_X3_endLit rfl rfl rfl hd_X3_endLit ⟨Nat.le_of_ble_eq_true rfl, Nat.le_of_ble_eq_true rfl⟩) hK (hP.sub [0, 1] rfl) 0 rfl rfl rfl rfl hl.1 (rest := []) (st' := [.int (f_X3_endLit z en (nI i1))]) rfl rfl (Nat.le_of_ble_eq_true rfl) dX3_tellingLamp_28 ⟨Nat.zero_le _, Nat.zero_le _⟩ ?_
          refine lv_istore (lv' := [(6, .int (f_X3_endLit z en (nI i1))), (0, .ref aY), (1, .int (nI nl)), (2, .int (f_X3_left z en)), (3, .int x15_v3), (4, .int x15_v4), (5, .int (nI i1))]) hx hb dX3_tellingLamp_31 hl (by decide) rfl (fun ls hl => ?_)
          refine lv_iload hx hb dX3_tellingLamp_33 (lv_at hl 0 rfl) ?_
          refine lv_iload_n hx hb dX3_tellingLamp_35 rfl (lv_at hl 3 rfl) ?_
          refine lv_iload hx hb dX3_tellingLamp_36 (lv_at hl 0 rfl) ?_
          refine lv_isub hx hb dX3_tellingLamp_38 ?_
          refine va_mmax hx hb (hml.trans hl.1.symm) hown w1 w2 w3 w4 (Nat.le_of_ble_eq_true rfl) (Nat.le_of_ble_eq_true rfl) (Nat.zero_le _) (Nat.zero_le _) dX3_tellingLamp_39 ?_
          refine lv_istore (lv' := [(7, .int (if (f_X3_endLit z en (nI i1)) < ((f_X3_left z en) - (f_X3_endLit z en (nI i1))) then ((f_X3_left z en) - (f_X3_endLit z en (nI i1))) else (f_X3_endLit z en (nI i1)))), (6, .int (f_X3_endLit z en (nI i1))), (0, .ref aY), (1, .int (nI nl)), (2, .int (f_X3_left z en)), (3, .int x15_v3), (4, .int x15_v4), (5, .int (nI i1))]) hx hb dX3_tellingLamp_42 hl (by decide) rfl (fun ls hl => ?_)
          refine lv_iload hx hb dX3_tellingLamp_44 (lv_at hl 0 rfl) ?_
          refine lv_iload hx hb dX3_tellingLamp_46 (lv_at hl 6 rfl) ?_
          refine lv_icmp_ge (tgt := 58) hx hb dX3_tellingLamp_48 (by decide) (fun c3 => ?_) (fun c3 => ?_)
          · refine lv_iinc (v := nI (i1 + 1)) (lv' := [(5, .int (nI (i1 + 1))), (7, .int (if (f_X3_endLit z en (nI i1)) < ((f_X3_left z en) - (f_X3_endLit z en (nI i1))) then ((f_X3_left z en) - (f_X3_endLit z en (nI i1))) else (f_X3_endLit z en (nI i1)))), (6, .int (f_X3_endLit z en (nI i1))), (0, .ref aY), (1, .int (nI nl)), (2, .int (f_X3_left z en)), (3, .int x15_v3), (4, .int x15_v4)]) hx hb dX3_tellingLamp_58 hl (k := 7) rfl (nI_add i1 1) (by decide) rfl (fun ls hl => ?_)
            refine lv_goto (tgt := 15) hx hb dX3_tellingLamp_61 (by decide) ?_
            exact ih15 (i1 + 1) x15_v3 x15_v4 (by omega) (h15_r.trans (by simp only [f_X3_tellingLamp_15_r, if_neg c1, if_neg c2, if_pos c3])) ls (lv_sub hl [3, 4, 5, 6, 7, 0] rfl)
          · refine lv_iload hx hb dX3_tellingLamp_51 (lv_at hl 0 rfl) ?_
            refine lv_istore (lv' := [(4, .int (if (f_X3_endLit z en (nI i1)) < ((f_X3_left z en) - (f_X3_endLit z en (nI i1))) then ((f_X3_left z en) - (f_X3_endLit z en (nI i1))) else (f_X3_endLit z en (nI i1)))), (7, .int (if (f_X3_endLit z en (nI i1)) < ((f_X3_left z en) - (f_X3_endLit z en (nI i1))) then ((f_X3_left z en) - (f_X3_endLit z en (nI i1))) else (f_X3_endLit z en (nI i1)))), (6, .int (f_X3_endLit z en (nI i1))), (0, .ref aY), (1, .int (nI nl)), (2, .int (f_X3_left z en)), (3, .int x15_v3), (5, .int (nI i1))]) hx hb dX3_tellingLamp_53 hl (by decide) rfl (fun ls hl => ?_)
            refine lv_iload hx hb dX3_tellingLamp_55 (lv_at hl 7 rfl) ?_
            refine lv_istore_n (lv' := [(3, .int (nI i1)), (4, .int (if (f_X3_endLit z en (nI i1)) < ((f_X3_left z en) - (f_X3_endLit z en (nI i1))) then ((f_X3_left z en) - (f_X3_endLit z en (nI i1))) else (f_X3_endLit z en (nI i1)))), (7, .int (if (f_X3_endLit z en (nI i1)) < ((f_X3_left z en) - (f_X3_endLit z en (nI i1))) then ((f_X3_left z en) - (f_X3_endLit z en (nI i1))) else (f_X3_endLit z en (nI i1)))), (6, .int (f_X3_endLit z en (nI i1))), (0, .ref aY), (1, .int (nI nl)), (2, .int (f_X3_left z en)), (5, .int (nI i1))]) hx hb dX3_tellingLamp_57 rfl hl (by decide) rfl (fun ls hl => ?_)
            refine lv_iinc (v := nI (i1 + 1)) (lv' := [(5, .int (nI (i1 + 1))), (3, .int (nI i1)), (4, .int (if (f_X3_endLit z en (nI i1)) < ((f_X3_left z en) - (f_X3_endLit z en (nI i1))) then ((f_X3_left z en) - (f_X3_endLit z en (nI i1))) else (f_X3_endLit z en (nI i1)))), (7, .int (if (f_X3_endLit z en (nI i1)) < ((f_X3_left z en) - (f_X3_endLit z en (nI i1))) then ((f_X3_left z en) - (f_X3_endLit z en (nI i1))) else (f_X3_endLit z en (nI i1)))), (6, .int (f_X3_endLit z en (nI i1))), (0, .ref aY), (1, .int (nI nl)), (2, .int (f_X3_left z en))]) hx hb dX3_tellingLamp_58 hl (k := 7) rfl (nI_add i1 1) (by decide) rfl (fun ls hl => ?_)
            refine lv_goto (tgt := 15) hx hb dX3_tellingLamp_61 (by decide) ?_
            exact ih15 (i1 + 1) (nI i1) (if (f_X3_endLit z en (nI i1)) < ((f_X3_left z en) - (f_X3_endLit z en (nI i1))) then ((f_X3_left z en) - (f_X3_endLit z en (nI i1))) else (f_X3_endLit z en (nI i1))) (by omega) (h15_r.trans (by simp only [f_X3_tellingLamp_15_r, if_neg c1, if_neg c2, if_neg c3])) ls (lv_sub hl [5, 6, 7, 1, 2, 0] rfl)
  exact lp15 (nl + 1) 0 (-1) ((f_X3_left z en) + 1) (by omega) (by simp only [f_X3_tellingLamp]) ls (lv_sub hl [4, 5, 3, 2, 1, 0] rfl)

def rm_X3_further : Room := { frames := 2, cells := 0, slots := 0, locals := 46 }
def f_X3_further (nl : Nat) (ho : Nat → Int32) (sn : Nat → Int32) (tl : Nat → Int32) (td : Nat → Int32) (lit : Int32) (minute : Int32) (stirred : Int32) : Int32 := (if lit = (-1) then (-1) else (if (f_X0_bookAgrees tl td (f_X1_litOnes nl (f_X1_after nl ho sn lit stirred)) minute) = 0 then (-1) else (f_X1_after nl ho sn lit stirred)))
theorem hd_X3_further : yX3_further.cls ≠ "java/lang/invoke/MethodHandle" ∧ yX3_further.cls ≠ "java/lang/invoke/VarHandle" ∧ (parseMethodDescriptor yX3_further.desc).map (fun d => d.parameters.length) = some 5 := by decide +kernel
set_option maxHeartbeats 4000000 in
set_option maxRecDepth 100000 in
theorem c_X3_further (l : Launch) (D : va_G) (cI : ClassId) (aL aLk aLh aLs aE aEs aEw aEd aEl aEt : Nat) (nl : Nat) (ho : Nat → Int32) (sn : Nat → Int32) (li : Int32) (mi : Int32) (pe : Nat) (to : Int32) (tl : Nat → Int32) (td : Nat → Int32) (lit : Int32) (minute : Int32) (stirred : Int32) (hn : nl ≤ 6) : MetR l yX3_further wsX3_further rm_X3_further D cI [.ref aL, .ref aE, .int lit, .int stirred, .int minute] [(aL, .inr (1, [.ref aLk, .ref aLh, .ref aLs, .int (nI nl)])), (aLh, .inl (cI, 6, .inl ho)), (aLs, .inl (cI, 6, .inl sn)), (aE, .inr (0, [.int li, .int mi, .int (nI pe), .ref aEs, .ref aEw, .ref aEd, .int to, .ref aEl, .ref aEt])), (aEl, .inl (cI, 7, .inl tl)), (aEt, .inl (cI, 7, .inl td))] (some (.int (f_X3_further nl ho sn tl td lit minute stirred))) := by
  refine mR (cc := cX3_further) (maxL := 6) (ret := (some .int)) (by decide) rfl (Nat.le_of_ble_eq_true rfl) ?_
  intro p e s m args below meth c Q hx hb hr hml hown hts hlk hP hK hQ ls hl
  have hown : s.vm.findClass RX3 = some m.cls := hown
  have hl : lv_has ls 6 [(0, .ref aL), (1, .ref aE), (2, .int lit), (3, .int stirred), (4, .int minute)] := hl
  refine lv_iload_n hx hb dX3_further_0 rfl (lv_at hl 2 rfl) ?_
  refine lv_iconst (v := (-1)) hx hb dX3_further_1 (by decide) ?_
  refine lv_icmp_ne (tgt := 7) hx hb dX3_further_2 (by decide) (fun c1 => ?_) (fun c1 => ?_)
  · refine lv_aload_n hx hb dX3_further_7 rfl (lv_at hl 0 rfl) ?_
    refine lv_iload_n hx hb dX3_further_8 rfl (lv_at hl 2 rfl) ?_
    refine lv_iload_n hx hb dX3_further_9 rfl (lv_at hl 3 rfl) ?_
    refine rV ⟨hx, hb, hml, hown, hts⟩ (c_X1_after l D cI aL aLk aLh aLs nl ho sn lit stirred hn) (cwV 2 hts gX3_further_X1_after rfl rfl rfl hd_X1_after ⟨Nat.le_of_ble_eq_true rfl, Nat.le_of_ble_eq_true rfl⟩) hK (hP.sub [0, 1, 2] rfl) 0 rfl rfl rfl rfl hl.1 (rest := []) (st' := [.int (f_X1_after nl ho sn lit stirred)]) rfl rfl (Nat.le_of_ble_eq_true rfl) dX3_further_10 ⟨Nat.zero_le _, Nat.zero_le _⟩ ?_
    refine lv_istore (lv' := [(5, .int (f_X1_after nl ho sn lit stirred)), (0, .ref aL), (1, .ref aE), (2, .int lit), (3, .int stirred), (4, .int minute)]) hx hb dX3_further_13 hl (by decide) rfl (fun ls hl => ?_)
    refine lv_aload_n hx hb dX3_further_15 rfl (lv_at hl 2 rfl) ?_
    refine lv_iload hx hb dX3_further_16 (lv_at hl 5 rfl) ?_
    refine lv_aload_n hx hb dX3_further_18 rfl (lv_at hl 1 rfl) ?_
    refine lv_iload hx hb dX3_further_19 (lv_at hl 0 rfl) ?_
    refine rV ⟨hx, hb, hml, hown, hts⟩ (c_X1_litOnes l D cI aL aLk aLh aLs nl (f_X1_after nl ho sn lit stirred) hn) (cwV 1 hts gX3_further_X1_litOnes rfl rfl rfl hd_X1_litOnes ⟨Nat.le_of_ble_eq_true rfl, Nat.le_of_ble_eq_true rfl⟩) hK (hP.sub [0] rfl) 0 rfl rfl rfl rfl hl.1 (rest := [.int minute, .ref aE]) (st' := [.int (f_X1_litOnes nl (f_X1_after nl ho sn lit stirred)), .int minute, .ref aE]) rfl rfl (Nat.le_of_ble_eq_true rfl) dX3_further_21 ⟨Nat.zero_le _, Nat.zero_le _⟩ ?_
    refine rV ⟨hx, hb, hml, hown, hts⟩ (c_X0_bookAgrees l D cI aE aEs aEw aEd aEl aEt li mi pe to tl td (f_X1_litOnes nl (f_X1_after nl ho sn lit stirred)) minute) (cwV 2 hts gX3_further_X0_bookAgrees rfl rfl rfl hd_X0_bookAgrees ⟨Nat.le_of_ble_eq_true rfl, Nat.le_of_ble_eq_true rfl⟩) hK (hP.sub [3, 4, 5] rfl) 0 rfl rfl rfl rfl hl.1 (rest := []) (st' := [.int (f_X0_bookAgrees tl td (f_X1_litOnes nl (f_X1_after nl ho sn lit stirred)) minute)]) rfl rfl (Nat.le_of_ble_eq_true rfl) dX3_further_24 ⟨Nat.zero_le _, Nat.zero_le _⟩ ?_
    refine lv_if_eq (tgt := 35) hx hb dX3_further_27 (by decide) (fun c2 => ?_) (fun c2 => ?_)
    · refine lv_iconst (v := (-1)) hx hb dX3_further_35 (by decide) ?_
      exact eRi hx hb hr hlk hQ dX3_further_36 (Eq.symm (by simp only [f_X3_further, if_neg c1, if_pos c2]))
    · refine lv_iload hx hb dX3_further_30 (lv_at hl 0 rfl) ?_
      refine lv_goto (tgt := 36) hx hb dX3_further_32 (by decide) ?_
      exact eRi hx hb hr hlk hQ dX3_further_36 (Eq.symm (by simp only [f_X3_further, if_neg c1, if_neg c2]))
  · refine lv_iconst (v := (-1)) hx hb dX3_further_5 (by decide) ?_
    exact eRi hx hb hr hlk hQ dX3_further_6 (Eq.symm (by simp only [f_X3_further, if_pos c1]))

def rm_X3_follow : Room := { frames := 3, cells := 0, slots := 0, locals := 71 }
def f_X3_follow_55_Ye (nl : Nat) (ho : Nat → Int32) (sn : Nat → Int32) (tl : Nat → Int32) (td : Nat → Int32) (i1 : Nat) (sect : Int32) (z55_Ye : Nat → Int32) : Nat → (Nat → Int32)
  | 0 => z55_Ye
  | i2 + 1 => (upd (upd (f_X3_follow_55_Ye nl ho sn tl td i1 sect z55_Ye i2) ((2 ^ i1) + i2) (f_X3_further nl ho sn tl td ((f_X3_follow_55_Ye nl ho sn tl td i1 sect z55_Ye i2) i2) (nI (i1 + 1)) (1 <<< (sect &&& 31)))) i2 (f_X3_further nl ho sn tl td ((upd (f_X3_follow_55_Ye nl ho sn tl td i1 sect z55_Ye i2) ((2 ^ i1) + i2) (f_X3_further nl ho sn tl td ((f_X3_follow_55_Ye nl ho sn tl td i1 sect z55_Ye i2) i2) (nI (i1 + 1)) (1 <<< (sect &&& 31)))) i2) (nI (i1 + 1)) 0))
def f_X3_follow_38_Ye (nl : Nat) (ho : Nat → Int32) (sn : Nat → Int32) (tl : Nat → Int32) (td : Nat → Int32) (sect : Int32) (z38_Ye : Nat → Int32) : Nat → (Nat → Int32)
  | 0 => z38_Ye
  | i1 + 1 => (f_X3_follow_55_Ye nl ho sn tl td i1 sect ((f_X3_follow_38_Ye nl ho sn tl td sect z38_Ye i1)) (2 ^ i1))
def f_X3_follow_Y_1 (mm : Nat) : Int32 := nI (2 ^ mm)
def f_X3_follow_Ye (nl : Nat) (ho : Nat → Int32) (sn : Nat → Int32) (li : Int32) (tl : Nat → Int32) (td : Nat → Int32) (en : Nat → Int32) (mm : Nat) (sect : Int32) : Nat → Int32 := (if (f_X0_bookAgrees tl td (f_X1_litOnes nl li) 0) = 0 then (f_X3_follow_38_Ye nl ho sn tl td sect (upd en 0 (-1)) mm) else (f_X3_follow_38_Ye nl ho sn tl td sect (upd en 0 li) mm))
theorem hd_X3_follow : yX3_follow.cls = RX3 ∧ yX3_follow.cls ≠ "java/lang/invoke/MethodHandle" ∧ yX3_follow.cls ≠ "java/lang/invoke/VarHandle" ∧ (parseMethodDescriptor yX3_follow.desc).map (fun d => d.parameters.length) = some 4 := by decide +kernel
set_option maxHeartbeats 4000000 in
set_option maxRecDepth 100000 in
theorem c_X3_follow (l : Launch) (D : va_G) (cI : ClassId) (aL aLk aLh aLs aE aEs aEw aEd aEl aEt aY aYe : Nat) (nl : Nat) (ho : Nat → Int32) (sn : Nat → Int32) (li : Int32) (mi : Int32) (pe : Nat) (to : Int32) (tl : Nat → Int32) (td : Nat → Int32) (z : Nat) (en : Nat → Int32) (mm : Nat) (sect : Int32) (hn : nl ≤ 6) (hmm : mm ≤ 6) : MetX l yX3_follow wsX3_follow rm_X3_follow D cI [.ref aY, .ref aL, .ref aE, .int sect, .int (nI mm)] [(aL, .inr (1, [.ref aLk, .ref aLh, .ref aLs, .int (nI nl)])), (aLh, .inl (cI, 6, .inl ho)), (aLs, .inl (cI, 6, .inl sn)), (aE, .inr (0, [.int li, .int mi, .int (nI pe), .ref aEs, .ref aEw, .ref aEd, .int to, .ref aEl, .ref aEt])), (aEl, .inl (cI, 7, .inl tl)), (aEt, .inl (cI, 7, .inl td)), (aY, .inr (3, [.ref aYe, .int (nI z)])), (aYe, .inl (cI, 64, .inl en))] none [(aL, .inr (1, [.ref aLk, .ref aLh, .ref aLs, .int (nI nl)])), (aLh, .inl (cI, 6, .inl ho)), (aLs, .inl (cI, 6, .inl sn)), (aE, .inr (0, [.int li, .int mi, .int (nI pe), .ref aEs, .ref aEw, .ref aEd, .int to, .ref aEl, .ref aEt])), (aEl, .inl (cI, 7, .inl tl)), (aEt, .inl (cI, 7, .inl td)), (aY, .inr (3, [.ref aYe, .int (f_X3_follow_Y_1 mm)])), (aYe, .inl (cI, 64, .inl (f_X3_follow_Ye nl ho sn li tl td en mm sect)))] := by
  refine mX (cc := cX3_follow) (maxL := 7) (ret := none) (by decide) rfl (Nat.le_of_ble_eq_true rfl) ?_
  intro p e s m args below meth c Q A hx hb hr hml hown hts hlk hP hK hD hA hS hQ ls hl
  have hown : s.vm.findClass RX3 = some m.cls := hown
  have hl : lv_has ls 7 [(0, .ref aY), (1, .ref aL), (2, .ref aE), (3, .int sect), (4, .int (nI mm))] := hl
  have w1 := hts (.fieldLink RX3 15 "DarkOffice$Ways" "size" "I") (List.mem_of_getElem? (i := 1) rfl)
  have uX3 : ∀ w ∈ wsX30, w ∈ wsX3_follow := fun _ h => List.mem_cons_of_mem _ (List.mem_append_left _ (List.mem_append_left _ (List.mem_append_right _ h)))
  have w2 := hts (.fieldLink RX3 9 "DarkOffice$Ways" "ends" "[I") (List.mem_of_getElem? (i := 2) rfl)
  have w3 := hts (.fieldLink RX3 19 "DarkOffice$Evening" "lit" "I") (List.mem_of_getElem? (i := 3) rfl)
  have uX0 : ∀ w ∈ wsX00, w ∈ wsX3_follow := fun _ h => List.mem_cons_of_mem _ (List.mem_append_left _ (List.mem_append_right _ h))
  refine lv_aload_n hx hb dX3_follow_0 rfl (lv_at hl 0 rfl) ?_
  refine lv_iconst (v := 1) hx hb dX3_follow_1 (by decide) ?_
  refine va_put (D := D) (ci := 3) (v := .int 1) (ty := .int) (C := RX3) (T := TX3) (N := 2) hx hb hts uX3 tyX3 tyX3_ok nmX3 hown hK hP hD hS 6 rfl rfl 1 (by decide) w1 (fun _ h9 => h9) rfl (by decide +kernel) rfl rfl (Nat.le_of_ble_eq_true rfl) dX3_follow_2 (fun H locs hP hD hS => ?_)
  have hP : va_P D vwCl [(aL, .inr (1, [.ref aLk, .ref aLh, .ref aLs, .int (nI nl)])), (aLh, .inl (cI, 6, .inl ho)), (aLs, .inl (cI, 6, .inl sn)), (aE, .inr (0, [.int li, .int mi, .int (nI pe), .ref aEs, .ref aEw, .ref aEd, .int to, .ref aEl, .ref aEt])), (aEl, .inl (cI, 7, .inl tl)), (aEt, .inl (cI, 7, .inl td)), (aY, .inr (3, [.ref aYe, .int 1])), (aYe, .inl (cI, 64, .inl en))] H := hP
  have hD : va_D A [(aL, .inr (1, [.ref aLk, .ref aLh, .ref aLs, .int (nI nl)])), (aLh, .inl (cI, 6, .inl ho)), (aLs, .inl (cI, 6, .inl sn)), (aE, .inr (0, [.int li, .int mi, .int (nI pe), .ref aEs, .ref aEw, .ref aEd, .int to, .ref aEl, .ref aEt])), (aEl, .inl (cI, 7, .inl tl)), (aEt, .inl (cI, 7, .inl td)), (aY, .inr (3, [.ref aYe, .int 1])), (aYe, .inl (cI, 64, .inl en))] := hD
  refine lv_aload_n hx hb dX3_follow_5 rfl (lv_at hl 0 rfl) ?_
  refine va_get (D := D) (ci := 3) (v := .ref aYe) (C := RX3) (T := TX3) (N := 2) hx hb hts uX3 hown hK hP 6 rfl rfl 0 (by decide) w2 (fun _ h9 => h9) rfl dX3_follow_6 ?_
  refine lv_iconst (v := 0) hx hb dX3_follow_9 (by decide) ?_
  refine lv_aload_n hx hb dX3_follow_10 rfl (lv_at hl 2 rfl) ?_
  refine lv_iconst (v := 0) hx hb dX3_follow_11 (by decide) ?_
  refine lv_aload_n hx hb dX3_follow_12 rfl (lv_at hl 1 rfl) ?_
  refine lv_aload_n hx hb dX3_follow_13 rfl (lv_at hl 2 rfl) ?_
  refine va_get (D := D) (ci := 0) (v := .int li) (C := RX0) (T := TX0) (N := 9) hx hb hts uX0 hown hK hP 3 rfl rfl 0 (by decide) w3 (fun _ h9 => h9) rfl dX3_follow_14 ?_
  refine rV ⟨hx, hb, hml, hown, hts⟩ (c_X1_litOnes l D cI aL aLk aLh aLs nl li hn) (cwV 1 hts gX3_follow_X1_litOnes rfl rfl rfl hd_X1_litOnes ⟨Nat.le_of_ble_eq_true rfl, Nat.le_of_ble_eq_true rfl⟩) hK (hP.sub [0] rfl) 0 rfl rfl rfl rfl hl.1 (rest := [.int 0, .ref aE, .int 0, .ref aYe]) (st' := [.int (f_X1_litOnes nl li), .int 0, .ref aE, .int 0, .ref aYe]) rfl rfl (Nat.le_of_ble_eq_true rfl) dX3_follow_17 ⟨Nat.zero_le _, Nat.zero_le _⟩ ?_
  refine rV ⟨hx, hb, hml, hown, hts⟩ (c_X0_bookAgrees l D cI aE aEs aEw aEd aEl aEt li mi pe to tl td (f_X1_litOnes nl li) 0) (cwV 2 hts gX3_follow_X0_bookAgrees rfl rfl rfl hd_X0_bookAgrees ⟨Nat.le_of_ble_eq_true rfl, Nat.le_of_ble_eq_true rfl⟩) hK (hP.sub [3, 4, 5] rfl) 0 rfl rfl rfl rfl hl.1 (rest := [.int 0, .ref aYe]) (st' := [.int (f_X0_bookAgrees tl td (f_X1_litOnes nl li) 0), .int 0, .ref aYe]) rfl rfl (Nat.le_of_ble_eq_true rfl) dX3_follow_20 ⟨Nat.zero_le _, Nat.zero_le _⟩ ?_
  refine lv_if_eq (tgt := 33) hx hb dX3_follow_23 (by decide) (fun c1 => ?_) (fun c1 => ?_)
  · refine lv_iconst (v := (-1)) hx hb dX3_follow_33 (by decide) ?_
    refine xast hx hb hK hP hD hS 7 rfl 0 rfl (by omega) (by decide) dX3_follow_34 (fun H locs hP hD hS => ?_)
    have hP : va_P D vwCl [(aL, .inr (1, [.ref aLk, .ref aLh, .ref aLs, .int (nI nl)])), (aLh, .inl (cI, 6, .inl ho)), (aLs, .inl (cI, 6, .inl sn)), (aE, .inr (0, [.int li, .int mi, .int (nI pe), .ref aEs, .ref aEw, .ref aEd, .int to, .ref aEl, .ref aEt])), (aEl, .inl (cI, 7, .inl tl)), (aEt, .inl (cI, 7, .inl td)), (aY, .inr (3, [.ref aYe, .int 1])), (aYe, .inl (cI, 64, .inl (upd en 0 (-1))))] H := hP
    have hD : va_D A [(aL, .inr (1, [.ref aLk, .ref aLh, .ref aLs, .int (nI nl)])), (aLh, .inl (cI, 6, .inl ho)), (aLs, .inl (cI, 6, .inl sn)), (aE, .inr (0, [.int li, .int mi, .int (nI pe), .ref aEs, .ref aEw, .ref aEd, .int to, .ref aEl, .ref aEt])), (aEl, .inl (cI, 7, .inl tl)), (aEt, .inl (cI, 7, .inl td)), (aY, .inr (3, [.ref aYe, .int 1])), (aYe, .inl (cI, 64, .inl (upd en 0 (-1))))] := hD
    refine lv_iconst (v := 1) hx hb dX3_follow_35 (by decide) ?_
    refine lv_istore (lv' := [(5, .int 1), (0, .ref aY), (1, .ref aL), (2, .ref aE), (3, .int sect), (4, .int (nI mm))]) hx hb dX3_follow_36 hl (by decide) rfl (fun ls hl => ?_)
    have lp38 : ∀ (k38 i1 : Nat), i1 + k38 = mm → ∀ (H : Heap) (locs : List Loc), va_P D vwCl [(aL, .inr (1, [.ref aLk, .ref aLh, .ref aLs, .int (nI nl)])), (aLh, .inl (cI, 6, .inl ho)), (aLs, .inl (cI, 6, .inl sn)), (aE, .inr (0, [.int li, .int mi, .int (nI pe), .ref aEs, .ref aEw, .ref aEd, .int to, .ref aEl, .ref aEt])), (aEl, .inl (cI, 7, .inl tl)), (aEt, .inl (cI, 7, .inl td)), (aY, .inr (3, [.ref aYe, .int (nI (2 ^ i1))])), (aYe, .inl (cI, 64, .inl ((f_X3_follow_38_Ye nl ho sn tl td sect (upd en 0 (-1)) i1))))] H → va_D A [(aL, .inr (1, [.ref aLk, .ref aLh, .ref aLs, .int (nI nl)])), (aLh, .inl (cI, 6, .inl ho)), (aLs, .inl (cI, 6, .inl sn)), (aE, .inr (0, [.int li, .int mi, .int (nI pe), .ref aEs, .ref aEw, .ref aEd, .int to, .ref aEl, .ref aEt])), (aEl, .inl (cI, 7, .inl tl)), (aEt, .inl (cI, 7, .inl td)), (aY, .inr (3, [.ref aYe, .int (nI (2 ^ i1))])), (aYe, .inl (cI, 64, .inl ((f_X3_follow_38_Ye nl ho sn tl td sect (upd en 0 (-1)) i1))))] → va_S A s.heap H locs → ∀ ls : Array Slot, lv_has ls 7 [(0, .ref aY), (1, .ref aL), (2, .ref aE), (3, .int sect), (4, .int (nI mm)), (5, .int (nI (i1 + 1)))] → W p l e rm_X3_follow s m args below meth c H locs 0 0 Q (F0 m 38 ls []) := by
      intro k38
      induction k38 with
      | zero =>
        intro i1 hk38 H locs hP hD hS ls hl
        have hN38 : mm = i1 := by omega
        subst hN38
        refine lv_iload hx hb dX3_follow_38 (lv_at hl 5 rfl) ?_
        refine lv_iload hx hb dX3_follow_40 (lv_at hl 4 rfl) ?_
        refine lv_icmp_gt (tgt := 137) hx hb dX3_follow_42 (by decide) (fun _ => ?_) (fun c => absurd (nlt_t (a := mm) (b := mm + 1) rfl rfl (by omega) (by omega) (by omega)) c)
        have e_Y_1 : (f_X3_follow_Y_1 mm) = nI (2 ^ mm) := (by simp only [f_X3_follow_Y_1, if_pos c1])
        have e_Ye : (f_X3_follow_Ye nl ho sn li tl td en mm sect) = (f_X3_follow_38_Ye nl ho sn tl td sect (upd en 0 (-1)) mm) := (by simp only [f_X3_follow_Ye, if_pos c1])
        exact eXv hx hb hr hlk hQ (by rw [e_Y_1, e_Ye]; exact hP) (by rw [e_Y_1, e_Ye]; exact hD) hS dX3_follow_137
      | succ k38 ih38 =>
        intro i1 hk38 H locs hP hD hS ls hl
        refine lv_iload hx hb dX3_follow_38 (lv_at hl 5 rfl) ?_
        refine lv_iload hx hb dX3_follow_40 (lv_at hl 4 rfl) ?_
        refine lv_icmp_gt (tgt := 137) hx hb dX3_follow_42 (by decide) (fun c => absurd c (nlt_f (a := mm) (b := i1 + 1) rfl rfl (by omega) (by omega) (by omega))) (fun _ => ?_)
        refine lv_iload hx hb dX3_follow_45 (lv_at hl 5 rfl) ?_
        refine lv_bipush (v := 6) hx hb dX3_follow_47 (by decide) ?_
        refine lv_icmp_gt (tgt := 137) hx hb dX3_follow_49 (by decide) (fun c => absurd c (nlt_f (a := 6) (b := i1 + 1) rfl rfl (by omega) (by omega) (by omega))) (fun _ => ?_)
        have hz2 : 2 ^ i1 ≤ 32 := Nat.le_trans (Nat.pow_le_pow_right (by decide) (show i1 ≤ 5 by omega)) (by decide)
        refine lv_iconst (v := 0) hx hb dX3_follow_52 (by decide) ?_
        refine lv_istore (lv' := [(6, .int 0), (0, .ref aY), (1, .ref aL), (2, .ref aE), (3, .int sect), (4, .int (nI mm)), (5, .int (nI (i1 + 1)))]) hx hb dX3_follow_53 hl (by decide) rfl (fun ls hl => ?_)
        have lp55 : ∀ (k55 i2 : Nat), i2 + k55 = 2 ^ i1 → ∀ (H : Heap) (locs : List Loc), va_P D vwCl [(aL, .inr (1, [.ref aLk, .ref aLh, .ref aLs, .int (nI nl)])), (aLh, .inl (cI, 6, .inl ho)), (aLs, .inl (cI, 6, .inl sn)), (aE, .inr (0, [.int li, .int mi, .int (nI pe), .ref aEs, .ref aEw, .ref aEd, .int to, .ref aEl, .ref aEt])), (aEl, .inl (cI, 7, .inl tl)), (aEt, .inl (cI, 7, .inl td)), (aY, .inr (3, [.ref aYe, .int (nI (2 ^ i1))])), (aYe, .inl (cI, 64, .inl ((f_X3_follow_55_Ye nl ho sn tl td i1 sect ((f_X3_follow_38_Ye nl ho sn tl td sect (upd en 0 (-1)) i1)) i2))))] H → va_D A [(aL, .inr (1, [.ref aLk, .ref aLh, .ref aLs, .int (nI nl)])), (aLh, .inl (cI, 6, .inl ho)), (aLs, .inl (cI, 6, .inl sn)), (aE, .inr (0, [.int li, .int mi, .int (nI pe), .ref aEs, .ref aEw, .ref aEd, .int to, .ref aEl, .ref aEt])), (aEl, .inl (cI, 7, .inl tl)), (aEt, .inl (cI, 7, .inl td)), (aY, .inr (3, [.ref aYe, .int (nI (2 ^ i1))])), (aYe, .inl (cI, 64, .inl ((f_X3_follow_55_Ye nl ho sn tl td i1 sect ((f_X3_follow_38_Ye nl ho sn tl td sect (upd en 0 (-1)) i1)) i2))))] → va_S A s.heap H locs → ∀ ls : Array Slot, lv_has ls 7 [(0, .ref aY), (1, .ref aL), (2, .ref aE), (3, .int sect), (4, .int (nI mm)), (5, .int (nI (i1 + 1))), (6, .int (nI i2))] → W p l e rm_X3_follow s m args below meth c H locs 0 0 Q (F0 m 55 ls []) := by
          intro k55
          induction k55 with
          | zero =>
            intro i2 hk55 H locs hP hD hS ls hl
            have hN55 : 2 ^ i1 = i2 := by omega
            subst hN55
            refine lv_iload hx hb dX3_follow_55 (lv_at hl 6 rfl) ?_
            refine lv_aload_n hx hb dX3_follow_57 rfl (lv_at hl 0 rfl) ?_
            refine va_get (D := D) (ci := 3) (v := .int (nI (2 ^ i1))) (C := RX3) (T := TX3) (N := 2) hx hb hts uX3 hown hK hP 6 rfl rfl 1 (by decide) w1 (fun _ h9 => h9) rfl dX3_follow_58 ?_
            refine lv_icmp_ge (tgt := 121) hx hb dX3_follow_61 (by decide) (fun _ => ?_) (fun c => absurd (nle_t (a := 2 ^ i1) (b := (2 ^ i1)) rfl rfl (by omega) (by omega) (by omega)) c)
            refine lv_aload_n hx hb dX3_follow_121 rfl (lv_at hl 0 rfl) ?_
            refine lv_dup hx hb dX3_follow_122 rfl ?_
            refine va_get (D := D) (ci := 3) (v := .int (nI (2 ^ i1))) (C := RX3) (T := TX3) (N := 2) hx hb hts uX3 hown hK hP 6 rfl rfl 1 (by decide) w1 (fun _ h9 => h9) rfl dX3_follow_123 ?_
            refine lv_iconst (v := 2) hx hb dX3_follow_126 (by decide) ?_
            refine lv_imul hx hb dX3_follow_127 ?_
            refine va_put (D := D) (ci := 3) (v := .int (nI (2 ^ i1) * 2)) (ty := .int) (C := RX3) (T := TX3) (N := 2) hx hb hts uX3 tyX3 tyX3_ok nmX3 hown hK hP hD hS 6 rfl rfl 1 (by decide) w1 (fun _ h9 => h9) rfl (by decide +kernel) rfl rfl (Nat.le_of_ble_eq_true rfl) dX3_follow_128 (fun H locs hP hD hS => ?_)
            have hP : va_P D vwCl [(aL, .inr (1, [.ref aLk, .ref aLh, .ref aLs, .int (nI nl)])), (aLh, .inl (cI, 6, .inl ho)), (aLs, .inl (cI, 6, .inl sn)), (aE, .inr (0, [.int li, .int mi, .int (nI pe), .ref aEs, .ref aEw, .ref aEd, .int to, .ref aEl, .ref aEt])), (aEl, .inl (cI, 7, .inl tl)), (aEt, .inl (cI, 7, .inl td)), (aY, .inr (3, [.ref aYe, .int (nI (2 ^ i1) * 2)])), (aYe, .inl (cI, 64, .inl ((f_X3_follow_55_Ye nl ho sn tl td i1 sect ((f_X3_follow_38_Ye nl ho sn tl td sect (upd en 0 (-1)) i1)) (2 ^ i1)))))] H := hP
            have hD : va_D A [(aL, .inr (1, [.ref aLk, .ref aLh, .ref aLs, .int (nI nl)])), (aLh, .inl (cI, 6, .inl ho)), (aLs, .inl (cI, 6, .inl sn)), (aE, .inr (0, [.int li, .int mi, .int (nI pe), .ref aEs, .ref aEw, .ref aEd, .int to, .ref aEl, .ref aEt])), (aEl, .inl (cI, 7, .inl tl)), (aEt, .inl (cI, 7, .inl td)), (aY, .inr (3, [.ref aYe, .int (nI (2 ^ i1) * 2)])), (aYe, .inl (cI, 64, .inl ((f_X3_follow_55_Ye nl ho sn tl td i1 sect ((f_X3_follow_38_Ye nl ho sn tl td sect (upd en 0 (-1)) i1)) (2 ^ i1)))))] := hD
            refine lv_iinc (v := nI ((i1 + 1) + 1)) (lv' := [(5, .int (nI ((i1 + 1) + 1))), (0, .ref aY), (1, .ref aL), (2, .ref aE), (3, .int sect), (4, .int (nI mm)), (6, .int (nI ((2 ^ i1))))]) hx hb dX3_follow_131 hl (k := 5) rfl (nI_add (i1 + 1) 1) (by decide) rfl (fun ls hl => ?_)
            refine lv_goto (tgt := 38) hx hb dX3_follow_134 (by decide) ?_
            have e_Ye : (f_X3_follow_38_Ye nl ho sn tl td sect (upd en 0 (-1)) (i1 + 1)) = (f_X3_follow_55_Ye nl ho sn tl td i1 sect ((f_X3_follow_38_Ye nl ho sn tl td sect (upd en 0 (-1)) i1)) (2 ^ i1)) := (by simp only [f_X3_follow_38_Ye])
            have i_Y_1 : nI (2 ^ (i1 + 1)) = (nI (2 ^ i1) * 2) := (Eq.symm (ix_mul (x := 2 ^ i1) (y := 2) rfl rfl))
            exact ih38 (i1 + 1) (by omega) _ _ (by rw [e_Ye, i_Y_1]; exact hP) (by rw [e_Ye, i_Y_1]; exact hD) hS ls (lv_sub hl [1, 2, 3, 4, 5, 0] rfl)
          | succ k55 ih55 =>
            intro i2 hk55 H locs hP hD hS ls hl
            refine lv_iload hx hb dX3_follow_55 (lv_at hl 6 rfl) ?_
            refine lv_aload_n hx hb dX3_follow_57 rfl (lv_at hl 0 rfl) ?_
            refine va_get (D := D) (ci := 3) (v := .int (nI (2 ^ i1))) (C := RX3) (T := TX3) (N := 2) hx hb hts uX3 hown hK hP 6 rfl rfl 1 (by decide) w1 (fun _ h9 => h9) rfl dX3_follow_58 ?_
            refine lv_icmp_ge (tgt := 121) hx hb dX3_follow_61 (by decide) (fun c => absurd c (nle_f (a := 2 ^ i1) (b := i2) rfl rfl (by omega) (by omega) (by omega))) (fun _ => ?_)
            refine lv_aload_n hx hb dX3_follow_64 rfl (lv_at hl 0 rfl) ?_
            refine va_get (D := D) (ci := 3) (v := .ref aYe) (C := RX3) (T := TX3) (N := 2) hx hb hts uX3 hown hK hP 6 rfl rfl 0 (by decide) w2 (fun _ h9 => h9) rfl dX3_follow_65 ?_
            refine lv_aload_n hx hb dX3_follow_68 rfl (lv_at hl 0 rfl) ?_
            refine va_get (D := D) (ci := 3) (v := .int (nI (2 ^ i1))) (C := RX3) (T := TX3) (N := 2) hx hb hts uX3 hown hK hP 6 rfl rfl 1 (by decide) w1 (fun _ h9 => h9) rfl dX3_follow_69 ?_
            refine lv_iload hx hb dX3_follow_72 (lv_at hl 6 rfl) ?_
            refine lv_iadd hx hb dX3_follow_74 ?_
            refine lv_aload_n hx hb dX3_follow_75 rfl (lv_at hl 1 rfl) ?_
            refine lv_aload_n hx hb dX3_follow_76 rfl (lv_at hl 2 rfl) ?_
            refine lv_aload_n hx hb dX3_follow_77 rfl (lv_at hl 0 rfl) ?_
            refine va_get (D := D) (ci := 3) (v := .ref aYe) (C := RX3) (T := TX3) (N := 2) hx hb hts uX3 hown hK hP 6 rfl rfl 0 (by decide) w2 (fun _ h9 => h9) rfl dX3_follow_78 ?_
            refine lv_iload hx hb dX3_follow_81 (lv_at hl 6 rfl) ?_
            refine xald hx hb hK hP 7 rfl i2 rfl (by omega) (by decide) dX3_follow_83 ?_
            refine lv_iconst (v := 1) hx hb dX3_follow_84 (by decide) ?_
            refine lv_iload_n hx hb dX3_follow_85 rfl (lv_at hl 3 rfl) ?_
            refine lv_ishl hx hb dX3_follow_86 ?_
            refine lv_iload hx hb dX3_follow_87 (lv_at hl 5 rfl) ?_
            refine rS ⟨hx, hb, hml, hown, hts⟩ (c_X3_further l D cI aL aLk aLh aLs aE aEs aEw aEd aEl aEt nl ho sn li mi pe to tl td ((f_X3_follow_55_Ye nl ho sn tl td i1 sect ((f_X3_follow_38_Ye nl ho sn tl td sect (upd en 0 (-1)) i1)) i2) i2) (nI (i1 + 1)) (1 <<< (sect &&& 31)) hn) (va_cwS 5 hts gX3_follow_X3_further rfl rfl rfl hd_X3_further ⟨Nat.le_of_ble_eq_true rfl, Nat.le_of_ble_eq_true rfl⟩) hK (hP.sub [0, 1, 2, 3, 4, 5] rfl) rfl hl.1 (rest := [.int (nI (2 ^ i1) + nI i2), .ref aYe]) (st' := [.int (f_X3_further nl ho sn tl td ((f_X3_follow_55_Ye nl ho sn tl td i1 sect ((f_X3_follow_38_Ye nl ho sn tl td sect (upd en 0 (-1)) i1)) i2) i2) (nI (i1 + 1)) (1 <<< (sect &&& 31))), .int (nI (2 ^ i1) + nI i2), .ref aYe]) rfl rfl (Nat.le_of_ble_eq_true rfl) dX3_follow_89 ⟨Nat.zero_le _, Nat.zero_le _⟩ ?_
            refine xast hx hb hK hP hD hS 7 rfl ((2 ^ i1) + i2) (ix_add rfl rfl) (by omega) (by decide) dX3_follow_92 (fun H locs hP hD hS => ?_)
            have hP : va_P D vwCl [(aL, .inr (1, [.ref aLk, .ref aLh, .ref aLs, .int (nI nl)])), (aLh, .inl (cI, 6, .inl ho)), (aLs, .inl (cI, 6, .inl sn)), (aE, .inr (0, [.int li, .int mi, .int (nI pe), .ref aEs, .ref aEw, .ref aEd, .int to, .ref aEl, .ref aEt])), (aEl, .inl (cI, 7, .inl tl)), (aEt, .inl (cI, 7, .inl td)), (aY, .inr (3, [.ref aYe, .int (nI (2 ^ i1))])), (aYe, .inl (cI, 64, .inl (upd (f_X3_follow_55_Ye nl ho sn tl td i1 sect ((f_X3_follow_38_Ye nl ho sn tl td sect (upd en 0 (-1)) i1)) i2) ((2 ^ i1) + i2) (f_X3_further nl ho sn tl td ((f_X3_follow_55_Ye nl ho sn tl td i1 sect ((f_X3_follow_38_Ye nl ho sn tl td sect (upd en 0 (-1)) i1)) i2) i2) (nI (i1 + 1)) (1 <<< (sect &&& 31))))))] H := hP
            have hD : va_D A [(aL, .inr (1, [.ref aLk, .ref aLh, .ref aLs, .int (nI nl)])), (aLh, .inl (cI, 6, .inl ho)), (aLs, .inl (cI, 6, .inl sn)), (aE, .inr (0, [.int li, .int mi, .int (nI pe), .ref aEs, .ref aEw, .ref aEd, .int to, .ref aEl, .ref aEt])), (aEl, .inl (cI, 7, .inl tl)), (aEt, .inl (cI, 7, .inl td)), (aY, .inr (3, [.ref aYe, .int (nI (2 ^ i1))])), (aYe, .inl (cI, 64, .inl (upd (f_X3_follow_55_Ye nl ho sn tl td i1 sect ((f_X3_follow_38_Ye nl ho sn tl td sect (upd en 0 (-1)) i1)) i2) ((2 ^ i1) + i2) (f_X3_further nl ho sn tl td ((f_X3_follow_55_Ye nl ho sn tl td i1 sect ((f_X3_follow_38_Ye nl ho sn tl td sect (upd en 0 (-1)) i1)) i2) i2) (nI (i1 + 1)) (1 <<< (sect &&& 31))))))] := hD
            refine lv_aload_n hx hb dX3_follow_93 rfl (lv_at hl 0 rfl) ?_
            refine va_get (D := D) (ci := 3) (v := .ref aYe) (C := RX3) (T := TX3) (N := 2) hx hb hts uX3 hown hK hP 6 rfl rfl 0 (by decide) w2 (fun _ h9 => h9) rfl dX3_follow_94 ?_
            refine lv_iload hx hb dX3_follow_97 (lv_at hl 6 rfl) ?_
            refine lv_aload_n hx hb dX3_follow_99 rfl (lv_at hl 1 rfl) ?_
            refine lv_aload_n hx hb dX3_follow_100 rfl (lv_at hl 2 rfl) ?_
            refine lv_aload_n hx hb dX3_follow_101 rfl (lv_at hl 0 rfl) ?_
            refine va_get (D := D) (ci := 3) (v := .ref aYe) (C := RX3) (T := TX3) (N := 2) hx hb hts uX3 hown hK hP 6 rfl rfl 0 (by decide) w2 (fun _ h9 => h9) rfl dX3_follow_102 ?_
            refine lv_iload hx hb dX3_follow_105 (lv_at hl 6 rfl) ?_
            refine xald hx hb hK hP 7 rfl i2 rfl (by omega) (by decide) dX3_follow_107 ?_
            refine lv_iconst (v := 0) hx hb dX3_follow_108 (by decide) ?_
            refine lv_iload hx hb dX3_follow_109 (lv_at hl 5 rfl) ?_
            refine rS ⟨hx, hb, hml, hown, hts⟩ (c_X3_further l D cI aL aLk aLh aLs aE aEs aEw aEd aEl aEt nl ho sn li mi pe to tl td ((upd (f_X3_follow_55_Ye nl ho sn tl td i1 sect ((f_X3_follow_38_Ye nl ho sn tl td sect (upd en 0 (-1)) i1)) i2) ((2 ^ i1) + i2) (f_X3_further nl ho sn tl td ((f_X3_follow_55_Ye nl ho sn tl td i1 sect ((f_X3_follow_38_Ye nl ho sn tl td sect (upd en 0 (-1)) i1)) i2) i2) (nI (i1 + 1)) (1 <<< (sect &&& 31)))) i2) (nI (i1 + 1)) 0 hn) (va_cwS 5 hts gX3_follow_X3_further rfl rfl rfl hd_X3_further ⟨Nat.le_of_ble_eq_true rfl, Nat.le_of_ble_eq_true rfl⟩) hK (hP.sub [0, 1, 2, 3, 4, 5] rfl) rfl hl.1 (rest := [.int (nI i2), .ref aYe]) (st' := [.int (f_X3_further nl ho sn tl td ((upd (f_X3_follow_55_Ye nl ho sn tl td i1 sect ((f_X3_follow_38_Ye nl ho sn tl td sect (upd en 0 (-1)) i1)) i2) ((2 ^ i1) + i2) (f_X3_further nl ho sn tl td ((f_X3_follow_55_Ye nl ho sn tl td i1 sect ((f_X3_follow_38_Ye nl ho sn tl td sect (upd en 0 (-1)) i1)) i2) i2) (nI (i1 + 1)) (1 <<< (sect &&& 31)))) i2) (nI (i1 + 1)) 0), .int (nI i2), .ref aYe]) rfl rfl (Nat.le_of_ble_eq_true rfl) dX3_follow_111 ⟨Nat.zero_le _, Nat.zero_le _⟩ ?_
            refine xast hx hb hK hP hD hS 7 rfl i2 rfl (by omega) (by decide) dX3_follow_114 (fun H locs hP hD hS => ?_)
            have hP : va_P D vwCl [(aL, .inr (1, [.ref aLk, .ref aLh, .ref aLs, .int (nI nl)])), (aLh, .inl (cI, 6, .inl ho)), (aLs, .inl (cI, 6, .inl sn)), (aE, .inr (0, [.int li, .int mi, .int (nI pe), .ref aEs, .ref aEw, .ref aEd, .int to, .ref aEl, .ref aEt])), (aEl, .inl (cI, 7, .inl tl)), (aEt, .inl (cI, 7, .inl td)), (aY, .inr (3, [.ref aYe, .int (nI (2 ^ i1))])), (aYe, .inl (cI, 64, .inl (upd (upd (f_X3_follow_55_Ye nl ho sn tl td i1 sect ((f_X3_follow_38_Ye nl ho sn tl td sect (upd en 0 (-1)) i1)) i2) ((2 ^ i1) + i2) (f_X3_further nl ho sn tl td ((f_X3_follow_55_Ye nl ho sn tl td i1 sect ((f_X3_follow_38_Ye nl ho sn tl td sect (upd en 0 (-1)) i1)) i2) i2) (nI (i1 + 1)) (1 <<< (sect &&& 31)))) i2 (f_X3_further nl ho sn tl td ((upd (f_X3_follow_55_Ye nl ho sn tl td i1 sect ((f_X3_follow_38_Ye nl ho sn tl td sect (upd en 0 (-1)) i1)) i2) ((2 ^ i1) + i2) (f_X3_further nl ho sn tl td ((f_X3_follow_55_Ye nl ho sn tl td i1 sect ((f_X3_follow_38_Ye nl ho sn tl td sect (upd en 0 (-1)) i1)) i2) i2) (nI (i1 + 1)) (1 <<< (sect &&& 31)))) i2) (nI (i1 + 1)) 0))))] H := hP
            have hD : va_D A [(aL, .inr (1, [.ref aLk, .ref aLh, .ref aLs, .int (nI nl)])), (aLh, .inl (cI, 6, .inl ho)), (aLs, .inl (cI, 6, .inl sn)), (aE, .inr (0, [.int li, .int mi, .int (nI pe), .ref aEs, .ref aEw, .ref aEd, .int to, .ref aEl, .ref aEt])), (aEl, .inl (cI, 7, .inl tl)), (aEt, .inl (cI, 7, .inl td)), (aY, .inr (3, [.ref aYe, .int (nI (2 ^ i1))])), (aYe, .inl (cI, 64, .inl (upd (upd (f_X3_follow_55_Ye nl ho sn tl td i1 sect ((f_X3_follow_38_Ye nl ho sn tl td sect (upd en 0 (-1)) i1)) i2) ((2 ^ i1) + i2) (f_X3_further nl ho sn tl td ((f_X3_follow_55_Ye nl ho sn tl td i1 sect ((f_X3_follow_38_Ye nl ho sn tl td sect (upd en 0 (-1)) i1)) i2) i2) (nI (i1 + 1)) (1 <<< (sect &&& 31)))) i2 (f_X3_further nl ho sn tl td ((upd (f_X3_follow_55_Ye nl ho sn tl td i1 sect ((f_X3_follow_38_Ye nl ho sn tl td sect (upd en 0 (-1)) i1)) i2) ((2 ^ i1) + i2) (f_X3_further nl ho sn tl td ((f_X3_follow_55_Ye nl ho sn tl td i1 sect ((f_X3_follow_38_Ye nl ho sn tl td sect (upd en 0 (-1)) i1)) i2) i2) (nI (i1 + 1)) (1 <<< (sect &&& 31)))) i2) (nI (i1 + 1)) 0))))] := hD
            refine lv_iinc (v := nI (i2 + 1)) (lv' := [(6, .int (nI (i2 + 1))), (0, .ref aY), (1, .ref aL), (2, .ref aE), (3, .int sect), (4, .int (nI mm)), (5, .int (nI (i1 + 1)))]) hx hb dX3_follow_115 hl (k := 6) rfl (nI_add i2 1) (by decide) rfl (fun ls hl => ?_)
            refine lv_goto (tgt := 55) hx hb dX3_follow_118 (by decide) ?_
            have e_Ye : (f_X3_follow_55_Ye nl ho sn tl td i1 sect ((f_X3_follow_38_Ye nl ho sn tl td sect (upd en 0 (-1)) i1)) (i2 + 1)) = (upd (upd (f_X3_follow_55_Ye nl ho sn tl td i1 sect ((f_X3_follow_38_Ye nl ho sn tl td sect (upd en 0 (-1)) i1)) i2) ((2 ^ i1) + i2) (f_X3_further nl ho sn tl td ((f_X3_follow_55_Ye nl ho sn tl td i1 sect ((f_X3_follow_38_Ye nl ho sn tl td sect (upd en 0 (-1)) i1)) i2) i2) (nI (i1 + 1)) (1 <<< (sect &&& 31)))) i2 (f_X3_further nl ho sn tl td ((upd (f_X3_follow_55_Ye nl ho sn tl td i1 sect ((f_X3_follow_38_Ye nl ho sn tl td sect (upd en 0 (-1)) i1)) i2) ((2 ^ i1) + i2) (f_X3_further nl ho sn tl td ((f_X3_follow_55_Ye nl ho sn tl td i1 sect ((f_X3_follow_38_Ye nl ho sn tl td sect (upd en 0 (-1)) i1)) i2) i2) (nI (i1 + 1)) (1 <<< (sect &&& 31)))) i2) (nI (i1 + 1)) 0)) := (by simp only [f_X3_follow_55_Ye])
            exact ih55 (i2 + 1) (by omega) _ _ (by rw [e_Ye]; exact hP) (by rw [e_Ye]; exact hD) hS ls (lv_sub hl [1, 2, 3, 4, 5, 6, 0] rfl)
        exact lp55 (2 ^ i1) 0 (by omega) _ _ hP hD hS ls (lv_sub hl [1, 2, 3, 4, 5, 6, 0] rfl)
    exact lp38 mm 0 (by omega) _ _ hP hD hS ls (lv_sub hl [1, 2, 3, 4, 5, 0] rfl)
  · refine lv_aload_n hx hb dX3_follow_26 rfl (lv_at hl 2 rfl) ?_
    refine va_get (D := D) (ci := 0) (v := .int li) (C := RX0) (T := TX0) (N := 9) hx hb hts uX0 hown hK hP 3 rfl rfl 0 (by decide) w3 (fun _ h9 => h9) rfl dX3_follow_27 ?_
    refine lv_goto (tgt := 34) hx hb dX3_follow_30 (by decide) ?_
    refine xast hx hb hK hP hD hS 7 rfl 0 rfl (by omega) (by decide) dX3_follow_34 (fun H locs hP hD hS => ?_)
    have hP : va_P D vwCl [(aL, .inr (1, [.ref aLk, .ref aLh, .ref aLs, .int (nI nl)])), (aLh, .inl (cI, 6, .inl ho)), (aLs, .inl (cI, 6, .inl sn)), (aE, .inr (0, [.int li, .int mi, .int (nI pe), .ref aEs, .ref aEw, .ref aEd, .int to, .ref aEl, .ref aEt])), (aEl, .inl (cI, 7, .inl tl)), (aEt, .inl (cI, 7, .inl td)), (aY, .inr (3, [.ref aYe, .int 1])), (aYe, .inl (cI, 64, .inl (upd en 0 li)))] H := hP
    have hD : va_D A [(aL, .inr (1, [.ref aLk, .ref aLh, .ref aLs, .int (nI nl)])), (aLh, .inl (cI, 6, .inl ho)), (aLs, .inl (cI, 6, .inl sn)), (aE, .inr (0, [.int li, .int mi, .int (nI pe), .ref aEs, .ref aEw, .ref aEd, .int to, .ref aEl, .ref aEt])), (aEl, .inl (cI, 7, .inl tl)), (aEt, .inl (cI, 7, .inl td)), (aY, .inr (3, [.ref aYe, .int 1])), (aYe, .inl (cI, 64, .inl (upd en 0 li)))] := hD
    refine lv_iconst (v := 1) hx hb dX3_follow_35 (by decide) ?_
    refine lv_istore (lv' := [(5, .int 1), (0, .ref aY), (1, .ref aL), (2, .ref aE), (3, .int sect), (4, .int (nI mm))]) hx hb dX3_follow_36 hl (by decide) rfl (fun ls hl => ?_)
    have lp38 : ∀ (k38 i1 : Nat), i1 + k38 = mm → ∀ (H : Heap) (locs : List Loc), va_P D vwCl [(aL, .inr (1, [.ref aLk, .ref aLh, .ref aLs, .int (nI nl)])), (aLh, .inl (cI, 6, .inl ho)), (aLs, .inl (cI, 6, .inl sn)), (aE, .inr (0, [.int li, .int mi, .int (nI pe), .ref aEs, .ref aEw, .ref aEd, .int to, .ref aEl, .ref aEt])), (aEl, .inl (cI, 7, .inl tl)), (aEt, .inl (cI, 7, .inl td)), (aY, .inr (3, [.ref aYe, .int (nI (2 ^ i1))])), (aYe, .inl (cI, 64, .inl ((f_X3_follow_38_Ye nl ho sn tl td sect (upd en 0 li) i1))))] H → va_D A [(aL, .inr (1, [.ref aLk, .ref aLh, .ref aLs, .int (nI nl)])), (aLh, .inl (cI, 6, .inl ho)), (aLs, .inl (cI, 6, .inl sn)), (aE, .inr (0, [.int li, .int mi, .int (nI pe), .ref aEs, .ref aEw, .ref aEd, .int to, .ref aEl, .ref aEt])), (aEl, .inl (cI, 7, .inl tl)), (aEt, .inl (cI, 7, .inl td)), (aY, .inr (3, [.ref aYe, .int (nI (2 ^ i1))])), (aYe, .inl (cI, 64, .inl ((f_X3_follow_38_Ye nl ho sn tl td sect (upd en 0 li) i1))))] → va_S A s.heap H locs → ∀ ls : Array Slot, lv_has ls 7 [(0, .ref aY), (1, .ref aL), (2, .ref aE), (3, .int sect), (4, .int (nI mm)), (5, .int (nI (i1 + 1)))] → W p l e rm_X3_follow s m args below meth c H locs 0 0 Q (F0 m 38 ls []) := by
      intro k38
      induction k38 with
      | zero =>
        intro i1 hk38 H locs hP hD hS ls hl
        have hN38 : mm = i1 := by omega
        subst hN38
        refine lv_iload hx hb dX3_follow_38 (lv_at hl 5 rfl) ?_
        refine lv_iload hx hb dX3_follow_40 (lv_at hl 4 rfl) ?_
        refine lv_icmp_gt (tgt := 137) hx hb dX3_follow_42 (by decide) (fun _ => ?_) (fun c => absurd (nlt_t (a := mm) (b := mm + 1) rfl rfl (by omega) (by omega) (by omega)) c)
        have e_Y_1 : (f_X3_follow_Y_1 mm) = nI (2 ^ mm) := (by simp only [f_X3_follow_Y_1, if_neg c1])
        have e_Ye : (f_X3_follow_Ye nl ho sn li tl td en mm sect) = (f_X3_follow_38_Ye nl ho sn tl td sect (upd en 0 li) mm) := (by simp only [f_X3_follow_Ye, if_neg c1])
        exact eXv hx hb hr hlk hQ (by rw [e_Y_1, e_Ye]; exact hP) (by rw [e_Y_1, e_Ye]; exact hD) hS dX3_follow_137
      | succ k38 ih38 =>
        intro i1 hk38 H locs hP hD hS ls hl
        refine lv_iload hx hb dX3_follow_38 (lv_at hl 5 rfl) ?_
        refine lv_iload hx hb dX3_follow_40 (lv_at hl 4 rfl) ?_
        refine lv_icmp_gt (tgt := 137) hx hb dX3_follow_42 (by decide) (fun c => absurd c (nlt_f (a := mm) (b := i1 + 1) rfl rfl (by omega) (by omega) (by omega))) (fun _ => ?_)
        refine lv_iload hx hb dX3_follow_45 (lv_at hl 5 rfl) ?_
        refine lv_bipush (v := 6) hx hb dX3_follow_47 (by decide) ?_
        refine lv_icmp_gt (tgt := 137) hx hb dX3_follow_49 (by decide) (fun c => absurd c (nlt_f (a := 6) (b := i1 + 1) rfl rfl (by omega) (by omega) (by omega))) (fun _ => ?_)
        have hz2 : 2 ^ i1 ≤ 32 := Nat.le_trans (Nat.pow_le_pow_right (by decide) (show i1 ≤ 5 by omega)) (by decide)
        refine lv_iconst (v := 0) hx hb dX3_follow_52 (by decide) ?_
        refine lv_istore (lv' := [(6, .int 0), (0, .ref aY), (1, .ref aL), (2, .ref aE), (3, .int sect), (4, .int (nI mm)), (5, .int (nI (i1 + 1)))]) hx hb dX3_follow_53 hl (by decide) rfl (fun ls hl => ?_)
        have lp55 : ∀ (k55 i2 : Nat), i2 + k55 = 2 ^ i1 → ∀ (H : Heap) (locs : List Loc), va_P D vwCl [(aL, .inr (1, [.ref aLk, .ref aLh, .ref aLs, .int (nI nl)])), (aLh, .inl (cI, 6, .inl ho)), (aLs, .inl (cI, 6, .inl sn)), (aE, .inr (0, [.int li, .int mi, .int (nI pe), .ref aEs, .ref aEw, .ref aEd, .int to, .ref aEl, .ref aEt])), (aEl, .inl (cI, 7, .inl tl)), (aEt, .inl (cI, 7, .inl td)), (aY, .inr (3, [.ref aYe, .int (nI (2 ^ i1))])), (aYe, .inl (cI, 64, .inl ((f_X3_follow_55_Ye nl ho sn tl td i1 sect ((f_X3_follow_38_Ye nl ho sn tl td sect (upd en 0 li) i1)) i2))))] H → va_D A [(aL, .inr (1, [.ref aLk, .ref aLh, .ref aLs, .int (nI nl)])), (aLh, .inl (cI, 6, .inl ho)), (aLs, .inl (cI, 6, .inl sn)), (aE, .inr (0, [.int li, .int mi, .int (nI pe), .ref aEs, .ref aEw, .ref aEd, .int to, .ref aEl, .ref aEt])), (aEl, .inl (cI, 7, .inl tl)), (aEt, .inl (cI, 7, .inl td)), (aY, .inr (3, [.ref aYe, .int (nI (2 ^ i1))])), (aYe, .inl (cI, 64, .inl ((f_X3_follow_55_Ye nl ho sn tl td i1 sect ((f_X3_follow_38_Ye nl ho sn tl td sect (upd en 0 li) i1)) i2))))] → va_S A s.heap H locs → ∀ ls : Array Slot, lv_has ls 7 [(0, .ref aY), (1, .ref aL), (2, .ref aE), (3, .int sect), (4, .int (nI mm)), (5, .int (nI (i1 + 1))), (6, .int (nI i2))] → W p l e rm_X3_follow s m args below meth c H locs 0 0 Q (F0 m 55 ls []) := by
          intro k55
          induction k55 with
          | zero =>
            intro i2 hk55 H locs hP hD hS ls hl
            have hN55 : 2 ^ i1 = i2 := by omega
            subst hN55
            refine lv_iload hx hb dX3_follow_55 (lv_at hl 6 rfl) ?_
            refine lv_aload_n hx hb dX3_follow_57 rfl (lv_at hl 0 rfl) ?_
            refine va_get (D := D) (ci := 3) (v := .int (nI (2 ^ i1))) (C := RX3) (T := TX3) (N := 2) hx hb hts uX3 hown hK hP 6 rfl rfl 1 (by decide) w1 (fun _ h9 => h9) rfl dX3_follow_58 ?_
            refine lv_icmp_ge (tgt := 121) hx hb dX3_follow_61 (by decide) (fun _ => ?_) (fun c => absurd (nle_t (a := 2 ^ i1) (b := (2 ^ i1)) rfl rfl (by omega) (by omega) (by omega)) c)
            refine lv_aload_n hx hb dX3_follow_121 rfl (lv_at hl 0 rfl) ?_
            refine lv_dup hx hb dX3_follow_122 rfl ?_
            refine va_get (D := D) (ci := 3) (v := .int (nI (2 ^ i1))) (C := RX3) (T := TX3) (N := 2) hx hb hts uX3 hown hK hP 6 rfl rfl 1 (by decide) w1 (fun _ h9 => h9) rfl dX3_follow_123 ?_
            refine lv_iconst (v := 2) hx hb dX3_follow_126 (by decide) ?_
            refine lv_imul hx hb dX3_follow_127 ?_
            refine va_put (D := D) (ci := 3) (v := .int (nI (2 ^ i1) * 2)) (ty := .int) (C := RX3) (T := TX3) (N := 2) hx hb hts uX3 tyX3 tyX3_ok nmX3 hown hK hP hD hS 6 rfl rfl 1 (by decide) w1 (fun _ h9 => h9) rfl (by decide +kernel) rfl rfl (Nat.le_of_ble_eq_true rfl) dX3_follow_128 (fun H locs hP hD hS => ?_)
            have hP : va_P D vwCl [(aL, .inr (1, [.ref aLk, .ref aLh, .ref aLs, .int (nI nl)])), (aLh, .inl (cI, 6, .inl ho)), (aLs, .inl (cI, 6, .inl sn)), (aE, .inr (0, [.int li, .int mi, .int (nI pe), .ref aEs, .ref aEw, .ref aEd, .int to, .ref aEl, .ref aEt])), (aEl, .inl (cI, 7, .inl tl)), (aEt, .inl (cI, 7, .inl td)), (aY, .inr (3, [.ref aYe, .int (nI (2 ^ i1) * 2)])), (aYe, .inl (cI, 64, .inl ((f_X3_follow_55_Ye nl ho sn tl td i1 sect ((f_X3_follow_38_Ye nl ho sn tl td sect (upd en 0 li) i1)) (2 ^ i1)))))] H := hP
            have hD : va_D A [(aL, .inr (1, [.ref aLk, .ref aLh, .ref aLs, .int (nI nl)])), (aLh, .inl (cI, 6, .inl ho)), (aLs, .inl (cI, 6, .inl sn)), (aE, .inr (0, [.int li, .int mi, .int (nI pe), .ref aEs, .ref aEw, .ref aEd, .int to, .ref aEl, .ref aEt])), (aEl, .inl (cI, 7, .inl tl)), (aEt, .inl (cI, 7, .inl td)), (aY, .inr (3, [.ref aYe, .int (nI (2 ^ i1) * 2)])), (aYe, .inl (cI, 64, .inl ((f_X3_follow_55_Ye nl ho sn tl td i1 sect ((f_X3_follow_38_Ye nl ho sn tl td sect (upd en 0 li) i1)) (2 ^ i1)))))] := hD
            refine lv_iinc (v := nI ((i1 + 1) + 1)) (lv' := [(5, .int (nI ((i1 + 1) + 1))), (0, .ref aY), (1, .ref aL), (2, .ref aE), (3, .int sect), (4, .int (nI mm)), (6, .int (nI ((2 ^ i1))))]) hx hb dX3_follow_131 hl (k := 5) rfl (nI_add (i1 + 1) 1) (by decide) rfl (fun ls hl => ?_)
            refine lv_goto (tgt := 38) hx hb dX3_follow_134 (by decide) ?_
            have e_Ye : (f_X3_follow_38_Ye nl ho sn tl td sect (upd en 0 li) (i1 + 1)) = (f_X3_follow_55_Ye nl ho sn tl td i1 sect ((f_X3_follow_38_Ye nl ho sn tl td sect (upd en 0 li) i1)) (2 ^ i1)) := (by simp only [f_X3_follow_38_Ye])
            have i_Y_1 : nI (2 ^ (i1 + 1)) = (nI (2 ^ i1) * 2) := (Eq.symm (ix_mul (x := 2 ^ i1) (y := 2) rfl rfl))
            exact ih38 (i1 + 1) (by omega) _ _ (by rw [e_Ye, i_Y_1]; exact hP) (by rw [e_Ye, i_Y_1]; exact hD) hS ls (lv_sub hl [1, 2, 3, 4, 5, 0] rfl)
          | succ k55 ih55 =>
            intro i2 hk55 H locs hP hD hS ls hl
            refine lv_iload hx hb dX3_follow_55 (lv_at hl 6 rfl) ?_
            refine lv_aload_n hx hb dX3_follow_57 rfl (lv_at hl 0 rfl) ?_
            refine va_get (D := D) (ci := 3) (v := .int (nI (2 ^ i1))) (C := RX3) (T := TX3) (N := 2) hx hb hts uX3 hown hK hP 6 rfl rfl 1 (by decide) w1 (fun _ h9 => h9) rfl dX3_follow_58 ?_
            refine lv_icmp_ge (tgt := 121) hx hb dX3_follow_61 (by decide) (fun c => absurd c (nle_f (a := 2 ^ i1) (b := i2) rfl rfl (by omega) (by omega) (by omega))) (fun _ => ?_)
            refine lv_aload_n hx hb dX3_follow_64 rfl (lv_at hl 0 rfl) ?_
            refine va_get (D := D) (ci := 3) (v := .ref aYe) (C := RX3) (T := TX3) (N := 2) hx hb hts uX3 hown hK hP 6 rfl rfl 0 (by decide) w2 (fun _ h9 => h9) rfl dX3_follow_65 ?_
            refine lv_aload_n hx hb dX3_follow_68 rfl (lv_at hl 0 rfl) ?_
            refine va_get (D := D) (ci := 3) (v := .int (nI (2 ^ i1))) (C := RX3) (T := TX3) (N := 2) hx hb hts uX3 hown hK hP 6 rfl rfl 1 (by decide) w1 (fun _ h9 => h9) rfl dX3_follow_69 ?_
            refine lv_iload hx hb dX3_follow_72 (lv_at hl 6 rfl) ?_
            refine lv_iadd hx hb dX3_follow_74 ?_
            refine lv_aload_n hx hb dX3_follow_75 rfl (lv_at hl 1 rfl) ?_
            refine lv_aload_n hx hb dX3_follow_76 rfl (lv_at hl 2 rfl) ?_
            refine lv_aload_n hx hb dX3_follow_77 rfl (lv_at hl 0 rfl) ?_
            refine va_get (D := D) (ci := 3) (v := .ref aYe) (C := RX3) (T := TX3) (N := 2) hx hb hts uX3 hown hK hP 6 rfl rfl 0 (by decide) w2 (fun _ h9 => h9) rfl dX3_follow_78 ?_
            refine lv_iload hx hb dX3_follow_81 (lv_at hl 6 rfl) ?_
            refine xald hx hb hK hP 7 rfl i2 rfl (by omega) (by decide) dX3_follow_83 ?_
            refine lv_iconst (v := 1) hx hb dX3_follow_84 (by decide) ?_
            refine lv_iload_n hx hb dX3_follow_85 rfl (lv_at hl 3 rfl) ?_
            refine lv_ishl hx hb dX3_follow_86 ?_
            refine lv_iload hx hb dX3_follow_87 (lv_at hl 5 rfl) ?_
            refine rS ⟨hx, hb, hml, hown, hts⟩ (c_X3_further l D cI aL aLk aLh aLs aE aEs aEw aEd aEl aEt nl ho sn li mi pe to tl td ((f_X3_follow_55_Ye nl ho sn tl td i1 sect ((f_X3_follow_38_Ye nl ho sn tl td sect (upd en 0 li) i1)) i2) i2) (nI (i1 + 1)) (1 <<< (sect &&& 31)) hn) (va_cwS 5 hts gX3_follow_X3_further rfl rfl rfl hd_X3_further ⟨Nat.le_of_ble_eq_true rfl, Nat.le_of_ble_eq_true rfl⟩) hK (hP.sub [0, 1, 2, 3, 4, 5] rfl) rfl hl.1 (rest := [.int (nI (2 ^ i1) + nI i2), .ref aYe]) (st' := [.int (f_X3_further nl ho sn tl td ((f_X3_follow_55_Ye nl ho sn tl td i1 sect ((f_X3_follow_38_Ye nl ho sn tl td sect (upd en 0 li) i1)) i2) i2) (nI (i1 + 1)) (1 <<< (sect &&& 31))), .int (nI (2 ^ i1) + nI i2), .ref aYe]) rfl rfl (Nat.le_of_ble_eq_true rfl) dX3_follow_89 ⟨Nat.zero_le _, Nat.zero_le _⟩ ?_
            refine xast hx hb hK hP hD hS 7 rfl ((2 ^ i1) + i2) (ix_add rfl rfl) (by omega) (by decide) dX3_follow_92 (fun H locs hP hD hS => ?_)
            have hP : va_P D vwCl [(aL, .inr (1, [.ref aLk, .ref aLh, .ref aLs, .int (nI nl)])), (aLh, .inl (cI, 6, .inl ho)), (aLs, .inl (cI, 6, .inl sn)), (aE, .inr (0, [.int li, .int mi, .int (nI pe), .ref aEs, .ref aEw, .ref aEd, .int to, .ref aEl, .ref aEt])), (aEl, .inl (cI, 7, .inl tl)), (aEt, .inl (cI, 7, .inl td)), (aY, .inr (3, [.ref aYe, .int (nI (2 ^ i1))])), (aYe, .inl (cI, 64, .inl (upd (f_X3_follow_55_Ye nl ho sn tl td i1 sect ((f_X3_follow_38_Ye nl ho sn tl td sect (upd en 0 li) i1)) i2) ((2 ^ i1) + i2) (f_X3_further nl ho sn tl td ((f_X3_follow_55_Ye nl ho sn tl td i1 sect ((f_X3_follow_38_Ye nl ho sn tl td sect (upd en 0 li) i1)) i2) i2) (nI (i1 + 1)) (1 <<< (sect &&& 31))))))] H := hP
            have hD : va_D A [(aL, .inr (1, [.ref aLk, .ref aLh, .ref aLs, .int (nI nl)])), (aLh, .inl (cI, 6, .inl ho)), (aLs, .inl (cI, 6, .inl sn)), (aE, .inr (0, [.int li, .int mi, .int (nI pe), .ref aEs, .ref aEw, .ref aEd, .int to, .ref aEl, .ref aEt])), (aEl, .inl (cI, 7, .inl tl)), (aEt, .inl (cI, 7, .inl td)), (aY, .inr (3, [.ref aYe, .int (nI (2 ^ i1))])), (aYe, .inl (cI, 64, .inl (upd (f_X3_follow_55_Ye nl ho sn tl td i1 sect ((f_X3_follow_38_Ye nl ho sn tl td sect (upd en 0 li) i1)) i2) ((2 ^ i1) + i2) (f_X3_further nl ho sn tl td ((f_X3_follow_55_Ye nl ho sn tl td i1 sect ((f_X3_follow_38_Ye nl ho sn tl td sect (upd en 0 li) i1)) i2) i2) (nI (i1 + 1)) (1 <<< (sect &&& 31))))))] := hD
            refine lv_aload_n hx hb dX3_follow_93 rfl (lv_at hl 0 rfl) ?_
            refine va_get (D := D) (ci := 3) (v := .ref aYe) (C := RX3) (T := TX3) (N := 2) hx hb hts uX3 hown hK hP 6 rfl rfl 0 (by decide) w2 (fun _ h9 => h9) rfl dX3_follow_94 ?_
            refine lv_iload hx hb dX3_follow_97 (lv_at hl 6 rfl) ?_
            refine lv_aload_n hx hb dX3_follow_99 rfl (lv_at hl 1 rfl) ?_
            refine lv_aload_n hx hb dX3_follow_100 rfl (lv_at hl 2 rfl) ?_
            refine lv_aload_n hx hb dX3_follow_101 rfl (lv_at hl 0 rfl) ?_
            refine va_get (D := D) (ci := 3) (v := .ref aYe) (C := RX3) (T := TX3) (N := 2) hx hb hts uX3 hown hK hP 6 rfl rfl 0 (by decide) w2 (fun _ h9 => h9) rfl dX3_follow_102 ?_
            refine lv_iload hx hb dX3_follow_105 (lv_at hl 6 rfl) ?_
            refine xald hx hb hK hP 7 rfl i2 rfl (by omega) (by decide) dX3_follow_107 ?_
            refine lv_iconst (v := 0) hx hb dX3_follow_108 (by decide) ?_
            refine lv_iload hx hb dX3_follow_109 (lv_at hl 5 rfl) ?_
            refine rS ⟨hx, hb, hml, hown, hts⟩ (c_X3_further l D cI aL aLk aLh aLs aE aEs aEw aEd aEl aEt nl ho sn li mi pe to tl td ((upd (f_X3_follow_55_Ye nl ho sn tl td i1 sect ((f_X3_follow_38_Ye nl ho sn tl td sect (upd en 0 li) i1)) i2) ((2 ^ i1) + i2) (f_X3_further nl ho sn tl td ((f_X3_follow_55_Ye nl ho sn tl td i1 sect ((f_X3_follow_38_Ye nl ho sn tl td sect (upd en 0 li) i1)) i2) i2) (nI (i1 + 1)) (1 <<< (sect &&& 31)))) i2) (nI (i1 + 1)) 0 hn) (va_cwS 5 hts gX3_follow_X3_further rfl rfl rfl hd_X3_further ⟨Nat.le_of_ble_eq_true rfl, Nat.le_of_ble_eq_true rfl⟩) hK (hP.sub [0, 1, 2, 3, 4, 5] rfl) rfl hl.1 (rest := [.int (nI i2), .ref aYe]) (st' := [.int (f_X3_further nl ho sn tl td ((upd (f_X3_follow_55_Ye nl ho sn tl td i1 sect ((f_X3_follow_38_Ye nl ho sn tl td sect (upd en 0 li) i1)) i2) ((2 ^ i1) + i2) (f_X3_further nl ho sn tl td ((f_X3_follow_55_Ye nl ho sn tl td i1 sect ((f_X3_follow_38_Ye nl ho sn tl td sect (upd en 0 li) i1)) i2) i2) (nI (i1 + 1)) (1 <<< (sect &&& 31)))) i2) (nI (i1 + 1)) 0), .int (nI i2), .ref aYe]) rfl rfl (Nat.le_of_ble_eq_true rfl) dX3_follow_111 ⟨Nat.zero_le _, Nat.zero_le _⟩ ?_
            refine xast hx hb hK hP hD hS 7 rfl i2 rfl (by omega) (by decide) dX3_follow_114 (fun H locs hP hD hS => ?_)
            have hP : va_P D vwCl [(aL, .inr (1, [.ref aLk, .ref aLh, .ref aLs, .int (nI nl)])), (aLh, .inl (cI, 6, .inl ho)), (aLs, .inl (cI, 6, .inl sn)), (aE, .inr (0, [.int li, .int mi, .int (nI pe), .ref aEs, .ref aEw, .ref aEd, .int to, .ref aEl, .ref aEt])), (aEl, .inl (cI, 7, .inl tl)), (aEt, .inl (cI, 7, .inl td)), (aY, .inr (3, [.ref aYe, .int (nI (2 ^ i1))])), (aYe, .inl (cI, 64, .inl (upd (upd (f_X3_follow_55_Ye nl ho sn tl td i1 sect ((f_X3_follow_38_Ye nl ho sn tl td sect (upd en 0 li) i1)) i2) ((2 ^ i1) + i2) (f_X3_further nl ho sn tl td ((f_X3_follow_55_Ye nl ho sn tl td i1 sect ((f_X3_follow_38_Ye nl ho sn tl td sect (upd en 0 li) i1)) i2) i2) (nI (i1 + 1)) (1 <<< (sect &&& 31)))) i2 (f_X3_further nl ho sn tl td ((upd (f_X3_follow_55_Ye nl ho sn tl td i1 sect ((f_X3_follow_38_Ye nl ho sn tl td sect (upd en 0 li) i1)) i2) ((2 ^ i1) + i2) (f_X3_further nl ho sn tl td ((f_X3_follow_55_Ye nl ho sn tl td i1 sect ((f_X3_follow_38_Ye nl ho sn tl td sect (upd en 0 li) i1)) i2) i2) (nI (i1 + 1)) (1 <<< (sect &&& 31)))) i2) (nI (i1 + 1)) 0))))] H := hP
            have hD : va_D A [(aL, .inr (1, [.ref aLk, .ref aLh, .ref aLs, .int (nI nl)])), (aLh, .inl (cI, 6, .inl ho)), (aLs, .inl (cI, 6, .inl sn)), (aE, .inr (0, [.int li, .int mi, .int (nI pe), .ref aEs, .ref aEw, .ref aEd, .int to, .ref aEl, .ref aEt])), (aEl, .inl (cI, 7, .inl tl)), (aEt, .inl (cI, 7, .inl td)), (aY, .inr (3, [.ref aYe, .int (nI (2 ^ i1))])), (aYe, .inl (cI, 64, .inl (upd (upd (f_X3_follow_55_Ye nl ho sn tl td i1 sect ((f_X3_follow_38_Ye nl ho sn tl td sect (upd en 0 li) i1)) i2) ((2 ^ i1) + i2) (f_X3_further nl ho sn tl td ((f_X3_follow_55_Ye nl ho sn tl td i1 sect ((f_X3_follow_38_Ye nl ho sn tl td sect (upd en 0 li) i1)) i2) i2) (nI (i1 + 1)) (1 <<< (sect &&& 31)))) i2 (f_X3_further nl ho sn tl td ((upd (f_X3_follow_55_Ye nl ho sn tl td i1 sect ((f_X3_follow_38_Ye nl ho sn tl td sect (upd en 0 li) i1)) i2) ((2 ^ i1) + i2) (f_X3_further nl ho sn tl td ((f_X3_follow_55_Ye nl ho sn tl td i1 sect ((f_X3_follow_38_Ye nl ho sn tl td sect (upd en 0 li) i1)) i2) i2) (nI (i1 + 1)) (1 <<< (sect &&& 31)))) i2) (nI (i1 + 1)) 0))))] := hD
            refine lv_iinc (v := nI (i2 + 1)) (lv' := [(6, .int (nI (i2 + 1))), (0, .ref aY), (1, .ref aL), (2, .ref aE), (3, .int sect), (4, .int (nI mm)), (5, .int (nI (i1 + 1)))]) hx hb dX3_follow_115 hl (k := 6) rfl (nI_add i2 1) (by decide) rfl (fun ls hl => ?_)
            refine lv_goto (tgt := 55) hx hb dX3_follow_118 (by decide) ?_
            have e_Ye : (f_X3_follow_55_Ye nl ho sn tl td i1 sect ((f_X3_follow_38_Ye nl ho sn tl td sect (upd en 0 li) i1)) (i2 + 1)) = (upd (upd (f_X3_follow_55_Ye nl ho sn tl td i1 sect ((f_X3_follow_38_Ye nl ho sn tl td sect (upd en 0 li) i1)) i2) ((2 ^ i1) + i2) (f_X3_further nl ho sn tl td ((f_X3_follow_55_Ye nl ho sn tl td i1 sect ((f_X3_follow_38_Ye nl ho sn tl td sect (upd en 0 li) i1)) i2) i2) (nI (i1 + 1)) (1 <<< (sect &&& 31)))) i2 (f_X3_further nl ho sn tl td ((upd (f_X3_follow_55_Ye nl ho sn tl td i1 sect ((f_X3_follow_38_Ye nl ho sn tl td sect (upd en 0 li) i1)) i2) ((2 ^ i1) + i2) (f_X3_further nl ho sn tl td ((f_X3_follow_55_Ye nl ho sn tl td i1 sect ((f_X3_follow_38_Ye nl ho sn tl td sect (upd en 0 li) i1)) i2) i2) (nI (i1 + 1)) (1 <<< (sect &&& 31)))) i2) (nI (i1 + 1)) 0)) := (by simp only [f_X3_follow_55_Ye])
            exact ih55 (i2 + 1) (by omega) _ _ (by rw [e_Ye]; exact hP) (by rw [e_Ye]; exact hD) hS ls (lv_sub hl [1, 2, 3, 4, 5, 6, 0] rfl)
        exact lp55 (2 ^ i1) 0 (by omega) _ _ hP hD hS ls (lv_sub hl [1, 2, 3, 4, 5, 6, 0] rfl)
    exact lp38 mm 0 (by omega) _ _ hP hD hS ls (lv_sub hl [1, 2, 3, 4, 5, 0] rfl)
end
