section
-- ===== PART A: goes FIRST, ahead of the names: the tables' words, and 'selects' of the private methods out of them =====
/-- a private method of a class that the tables say can be made, by its rows of tables_1 -/
def lw_okq (q : MethodName × Nat) : Prop := (q.1.cls ≠ "java/lang/invoke/MethodHandle" ∧ q.1.cls ≠ "java/lang/invoke/VarHandle") ∧ Cond.instantiable q.1.cls q.2 ∈ tables_1 ∧ Cond.privateMethod q.1 ∈ tables_1 ∧ Cond.instanceMethod q.1 ∈ tables_1
theorem lw_p0 : lw_okq (⟨"BallCourt", "beginAnew", "(I)V"⟩, 8) := ⟨⟨by decide +kernel, by decide +kernel⟩, List.mem_of_getElem? (i := 10) (by decide +kernel), List.mem_of_getElem? (i := 150) (by decide +kernel), List.mem_of_getElem? (i := 151) (by decide +kernel)⟩
theorem lw_p1 : lw_okq (⟨"BallCourt$Book", "workKinds", "()V"⟩, 11) := ⟨⟨by decide +kernel, by decide +kernel⟩, List.mem_of_getElem? (i := 18) (by decide +kernel), List.mem_of_getElem? (i := 158) (by decide +kernel), List.mem_of_getElem? (i := 159) (by decide +kernel)⟩
theorem lw_p2 : lw_okq (⟨"BallCourt$Book", "hasBarredPair", "(I)Z"⟩, 11) := ⟨⟨by decide +kernel, by decide +kernel⟩, List.mem_of_getElem? (i := 18) (by decide +kernel), List.mem_of_getElem? (i := 162) (by decide +kernel), List.mem_of_getElem? (i := 163) (by decide +kernel)⟩
theorem lw_p3 : lw_okq (⟨"BallCourt", "turnedKinds", "()I"⟩, 8) := ⟨⟨by decide +kernel, by decide +kernel⟩, List.mem_of_getElem? (i := 10) (by decide +kernel), List.mem_of_getElem? (i := 317) (by decide +kernel), List.mem_of_getElem? (i := 318) (by decide +kernel)⟩
theorem lw_p4 : lw_okq (⟨"BallCourt", "verdictUnder", "(LBallCourt$Laws;I)I"⟩, 8) := ⟨⟨by decide +kernel, by decide +kernel⟩, List.mem_of_getElem? (i := 10) (by decide +kernel), List.mem_of_getElem? (i := 395) (by decide +kernel), List.mem_of_getElem? (i := 396) (by decide +kernel)⟩
theorem lw_p5 : lw_okq (⟨"BallCourt", "casesOfTurnedKinds", "()I"⟩, 8) := ⟨⟨by decide +kernel, by decide +kernel⟩, List.mem_of_getElem? (i := 10) (by decide +kernel), List.mem_of_getElem? (i := 431) (by decide +kernel), List.mem_of_getElem? (i := 432) (by decide +kernel)⟩
theorem lw_p6 : lw_okq (⟨"BallCourt", "turnedVerdicts", "()I"⟩, 8) := ⟨⟨by decide +kernel, by decide +kernel⟩, List.mem_of_getElem? (i := 10) (by decide +kernel), List.mem_of_getElem? (i := 435) (by decide +kernel), List.mem_of_getElem? (i := 436) (by decide +kernel)⟩
theorem lw_p7 : lw_okq (⟨"BallCourt$Game", "giveHoop", "(I)V"⟩, 4) := ⟨⟨by decide +kernel, by decide +kernel⟩, List.mem_of_getElem? (i := 128) (by decide +kernel), List.mem_of_getElem? (i := 459) (by decide +kernel), List.mem_of_getElem? (i := 460) (by decide +kernel)⟩
theorem lw_p8 : lw_okq (⟨"BallCourt", "coveredKinds", "()I"⟩, 8) := ⟨⟨by decide +kernel, by decide +kernel⟩, List.mem_of_getElem? (i := 10) (by decide +kernel), List.mem_of_getElem? (i := 476) (by decide +kernel), List.mem_of_getElem? (i := 477) (by decide +kernel)⟩
theorem lw_p9 : lw_okq (⟨"BallCourtModel", "isFact", "(I)Z"⟩, 21) := ⟨⟨by decide +kernel, by decide +kernel⟩, List.mem_of_getElem? (i := 480) (by decide +kernel), List.mem_of_getElem? (i := 561) (by decide +kernel), List.mem_of_getElem? (i := 562) (by decide +kernel)⟩
theorem lw_p10 : lw_okq (⟨"BallCourtModel", "allFacts", "()I"⟩, 21) := ⟨⟨by decide +kernel, by decide +kernel⟩, List.mem_of_getElem? (i := 480) (by decide +kernel), List.mem_of_getElem? (i := 569) (by decide +kernel), List.mem_of_getElem? (i := 570) (by decide +kernel)⟩
theorem lw_p11 : lw_okq (⟨"BallCourtModel", "isLine", "(I)Z"⟩, 21) := ⟨⟨by decide +kernel, by decide +kernel⟩, List.mem_of_getElem? (i := 480) (by decide +kernel), List.mem_of_getElem? (i := 580) (by decide +kernel), List.mem_of_getElem? (i := 581) (by decide +kernel)⟩
theorem lw_p12 : lw_okq (⟨"BallCourtModel", "namedBy", "(I)I"⟩, 21) := ⟨⟨by decide +kernel, by decide +kernel⟩, List.mem_of_getElem? (i := 480) (by decide +kernel), List.mem_of_getElem? (i := 595) (by decide +kernel), List.mem_of_getElem? (i := 596) (by decide +kernel)⟩
theorem lw_p13 : lw_okq (⟨"BallCourtModel", "isKind", "(I)Z"⟩, 21) := ⟨⟨by decide +kernel, by decide +kernel⟩, List.mem_of_getElem? (i := 480) (by decide +kernel), List.mem_of_getElem? (i := 603) (by decide +kernel), List.mem_of_getElem? (i := 604) (by decide +kernel)⟩
theorem lw_p14 : lw_okq (⟨"BallCourtModel", "holding", "(I)I"⟩, 21) := ⟨⟨by decide +kernel, by decide +kernel⟩, List.mem_of_getElem? (i := 480) (by decide +kernel), List.mem_of_getElem? (i := 607) (by decide +kernel), List.mem_of_getElem? (i := 608) (by decide +kernel)⟩
theorem lw_p15 : lw_okq (⟨"BallCourtModel", "lineFor", "(I)I"⟩, 21) := ⟨⟨by decide +kernel, by decide +kernel⟩, List.mem_of_getElem? (i := 480) (by decide +kernel), List.mem_of_getElem? (i := 615) (by decide +kernel), List.mem_of_getElem? (i := 616) (by decide +kernel)⟩
def lw_privs_1 : List (MethodName × Nat) := [(⟨"BallCourt", "beginAnew", "(I)V"⟩, 8), (⟨"BallCourt$Book", "workKinds", "()V"⟩, 11), (⟨"BallCourt$Book", "hasBarredPair", "(I)Z"⟩, 11), (⟨"BallCourt", "turnedKinds", "()I"⟩, 8), (⟨"BallCourt", "verdictUnder", "(LBallCourt$Laws;I)I"⟩, 8), (⟨"BallCourt", "casesOfTurnedKinds", "()I"⟩, 8), (⟨"BallCourt", "turnedVerdicts", "()I"⟩, 8), (⟨"BallCourt$Game", "giveHoop", "(I)V"⟩, 4), (⟨"BallCourt", "coveredKinds", "()I"⟩, 8), (⟨"BallCourtModel", "isFact", "(I)Z"⟩, 21), (⟨"BallCourtModel", "allFacts", "()I"⟩, 21), (⟨"BallCourtModel", "isLine", "(I)Z"⟩, 21), (⟨"BallCourtModel", "namedBy", "(I)I"⟩, 21), (⟨"BallCourtModel", "isKind", "(I)Z"⟩, 21), (⟨"BallCourtModel", "holding", "(I)I"⟩, 21), (⟨"BallCourtModel", "lineFor", "(I)I"⟩, 21)]
theorem lw_r1 : ∀ q ∈ lw_privs_1, lw_okq q := List.forall_mem_cons.mpr ⟨lw_p0, List.forall_mem_cons.mpr ⟨lw_p1, List.forall_mem_cons.mpr ⟨lw_p2, List.forall_mem_cons.mpr ⟨lw_p3, List.forall_mem_cons.mpr ⟨lw_p4, List.forall_mem_cons.mpr ⟨lw_p5, List.forall_mem_cons.mpr ⟨lw_p6, List.forall_mem_cons.mpr ⟨lw_p7, List.forall_mem_cons.mpr ⟨lw_p8, List.forall_mem_cons.mpr ⟨lw_p9, List.forall_mem_cons.mpr ⟨lw_p10, List.forall_mem_cons.mpr ⟨lw_p11, List.forall_mem_cons.mpr ⟨lw_p12, List.forall_mem_cons.mpr ⟨lw_p13, List.forall_mem_cons.mpr ⟨lw_p14, List.forall_mem_cons.mpr ⟨lw_p15, fun _ h => absurd h List.not_mem_nil⟩⟩⟩⟩⟩⟩⟩⟩⟩⟩⟩⟩⟩⟩⟩⟩
theorem lw_p16 : lw_okq (⟨"BallCourtModel", "rulingFor", "(I)I"⟩, 21) := ⟨⟨by decide +kernel, by decide +kernel⟩, List.mem_of_getElem? (i := 480) (by decide +kernel), List.mem_of_getElem? (i := 619) (by decide +kernel), List.mem_of_getElem? (i := 620) (by decide +kernel)⟩
theorem lw_p17 : lw_okq (⟨"BallCourtModel", "turnedKinds", "(I)I"⟩, 21) := ⟨⟨by decide +kernel, by decide +kernel⟩, List.mem_of_getElem? (i := 480) (by decide +kernel), List.mem_of_getElem? (i := 631) (by decide +kernel), List.mem_of_getElem? (i := 632) (by decide +kernel)⟩
theorem lw_p18 : lw_okq (⟨"BallCourtModel", "bound", "(I)I"⟩, 21) := ⟨⟨by decide +kernel, by decide +kernel⟩, List.mem_of_getElem? (i := 480) (by decide +kernel), List.mem_of_getElem? (i := 635) (by decide +kernel), List.mem_of_getElem? (i := 636) (by decide +kernel)⟩
theorem lw_p19 : lw_okq (⟨"BallCourtModel", "isMoment", "(I)Z"⟩, 21) := ⟨⟨by decide +kernel, by decide +kernel⟩, List.mem_of_getElem? (i := 480) (by decide +kernel), List.mem_of_getElem? (i := 647) (by decide +kernel), List.mem_of_getElem? (i := 648) (by decide +kernel)⟩
theorem lw_p20 : lw_okq (⟨"BallCourtModel", "so", "(I)I"⟩, 21) := ⟨⟨by decide +kernel, by decide +kernel⟩, List.mem_of_getElem? (i := 480) (by decide +kernel), List.mem_of_getElem? (i := 655) (by decide +kernel), List.mem_of_getElem? (i := 656) (by decide +kernel)⟩
theorem lw_p21 : lw_okq (⟨"BallCourtModel", "notSo", "(I)I"⟩, 21) := ⟨⟨by decide +kernel, by decide +kernel⟩, List.mem_of_getElem? (i := 480) (by decide +kernel), List.mem_of_getElem? (i := 659) (by decide +kernel), List.mem_of_getElem? (i := 660) (by decide +kernel)⟩
theorem lw_p22 : lw_okq (⟨"BallCourtModel", "doubt", "(I)I"⟩, 21) := ⟨⟨by decide +kernel, by decide +kernel⟩, List.mem_of_getElem? (i := 480) (by decide +kernel), List.mem_of_getElem? (i := 663) (by decide +kernel), List.mem_of_getElem? (i := 664) (by decide +kernel)⟩
theorem lw_p23 : lw_okq (⟨"BallCourtModel", "mayBes", "(II)I"⟩, 21) := ⟨⟨by decide +kernel, by decide +kernel⟩, List.mem_of_getElem? (i := 480) (by decide +kernel), List.mem_of_getElem? (i := 667) (by decide +kernel), List.mem_of_getElem? (i := 668) (by decide +kernel)⟩
theorem lw_p24 : lw_okq (⟨"BallCourtModel", "mayBe", "(II)Z"⟩, 21) := ⟨⟨by decide +kernel, by decide +kernel⟩, List.mem_of_getElem? (i := 480) (by decide +kernel), List.mem_of_getElem? (i := 671) (by decide +kernel), List.mem_of_getElem? (i := 672) (by decide +kernel)⟩
theorem lw_p25 : lw_okq (⟨"BallCourtModel", "bindingCase", "(I)I"⟩, 21) := ⟨⟨by decide +kernel, by decide +kernel⟩, List.mem_of_getElem? (i := 480) (by decide +kernel), List.mem_of_getElem? (i := 683) (by decide +kernel), List.mem_of_getElem? (i := 684) (by decide +kernel)⟩
theorem lw_p26 : lw_okq (⟨"BallCourtModel", "verdictOf", "(I)I"⟩, 21) := ⟨⟨by decide +kernel, by decide +kernel⟩, List.mem_of_getElem? (i := 480) (by decide +kernel), List.mem_of_getElem? (i := 691) (by decide +kernel), List.mem_of_getElem? (i := 692) (by decide +kernel)⟩
theorem lw_p27 : lw_okq (⟨"BallCourtModel", "begin", "()V"⟩, 21) := ⟨⟨by decide +kernel, by decide +kernel⟩, List.mem_of_getElem? (i := 480) (by decide +kernel), List.mem_of_getElem? (i := 723) (by decide +kernel), List.mem_of_getElem? (i := 724) (by decide +kernel)⟩
theorem lw_p28 : lw_okq (⟨"BallCourtModel", "play", "(I)V"⟩, 21) := ⟨⟨by decide +kernel, by decide +kernel⟩, List.mem_of_getElem? (i := 480) (by decide +kernel), List.mem_of_getElem? (i := 727) (by decide +kernel), List.mem_of_getElem? (i := 728) (by decide +kernel)⟩
theorem lw_p29 : lw_okq (⟨"BallCourtModel", "packed", "()I"⟩, 21) := ⟨⟨by decide +kernel, by decide +kernel⟩, List.mem_of_getElem? (i := 480) (by decide +kernel), List.mem_of_getElem? (i := 735) (by decide +kernel), List.mem_of_getElem? (i := 736) (by decide +kernel)⟩
theorem lw_p30 : lw_okq (⟨"BallCourtModel", "kinds", "(Z)I"⟩, 21) := ⟨⟨by decide +kernel, by decide +kernel⟩, List.mem_of_getElem? (i := 480) (by decide +kernel), List.mem_of_getElem? (i := 743) (by decide +kernel), List.mem_of_getElem? (i := 744) (by decide +kernel)⟩
def lw_privs_2 : List (MethodName × Nat) := [(⟨"BallCourtModel", "rulingFor", "(I)I"⟩, 21), (⟨"BallCourtModel", "turnedKinds", "(I)I"⟩, 21), (⟨"BallCourtModel", "bound", "(I)I"⟩, 21), (⟨"BallCourtModel", "isMoment", "(I)Z"⟩, 21), (⟨"BallCourtModel", "so", "(I)I"⟩, 21), (⟨"BallCourtModel", "notSo", "(I)I"⟩, 21), (⟨"BallCourtModel", "doubt", "(I)I"⟩, 21), (⟨"BallCourtModel", "mayBes", "(II)I"⟩, 21), (⟨"BallCourtModel", "mayBe", "(II)Z"⟩, 21), (⟨"BallCourtModel", "bindingCase", "(I)I"⟩, 21), (⟨"BallCourtModel", "verdictOf", "(I)I"⟩, 21), (⟨"BallCourtModel", "begin", "()V"⟩, 21), (⟨"BallCourtModel", "play", "(I)V"⟩, 21), (⟨"BallCourtModel", "packed", "()I"⟩, 21), (⟨"BallCourtModel", "kinds", "(Z)I"⟩, 21)]
theorem lw_r2 : ∀ q ∈ lw_privs_2, lw_okq q := List.forall_mem_cons.mpr ⟨lw_p16, List.forall_mem_cons.mpr ⟨lw_p17, List.forall_mem_cons.mpr ⟨lw_p18, List.forall_mem_cons.mpr ⟨lw_p19, List.forall_mem_cons.mpr ⟨lw_p20, List.forall_mem_cons.mpr ⟨lw_p21, List.forall_mem_cons.mpr ⟨lw_p22, List.forall_mem_cons.mpr ⟨lw_p23, List.forall_mem_cons.mpr ⟨lw_p24, List.forall_mem_cons.mpr ⟨lw_p25, List.forall_mem_cons.mpr ⟨lw_p26, List.forall_mem_cons.mpr ⟨lw_p27, List.forall_mem_cons.mpr ⟨lw_p28, List.forall_mem_cons.mpr ⟨lw_p29, List.forall_mem_cons.mpr ⟨lw_p30, fun _ h => absurd h List.not_mem_nil⟩⟩⟩⟩⟩⟩⟩⟩⟩⟩⟩⟩⟩⟩⟩
def lw_privs : List (MethodName × Nat) := lw_privs_1 ++ (lw_privs_2)
def lw_tbl : List Cond := k2_sels lw_privs ++ tables_1
theorem lw_privs_ok : ∀ q ∈ lw_privs, lw_okq q := by
  show ∀ q ∈ lw_privs_1 ++ (lw_privs_2), lw_okq q
  exact List.forall_mem_append.mpr ⟨lw_r1, lw_r2⟩
-- ===== end of PART A; then your names; then what follows =====
end
section
/-! ===== BEGIN words of one list among another's, by their places ===== -/
theorem goodIn_r {big : List Cond} (ws : List Cond) (ps : List Nat) (hp : ws = ps.filterMap (fun i => big[i]?)) (h : ws.all goodWord = true) : GoodIn big ws := by
  intro w hw
  have h1 := List.all_eq_true.mp h w hw
  rw [hp] at hw
  obtain ⟨i, -, hi⟩ := List.mem_filterMap.mp hw
  have hm : w ∈ big := by first | exact List.mem_of_getElem? hi | exact List.getElem?_mem hi
  exact ⟨hm, good_of_word h1⟩
theorem goodIn_app {big a b : List Cond} (ha : GoodIn big a) (hb : GoodIn big b) : GoodIn big (a ++ b) := fun w h => (List.mem_append.mp h).elim (ha w) (hb w)
theorem goodIn_ca {big a b : List Cond} {c : Cond} (ha : GoodIn big (c :: a)) (hb : GoodIn big b) : GoodIn big (c :: (a ++ b)) := fun w h => (List.mem_cons.mp h).elim (fun e => ha w (List.mem_cons.mpr (Or.inl e))) (fun h => (List.mem_append.mp h).elim (fun h => ha w (List.mem_cons.mpr (Or.inr h))) (hb w))
theorem goodIn_sub {big ws : List Cond} (hm : ∀ w ∈ ws, w ∈ big) (h : ws.all goodWord = true) : GoodIn big ws := fun w hw => ⟨hm w hw, good_of_word (List.all_eq_true.mp h w hw)⟩
/-! ===== END ===== -/

/-! ===== BEGIN printed: names, fields, word lists, decode rows ===== -/
def RX0 : String := "BallCourt$Book"
def TX0 : u_T := fun k => match k with
  | 0 => ("BallCourt$Book", "facts", "I", false)
  | 1 => ("BallCourt$Book", "numbers", "I", false)
  | 2 => ("BallCourt$Book", "isKind", "[Z", true)
  | 3 => ("BallCourt$Book", "barredWith", "[I", true)
  | 4 => ("BallCourt$Book", "lines", "I", false)
  | 5 => ("BallCourt$Book", "repealed", "I", false)
  | 6 => ("BallCourt$Book", "excepting", "I", false)
  | 7 => ("BallCourt$Book", "must", "[I", true)
  | 8 => ("BallCourt$Book", "mustNot", "[I", true)
  | 9 => ("BallCourt$Book", "ruling", "[I", true)
  | _ => ("BallCourt$Book", "excepters", "[I", true)
def tyX0 : Nat → FieldType := fun k => match k with
  | 0 => .int
  | 1 => .int
  | 2 => .array .boolean
  | 3 => .array .int
  | 4 => .int
  | 5 => .int
  | 6 => .int
  | 7 => .array .int
  | 8 => .array .int
  | 9 => .array .int
  | _ => .array .int
abbrev wsX00 : List Cond := u_ws RX0 TX0 11
theorem nmX0 : ∀ a, a < 11 → ∀ b, b < 11 → a ≠ b → (TX0 a).2.1 ≠ (TX0 b).2.1 := by decide +kernel
theorem tyX0_ok : ∀ k, k < 11 → parseFieldDescriptor (TX0 k).2.2.1 = some (tyX0 k) := by decide +kernel
abbrev cX0_init : ByteArray := prog_2_method_1_code
def yX0_init : MethodName := ⟨RX0, "<init>", "()V"⟩
abbrev cX0_begin : ByteArray := prog_2_method_2_code
def yX0_begin : MethodName := ⟨RX0, "begin", "(I)V"⟩
abbrev cX0_hasFact : ByteArray := prog_2_method_3_code
def yX0_hasFact : MethodName := ⟨RX0, "hasFact", "(I)Z"⟩
abbrev cX0_areFacts : ByteArray := prog_2_method_4_code
def yX0_areFacts : MethodName := ⟨RX0, "areFacts", "(I)Z"⟩
abbrev cX0_allFacts : ByteArray := prog_2_method_5_code
def yX0_allFacts : MethodName := ⟨RX0, "allFacts", "()I"⟩
abbrev cX0_hasKind : ByteArray := prog_2_method_6_code
def yX0_hasKind : MethodName := ⟨RX0, "hasKind", "(I)Z"⟩
abbrev cX0_hasLine : ByteArray := prog_2_method_7_code
def yX0_hasLine : MethodName := ⟨RX0, "hasLine", "(I)Z"⟩
abbrev cX0_areBarred : ByteArray := prog_2_method_8_code
def yX0_areBarred : MethodName := ⟨RX0, "areBarred", "(II)Z"⟩
abbrev cX0_bar : ByteArray := prog_2_method_9_code
def yX0_bar : MethodName := ⟨RX0, "bar", "(IIZ)V"⟩
abbrev cX0_workKinds : ByteArray := prog_2_method_10_code
def yX0_workKinds : MethodName := ⟨RX0, "workKinds", "()V"⟩
abbrev cX0_hasBarredPair : ByteArray := prog_2_method_11_code
def yX0_hasBarredPair : MethodName := ⟨RX0, "hasBarredPair", "(I)Z"⟩
abbrev cX0_mayBe : ByteArray := prog_2_method_12_code
def yX0_mayBe : MethodName := ⟨RX0, "mayBe", "(III)Z"⟩
abbrev cX0_countMayBe : ByteArray := prog_2_method_13_code
def yX0_countMayBe : MethodName := ⟨RX0, "countMayBe", "(II)I"⟩
abbrev cX0_addLine : ByteArray := prog_2_method_14_code
def yX0_addLine : MethodName := ⟨RX0, "addLine", "(III)I"⟩
abbrev cX0_excepts : ByteArray := prog_2_method_15_code
def yX0_excepts : MethodName := ⟨RX0, "excepts", "(II)Z"⟩
abbrev cX0_addException : ByteArray := prog_2_method_16_code
def yX0_addException : MethodName := ⟨RX0, "addException", "(II)V"⟩
abbrev cX0_isRepealed : ByteArray := prog_2_method_17_code
def yX0_isRepealed : MethodName := ⟨RX0, "isRepealed", "(I)Z"⟩
abbrev cX0_repealedIfMended : ByteArray := prog_2_method_18_code
def yX0_repealedIfMended : MethodName := ⟨RX0, "repealedIfMended", "(I)I"⟩
abbrev cX0_holding : ByteArray := prog_2_method_19_code
def yX0_holding : MethodName := ⟨RX0, "holding", "(II)I"⟩
abbrev cX0_lawLine : ByteArray := prog_2_method_20_code
def yX0_lawLine : MethodName := ⟨RX0, "lawLine", "(II)I"⟩
abbrev cX0_namedBy : ByteArray := prog_2_method_21_code
def yX0_namedBy : MethodName := ⟨RX0, "namedBy", "(I)I"⟩
def RX1 : String := "BallCourt$Cases"
def TX1 : u_T := fun k => match k with
  | 0 => ("BallCourt$Cases", "count", "I", false)
  | 1 => ("BallCourt$Cases", "kind", "[I", true)
  | 2 => ("BallCourt$Cases", "ruling", "[I", true)
  | _ => ("BallCourt$Cases", "names", "[I", true)
def tyX1 : Nat → FieldType := fun k => match k with
  | 0 => .int
  | 1 => .array .int
  | 2 => .array .int
  | _ => .array .int
abbrev wsX10 : List Cond := u_ws RX1 TX1 4
theorem nmX1 : ∀ a, a < 4 → ∀ b, b < 4 → a ≠ b → (TX1 a).2.1 ≠ (TX1 b).2.1 := by decide +kernel
theorem tyX1_ok : ∀ k, k < 4 → parseFieldDescriptor (TX1 k).2.2.1 = some (tyX1 k) := by decide +kernel
abbrev cX1_init : ByteArray := prog_3_method_1_code
def yX1_init : MethodName := ⟨RX1, "<init>", "()V"⟩
abbrev cX1_has : ByteArray := prog_3_method_2_code
def yX1_has : MethodName := ⟨RX1, "has", "(I)Z"⟩
abbrev cX1_add : ByteArray := prog_3_method_3_code
def yX1_add : MethodName := ⟨RX1, "add", "(III)I"⟩
abbrev cX1_firstThatBinds : ByteArray := prog_3_method_4_code
def yX1_firstThatBinds : MethodName := ⟨RX1, "firstThatBinds", "(II)I"⟩
def RX2 : String := "BallCourt$Game"
def TX2 : u_T := fun k => match k with
  | 0 => ("BallCourt$Game", "toWin", "I", false)
  | 1 => ("BallCourt$Game", "hoopsOf0", "I", false)
  | 2 => ("BallCourt$Game", "hoopsOf1", "I", false)
  | _ => ("BallCourt$Game", "striker", "I", false)
def tyX2 : Nat → FieldType := fun k => match k with
  | 0 => .int
  | 1 => .int
  | 2 => .int
  | _ => .int
abbrev wsX20 : List Cond := u_ws RX2 TX2 4
theorem nmX2 : ∀ a, a < 4 → ∀ b, b < 4 → a ≠ b → (TX2 a).2.1 ≠ (TX2 b).2.1 := by decide +kernel
theorem tyX2_ok : ∀ k, k < 4 → parseFieldDescriptor (TX2 k).2.2.1 = some (tyX2 k) := by decide +kernel
abbrev cX2_init : ByteArray := prog_4_method_1_code
def yX2_init : MethodName := ⟨RX2, "<init>", "()V"⟩
abbrev cX2_begin : ByteArray := prog_4_method_2_code
def yX2_begin : MethodName := ⟨RX2, "begin", "(I)V"⟩
abbrev cX2_play : ByteArray := prog_4_method_3_code
def yX2_play : MethodName := ⟨RX2, "play", "(I)V"⟩
abbrev cX2_giveHoop : ByteArray := prog_4_method_4_code
def yX2_giveHoop : MethodName := ⟨RX2, "giveHoop", "(I)V"⟩
abbrev cX2_winner : ByteArray := prog_4_method_5_code
def yX2_winner : MethodName := ⟨RX2, "winner", "()I"⟩
abbrev cX2_standsAs : ByteArray := prog_4_method_6_code
def yX2_standsAs : MethodName := ⟨RX2, "standsAs", "(LBallCourt$Game;)Z"⟩
def RX3 : String := "BallCourt$Laws"
def TX3 : u_T := fun k => match k with
  | 0 => ("BallCourt$Laws", "book", "LBallCourt$Book;", true)
  | _ => ("BallCourt$Laws", "lineOf", "[I", true)
def tyX3 : Nat → FieldType := fun k => match k with
  | 0 => .object "BallCourt$Book"
  | _ => .array .int
abbrev wsX30 : List Cond := u_ws RX3 TX3 2
theorem nmX3 : ∀ a, a < 2 → ∀ b, b < 2 → a ≠ b → (TX3 a).2.1 ≠ (TX3 b).2.1 := by decide +kernel
theorem tyX3_ok : ∀ k, k < 2 → parseFieldDescriptor (TX3 k).2.2.1 = some (tyX3 k) := by decide +kernel
abbrev cX3_init : ByteArray := prog_5_method_1_code
def yX3_init : MethodName := ⟨RX3, "<init>", "(LBallCourt$Book;)V"⟩
abbrev cX3_work : ByteArray := prog_5_method_2_code
def yX3_work : MethodName := ⟨RX3, "work", "(I)V"⟩
abbrev cX3_covers : ByteArray := prog_5_method_3_code
def yX3_covers : MethodName := ⟨RX3, "covers", "(I)Z"⟩
abbrev cX3_rulingFor : ByteArray := prog_5_method_4_code
def yX3_rulingFor : MethodName := ⟨RX3, "rulingFor", "(I)I"⟩
abbrev cX3_differFor : ByteArray := prog_5_method_5_code
def yX3_differFor : MethodName := ⟨RX3, "differFor", "(ILBallCourt$Laws;)Z"⟩
abbrev cX3_countMayBeRuled : ByteArray := prog_5_method_6_code
def yX3_countMayBeRuled : MethodName := ⟨RX3, "countMayBeRuled", "(III)I"⟩
abbrev cX3_rulingForAll : ByteArray := prog_5_method_7_code
def yX3_rulingForAll : MethodName := ⟨RX3, "rulingForAll", "(II)I"⟩
def RX4 : String := "BallCourt$Moments"
def TX4 : u_T := fun k => match k with
  | 0 => ("BallCourt$Moments", "count", "I", false)
  | 1 => ("BallCourt$Moments", "toldSo", "[I", true)
  | 2 => ("BallCourt$Moments", "toldNotSo", "[I", true)
  | _ => ("BallCourt$Moments", "ruled", "[I", true)
def tyX4 : Nat → FieldType := fun k => match k with
  | 0 => .int
  | 1 => .array .int
  | 2 => .array .int
  | _ => .array .int
abbrev wsX40 : List Cond := u_ws RX4 TX4 4
theorem nmX4 : ∀ a, a < 4 → ∀ b, b < 4 → a ≠ b → (TX4 a).2.1 ≠ (TX4 b).2.1 := by decide +kernel
theorem tyX4_ok : ∀ k, k < 4 → parseFieldDescriptor (TX4 k).2.2.1 = some (tyX4 k) := by decide +kernel
abbrev cX4_init : ByteArray := prog_6_method_1_code
def yX4_init : MethodName := ⟨RX4, "<init>", "()V"⟩
abbrev cX4_has : ByteArray := prog_6_method_2_code
def yX4_has : MethodName := ⟨RX4, "has", "(I)Z"⟩
abbrev cX4_add : ByteArray := prog_6_method_3_code
def yX4_add : MethodName := ⟨RX4, "add", "()I"⟩
abbrev cX4_hear : ByteArray := prog_6_method_4_code
def yX4_hear : MethodName := ⟨RX4, "hear", "(IIII)I"⟩
abbrev cX4_knownSo : ByteArray := prog_6_method_5_code
def yX4_knownSo : MethodName := ⟨RX4, "knownSo", "(I)I"⟩
abbrev cX4_knownNotSo : ByteArray := prog_6_method_6_code
def yX4_knownNotSo : MethodName := ⟨RX4, "knownNotSo", "(I)I"⟩
abbrev cX4_ofAll : ByteArray := prog_6_method_7_code
def yX4_ofAll : MethodName := ⟨RX4, "ofAll", "([II)I"⟩
def RX5 : String := "BallCourt"
def TX5 : u_T := fun k => match k with
  | 0 => ("BallCourt", "book", "LBallCourt$Book;", true)
  | 1 => ("BallCourt", "laws", "LBallCourt$Laws;", true)
  | 2 => ("BallCourt", "lawsIfMended", "LBallCourt$Laws;", true)
  | 3 => ("BallCourt", "played", "LBallCourt$Moments;", true)
  | 4 => ("BallCourt", "cases", "LBallCourt$Cases;", true)
  | 5 => ("BallCourt", "game", "LBallCourt$Game;", true)
  | 6 => ("BallCourt", "gameIfRuled", "LBallCourt$Game;", true)
  | _ => ("BallCourt", "hoopsToWin", "I", false)
def tyX5 : Nat → FieldType := fun k => match k with
  | 0 => .object "BallCourt$Book"
  | 1 => .object "BallCourt$Laws"
  | 2 => .object "BallCourt$Laws"
  | 3 => .object "BallCourt$Moments"
  | 4 => .object "BallCourt$Cases"
  | 5 => .object "BallCourt$Game"
  | 6 => .object "BallCourt$Game"
  | _ => .int
abbrev wsX50 : List Cond := u_ws RX5 TX5 8
theorem nmX5 : ∀ a, a < 8 → ∀ b, b < 8 → a ≠ b → (TX5 a).2.1 ≠ (TX5 b).2.1 := by decide +kernel
theorem tyX5_ok : ∀ k, k < 8 → parseFieldDescriptor (TX5 k).2.2.1 = some (tyX5 k) := by decide +kernel
abbrev cX5_init : ByteArray := prog_1_method_1_code
def yX5_init : MethodName := ⟨RX5, "<init>", "()V"⟩
abbrev cX5_beginAnew : ByteArray := prog_1_method_2_code
def yX5_beginAnew : MethodName := ⟨RX5, "beginAnew", "(I)V"⟩
abbrev cX5_facts : ByteArray := prog_1_method_3_code
def yX5_facts : MethodName := ⟨RX5, "facts", "(I)I"⟩
abbrev cX5_barred : ByteArray := prog_1_method_4_code
def yX5_barred : MethodName := ⟨RX5, "barred", "(IIZ)I"⟩
abbrev cX5_line : ByteArray := prog_1_method_5_code
def yX5_line : MethodName := ⟨RX5, "line", "(III)I"⟩
abbrev cX5_except : ByteArray := prog_1_method_6_code
def yX5_except : MethodName := ⟨RX5, "except", "(II)I"⟩
abbrev cX5_repeal : ByteArray := prog_1_method_7_code
def yX5_repeal : MethodName := ⟨RX5, "repeal", "(IZ)I"⟩
abbrev cX5_about : ByteArray := prog_1_method_8_code
def yX5_about : MethodName := ⟨RX5, "about", "(II)I"⟩
abbrev cX5_holds : ByteArray := prog_1_method_9_code
def yX5_holds : MethodName := ⟨RX5, "holds", "(II)I"⟩
abbrev cX5_law : ByteArray := prog_1_method_10_code
def yX5_law : MethodName := ⟨RX5, "law", "(II)I"⟩
abbrev cX5_open : ByteArray := prog_1_method_11_code
def yX5_open : MethodName := ⟨RX5, "open", "(I)I"⟩
abbrev cX5_idle : ByteArray := prog_1_method_12_code
def yX5_idle : MethodName := ⟨RX5, "idle", "(I)I"⟩
abbrev cX5_moment : ByteArray := prog_1_method_13_code
def yX5_moment : MethodName := ⟨RX5, "moment", "()I"⟩
abbrev cX5_tell : ByteArray := prog_1_method_14_code
def yX5_tell : MethodName := ⟨RX5, "tell", "(IIII)I"⟩
abbrev cX5_known : ByteArray := prog_1_method_15_code
def yX5_known : MethodName := ⟨RX5, "known", "(II)I"⟩
abbrev cX5_proof : ByteArray := prog_1_method_16_code
def yX5_proof : MethodName := ⟨RX5, "proof", "(II)I"⟩
abbrev cX5_binds : ByteArray := prog_1_method_17_code
def yX5_binds : MethodName := ⟨RX5, "binds", "(I)I"⟩
abbrev cX5_verdict : ByteArray := prog_1_method_18_code
def yX5_verdict : MethodName := ⟨RX5, "verdict", "(I)I"⟩
abbrev cX5_rule : ByteArray := prog_1_method_19_code
def yX5_rule : MethodName := ⟨RX5, "rule", "(II)I"⟩
abbrev cX5_make : ByteArray := prog_1_method_20_code
def yX5_make : MethodName := ⟨RX5, "make", "(I)I"⟩
abbrev cX5_ofCase : ByteArray := prog_1_method_21_code
def yX5_ofCase : MethodName := ⟨RX5, "ofCase", "(II)I"⟩
abbrev cX5_turned : ByteArray := prog_1_method_22_code
def yX5_turned : MethodName := ⟨RX5, "turned", "()I"⟩
abbrev cX5_mend : ByteArray := prog_1_method_23_code
def yX5_mend : MethodName := ⟨RX5, "mend", "(II)I"⟩
abbrev cX5_goal : ByteArray := prog_1_method_24_code
def yX5_goal : MethodName := ⟨RX5, "goal", "(I)I"⟩
abbrev cX5_score : ByteArray := prog_1_method_25_code
def yX5_score : MethodName := ⟨RX5, "score", "(II)I"⟩
abbrev cX5_appeal : ByteArray := prog_1_method_26_code
def yX5_appeal : MethodName := ⟨RX5, "appeal", "(II)I"⟩
abbrev cX5_told : ByteArray := prog_1_method_27_code
def yX5_told : MethodName := ⟨RX5, "told", "(I)I"⟩
abbrev cX5_oneIf : ByteArray := prog_1_method_28_code
def yX5_oneIf : MethodName := ⟨RX5, "oneIf", "(Z)I"⟩
abbrev cX5_hasBit : ByteArray := prog_1_method_29_code
def yX5_hasBit : MethodName := ⟨RX5, "hasBit", "(II)Z"⟩
abbrev cX5_isRuling : ByteArray := prog_1_method_30_code
def yX5_isRuling : MethodName := ⟨RX5, "isRuling", "(I)Z"⟩
abbrev cX5_verdictUnder : ByteArray := prog_1_method_31_code
def yX5_verdictUnder : MethodName := ⟨RX5, "verdictUnder", "(LBallCourt$Laws;I)I"⟩
abbrev cX5_coveredKinds : ByteArray := prog_1_method_32_code
def yX5_coveredKinds : MethodName := ⟨RX5, "coveredKinds", "()I"⟩
abbrev cX5_turnedKinds : ByteArray := prog_1_method_33_code
def yX5_turnedKinds : MethodName := ⟨RX5, "turnedKinds", "()I"⟩
abbrev cX5_casesOfTurnedKinds : ByteArray := prog_1_method_34_code
def yX5_casesOfTurnedKinds : MethodName := ⟨RX5, "casesOfTurnedKinds", "()I"⟩
abbrev cX5_turnedVerdicts : ByteArray := prog_1_method_35_code
def yX5_turnedVerdicts : MethodName := ⟨RX5, "turnedVerdicts", "()I"⟩
def RX6 : String := "BallCourtModel"
def TX6 : u_T := fun k => match k with
  | 0 => ("BallCourtModel", "facts", "I", false)
  | 1 => ("BallCourtModel", "bars", "[I", true)
  | 2 => ("BallCourtModel", "lines", "I", false)
  | 3 => ("BallCourtModel", "must", "[I", true)
  | 4 => ("BallCourtModel", "mustNot", "[I", true)
  | 5 => ("BallCourtModel", "ruling", "[I", true)
  | 6 => ("BallCourtModel", "isRepealed", "[Z", true)
  | 7 => ("BallCourtModel", "excepts", "[I", true)
  | 8 => ("BallCourtModel", "moments", "I", false)
  | 9 => ("BallCourtModel", "toldSo", "[I", true)
  | 10 => ("BallCourtModel", "toldNot", "[I", true)
  | 11 => ("BallCourtModel", "ruled", "[I", true)
  | 12 => ("BallCourtModel", "cases", "I", false)
  | 13 => ("BallCourtModel", "caseKind", "[I", true)
  | 14 => ("BallCourtModel", "caseRuling", "[I", true)
  | 15 => ("BallCourtModel", "caseNames", "[I", true)
  | 16 => ("BallCourtModel", "goal", "I", false)
  | 17 => ("BallCourtModel", "before", "[I", true)
  | 18 => ("BallCourtModel", "verdict", "[I", true)
  | 19 => ("BallCourtModel", "state", "[I", true)
  | _ => ("BallCourtModel", "course", "[I", true)
def tyX6 : Nat → FieldType := fun k => match k with
  | 0 => .int
  | 1 => .array .int
  | 2 => .int
  | 3 => .array .int
  | 4 => .array .int
  | 5 => .array .int
  | 6 => .array .boolean
  | 7 => .array .int
  | 8 => .int
  | 9 => .array .int
  | 10 => .array .int
  | 11 => .array .int
  | 12 => .int
  | 13 => .array .int
  | 14 => .array .int
  | 15 => .array .int
  | 16 => .int
  | 17 => .array .int
  | 18 => .array .int
  | 19 => .array .int
  | _ => .array .int
abbrev wsX60 : List Cond := u_ws RX6 TX6 21
theorem nmX6 : ∀ a, a < 21 → ∀ b, b < 21 → a ≠ b → (TX6 a).2.1 ≠ (TX6 b).2.1 := by decide +kernel
theorem tyX6_ok : ∀ k, k < 21 → parseFieldDescriptor (TX6 k).2.2.1 = some (tyX6 k) := by decide +kernel
abbrev cX6_init : ByteArray := prog_8_method_1_code
def yX6_init : MethodName := ⟨RX6, "<init>", "()V"⟩
abbrev cX6_in : ByteArray := prog_8_method_2_code
def yX6_in : MethodName := ⟨RX6, "in", "(III)Z"⟩
abbrev cX6_isFact : ByteArray := prog_8_method_3_code
def yX6_isFact : MethodName := ⟨RX6, "isFact", "(I)Z"⟩
abbrev cX6_allFacts : ByteArray := prog_8_method_4_code
def yX6_allFacts : MethodName := ⟨RX6, "allFacts", "()I"⟩
abbrev cX6_isLine : ByteArray := prog_8_method_5_code
def yX6_isLine : MethodName := ⟨RX6, "isLine", "(I)Z"⟩
abbrev cX6_isRuling : ByteArray := prog_8_method_6_code
def yX6_isRuling : MethodName := ⟨RX6, "isRuling", "(I)Z"⟩
abbrev cX6_facts : ByteArray := prog_8_method_7_code
def yX6_facts : MethodName := ⟨RX6, "facts", "(I)I"⟩
abbrev cX6_barred : ByteArray := prog_8_method_8_code
def yX6_barred : MethodName := ⟨RX6, "barred", "(IIZ)I"⟩
abbrev cX6_isKind : ByteArray := prog_8_method_9_code
def yX6_isKind : MethodName := ⟨RX6, "isKind", "(I)Z"⟩
abbrev cX6_line : ByteArray := prog_8_method_10_code
def yX6_line : MethodName := ⟨RX6, "line", "(III)I"⟩
abbrev cX6_bits : ByteArray := prog_8_method_11_code
def yX6_bits : MethodName := ⟨RX6, "bits", "(I)I"⟩
abbrev cX6_except : ByteArray := prog_8_method_12_code
def yX6_except : MethodName := ⟨RX6, "except", "(II)I"⟩
abbrev cX6_repeal : ByteArray := prog_8_method_13_code
def yX6_repeal : MethodName := ⟨RX6, "repeal", "(IZ)I"⟩
abbrev cX6_namedBy : ByteArray := prog_8_method_14_code
def yX6_namedBy : MethodName := ⟨RX6, "namedBy", "(I)I"⟩
abbrev cX6_about : ByteArray := prog_8_method_15_code
def yX6_about : MethodName := ⟨RX6, "about", "(II)I"⟩
abbrev cX6_holding : ByteArray := prog_8_method_16_code
def yX6_holding : MethodName := ⟨RX6, "holding", "(I)I"⟩
abbrev cX6_holds : ByteArray := prog_8_method_17_code
def yX6_holds : MethodName := ⟨RX6, "holds", "(II)I"⟩
abbrev cX6_lineFor : ByteArray := prog_8_method_18_code
def yX6_lineFor : MethodName := ⟨RX6, "lineFor", "(I)I"⟩
abbrev cX6_rulingFor : ByteArray := prog_8_method_19_code
def yX6_rulingFor : MethodName := ⟨RX6, "rulingFor", "(I)I"⟩
abbrev cX6_law : ByteArray := prog_8_method_20_code
def yX6_law : MethodName := ⟨RX6, "law", "(II)I"⟩
abbrev cX6_open : ByteArray := prog_8_method_21_code
def yX6_open : MethodName := ⟨RX6, "open", "(I)I"⟩
abbrev cX6_bound : ByteArray := prog_8_method_22_code
def yX6_bound : MethodName := ⟨RX6, "bound", "(I)I"⟩
abbrev cX6_turnedKinds : ByteArray := prog_8_method_23_code
def yX6_turnedKinds : MethodName := ⟨RX6, "turnedKinds", "(I)I"⟩
abbrev cX6_idle : ByteArray := prog_8_method_24_code
def yX6_idle : MethodName := ⟨RX6, "idle", "(I)I"⟩
abbrev cX6_isMoment : ByteArray := prog_8_method_25_code
def yX6_isMoment : MethodName := ⟨RX6, "isMoment", "(I)Z"⟩
abbrev cX6_moment : ByteArray := prog_8_method_26_code
def yX6_moment : MethodName := ⟨RX6, "moment", "()I"⟩
abbrev cX6_tell : ByteArray := prog_8_method_27_code
def yX6_tell : MethodName := ⟨RX6, "tell", "(IIII)I"⟩
abbrev cX6_so : ByteArray := prog_8_method_28_code
def yX6_so : MethodName := ⟨RX6, "so", "(I)I"⟩
abbrev cX6_notSo : ByteArray := prog_8_method_29_code
def yX6_notSo : MethodName := ⟨RX6, "notSo", "(I)I"⟩
abbrev cX6_doubt : ByteArray := prog_8_method_30_code
def yX6_doubt : MethodName := ⟨RX6, "doubt", "(I)I"⟩
abbrev cX6_mayBe : ByteArray := prog_8_method_31_code
def yX6_mayBe : MethodName := ⟨RX6, "mayBe", "(II)Z"⟩
abbrev cX6_mayBes : ByteArray := prog_8_method_32_code
def yX6_mayBes : MethodName := ⟨RX6, "mayBes", "(II)I"⟩
abbrev cX6_known : ByteArray := prog_8_method_33_code
def yX6_known : MethodName := ⟨RX6, "known", "(II)I"⟩
abbrev cX6_proof : ByteArray := prog_8_method_34_code
def yX6_proof : MethodName := ⟨RX6, "proof", "(II)I"⟩
abbrev cX6_bindingCase : ByteArray := prog_8_method_35_code
def yX6_bindingCase : MethodName := ⟨RX6, "bindingCase", "(I)I"⟩
abbrev cX6_binds : ByteArray := prog_8_method_36_code
def yX6_binds : MethodName := ⟨RX6, "binds", "(I)I"⟩
abbrev cX6_verdictOf : ByteArray := prog_8_method_37_code
def yX6_verdictOf : MethodName := ⟨RX6, "verdictOf", "(I)I"⟩
abbrev cX6_verdict : ByteArray := prog_8_method_38_code
def yX6_verdict : MethodName := ⟨RX6, "verdict", "(I)I"⟩
abbrev cX6_rule : ByteArray := prog_8_method_39_code
def yX6_rule : MethodName := ⟨RX6, "rule", "(II)I"⟩
abbrev cX6_make : ByteArray := prog_8_method_40_code
def yX6_make : MethodName := ⟨RX6, "make", "(I)I"⟩
abbrev cX6_ofCase : ByteArray := prog_8_method_41_code
def yX6_ofCase : MethodName := ⟨RX6, "ofCase", "(II)I"⟩
abbrev cX6_turned : ByteArray := prog_8_method_42_code
def yX6_turned : MethodName := ⟨RX6, "turned", "()I"⟩
abbrev cX6_mend : ByteArray := prog_8_method_43_code
def yX6_mend : MethodName := ⟨RX6, "mend", "(II)I"⟩
abbrev cX6_goal : ByteArray := prog_8_method_44_code
def yX6_goal : MethodName := ⟨RX6, "goal", "(I)I"⟩
abbrev cX6_begin : ByteArray := prog_8_method_45_code
def yX6_begin : MethodName := ⟨RX6, "begin", "()V"⟩
abbrev cX6_play : ByteArray := prog_8_method_46_code
def yX6_play : MethodName := ⟨RX6, "play", "(I)V"⟩
abbrev cX6_score : ByteArray := prog_8_method_47_code
def yX6_score : MethodName := ⟨RX6, "score", "(II)I"⟩
abbrev cX6_packed : ByteArray := prog_8_method_48_code
def yX6_packed : MethodName := ⟨RX6, "packed", "()I"⟩
abbrev cX6_appeal : ByteArray := prog_8_method_49_code
def yX6_appeal : MethodName := ⟨RX6, "appeal", "(II)I"⟩
abbrev cX6_kinds : ByteArray := prog_8_method_50_code
def yX6_kinds : MethodName := ⟨RX6, "kinds", "(Z)I"⟩
abbrev cX6_told : ByteArray := prog_8_method_51_code
def yX6_told : MethodName := ⟨RX6, "told", "(I)I"⟩
def RJ6 : String := "java/lang/Integer"
def TJ6 : u_T := fun k => match k with
  | _ => ("", "", "", false)
def tyJ6 : Nat → FieldType := fun k => match k with
  | _ => .int
abbrev wsJ60 : List Cond := u_ws RJ6 TJ6 0
theorem nmJ6 : ∀ a, a < 0 → ∀ b, b < 0 → a ≠ b → (TJ6 a).2.1 ≠ (TJ6 b).2.1 := by decide +kernel
theorem tyJ6_ok : ∀ k, k < 0 → parseFieldDescriptor (TJ6 k).2.2.1 = some (tyJ6 k) := by decide +kernel
abbrev cJ6_bitCount_0f7a4 : ByteArray := prog_9_method_49_code
def yJ6_bitCount_0f7a4 : MethodName := ⟨RJ6, "bitCount", "(I)I"⟩
def RL : String := "BallCourtLaw"
abbrev cL_law : ByteArray := code
def yL_law : MethodName := ⟨RL, "law", "([I)Z"⟩
def wsX0_init : List Cond := .code yX0_init cX0_init 1 none :: ([.methodLink RX0 3 objectInit, .instanceMethod objectInit, .code objectInit ⟨#[0xb1]⟩ 1 none, .arrayClass .boolean, .fieldLink RX0 9 "BallCourt$Book" "isKind" "[Z", .arrayClass .int, .fieldLink RX0 15 "BallCourt$Book" "barredWith" "[I", .fieldLink RX0 19 "BallCourt$Book" "must" "[I", .fieldLink RX0 22 "BallCourt$Book" "mustNot" "[I", .fieldLink RX0 25 "BallCourt$Book" "ruling" "[I", .fieldLink RX0 28 "BallCourt$Book" "excepters" "[I"] ++ wsX00)
def wsX5_hasBit : List Cond := .code yX5_hasBit cX5_hasBit 2 (some .boolean) :: ([])
def wsX0_hasBarredPair : List Cond := .code yX0_hasBarredPair cX0_hasBarredPair 3 (some .boolean) :: ([.fieldLink RX0 31 "BallCourt$Book" "facts" "I", .fieldLink RX0 15 "BallCourt$Book" "barredWith" "[I", .static yX5_hasBit, .initialized RX5, .code yX5_hasBit cX5_hasBit 2 (some .boolean)] ++ wsX00)
def wsX0_workKinds : List Cond := .code yX0_workKinds cX0_workKinds 2 none :: ([.fieldLink RX0 35 "BallCourt$Book" "numbers" "I", .fieldLink RX0 9 "BallCourt$Book" "isKind" "[Z", .methodLink RX0 54 yX0_hasBarredPair, .instanceMethod yX0_hasBarredPair, .selects RX0 yX0_hasBarredPair yX0_hasBarredPair, .initialized RX0, .code yX0_hasBarredPair cX0_hasBarredPair 3 (some .boolean), .fieldLink RX0 31 "BallCourt$Book" "facts" "I", .fieldLink RX0 15 "BallCourt$Book" "barredWith" "[I", .static yX5_hasBit, .initialized RX5, .code yX5_hasBit cX5_hasBit 2 (some .boolean)] ++ wsX00)
def wsX0_begin : List Cond := .code yX0_begin cX0_begin 3 none :: ([.fieldLink RX0 31 "BallCourt$Book" "facts" "I", .fieldLink RX0 35 "BallCourt$Book" "numbers" "I", .fieldLink RX0 38 "BallCourt$Book" "lines" "I", .fieldLink RX0 41 "BallCourt$Book" "repealed" "I", .fieldLink RX0 44 "BallCourt$Book" "excepting" "I", .fieldLink RX0 15 "BallCourt$Book" "barredWith" "[I", .methodLink RX0 47 yX0_workKinds, .instanceMethod yX0_workKinds, .selects RX0 yX0_workKinds yX0_workKinds, .initialized RX0, .code yX0_workKinds cX0_workKinds 2 none, .fieldLink RX0 9 "BallCourt$Book" "isKind" "[Z", .methodLink RX0 54 yX0_hasBarredPair, .instanceMethod yX0_hasBarredPair, .selects RX0 yX0_hasBarredPair yX0_hasBarredPair, .code yX0_hasBarredPair cX0_hasBarredPair 3 (some .boolean), .static yX5_hasBit, .initialized RX5, .code yX5_hasBit cX5_hasBit 2 (some .boolean)] ++ wsX00)
def wsX0_hasFact : List Cond := .code yX0_hasFact cX0_hasFact 2 (some .boolean) :: ([.fieldLink RX0 31 "BallCourt$Book" "facts" "I"] ++ wsX00)
def wsX0_areFacts : List Cond := .code yX0_areFacts cX0_areFacts 2 (some .boolean) :: ([.fieldLink RX0 35 "BallCourt$Book" "numbers" "I"] ++ wsX00)
def wsX0_allFacts : List Cond := .code yX0_allFacts cX0_allFacts 1 (some .int) :: ([.fieldLink RX0 35 "BallCourt$Book" "numbers" "I"] ++ wsX00)
def wsX0_hasKind : List Cond := .code yX0_hasKind cX0_hasKind 2 (some .boolean) :: ([.fieldLink RX0 35 "BallCourt$Book" "numbers" "I", .fieldLink RX0 9 "BallCourt$Book" "isKind" "[Z"] ++ wsX00)
def wsX0_hasLine : List Cond := .code yX0_hasLine cX0_hasLine 2 (some .boolean) :: ([.fieldLink RX0 38 "BallCourt$Book" "lines" "I"] ++ wsX00)
def wsX0_areBarred : List Cond := .code yX0_areBarred cX0_areBarred 3 (some .boolean) :: ([.fieldLink RX0 15 "BallCourt$Book" "barredWith" "[I", .static yX5_hasBit, .initialized RX5, .code yX5_hasBit cX5_hasBit 2 (some .boolean)] ++ wsX00)
def wsX0_bar : List Cond := .code yX0_bar cX0_bar 4 none :: ([.fieldLink RX0 15 "BallCourt$Book" "barredWith" "[I", .methodLink RX0 47 yX0_workKinds, .instanceMethod yX0_workKinds, .selects RX0 yX0_workKinds yX0_workKinds, .initialized RX0, .code yX0_workKinds cX0_workKinds 2 none, .fieldLink RX0 35 "BallCourt$Book" "numbers" "I", .fieldLink RX0 9 "BallCourt$Book" "isKind" "[Z", .methodLink RX0 54 yX0_hasBarredPair, .instanceMethod yX0_hasBarredPair, .selects RX0 yX0_hasBarredPair yX0_hasBarredPair, .code yX0_hasBarredPair cX0_hasBarredPair 3 (some .boolean), .fieldLink RX0 31 "BallCourt$Book" "facts" "I", .static yX5_hasBit, .initialized RX5, .code yX5_hasBit cX5_hasBit 2 (some .boolean)] ++ wsX00)
def wsX0_mayBe : List Cond := .code yX0_mayBe cX0_mayBe 4 (some .boolean) :: ([.fieldLink RX0 9 "BallCourt$Book" "isKind" "[Z"] ++ wsX00)
def wsX0_countMayBe : List Cond := .code yX0_countMayBe cX0_countMayBe 5 (some .int) :: ([.fieldLink RX0 35 "BallCourt$Book" "numbers" "I", .methodLink RX0 58 yX0_mayBe, .instanceMethod yX0_mayBe, .selects RX0 yX0_mayBe yX0_mayBe, .initialized RX0, .code yX0_mayBe cX0_mayBe 4 (some .boolean), .fieldLink RX0 9 "BallCourt$Book" "isKind" "[Z"] ++ wsX00)
def wsX0_addLine : List Cond := .code yX0_addLine cX0_addLine 5 (some .int) :: ([.fieldLink RX0 38 "BallCourt$Book" "lines" "I", .fieldLink RX0 19 "BallCourt$Book" "must" "[I", .fieldLink RX0 22 "BallCourt$Book" "mustNot" "[I", .fieldLink RX0 25 "BallCourt$Book" "ruling" "[I", .fieldLink RX0 28 "BallCourt$Book" "excepters" "[I"] ++ wsX00)
def wsX0_excepts : List Cond := .code yX0_excepts cX0_excepts 3 (some .boolean) :: ([.fieldLink RX0 28 "BallCourt$Book" "excepters" "[I", .static yX5_hasBit, .initialized RX5, .code yX5_hasBit cX5_hasBit 2 (some .boolean)] ++ wsX00)
def wsX0_addException : List Cond := .code yX0_addException cX0_addException 3 none :: ([.fieldLink RX0 28 "BallCourt$Book" "excepters" "[I", .fieldLink RX0 44 "BallCourt$Book" "excepting" "I"] ++ wsX00)
def wsX0_isRepealed : List Cond := .code yX0_isRepealed cX0_isRepealed 2 (some .boolean) :: ([.fieldLink RX0 41 "BallCourt$Book" "repealed" "I", .static yX5_hasBit, .initialized RX5, .code yX5_hasBit cX5_hasBit 2 (some .boolean)] ++ wsX00)
def wsX0_repealedIfMended : List Cond := .code yX0_repealedIfMended cX0_repealedIfMended 2 (some .int) :: ([.fieldLink RX0 41 "BallCourt$Book" "repealed" "I"] ++ wsX00)
def wsX0_holding : List Cond := .code yX0_holding cX0_holding 6 (some .int) :: ([.fieldLink RX0 38 "BallCourt$Book" "lines" "I", .fieldLink RX0 19 "BallCourt$Book" "must" "[I", .fieldLink RX0 22 "BallCourt$Book" "mustNot" "[I", .fieldLink RX0 28 "BallCourt$Book" "excepters" "[I", .static yX5_hasBit, .initialized RX5, .code yX5_hasBit cX5_hasBit 2 (some .boolean)] ++ wsX00)
def wsX0_lawLine : List Cond := .code yX0_lawLine cX0_lawLine 5 (some .int) :: ([.fieldLink RX0 44 "BallCourt$Book" "excepting" "I", .fieldLink RX0 38 "BallCourt$Book" "lines" "I", .methodLink RX0 62 yX0_holding, .instanceMethod yX0_holding, .selects RX0 yX0_holding yX0_holding, .initialized RX0, .code yX0_holding cX0_holding 6 (some .int), .fieldLink RX0 19 "BallCourt$Book" "must" "[I", .fieldLink RX0 22 "BallCourt$Book" "mustNot" "[I", .fieldLink RX0 28 "BallCourt$Book" "excepters" "[I", .static yX5_hasBit, .initialized RX5, .code yX5_hasBit cX5_hasBit 2 (some .boolean)] ++ wsX00)
def wsX0_namedBy : List Cond := .code yX0_namedBy cX0_namedBy 5 (some .int) :: ([.fieldLink RX0 38 "BallCourt$Book" "lines" "I", .fieldLink RX0 19 "BallCourt$Book" "must" "[I", .fieldLink RX0 22 "BallCourt$Book" "mustNot" "[I", .fieldLink RX0 28 "BallCourt$Book" "excepters" "[I", .fieldLink RX0 41 "BallCourt$Book" "repealed" "I", .static yX5_hasBit, .initialized RX5, .code yX5_hasBit cX5_hasBit 2 (some .boolean)] ++ wsX00)
def wsX1_init : List Cond := .code yX1_init cX1_init 1 none :: ([.methodLink RX1 3 objectInit, .instanceMethod objectInit, .code objectInit ⟨#[0xb1]⟩ 1 none, .arrayClass .int, .fieldLink RX1 9 "BallCourt$Cases" "kind" "[I", .fieldLink RX1 15 "BallCourt$Cases" "ruling" "[I", .fieldLink RX1 18 "BallCourt$Cases" "names" "[I"] ++ wsX10)
def wsX1_has : List Cond := .code yX1_has cX1_has 2 (some .boolean) :: ([.fieldLink RX1 21 "BallCourt$Cases" "count" "I"] ++ wsX10)
def wsX1_add : List Cond := .code yX1_add cX1_add 5 (some .int) :: ([.fieldLink RX1 21 "BallCourt$Cases" "count" "I", .fieldLink RX1 9 "BallCourt$Cases" "kind" "[I", .fieldLink RX1 15 "BallCourt$Cases" "ruling" "[I", .fieldLink RX1 18 "BallCourt$Cases" "names" "[I"] ++ wsX10)
def wsX1_firstThatBinds : List Cond := .code yX1_firstThatBinds cX1_firstThatBinds 6 (some .int) :: ([.fieldLink RX1 21 "BallCourt$Cases" "count" "I", .fieldLink RX1 18 "BallCourt$Cases" "names" "[I", .fieldLink RX1 9 "BallCourt$Cases" "kind" "[I"] ++ wsX10)
def wsX2_init : List Cond := .code yX2_init cX2_init 1 none :: ([.methodLink RX2 3 objectInit, .instanceMethod objectInit, .code objectInit ⟨#[0xb1]⟩ 1 none])
def wsX2_begin : List Cond := .code yX2_begin cX2_begin 2 none :: ([.fieldLink RX2 9 "BallCourt$Game" "toWin" "I", .fieldLink RX2 15 "BallCourt$Game" "hoopsOf0" "I", .fieldLink RX2 18 "BallCourt$Game" "hoopsOf1" "I", .fieldLink RX2 21 "BallCourt$Game" "striker" "I"] ++ wsX20)
def wsX2_winner : List Cond := .code yX2_winner cX2_winner 1 (some .int) :: ([.fieldLink RX2 15 "BallCourt$Game" "hoopsOf0" "I", .fieldLink RX2 9 "BallCourt$Game" "toWin" "I", .fieldLink RX2 18 "BallCourt$Game" "hoopsOf1" "I"] ++ wsX20)
def wsX2_giveHoop : List Cond := .code yX2_giveHoop cX2_giveHoop 2 none :: ([.fieldLink RX2 15 "BallCourt$Game" "hoopsOf0" "I", .fieldLink RX2 18 "BallCourt$Game" "hoopsOf1" "I"] ++ wsX20)
def wsX2_play : List Cond := .code yX2_play cX2_play 2 none :: ([.fieldLink RX2 21 "BallCourt$Game" "striker" "I", .methodLink RX2 24 yX2_winner, .instanceMethod yX2_winner, .selects RX2 yX2_winner yX2_winner, .initialized RX2, .code yX2_winner cX2_winner 1 (some .int), .fieldLink RX2 15 "BallCourt$Game" "hoopsOf0" "I", .fieldLink RX2 9 "BallCourt$Game" "toWin" "I", .fieldLink RX2 18 "BallCourt$Game" "hoopsOf1" "I", .methodLink RX2 28 yX2_giveHoop, .instanceMethod yX2_giveHoop, .selects RX2 yX2_giveHoop yX2_giveHoop, .code yX2_giveHoop cX2_giveHoop 2 none] ++ wsX20)
def wsX2_standsAs : List Cond := .code yX2_standsAs cX2_standsAs 2 (some .boolean) :: ([.fieldLink RX2 15 "BallCourt$Game" "hoopsOf0" "I", .fieldLink RX2 18 "BallCourt$Game" "hoopsOf1" "I", .fieldLink RX2 21 "BallCourt$Game" "striker" "I", .methodLink RX2 24 yX2_winner, .instanceMethod yX2_winner, .selects RX2 yX2_winner yX2_winner, .initialized RX2, .code yX2_winner cX2_winner 1 (some .int), .fieldLink RX2 9 "BallCourt$Game" "toWin" "I"] ++ wsX20)
def wsX3_init : List Cond := .code yX3_init cX3_init 2 none :: ([.methodLink RX3 3 objectInit, .instanceMethod objectInit, .code objectInit ⟨#[0xb1]⟩ 1 none, .arrayClass .int, .fieldLink RX3 9 "BallCourt$Laws" "lineOf" "[I", .fieldLink RX3 15 "BallCourt$Laws" "book" "LBallCourt$Book;"] ++ wsX30)
def wsX3_work : List Cond := .code yX3_work cX3_work 3 none :: ([.fieldLink RX3 15 "BallCourt$Laws" "book" "LBallCourt$Book;", .fieldLink RX3 9 "BallCourt$Laws" "lineOf" "[I", .methodLink RX3 25 yX0_lawLine, .instanceMethod yX0_lawLine, .selects RX0 yX0_lawLine yX0_lawLine, .initialized RX0, .code yX0_lawLine cX0_lawLine 5 (some .int), .fieldLink RX0 44 "BallCourt$Book" "excepting" "I", .fieldLink RX0 38 "BallCourt$Book" "lines" "I", .methodLink RX0 62 yX0_holding, .instanceMethod yX0_holding, .selects RX0 yX0_holding yX0_holding, .code yX0_holding cX0_holding 6 (some .int), .fieldLink RX0 19 "BallCourt$Book" "must" "[I", .fieldLink RX0 22 "BallCourt$Book" "mustNot" "[I", .fieldLink RX0 28 "BallCourt$Book" "excepters" "[I", .static yX5_hasBit, .initialized RX5, .code yX5_hasBit cX5_hasBit 2 (some .boolean)] ++ wsX30 ++ wsX00)
def wsX3_covers : List Cond := .code yX3_covers cX3_covers 2 (some .boolean) :: ([.fieldLink RX3 9 "BallCourt$Laws" "lineOf" "[I"] ++ wsX30)
def wsX3_rulingFor : List Cond := .code yX3_rulingFor cX3_rulingFor 2 (some .int) :: ([.fieldLink RX3 15 "BallCourt$Laws" "book" "LBallCourt$Book;", .fieldLink RX3 9 "BallCourt$Laws" "lineOf" "[I", .methodLink RX3 29 yX3_covers, .instanceMethod yX3_covers, .selects RX3 yX3_covers yX3_covers, .initialized RX3, .code yX3_covers cX3_covers 2 (some .boolean)] ++ wsX30 ++ wsX00)
def wsX3_differFor : List Cond := .code yX3_differFor cX3_differFor 3 (some .boolean) :: ([.methodLink RX3 36 yX3_rulingFor, .instanceMethod yX3_rulingFor, .selects RX3 yX3_rulingFor yX3_rulingFor, .initialized RX3, .code yX3_rulingFor cX3_rulingFor 2 (some .int), .fieldLink RX3 15 "BallCourt$Laws" "book" "LBallCourt$Book;", .fieldLink RX3 9 "BallCourt$Laws" "lineOf" "[I", .methodLink RX3 29 yX3_covers, .instanceMethod yX3_covers, .selects RX3 yX3_covers yX3_covers, .code yX3_covers cX3_covers 2 (some .boolean)] ++ wsX30 ++ wsX00)
def wsX3_countMayBeRuled : List Cond := .code yX3_countMayBeRuled cX3_countMayBeRuled 6 (some .int) :: ([.fieldLink RX3 15 "BallCourt$Laws" "book" "LBallCourt$Book;", .methodLink RX3 40 yX0_mayBe, .instanceMethod yX0_mayBe, .selects RX0 yX0_mayBe yX0_mayBe, .initialized RX0, .code yX0_mayBe cX0_mayBe 4 (some .boolean), .fieldLink RX0 9 "BallCourt$Book" "isKind" "[Z", .methodLink RX3 36 yX3_rulingFor, .instanceMethod yX3_rulingFor, .selects RX3 yX3_rulingFor yX3_rulingFor, .initialized RX3, .code yX3_rulingFor cX3_rulingFor 2 (some .int), .fieldLink RX3 9 "BallCourt$Laws" "lineOf" "[I", .methodLink RX3 29 yX3_covers, .instanceMethod yX3_covers, .selects RX3 yX3_covers yX3_covers, .code yX3_covers cX3_covers 2 (some .boolean)] ++ wsX30 ++ wsX00)
def wsX3_rulingForAll : List Cond := .code yX3_rulingForAll cX3_rulingForAll 6 (some .int) :: ([.fieldLink RX3 15 "BallCourt$Laws" "book" "LBallCourt$Book;", .methodLink RX3 40 yX0_mayBe, .instanceMethod yX0_mayBe, .selects RX0 yX0_mayBe yX0_mayBe, .initialized RX0, .code yX0_mayBe cX0_mayBe 4 (some .boolean), .fieldLink RX0 9 "BallCourt$Book" "isKind" "[Z", .methodLink RX3 36 yX3_rulingFor, .instanceMethod yX3_rulingFor, .selects RX3 yX3_rulingFor yX3_rulingFor, .initialized RX3, .code yX3_rulingFor cX3_rulingFor 2 (some .int), .fieldLink RX3 9 "BallCourt$Laws" "lineOf" "[I", .methodLink RX3 29 yX3_covers, .instanceMethod yX3_covers, .selects RX3 yX3_covers yX3_covers, .code yX3_covers cX3_covers 2 (some .boolean)] ++ wsX30 ++ wsX00)
def wsX4_init : List Cond := .code yX4_init cX4_init 1 none :: ([.methodLink RX4 3 objectInit, .instanceMethod objectInit, .code objectInit ⟨#[0xb1]⟩ 1 none, .arrayClass .int, .fieldLink RX4 9 "BallCourt$Moments" "toldSo" "[I", .fieldLink RX4 15 "BallCourt$Moments" "toldNotSo" "[I", .fieldLink RX4 18 "BallCourt$Moments" "ruled" "[I"] ++ wsX40)
def wsX4_has : List Cond := .code yX4_has cX4_has 2 (some .boolean) :: ([.fieldLink RX4 21 "BallCourt$Moments" "count" "I"] ++ wsX40)
def wsX4_add : List Cond := .code yX4_add cX4_add 3 (some .int) :: ([.fieldLink RX4 21 "BallCourt$Moments" "count" "I", .fieldLink RX4 9 "BallCourt$Moments" "toldSo" "[I", .fieldLink RX4 15 "BallCourt$Moments" "toldNotSo" "[I", .fieldLink RX4 18 "BallCourt$Moments" "ruled" "[I"] ++ wsX40)
def wsX4_hear : List Cond := .code yX4_hear cX4_hear 7 (some .int) :: ([.fieldLink RX4 9 "BallCourt$Moments" "toldSo" "[I", .fieldLink RX4 15 "BallCourt$Moments" "toldNotSo" "[I", .static yX5_hasBit, .initialized RX5, .code yX5_hasBit cX5_hasBit 2 (some .boolean)] ++ wsX40)
def wsX4_ofAll : List Cond := .code yX4_ofAll cX4_ofAll 4 (some .int) :: ([])
def wsX4_knownSo : List Cond := .code yX4_knownSo cX4_knownSo 2 (some .int) :: ([.fieldLink RX4 9 "BallCourt$Moments" "toldSo" "[I", .fieldLink RX4 15 "BallCourt$Moments" "toldNotSo" "[I", .methodLink RX4 29 yX4_ofAll, .static yX4_ofAll, .initialized RX4, .code yX4_ofAll cX4_ofAll 4 (some .int)] ++ wsX40)
def wsX4_knownNotSo : List Cond := .code yX4_knownNotSo cX4_knownNotSo 2 (some .int) :: ([.fieldLink RX4 15 "BallCourt$Moments" "toldNotSo" "[I", .fieldLink RX4 9 "BallCourt$Moments" "toldSo" "[I", .methodLink RX4 29 yX4_ofAll, .static yX4_ofAll, .initialized RX4, .code yX4_ofAll cX4_ofAll 4 (some .int)] ++ wsX40)
def wsX5_beginAnew_r1 : List Cond := [Cond.fieldLink RX5 10 "BallCourt" "book" "LBallCourt$Book;", Cond.fieldLink RX5 31 "BallCourt" "played" "LBallCourt$Moments;", Cond.fieldLink RX5 38 "BallCourt" "cases" "LBallCourt$Cases;", Cond.fieldLink RX5 21 "BallCourt" "laws" "LBallCourt$Laws;", Cond.methodLink RX5 60 yX0_begin, Cond.instanceMethod yX0_begin, Cond.selects RX0 yX0_begin yX0_begin, Cond.initialized RX0, Cond.code yX0_begin cX0_begin 3 none, Cond.fieldLink RX0 31 "BallCourt$Book" "facts" "I", Cond.fieldLink RX0 35 "BallCourt$Book" "numbers" "I", Cond.fieldLink RX0 38 "BallCourt$Book" "lines" "I", Cond.fieldLink RX0 41 "BallCourt$Book" "repealed" "I", Cond.fieldLink RX0 44 "BallCourt$Book" "excepting" "I", Cond.fieldLink RX0 15 "BallCourt$Book" "barredWith" "[I", Cond.methodLink RX0 47 yX0_workKinds, Cond.instanceMethod yX0_workKinds, Cond.selects RX0 yX0_workKinds yX0_workKinds, Cond.code yX0_workKinds cX0_workKinds 2 none, Cond.fieldLink RX0 9 "BallCourt$Book" "isKind" "[Z", Cond.methodLink RX0 54 yX0_hasBarredPair, Cond.instanceMethod yX0_hasBarredPair, Cond.selects RX0 yX0_hasBarredPair yX0_hasBarredPair, Cond.code yX0_hasBarredPair cX0_hasBarredPair 3 (some .boolean)]
def wsX5_beginAnew_r2 : List Cond := [Cond.static yX5_hasBit, Cond.initialized RX5, Cond.code yX5_hasBit cX5_hasBit 2 (some .boolean), Cond.methodLink RX5 70 yX3_work, Cond.instanceMethod yX3_work, Cond.selects RX3 yX3_work yX3_work, Cond.initialized RX3, Cond.code yX3_work cX3_work 3 none, Cond.fieldLink RX3 15 "BallCourt$Laws" "book" "LBallCourt$Book;", Cond.fieldLink RX3 9 "BallCourt$Laws" "lineOf" "[I", Cond.methodLink RX3 25 yX0_lawLine, Cond.instanceMethod yX0_lawLine, Cond.selects RX0 yX0_lawLine yX0_lawLine, Cond.code yX0_lawLine cX0_lawLine 5 (some .int), Cond.methodLink RX0 62 yX0_holding, Cond.instanceMethod yX0_holding, Cond.selects RX0 yX0_holding yX0_holding, Cond.code yX0_holding cX0_holding 6 (some .int), Cond.fieldLink RX0 19 "BallCourt$Book" "must" "[I", Cond.fieldLink RX0 22 "BallCourt$Book" "mustNot" "[I", Cond.fieldLink RX0 28 "BallCourt$Book" "excepters" "[I"]
def wsX5_beginAnew : List Cond := .code yX5_beginAnew cX5_beginAnew 2 none :: ((wsX5_beginAnew_r1 ++ wsX5_beginAnew_r2) ++ wsX50 ++ wsX40 ++ wsX10 ++ wsX00 ++ wsX30)
def wsX5_init_r1 : List Cond := [Cond.methodLink RX5 1 objectInit, Cond.instanceMethod objectInit, Cond.code objectInit ⟨#[0xb1]⟩ 1 none, Cond.classLink RX5 7 RX0, Cond.instantiable RX0 11, Cond.initialized RX0, Cond.fieldLink RX5 10 "BallCourt" "book" "LBallCourt$Book;", Cond.classLink RX5 16 RX3, Cond.instantiable RX3 2, Cond.initialized RX3, Cond.fieldLink RX5 21 "BallCourt" "laws" "LBallCourt$Laws;", Cond.fieldLink RX5 25 "BallCourt" "lawsIfMended" "LBallCourt$Laws;", Cond.classLink RX5 28 RX4, Cond.instantiable RX4 4, Cond.initialized RX4, Cond.fieldLink RX5 31 "BallCourt" "played" "LBallCourt$Moments;", Cond.classLink RX5 35 RX1, Cond.instantiable RX1 4, Cond.initialized RX1, Cond.fieldLink RX5 38 "BallCourt" "cases" "LBallCourt$Cases;", Cond.classLink RX5 42 RX2, Cond.instantiable RX2 4, Cond.initialized RX2, Cond.fieldLink RX5 45 "BallCourt" "game" "LBallCourt$Game;"]
def wsX5_init_r2 : List Cond := [Cond.fieldLink RX5 49 "BallCourt" "gameIfRuled" "LBallCourt$Game;", Cond.fieldLink RX5 52 "BallCourt" "hoopsToWin" "I", Cond.instanceMethod yX0_init, Cond.code yX0_init cX0_init 1 none, Cond.methodLink RX0 3 objectInit, Cond.arrayClass .boolean, Cond.fieldLink RX0 9 "BallCourt$Book" "isKind" "[Z", Cond.arrayClass .int, Cond.fieldLink RX0 15 "BallCourt$Book" "barredWith" "[I", Cond.fieldLink RX0 19 "BallCourt$Book" "must" "[I", Cond.fieldLink RX0 22 "BallCourt$Book" "mustNot" "[I", Cond.fieldLink RX0 25 "BallCourt$Book" "ruling" "[I", Cond.fieldLink RX0 28 "BallCourt$Book" "excepters" "[I", Cond.methodLink RX5 18 yX3_init, Cond.instanceMethod yX3_init, Cond.code yX3_init cX3_init 2 none, Cond.methodLink RX3 3 objectInit, Cond.fieldLink RX3 9 "BallCourt$Laws" "lineOf" "[I", Cond.fieldLink RX3 15 "BallCourt$Laws" "book" "LBallCourt$Book;", Cond.instanceMethod yX4_init, Cond.code yX4_init cX4_init 1 none, Cond.methodLink RX4 3 objectInit, Cond.fieldLink RX4 9 "BallCourt$Moments" "toldSo" "[I", Cond.fieldLink RX4 15 "BallCourt$Moments" "toldNotSo" "[I"]
def wsX5_init_r3 : List Cond := [Cond.fieldLink RX4 18 "BallCourt$Moments" "ruled" "[I", Cond.instanceMethod yX1_init, Cond.code yX1_init cX1_init 1 none, Cond.methodLink RX1 3 objectInit, Cond.fieldLink RX1 9 "BallCourt$Cases" "kind" "[I", Cond.fieldLink RX1 15 "BallCourt$Cases" "ruling" "[I", Cond.fieldLink RX1 18 "BallCourt$Cases" "names" "[I", Cond.instanceMethod yX2_init, Cond.code yX2_init cX2_init 1 none, Cond.methodLink RX2 3 objectInit, Cond.methodLink RX5 56 yX5_beginAnew, Cond.instanceMethod yX5_beginAnew, Cond.selects RX5 yX5_beginAnew yX5_beginAnew, Cond.initialized RX5, Cond.code yX5_beginAnew cX5_beginAnew 2 none, Cond.methodLink RX5 60 yX0_begin, Cond.instanceMethod yX0_begin, Cond.selects RX0 yX0_begin yX0_begin, Cond.code yX0_begin cX0_begin 3 none, Cond.fieldLink RX0 31 "BallCourt$Book" "facts" "I", Cond.fieldLink RX0 35 "BallCourt$Book" "numbers" "I", Cond.fieldLink RX0 38 "BallCourt$Book" "lines" "I", Cond.fieldLink RX0 41 "BallCourt$Book" "repealed" "I", Cond.fieldLink RX0 44 "BallCourt$Book" "excepting" "I"]
def wsX5_init_r4 : List Cond := [Cond.methodLink RX0 47 yX0_workKinds, Cond.instanceMethod yX0_workKinds, Cond.selects RX0 yX0_workKinds yX0_workKinds, Cond.code yX0_workKinds cX0_workKinds 2 none, Cond.methodLink RX0 54 yX0_hasBarredPair, Cond.instanceMethod yX0_hasBarredPair, Cond.selects RX0 yX0_hasBarredPair yX0_hasBarredPair, Cond.code yX0_hasBarredPair cX0_hasBarredPair 3 (some .boolean), Cond.static yX5_hasBit, Cond.code yX5_hasBit cX5_hasBit 2 (some .boolean), Cond.methodLink RX5 70 yX3_work, Cond.instanceMethod yX3_work, Cond.selects RX3 yX3_work yX3_work, Cond.code yX3_work cX3_work 3 none, Cond.methodLink RX3 25 yX0_lawLine, Cond.instanceMethod yX0_lawLine, Cond.selects RX0 yX0_lawLine yX0_lawLine, Cond.code yX0_lawLine cX0_lawLine 5 (some .int), Cond.methodLink RX0 62 yX0_holding, Cond.instanceMethod yX0_holding, Cond.selects RX0 yX0_holding yX0_holding, Cond.code yX0_holding cX0_holding 6 (some .int)]
def wsX5_init : List Cond := .code yX5_init cX5_init 1 none :: ((wsX5_init_r1 ++ (wsX5_init_r2 ++ (wsX5_init_r3 ++ wsX5_init_r4))) ++ wsX00 ++ wsX50 ++ wsX30 ++ wsX40 ++ wsX10 ++ wsX20)
def wsX5_facts_r1 : List Cond := [Cond.fieldLink RX5 10 "BallCourt" "book" "LBallCourt$Book;", Cond.methodLink RX5 56 yX5_beginAnew, Cond.instanceMethod yX5_beginAnew, Cond.selects RX5 yX5_beginAnew yX5_beginAnew, Cond.initialized RX5, Cond.code yX5_beginAnew cX5_beginAnew 2 none, Cond.fieldLink RX5 31 "BallCourt" "played" "LBallCourt$Moments;", Cond.fieldLink RX5 38 "BallCourt" "cases" "LBallCourt$Cases;", Cond.fieldLink RX5 21 "BallCourt" "laws" "LBallCourt$Laws;", Cond.methodLink RX5 60 yX0_begin, Cond.instanceMethod yX0_begin, Cond.selects RX0 yX0_begin yX0_begin, Cond.initialized RX0, Cond.code yX0_begin cX0_begin 3 none, Cond.fieldLink RX0 31 "BallCourt$Book" "facts" "I", Cond.fieldLink RX0 35 "BallCourt$Book" "numbers" "I", Cond.fieldLink RX0 38 "BallCourt$Book" "lines" "I", Cond.fieldLink RX0 41 "BallCourt$Book" "repealed" "I", Cond.fieldLink RX0 44 "BallCourt$Book" "excepting" "I", Cond.fieldLink RX0 15 "BallCourt$Book" "barredWith" "[I", Cond.methodLink RX0 47 yX0_workKinds, Cond.instanceMethod yX0_workKinds, Cond.selects RX0 yX0_workKinds yX0_workKinds, Cond.code yX0_workKinds cX0_workKinds 2 none]
def wsX5_facts_r2 : List Cond := [Cond.fieldLink RX0 9 "BallCourt$Book" "isKind" "[Z", Cond.methodLink RX0 54 yX0_hasBarredPair, Cond.instanceMethod yX0_hasBarredPair, Cond.selects RX0 yX0_hasBarredPair yX0_hasBarredPair, Cond.code yX0_hasBarredPair cX0_hasBarredPair 3 (some .boolean), Cond.static yX5_hasBit, Cond.code yX5_hasBit cX5_hasBit 2 (some .boolean), Cond.methodLink RX5 70 yX3_work, Cond.instanceMethod yX3_work, Cond.selects RX3 yX3_work yX3_work, Cond.initialized RX3, Cond.code yX3_work cX3_work 3 none, Cond.fieldLink RX3 15 "BallCourt$Laws" "book" "LBallCourt$Book;", Cond.fieldLink RX3 9 "BallCourt$Laws" "lineOf" "[I", Cond.methodLink RX3 25 yX0_lawLine, Cond.instanceMethod yX0_lawLine, Cond.selects RX0 yX0_lawLine yX0_lawLine, Cond.code yX0_lawLine cX0_lawLine 5 (some .int), Cond.methodLink RX0 62 yX0_holding, Cond.instanceMethod yX0_holding, Cond.selects RX0 yX0_holding yX0_holding, Cond.code yX0_holding cX0_holding 6 (some .int), Cond.fieldLink RX0 19 "BallCourt$Book" "must" "[I", Cond.fieldLink RX0 22 "BallCourt$Book" "mustNot" "[I"]
def wsX5_facts_r3 : List Cond := [Cond.fieldLink RX0 28 "BallCourt$Book" "excepters" "[I"]
def wsX5_facts : List Cond := .code yX5_facts cX5_facts 3 (some .int) :: ((wsX5_facts_r1 ++ (wsX5_facts_r2 ++ wsX5_facts_r3)) ++ wsX50 ++ wsX00 ++ wsX40 ++ wsX10 ++ wsX30)
def wsX5_oneIf : List Cond := .code yX5_oneIf cX5_oneIf 1 (some .int) :: ([])
def wsX5_barred_r1 : List Cond := [Cond.fieldLink RX5 10 "BallCourt" "book" "LBallCourt$Book;", Cond.methodLink RX5 76 yX0_hasFact, Cond.instanceMethod yX0_hasFact, Cond.selects RX0 yX0_hasFact yX0_hasFact, Cond.initialized RX0, Cond.code yX0_hasFact cX0_hasFact 2 (some .boolean), Cond.fieldLink RX0 31 "BallCourt$Book" "facts" "I", Cond.methodLink RX5 80 yX0_areBarred, Cond.instanceMethod yX0_areBarred, Cond.selects RX0 yX0_areBarred yX0_areBarred, Cond.code yX0_areBarred cX0_areBarred 3 (some .boolean), Cond.fieldLink RX0 15 "BallCourt$Book" "barredWith" "[I", Cond.static yX5_hasBit, Cond.initialized RX5, Cond.code yX5_hasBit cX5_hasBit 2 (some .boolean), Cond.methodLink RX5 84 yX0_bar, Cond.instanceMethod yX0_bar, Cond.selects RX0 yX0_bar yX0_bar, Cond.code yX0_bar cX0_bar 4 none, Cond.methodLink RX0 47 yX0_workKinds, Cond.instanceMethod yX0_workKinds, Cond.selects RX0 yX0_workKinds yX0_workKinds, Cond.code yX0_workKinds cX0_workKinds 2 none, Cond.fieldLink RX0 35 "BallCourt$Book" "numbers" "I"]
def wsX5_barred_r2 : List Cond := [Cond.fieldLink RX0 9 "BallCourt$Book" "isKind" "[Z", Cond.methodLink RX0 54 yX0_hasBarredPair, Cond.instanceMethod yX0_hasBarredPair, Cond.selects RX0 yX0_hasBarredPair yX0_hasBarredPair, Cond.code yX0_hasBarredPair cX0_hasBarredPair 3 (some .boolean), Cond.methodLink RX5 88 yX5_oneIf, Cond.static yX5_oneIf, Cond.code yX5_oneIf cX5_oneIf 1 (some .int)]
def wsX5_barred : List Cond := .code yX5_barred cX5_barred 5 (some .int) :: ((wsX5_barred_r1 ++ wsX5_barred_r2) ++ wsX50 ++ wsX00)
def wsX5_isRuling : List Cond := .code yX5_isRuling cX5_isRuling 1 (some .boolean) :: ([])
def wsX5_line_r1 : List Cond := [Cond.fieldLink RX5 10 "BallCourt" "book" "LBallCourt$Book;", Cond.fieldLink RX5 21 "BallCourt" "laws" "LBallCourt$Laws;", Cond.methodLink RX5 92 yX0_areFacts, Cond.instanceMethod yX0_areFacts, Cond.selects RX0 yX0_areFacts yX0_areFacts, Cond.initialized RX0, Cond.code yX0_areFacts cX0_areFacts 2 (some .boolean), Cond.fieldLink RX0 35 "BallCourt$Book" "numbers" "I", Cond.methodLink RX5 95 yX5_isRuling, Cond.static yX5_isRuling, Cond.initialized RX5, Cond.code yX5_isRuling cX5_isRuling 1 (some .boolean), Cond.methodLink RX5 101 yX0_addLine, Cond.instanceMethod yX0_addLine, Cond.selects RX0 yX0_addLine yX0_addLine, Cond.code yX0_addLine cX0_addLine 5 (some .int), Cond.fieldLink RX0 38 "BallCourt$Book" "lines" "I", Cond.fieldLink RX0 19 "BallCourt$Book" "must" "[I", Cond.fieldLink RX0 22 "BallCourt$Book" "mustNot" "[I", Cond.fieldLink RX0 25 "BallCourt$Book" "ruling" "[I", Cond.fieldLink RX0 28 "BallCourt$Book" "excepters" "[I", Cond.methodLink RX5 70 yX3_work, Cond.instanceMethod yX3_work, Cond.selects RX3 yX3_work yX3_work]
def wsX5_line_r2 : List Cond := [Cond.initialized RX3, Cond.code yX3_work cX3_work 3 none, Cond.fieldLink RX3 15 "BallCourt$Laws" "book" "LBallCourt$Book;", Cond.fieldLink RX3 9 "BallCourt$Laws" "lineOf" "[I", Cond.methodLink RX3 25 yX0_lawLine, Cond.instanceMethod yX0_lawLine, Cond.selects RX0 yX0_lawLine yX0_lawLine, Cond.code yX0_lawLine cX0_lawLine 5 (some .int), Cond.fieldLink RX0 44 "BallCourt$Book" "excepting" "I", Cond.methodLink RX0 62 yX0_holding, Cond.instanceMethod yX0_holding, Cond.selects RX0 yX0_holding yX0_holding, Cond.code yX0_holding cX0_holding 6 (some .int), Cond.static yX5_hasBit, Cond.code yX5_hasBit cX5_hasBit 2 (some .boolean)]
def wsX5_line : List Cond := .code yX5_line cX5_line 5 (some .int) :: ((wsX5_line_r1 ++ wsX5_line_r2) ++ wsX50 ++ wsX00 ++ wsX30)
def wsJ6_bitCount_0f7a4 : List Cond := .code yJ6_bitCount_0f7a4 cJ6_bitCount_0f7a4 1 (some .int) :: ([.constant RJ6 265 (1431655765), .constant RJ6 266 (858993459), .constant RJ6 267 (252645135)])
def wsX5_except_r1 : List Cond := [Cond.fieldLink RX5 10 "BallCourt" "book" "LBallCourt$Book;", Cond.fieldLink RX5 21 "BallCourt" "laws" "LBallCourt$Laws;", Cond.methodLink RX5 105 yX0_hasLine, Cond.instanceMethod yX0_hasLine, Cond.selects RX0 yX0_hasLine yX0_hasLine, Cond.initialized RX0, Cond.code yX0_hasLine cX0_hasLine 2 (some .boolean), Cond.fieldLink RX0 38 "BallCourt$Book" "lines" "I", Cond.methodLink RX5 108 yX0_excepts, Cond.instanceMethod yX0_excepts, Cond.selects RX0 yX0_excepts yX0_excepts, Cond.code yX0_excepts cX0_excepts 3 (some .boolean), Cond.fieldLink RX0 28 "BallCourt$Book" "excepters" "[I", Cond.static yX5_hasBit, Cond.initialized RX5, Cond.code yX5_hasBit cX5_hasBit 2 (some .boolean), Cond.methodLink RX5 111 yX0_addException, Cond.instanceMethod yX0_addException, Cond.selects RX0 yX0_addException yX0_addException, Cond.code yX0_addException cX0_addException 3 none, Cond.fieldLink RX0 44 "BallCourt$Book" "excepting" "I", Cond.methodLink RX5 70 yX3_work, Cond.instanceMethod yX3_work, Cond.selects RX3 yX3_work yX3_work]
def wsX5_except_r2 : List Cond := [Cond.initialized RX3, Cond.code yX3_work cX3_work 3 none, Cond.fieldLink RX3 15 "BallCourt$Laws" "book" "LBallCourt$Book;", Cond.fieldLink RX3 9 "BallCourt$Laws" "lineOf" "[I", Cond.methodLink RX3 25 yX0_lawLine, Cond.instanceMethod yX0_lawLine, Cond.selects RX0 yX0_lawLine yX0_lawLine, Cond.code yX0_lawLine cX0_lawLine 5 (some .int), Cond.methodLink RX0 62 yX0_holding, Cond.instanceMethod yX0_holding, Cond.selects RX0 yX0_holding yX0_holding, Cond.code yX0_holding cX0_holding 6 (some .int), Cond.fieldLink RX0 19 "BallCourt$Book" "must" "[I", Cond.fieldLink RX0 22 "BallCourt$Book" "mustNot" "[I", Cond.methodLink RX5 119 yJ6_bitCount_0f7a4, Cond.static yJ6_bitCount_0f7a4, Cond.initialized RJ6, Cond.code yJ6_bitCount_0f7a4 cJ6_bitCount_0f7a4 1 (some .int), Cond.constant RJ6 265 (1431655765), Cond.constant RJ6 266 (858993459), Cond.constant RJ6 267 (252645135)]
def wsX5_except : List Cond := .code yX5_except cX5_except 3 (some .int) :: ((wsX5_except_r1 ++ wsX5_except_r2) ++ wsX50 ++ wsX00 ++ wsX30)
def wsX5_repeal_r1 : List Cond := [Cond.fieldLink RX5 10 "BallCourt" "book" "LBallCourt$Book;", Cond.fieldLink RX5 21 "BallCourt" "laws" "LBallCourt$Laws;", Cond.methodLink RX5 105 yX0_hasLine, Cond.instanceMethod yX0_hasLine, Cond.selects RX0 yX0_hasLine yX0_hasLine, Cond.initialized RX0, Cond.code yX0_hasLine cX0_hasLine 2 (some .boolean), Cond.fieldLink RX0 38 "BallCourt$Book" "lines" "I", Cond.methodLink RX5 125 yX0_isRepealed, Cond.instanceMethod yX0_isRepealed, Cond.selects RX0 yX0_isRepealed yX0_isRepealed, Cond.code yX0_isRepealed cX0_isRepealed 2 (some .boolean), Cond.fieldLink RX0 41 "BallCourt$Book" "repealed" "I", Cond.static yX5_hasBit, Cond.initialized RX5, Cond.code yX5_hasBit cX5_hasBit 2 (some .boolean), Cond.methodLink RX5 128 yX0_repealedIfMended, Cond.instanceMethod yX0_repealedIfMended, Cond.selects RX0 yX0_repealedIfMended yX0_repealedIfMended, Cond.code yX0_repealedIfMended cX0_repealedIfMended 2 (some .int), Cond.methodLink RX5 70 yX3_work, Cond.instanceMethod yX3_work, Cond.selects RX3 yX3_work yX3_work, Cond.initialized RX3]
def wsX5_repeal_r2 : List Cond := [Cond.code yX3_work cX3_work 3 none, Cond.fieldLink RX3 15 "BallCourt$Laws" "book" "LBallCourt$Book;", Cond.fieldLink RX3 9 "BallCourt$Laws" "lineOf" "[I", Cond.methodLink RX3 25 yX0_lawLine, Cond.instanceMethod yX0_lawLine, Cond.selects RX0 yX0_lawLine yX0_lawLine, Cond.code yX0_lawLine cX0_lawLine 5 (some .int), Cond.fieldLink RX0 44 "BallCourt$Book" "excepting" "I", Cond.methodLink RX0 62 yX0_holding, Cond.instanceMethod yX0_holding, Cond.selects RX0 yX0_holding yX0_holding, Cond.code yX0_holding cX0_holding 6 (some .int), Cond.fieldLink RX0 19 "BallCourt$Book" "must" "[I", Cond.fieldLink RX0 22 "BallCourt$Book" "mustNot" "[I", Cond.fieldLink RX0 28 "BallCourt$Book" "excepters" "[I", Cond.methodLink RX5 88 yX5_oneIf, Cond.static yX5_oneIf, Cond.code yX5_oneIf cX5_oneIf 1 (some .int)]
def wsX5_repeal : List Cond := .code yX5_repeal cX5_repeal 4 (some .int) :: ((wsX5_repeal_r1 ++ wsX5_repeal_r2) ++ wsX50 ++ wsX00 ++ wsX30)
def wsX5_about_r1 : List Cond := [Cond.fieldLink RX5 10 "BallCourt" "book" "LBallCourt$Book;", Cond.methodLink RX5 105 yX0_hasLine, Cond.instanceMethod yX0_hasLine, Cond.selects RX0 yX0_hasLine yX0_hasLine, Cond.initialized RX0, Cond.code yX0_hasLine cX0_hasLine 2 (some .boolean), Cond.fieldLink RX0 38 "BallCourt$Book" "lines" "I", Cond.methodLink RX5 125 yX0_isRepealed, Cond.instanceMethod yX0_isRepealed, Cond.selects RX0 yX0_isRepealed yX0_isRepealed, Cond.code yX0_isRepealed cX0_isRepealed 2 (some .boolean), Cond.fieldLink RX0 41 "BallCourt$Book" "repealed" "I", Cond.static yX5_hasBit, Cond.initialized RX5, Cond.code yX5_hasBit cX5_hasBit 2 (some .boolean), Cond.methodLink RX5 88 yX5_oneIf, Cond.static yX5_oneIf, Cond.code yX5_oneIf cX5_oneIf 1 (some .int), Cond.methodLink RX5 140 yX0_namedBy, Cond.instanceMethod yX0_namedBy, Cond.selects RX0 yX0_namedBy yX0_namedBy, Cond.code yX0_namedBy cX0_namedBy 5 (some .int), Cond.fieldLink RX0 19 "BallCourt$Book" "must" "[I", Cond.fieldLink RX0 22 "BallCourt$Book" "mustNot" "[I"]
def wsX5_about_r2 : List Cond := [Cond.fieldLink RX0 28 "BallCourt$Book" "excepters" "[I"]
def wsX5_about : List Cond := .code yX5_about cX5_about 3 (some .int) :: ((wsX5_about_r1 ++ wsX5_about_r2) ++ wsX50 ++ wsX00)
def wsX5_holds_r1 : List Cond := [Cond.fieldLink RX5 10 "BallCourt" "book" "LBallCourt$Book;", Cond.methodLink RX5 105 yX0_hasLine, Cond.instanceMethod yX0_hasLine, Cond.selects RX0 yX0_hasLine yX0_hasLine, Cond.initialized RX0, Cond.code yX0_hasLine cX0_hasLine 2 (some .boolean), Cond.fieldLink RX0 38 "BallCourt$Book" "lines" "I", Cond.methodLink RX5 143 yX0_hasKind, Cond.instanceMethod yX0_hasKind, Cond.selects RX0 yX0_hasKind yX0_hasKind, Cond.code yX0_hasKind cX0_hasKind 2 (some .boolean), Cond.fieldLink RX0 35 "BallCourt$Book" "numbers" "I", Cond.fieldLink RX0 9 "BallCourt$Book" "isKind" "[Z", Cond.methodLink RX5 146 yX0_holding, Cond.instanceMethod yX0_holding, Cond.selects RX0 yX0_holding yX0_holding, Cond.code yX0_holding cX0_holding 6 (some .int), Cond.fieldLink RX0 19 "BallCourt$Book" "must" "[I", Cond.fieldLink RX0 22 "BallCourt$Book" "mustNot" "[I", Cond.fieldLink RX0 28 "BallCourt$Book" "excepters" "[I", Cond.static yX5_hasBit, Cond.initialized RX5, Cond.code yX5_hasBit cX5_hasBit 2 (some .boolean), Cond.methodLink RX5 150 yX5_hasBit]
def wsX5_holds_r2 : List Cond := [Cond.methodLink RX5 88 yX5_oneIf, Cond.static yX5_oneIf, Cond.code yX5_oneIf cX5_oneIf 1 (some .int)]
def wsX5_holds : List Cond := .code yX5_holds cX5_holds 3 (some .int) :: ((wsX5_holds_r1 ++ wsX5_holds_r2) ++ wsX50 ++ wsX00)
def wsX5_law : List Cond := .code yX5_law cX5_law 3 (some .int) :: ([.fieldLink RX5 10 "BallCourt" "book" "LBallCourt$Book;", .fieldLink RX5 21 "BallCourt" "laws" "LBallCourt$Laws;", .methodLink RX5 143 yX0_hasKind, .instanceMethod yX0_hasKind, .selects RX0 yX0_hasKind yX0_hasKind, .initialized RX0, .code yX0_hasKind cX0_hasKind 2 (some .boolean), .fieldLink RX0 35 "BallCourt$Book" "numbers" "I", .fieldLink RX0 9 "BallCourt$Book" "isKind" "[Z", .methodLink RX5 156 yX3_rulingFor, .instanceMethod yX3_rulingFor, .selects RX3 yX3_rulingFor yX3_rulingFor, .initialized RX3, .code yX3_rulingFor cX3_rulingFor 2 (some .int), .fieldLink RX3 15 "BallCourt$Laws" "book" "LBallCourt$Book;", .fieldLink RX3 9 "BallCourt$Laws" "lineOf" "[I", .methodLink RX3 29 yX3_covers, .instanceMethod yX3_covers, .selects RX3 yX3_covers yX3_covers, .code yX3_covers cX3_covers 2 (some .boolean)] ++ wsX50 ++ wsX30 ++ wsX00)
def wsX5_open : List Cond := .code yX5_open cX5_open 4 (some .int) :: ([.fieldLink RX5 10 "BallCourt" "book" "LBallCourt$Book;", .fieldLink RX5 21 "BallCourt" "laws" "LBallCourt$Laws;", .methodLink RX5 143 yX0_hasKind, .instanceMethod yX0_hasKind, .selects RX0 yX0_hasKind yX0_hasKind, .initialized RX0, .code yX0_hasKind cX0_hasKind 2 (some .boolean), .fieldLink RX0 35 "BallCourt$Book" "numbers" "I", .fieldLink RX0 9 "BallCourt$Book" "isKind" "[Z", .methodLink RX5 162 yX3_covers, .instanceMethod yX3_covers, .selects RX3 yX3_covers yX3_covers, .initialized RX3, .code yX3_covers cX3_covers 2 (some .boolean), .fieldLink RX3 9 "BallCourt$Laws" "lineOf" "[I"] ++ wsX50 ++ wsX00 ++ wsX30)
def wsX5_turnedKinds_r1 : List Cond := [Cond.fieldLink RX5 10 "BallCourt" "book" "LBallCourt$Book;", Cond.fieldLink RX5 21 "BallCourt" "laws" "LBallCourt$Laws;", Cond.fieldLink RX5 25 "BallCourt" "lawsIfMended" "LBallCourt$Laws;", Cond.methodLink RX5 143 yX0_hasKind, Cond.instanceMethod yX0_hasKind, Cond.selects RX0 yX0_hasKind yX0_hasKind, Cond.initialized RX0, Cond.code yX0_hasKind cX0_hasKind 2 (some .boolean), Cond.fieldLink RX0 35 "BallCourt$Book" "numbers" "I", Cond.fieldLink RX0 9 "BallCourt$Book" "isKind" "[Z", Cond.methodLink RX5 246 yX3_differFor, Cond.instanceMethod yX3_differFor, Cond.selects RX3 yX3_differFor yX3_differFor, Cond.initialized RX3, Cond.code yX3_differFor cX3_differFor 3 (some .boolean), Cond.methodLink RX3 36 yX3_rulingFor, Cond.instanceMethod yX3_rulingFor, Cond.selects RX3 yX3_rulingFor yX3_rulingFor, Cond.code yX3_rulingFor cX3_rulingFor 2 (some .int), Cond.fieldLink RX3 15 "BallCourt$Laws" "book" "LBallCourt$Book;", Cond.fieldLink RX3 9 "BallCourt$Laws" "lineOf" "[I", Cond.methodLink RX3 29 yX3_covers, Cond.instanceMethod yX3_covers, Cond.selects RX3 yX3_covers yX3_covers]
def wsX5_turnedKinds_r2 : List Cond := [Cond.code yX3_covers cX3_covers 2 (some .boolean)]
def wsX5_turnedKinds : List Cond := .code yX5_turnedKinds cX5_turnedKinds 3 (some .int) :: ((wsX5_turnedKinds_r1 ++ wsX5_turnedKinds_r2) ++ wsX50 ++ wsX00 ++ wsX30)
def wsX5_idle_r1 : List Cond := [Cond.fieldLink RX5 10 "BallCourt" "book" "LBallCourt$Book;", Cond.fieldLink RX5 25 "BallCourt" "lawsIfMended" "LBallCourt$Laws;", Cond.methodLink RX5 105 yX0_hasLine, Cond.instanceMethod yX0_hasLine, Cond.selects RX0 yX0_hasLine yX0_hasLine, Cond.initialized RX0, Cond.code yX0_hasLine cX0_hasLine 2 (some .boolean), Cond.fieldLink RX0 38 "BallCourt$Book" "lines" "I", Cond.methodLink RX5 128 yX0_repealedIfMended, Cond.instanceMethod yX0_repealedIfMended, Cond.selects RX0 yX0_repealedIfMended yX0_repealedIfMended, Cond.code yX0_repealedIfMended cX0_repealedIfMended 2 (some .int), Cond.fieldLink RX0 41 "BallCourt$Book" "repealed" "I", Cond.methodLink RX5 70 yX3_work, Cond.instanceMethod yX3_work, Cond.selects RX3 yX3_work yX3_work, Cond.initialized RX3, Cond.code yX3_work cX3_work 3 none, Cond.fieldLink RX3 15 "BallCourt$Laws" "book" "LBallCourt$Book;", Cond.fieldLink RX3 9 "BallCourt$Laws" "lineOf" "[I", Cond.methodLink RX3 25 yX0_lawLine, Cond.instanceMethod yX0_lawLine, Cond.selects RX0 yX0_lawLine yX0_lawLine, Cond.code yX0_lawLine cX0_lawLine 5 (some .int)]
def wsX5_idle_r2 : List Cond := [Cond.fieldLink RX0 44 "BallCourt$Book" "excepting" "I", Cond.methodLink RX0 62 yX0_holding, Cond.instanceMethod yX0_holding, Cond.selects RX0 yX0_holding yX0_holding, Cond.code yX0_holding cX0_holding 6 (some .int), Cond.fieldLink RX0 19 "BallCourt$Book" "must" "[I", Cond.fieldLink RX0 22 "BallCourt$Book" "mustNot" "[I", Cond.fieldLink RX0 28 "BallCourt$Book" "excepters" "[I", Cond.static yX5_hasBit, Cond.initialized RX5, Cond.code yX5_hasBit cX5_hasBit 2 (some .boolean), Cond.methodLink RX5 165 yX5_turnedKinds, Cond.instanceMethod yX5_turnedKinds, Cond.selects RX5 yX5_turnedKinds yX5_turnedKinds, Cond.code yX5_turnedKinds cX5_turnedKinds 3 (some .int), Cond.fieldLink RX5 21 "BallCourt" "laws" "LBallCourt$Laws;", Cond.methodLink RX5 143 yX0_hasKind, Cond.instanceMethod yX0_hasKind, Cond.selects RX0 yX0_hasKind yX0_hasKind, Cond.code yX0_hasKind cX0_hasKind 2 (some .boolean), Cond.fieldLink RX0 35 "BallCourt$Book" "numbers" "I", Cond.fieldLink RX0 9 "BallCourt$Book" "isKind" "[Z", Cond.methodLink RX5 246 yX3_differFor, Cond.instanceMethod yX3_differFor]
def wsX5_idle_r3 : List Cond := [Cond.selects RX3 yX3_differFor yX3_differFor, Cond.code yX3_differFor cX3_differFor 3 (some .boolean), Cond.methodLink RX3 36 yX3_rulingFor, Cond.instanceMethod yX3_rulingFor, Cond.selects RX3 yX3_rulingFor yX3_rulingFor, Cond.code yX3_rulingFor cX3_rulingFor 2 (some .int), Cond.methodLink RX3 29 yX3_covers, Cond.instanceMethod yX3_covers, Cond.selects RX3 yX3_covers yX3_covers, Cond.code yX3_covers cX3_covers 2 (some .boolean), Cond.methodLink RX5 88 yX5_oneIf, Cond.static yX5_oneIf, Cond.code yX5_oneIf cX5_oneIf 1 (some .int)]
def wsX5_idle : List Cond := .code yX5_idle cX5_idle 2 (some .int) :: ((wsX5_idle_r1 ++ (wsX5_idle_r2 ++ wsX5_idle_r3)) ++ wsX50 ++ wsX00 ++ wsX30)
def wsX5_moment : List Cond := .code yX5_moment cX5_moment 1 (some .int) :: ([.fieldLink RX5 31 "BallCourt" "played" "LBallCourt$Moments;", .methodLink RX5 169 yX4_add, .instanceMethod yX4_add, .selects RX4 yX4_add yX4_add, .initialized RX4, .code yX4_add cX4_add 3 (some .int), .fieldLink RX4 21 "BallCourt$Moments" "count" "I", .fieldLink RX4 9 "BallCourt$Moments" "toldSo" "[I", .fieldLink RX4 15 "BallCourt$Moments" "toldNotSo" "[I", .fieldLink RX4 18 "BallCourt$Moments" "ruled" "[I"] ++ wsX50 ++ wsX40)
def wsX5_tell : List Cond := .code yX5_tell cX5_tell 5 (some .int) :: ([.fieldLink RX5 31 "BallCourt" "played" "LBallCourt$Moments;", .fieldLink RX5 10 "BallCourt" "book" "LBallCourt$Book;", .methodLink RX5 172 yX4_has, .instanceMethod yX4_has, .selects RX4 yX4_has yX4_has, .initialized RX4, .code yX4_has cX4_has 2 (some .boolean), .fieldLink RX4 21 "BallCourt$Moments" "count" "I", .methodLink RX5 76 yX0_hasFact, .instanceMethod yX0_hasFact, .selects RX0 yX0_hasFact yX0_hasFact, .initialized RX0, .code yX0_hasFact cX0_hasFact 2 (some .boolean), .fieldLink RX0 31 "BallCourt$Book" "facts" "I", .methodLink RX5 175 yX4_hear, .instanceMethod yX4_hear, .selects RX4 yX4_hear yX4_hear, .code yX4_hear cX4_hear 7 (some .int), .fieldLink RX4 9 "BallCourt$Moments" "toldSo" "[I", .fieldLink RX4 15 "BallCourt$Moments" "toldNotSo" "[I", .static yX5_hasBit, .initialized RX5, .code yX5_hasBit cX5_hasBit 2 (some .boolean)] ++ wsX50 ++ wsX40 ++ wsX00)
def wsX5_known_r1 : List Cond := [Cond.fieldLink RX5 31 "BallCourt" "played" "LBallCourt$Moments;", Cond.fieldLink RX5 10 "BallCourt" "book" "LBallCourt$Book;", Cond.methodLink RX5 172 yX4_has, Cond.instanceMethod yX4_has, Cond.selects RX4 yX4_has yX4_has, Cond.initialized RX4, Cond.code yX4_has cX4_has 2 (some .boolean), Cond.fieldLink RX4 21 "BallCourt$Moments" "count" "I", Cond.methodLink RX5 179 yX4_knownSo, Cond.instanceMethod yX4_knownSo, Cond.selects RX4 yX4_knownSo yX4_knownSo, Cond.code yX4_knownSo cX4_knownSo 2 (some .int), Cond.fieldLink RX4 9 "BallCourt$Moments" "toldSo" "[I", Cond.fieldLink RX4 15 "BallCourt$Moments" "toldNotSo" "[I", Cond.methodLink RX4 29 yX4_ofAll, Cond.static yX4_ofAll, Cond.code yX4_ofAll cX4_ofAll 4 (some .int), Cond.methodLink RX5 182 yX4_knownNotSo, Cond.instanceMethod yX4_knownNotSo, Cond.selects RX4 yX4_knownNotSo yX4_knownNotSo, Cond.code yX4_knownNotSo cX4_knownNotSo 2 (some .int), Cond.methodLink RX5 185 yX0_allFacts, Cond.instanceMethod yX0_allFacts, Cond.selects RX0 yX0_allFacts yX0_allFacts]
def wsX5_known_r2 : List Cond := [Cond.initialized RX0, Cond.code yX0_allFacts cX0_allFacts 1 (some .int), Cond.fieldLink RX0 35 "BallCourt$Book" "numbers" "I", Cond.methodLink RX5 188 yX0_countMayBe, Cond.instanceMethod yX0_countMayBe, Cond.selects RX0 yX0_countMayBe yX0_countMayBe, Cond.code yX0_countMayBe cX0_countMayBe 5 (some .int), Cond.methodLink RX0 58 yX0_mayBe, Cond.instanceMethod yX0_mayBe, Cond.selects RX0 yX0_mayBe yX0_mayBe, Cond.code yX0_mayBe cX0_mayBe 4 (some .boolean), Cond.fieldLink RX0 9 "BallCourt$Book" "isKind" "[Z"]
def wsX5_known : List Cond := .code yX5_known cX5_known 5 (some .int) :: ((wsX5_known_r1 ++ wsX5_known_r2) ++ wsX50 ++ wsX40 ++ wsX00)
def wsX5_proof_r1 : List Cond := [Cond.fieldLink RX5 31 "BallCourt" "played" "LBallCourt$Moments;", Cond.fieldLink RX5 21 "BallCourt" "laws" "LBallCourt$Laws;", Cond.fieldLink RX5 10 "BallCourt" "book" "LBallCourt$Book;", Cond.methodLink RX5 172 yX4_has, Cond.instanceMethod yX4_has, Cond.selects RX4 yX4_has yX4_has, Cond.initialized RX4, Cond.code yX4_has cX4_has 2 (some .boolean), Cond.fieldLink RX4 21 "BallCourt$Moments" "count" "I", Cond.methodLink RX5 95 yX5_isRuling, Cond.static yX5_isRuling, Cond.initialized RX5, Cond.code yX5_isRuling cX5_isRuling 1 (some .boolean), Cond.methodLink RX5 179 yX4_knownSo, Cond.instanceMethod yX4_knownSo, Cond.selects RX4 yX4_knownSo yX4_knownSo, Cond.code yX4_knownSo cX4_knownSo 2 (some .int), Cond.fieldLink RX4 9 "BallCourt$Moments" "toldSo" "[I", Cond.fieldLink RX4 15 "BallCourt$Moments" "toldNotSo" "[I", Cond.methodLink RX4 29 yX4_ofAll, Cond.static yX4_ofAll, Cond.code yX4_ofAll cX4_ofAll 4 (some .int), Cond.methodLink RX5 182 yX4_knownNotSo, Cond.instanceMethod yX4_knownNotSo]
def wsX5_proof_r2 : List Cond := [Cond.selects RX4 yX4_knownNotSo yX4_knownNotSo, Cond.code yX4_knownNotSo cX4_knownNotSo 2 (some .int), Cond.methodLink RX5 191 yX3_countMayBeRuled, Cond.instanceMethod yX3_countMayBeRuled, Cond.selects RX3 yX3_countMayBeRuled yX3_countMayBeRuled, Cond.initialized RX3, Cond.code yX3_countMayBeRuled cX3_countMayBeRuled 6 (some .int), Cond.fieldLink RX3 15 "BallCourt$Laws" "book" "LBallCourt$Book;", Cond.methodLink RX3 40 yX0_mayBe, Cond.instanceMethod yX0_mayBe, Cond.selects RX0 yX0_mayBe yX0_mayBe, Cond.initialized RX0, Cond.code yX0_mayBe cX0_mayBe 4 (some .boolean), Cond.fieldLink RX0 9 "BallCourt$Book" "isKind" "[Z", Cond.methodLink RX3 36 yX3_rulingFor, Cond.instanceMethod yX3_rulingFor, Cond.selects RX3 yX3_rulingFor yX3_rulingFor, Cond.code yX3_rulingFor cX3_rulingFor 2 (some .int), Cond.fieldLink RX3 9 "BallCourt$Laws" "lineOf" "[I", Cond.methodLink RX3 29 yX3_covers, Cond.instanceMethod yX3_covers, Cond.selects RX3 yX3_covers yX3_covers, Cond.code yX3_covers cX3_covers 2 (some .boolean), Cond.methodLink RX5 188 yX0_countMayBe]
def wsX5_proof_r3 : List Cond := [Cond.instanceMethod yX0_countMayBe, Cond.selects RX0 yX0_countMayBe yX0_countMayBe, Cond.code yX0_countMayBe cX0_countMayBe 5 (some .int), Cond.fieldLink RX0 35 "BallCourt$Book" "numbers" "I", Cond.methodLink RX0 58 yX0_mayBe]
def wsX5_proof : List Cond := .code yX5_proof cX5_proof 6 (some .int) :: ((wsX5_proof_r1 ++ (wsX5_proof_r2 ++ wsX5_proof_r3)) ++ wsX50 ++ wsX40 ++ wsX30 ++ wsX00)
def wsX5_binds_r1 : List Cond := [Cond.fieldLink RX5 31 "BallCourt" "played" "LBallCourt$Moments;", Cond.fieldLink RX5 38 "BallCourt" "cases" "LBallCourt$Cases;", Cond.methodLink RX5 172 yX4_has, Cond.instanceMethod yX4_has, Cond.selects RX4 yX4_has yX4_has, Cond.initialized RX4, Cond.code yX4_has cX4_has 2 (some .boolean), Cond.fieldLink RX4 21 "BallCourt$Moments" "count" "I", Cond.methodLink RX5 179 yX4_knownSo, Cond.instanceMethod yX4_knownSo, Cond.selects RX4 yX4_knownSo yX4_knownSo, Cond.code yX4_knownSo cX4_knownSo 2 (some .int), Cond.fieldLink RX4 9 "BallCourt$Moments" "toldSo" "[I", Cond.fieldLink RX4 15 "BallCourt$Moments" "toldNotSo" "[I", Cond.methodLink RX4 29 yX4_ofAll, Cond.static yX4_ofAll, Cond.code yX4_ofAll cX4_ofAll 4 (some .int), Cond.methodLink RX5 182 yX4_knownNotSo, Cond.instanceMethod yX4_knownNotSo, Cond.selects RX4 yX4_knownNotSo yX4_knownNotSo, Cond.code yX4_knownNotSo cX4_knownNotSo 2 (some .int), Cond.methodLink RX5 194 yX1_firstThatBinds, Cond.instanceMethod yX1_firstThatBinds, Cond.selects RX1 yX1_firstThatBinds yX1_firstThatBinds]
def wsX5_binds_r2 : List Cond := [Cond.initialized RX1, Cond.code yX1_firstThatBinds cX1_firstThatBinds 6 (some .int), Cond.fieldLink RX1 21 "BallCourt$Cases" "count" "I", Cond.fieldLink RX1 18 "BallCourt$Cases" "names" "[I", Cond.fieldLink RX1 9 "BallCourt$Cases" "kind" "[I"]
def wsX5_binds : List Cond := .code yX5_binds cX5_binds 2 (some .int) :: ((wsX5_binds_r1 ++ wsX5_binds_r2) ++ wsX50 ++ wsX40 ++ wsX10)
def wsX5_verdictUnder_r1 : List Cond := [Cond.fieldLink RX5 31 "BallCourt" "played" "LBallCourt$Moments;", Cond.fieldLink RX5 10 "BallCourt" "book" "LBallCourt$Book;", Cond.fieldLink RX5 38 "BallCourt" "cases" "LBallCourt$Cases;", Cond.methodLink RX5 179 yX4_knownSo, Cond.instanceMethod yX4_knownSo, Cond.selects RX4 yX4_knownSo yX4_knownSo, Cond.initialized RX4, Cond.code yX4_knownSo cX4_knownSo 2 (some .int), Cond.fieldLink RX4 9 "BallCourt$Moments" "toldSo" "[I", Cond.fieldLink RX4 15 "BallCourt$Moments" "toldNotSo" "[I", Cond.methodLink RX4 29 yX4_ofAll, Cond.static yX4_ofAll, Cond.code yX4_ofAll cX4_ofAll 4 (some .int), Cond.methodLink RX5 182 yX4_knownNotSo, Cond.instanceMethod yX4_knownNotSo, Cond.selects RX4 yX4_knownNotSo yX4_knownNotSo, Cond.code yX4_knownNotSo cX4_knownNotSo 2 (some .int), Cond.methodLink RX5 188 yX0_countMayBe, Cond.instanceMethod yX0_countMayBe, Cond.selects RX0 yX0_countMayBe yX0_countMayBe, Cond.initialized RX0, Cond.code yX0_countMayBe cX0_countMayBe 5 (some .int), Cond.fieldLink RX0 35 "BallCourt$Book" "numbers" "I", Cond.methodLink RX0 58 yX0_mayBe]
def wsX5_verdictUnder_r2 : List Cond := [Cond.instanceMethod yX0_mayBe, Cond.selects RX0 yX0_mayBe yX0_mayBe, Cond.code yX0_mayBe cX0_mayBe 4 (some .boolean), Cond.fieldLink RX0 9 "BallCourt$Book" "isKind" "[Z", Cond.methodLink RX5 194 yX1_firstThatBinds, Cond.instanceMethod yX1_firstThatBinds, Cond.selects RX1 yX1_firstThatBinds yX1_firstThatBinds, Cond.initialized RX1, Cond.code yX1_firstThatBinds cX1_firstThatBinds 6 (some .int), Cond.fieldLink RX1 21 "BallCourt$Cases" "count" "I", Cond.fieldLink RX1 18 "BallCourt$Cases" "names" "[I", Cond.fieldLink RX1 9 "BallCourt$Cases" "kind" "[I", Cond.methodLink RX5 243 yX3_rulingForAll, Cond.instanceMethod yX3_rulingForAll, Cond.selects RX3 yX3_rulingForAll yX3_rulingForAll, Cond.initialized RX3, Cond.code yX3_rulingForAll cX3_rulingForAll 6 (some .int), Cond.fieldLink RX3 15 "BallCourt$Laws" "book" "LBallCourt$Book;", Cond.methodLink RX3 40 yX0_mayBe, Cond.methodLink RX3 36 yX3_rulingFor, Cond.instanceMethod yX3_rulingFor, Cond.selects RX3 yX3_rulingFor yX3_rulingFor, Cond.code yX3_rulingFor cX3_rulingFor 2 (some .int), Cond.fieldLink RX3 9 "BallCourt$Laws" "lineOf" "[I"]
def wsX5_verdictUnder_r3 : List Cond := [Cond.methodLink RX3 29 yX3_covers, Cond.instanceMethod yX3_covers, Cond.selects RX3 yX3_covers yX3_covers, Cond.code yX3_covers cX3_covers 2 (some .boolean)]
def wsX5_verdictUnder : List Cond := .code yX5_verdictUnder cX5_verdictUnder 6 (some .int) :: ((wsX5_verdictUnder_r1 ++ (wsX5_verdictUnder_r2 ++ wsX5_verdictUnder_r3)) ++ wsX50 ++ wsX40 ++ wsX10 ++ wsX00 ++ wsX30)
def wsX5_verdict_r1 : List Cond := [Cond.fieldLink RX5 31 "BallCourt" "played" "LBallCourt$Moments;", Cond.fieldLink RX5 21 "BallCourt" "laws" "LBallCourt$Laws;", Cond.methodLink RX5 172 yX4_has, Cond.instanceMethod yX4_has, Cond.selects RX4 yX4_has yX4_has, Cond.initialized RX4, Cond.code yX4_has cX4_has 2 (some .boolean), Cond.fieldLink RX4 21 "BallCourt$Moments" "count" "I", Cond.methodLink RX5 197 yX5_verdictUnder, Cond.instanceMethod yX5_verdictUnder, Cond.selects RX5 yX5_verdictUnder yX5_verdictUnder, Cond.initialized RX5, Cond.code yX5_verdictUnder cX5_verdictUnder 6 (some .int), Cond.fieldLink RX5 10 "BallCourt" "book" "LBallCourt$Book;", Cond.fieldLink RX5 38 "BallCourt" "cases" "LBallCourt$Cases;", Cond.methodLink RX5 179 yX4_knownSo, Cond.instanceMethod yX4_knownSo, Cond.selects RX4 yX4_knownSo yX4_knownSo, Cond.code yX4_knownSo cX4_knownSo 2 (some .int), Cond.fieldLink RX4 9 "BallCourt$Moments" "toldSo" "[I", Cond.fieldLink RX4 15 "BallCourt$Moments" "toldNotSo" "[I", Cond.methodLink RX4 29 yX4_ofAll, Cond.static yX4_ofAll, Cond.code yX4_ofAll cX4_ofAll 4 (some .int)]
def wsX5_verdict_r2 : List Cond := [Cond.methodLink RX5 182 yX4_knownNotSo, Cond.instanceMethod yX4_knownNotSo, Cond.selects RX4 yX4_knownNotSo yX4_knownNotSo, Cond.code yX4_knownNotSo cX4_knownNotSo 2 (some .int), Cond.methodLink RX5 188 yX0_countMayBe, Cond.instanceMethod yX0_countMayBe, Cond.selects RX0 yX0_countMayBe yX0_countMayBe, Cond.initialized RX0, Cond.code yX0_countMayBe cX0_countMayBe 5 (some .int), Cond.fieldLink RX0 35 "BallCourt$Book" "numbers" "I", Cond.methodLink RX0 58 yX0_mayBe, Cond.instanceMethod yX0_mayBe, Cond.selects RX0 yX0_mayBe yX0_mayBe, Cond.code yX0_mayBe cX0_mayBe 4 (some .boolean), Cond.fieldLink RX0 9 "BallCourt$Book" "isKind" "[Z", Cond.methodLink RX5 194 yX1_firstThatBinds, Cond.instanceMethod yX1_firstThatBinds, Cond.selects RX1 yX1_firstThatBinds yX1_firstThatBinds, Cond.initialized RX1, Cond.code yX1_firstThatBinds cX1_firstThatBinds 6 (some .int), Cond.fieldLink RX1 21 "BallCourt$Cases" "count" "I", Cond.fieldLink RX1 18 "BallCourt$Cases" "names" "[I", Cond.fieldLink RX1 9 "BallCourt$Cases" "kind" "[I", Cond.methodLink RX5 243 yX3_rulingForAll]
def wsX5_verdict_r3 : List Cond := [Cond.instanceMethod yX3_rulingForAll, Cond.selects RX3 yX3_rulingForAll yX3_rulingForAll, Cond.initialized RX3, Cond.code yX3_rulingForAll cX3_rulingForAll 6 (some .int), Cond.fieldLink RX3 15 "BallCourt$Laws" "book" "LBallCourt$Book;", Cond.methodLink RX3 40 yX0_mayBe, Cond.methodLink RX3 36 yX3_rulingFor, Cond.instanceMethod yX3_rulingFor, Cond.selects RX3 yX3_rulingFor yX3_rulingFor, Cond.code yX3_rulingFor cX3_rulingFor 2 (some .int), Cond.fieldLink RX3 9 "BallCourt$Laws" "lineOf" "[I", Cond.methodLink RX3 29 yX3_covers, Cond.instanceMethod yX3_covers, Cond.selects RX3 yX3_covers yX3_covers, Cond.code yX3_covers cX3_covers 2 (some .boolean)]
def wsX5_verdict : List Cond := .code yX5_verdict cX5_verdict 2 (some .int) :: ((wsX5_verdict_r1 ++ (wsX5_verdict_r2 ++ wsX5_verdict_r3)) ++ wsX50 ++ wsX40 ++ wsX10 ++ wsX00 ++ wsX30)
def wsX5_rule_r1 : List Cond := [Cond.fieldLink RX5 31 "BallCourt" "played" "LBallCourt$Moments;", Cond.fieldLink RX5 21 "BallCourt" "laws" "LBallCourt$Laws;", Cond.methodLink RX5 172 yX4_has, Cond.instanceMethod yX4_has, Cond.selects RX4 yX4_has yX4_has, Cond.initialized RX4, Cond.code yX4_has cX4_has 2 (some .boolean), Cond.fieldLink RX4 21 "BallCourt$Moments" "count" "I", Cond.methodLink RX5 95 yX5_isRuling, Cond.static yX5_isRuling, Cond.initialized RX5, Cond.code yX5_isRuling cX5_isRuling 1 (some .boolean), Cond.methodLink RX5 197 yX5_verdictUnder, Cond.instanceMethod yX5_verdictUnder, Cond.selects RX5 yX5_verdictUnder yX5_verdictUnder, Cond.code yX5_verdictUnder cX5_verdictUnder 6 (some .int), Cond.fieldLink RX5 10 "BallCourt" "book" "LBallCourt$Book;", Cond.fieldLink RX5 38 "BallCourt" "cases" "LBallCourt$Cases;", Cond.methodLink RX5 179 yX4_knownSo, Cond.instanceMethod yX4_knownSo, Cond.selects RX4 yX4_knownSo yX4_knownSo, Cond.code yX4_knownSo cX4_knownSo 2 (some .int), Cond.fieldLink RX4 9 "BallCourt$Moments" "toldSo" "[I", Cond.fieldLink RX4 15 "BallCourt$Moments" "toldNotSo" "[I"]
def wsX5_rule_r2 : List Cond := [Cond.methodLink RX4 29 yX4_ofAll, Cond.static yX4_ofAll, Cond.code yX4_ofAll cX4_ofAll 4 (some .int), Cond.methodLink RX5 182 yX4_knownNotSo, Cond.instanceMethod yX4_knownNotSo, Cond.selects RX4 yX4_knownNotSo yX4_knownNotSo, Cond.code yX4_knownNotSo cX4_knownNotSo 2 (some .int), Cond.methodLink RX5 188 yX0_countMayBe, Cond.instanceMethod yX0_countMayBe, Cond.selects RX0 yX0_countMayBe yX0_countMayBe, Cond.initialized RX0, Cond.code yX0_countMayBe cX0_countMayBe 5 (some .int), Cond.fieldLink RX0 35 "BallCourt$Book" "numbers" "I", Cond.methodLink RX0 58 yX0_mayBe, Cond.instanceMethod yX0_mayBe, Cond.selects RX0 yX0_mayBe yX0_mayBe, Cond.code yX0_mayBe cX0_mayBe 4 (some .boolean), Cond.fieldLink RX0 9 "BallCourt$Book" "isKind" "[Z", Cond.methodLink RX5 194 yX1_firstThatBinds, Cond.instanceMethod yX1_firstThatBinds, Cond.selects RX1 yX1_firstThatBinds yX1_firstThatBinds, Cond.initialized RX1, Cond.code yX1_firstThatBinds cX1_firstThatBinds 6 (some .int), Cond.fieldLink RX1 21 "BallCourt$Cases" "count" "I"]
def wsX5_rule_r3 : List Cond := [Cond.fieldLink RX1 18 "BallCourt$Cases" "names" "[I", Cond.fieldLink RX1 9 "BallCourt$Cases" "kind" "[I", Cond.methodLink RX5 243 yX3_rulingForAll, Cond.instanceMethod yX3_rulingForAll, Cond.selects RX3 yX3_rulingForAll yX3_rulingForAll, Cond.initialized RX3, Cond.code yX3_rulingForAll cX3_rulingForAll 6 (some .int), Cond.fieldLink RX3 15 "BallCourt$Laws" "book" "LBallCourt$Book;", Cond.methodLink RX3 40 yX0_mayBe, Cond.methodLink RX3 36 yX3_rulingFor, Cond.instanceMethod yX3_rulingFor, Cond.selects RX3 yX3_rulingFor yX3_rulingFor, Cond.code yX3_rulingFor cX3_rulingFor 2 (some .int), Cond.fieldLink RX3 9 "BallCourt$Laws" "lineOf" "[I", Cond.methodLink RX3 29 yX3_covers, Cond.instanceMethod yX3_covers, Cond.selects RX3 yX3_covers yX3_covers, Cond.code yX3_covers cX3_covers 2 (some .boolean)]
def wsX5_rule : List Cond := .code yX5_rule cX5_rule 4 (some .int) :: ((wsX5_rule_r1 ++ (wsX5_rule_r2 ++ wsX5_rule_r3)) ++ wsX50 ++ wsX40 ++ wsX10 ++ wsX00 ++ wsX30)
def wsX5_make_r1 : List Cond := [Cond.fieldLink RX5 31 "BallCourt" "played" "LBallCourt$Moments;", Cond.fieldLink RX5 10 "BallCourt" "book" "LBallCourt$Book;", Cond.fieldLink RX5 38 "BallCourt" "cases" "LBallCourt$Cases;", Cond.fieldLink RX5 21 "BallCourt" "laws" "LBallCourt$Laws;", Cond.methodLink RX5 172 yX4_has, Cond.instanceMethod yX4_has, Cond.selects RX4 yX4_has yX4_has, Cond.initialized RX4, Cond.code yX4_has cX4_has 2 (some .boolean), Cond.fieldLink RX4 21 "BallCourt$Moments" "count" "I", Cond.methodLink RX5 179 yX4_knownSo, Cond.instanceMethod yX4_knownSo, Cond.selects RX4 yX4_knownSo yX4_knownSo, Cond.code yX4_knownSo cX4_knownSo 2 (some .int), Cond.fieldLink RX4 9 "BallCourt$Moments" "toldSo" "[I", Cond.fieldLink RX4 15 "BallCourt$Moments" "toldNotSo" "[I", Cond.methodLink RX4 29 yX4_ofAll, Cond.static yX4_ofAll, Cond.code yX4_ofAll cX4_ofAll 4 (some .int), Cond.methodLink RX5 182 yX4_knownNotSo, Cond.instanceMethod yX4_knownNotSo, Cond.selects RX4 yX4_knownNotSo yX4_knownNotSo, Cond.code yX4_knownNotSo cX4_knownNotSo 2 (some .int), Cond.methodLink RX5 185 yX0_allFacts]
def wsX5_make_r2 : List Cond := [Cond.instanceMethod yX0_allFacts, Cond.selects RX0 yX0_allFacts yX0_allFacts, Cond.initialized RX0, Cond.code yX0_allFacts cX0_allFacts 1 (some .int), Cond.fieldLink RX0 35 "BallCourt$Book" "numbers" "I", Cond.methodLink RX5 143 yX0_hasKind, Cond.instanceMethod yX0_hasKind, Cond.selects RX0 yX0_hasKind yX0_hasKind, Cond.code yX0_hasKind cX0_hasKind 2 (some .boolean), Cond.fieldLink RX0 9 "BallCourt$Book" "isKind" "[Z", Cond.methodLink RX5 162 yX3_covers, Cond.instanceMethod yX3_covers, Cond.selects RX3 yX3_covers yX3_covers, Cond.initialized RX3, Cond.code yX3_covers cX3_covers 2 (some .boolean), Cond.fieldLink RX3 9 "BallCourt$Laws" "lineOf" "[I", Cond.methodLink RX5 140 yX0_namedBy, Cond.instanceMethod yX0_namedBy, Cond.selects RX0 yX0_namedBy yX0_namedBy, Cond.code yX0_namedBy cX0_namedBy 5 (some .int), Cond.fieldLink RX0 38 "BallCourt$Book" "lines" "I", Cond.fieldLink RX0 19 "BallCourt$Book" "must" "[I", Cond.fieldLink RX0 22 "BallCourt$Book" "mustNot" "[I", Cond.fieldLink RX0 28 "BallCourt$Book" "excepters" "[I"]
def wsX5_make_r3 : List Cond := [Cond.fieldLink RX0 41 "BallCourt$Book" "repealed" "I", Cond.static yX5_hasBit, Cond.initialized RX5, Cond.code yX5_hasBit cX5_hasBit 2 (some .boolean), Cond.methodLink RX5 197 yX5_verdictUnder, Cond.instanceMethod yX5_verdictUnder, Cond.selects RX5 yX5_verdictUnder yX5_verdictUnder, Cond.code yX5_verdictUnder cX5_verdictUnder 6 (some .int), Cond.methodLink RX5 188 yX0_countMayBe, Cond.instanceMethod yX0_countMayBe, Cond.selects RX0 yX0_countMayBe yX0_countMayBe, Cond.code yX0_countMayBe cX0_countMayBe 5 (some .int), Cond.methodLink RX0 58 yX0_mayBe, Cond.instanceMethod yX0_mayBe, Cond.selects RX0 yX0_mayBe yX0_mayBe, Cond.code yX0_mayBe cX0_mayBe 4 (some .boolean), Cond.methodLink RX5 194 yX1_firstThatBinds, Cond.instanceMethod yX1_firstThatBinds, Cond.selects RX1 yX1_firstThatBinds yX1_firstThatBinds, Cond.initialized RX1, Cond.code yX1_firstThatBinds cX1_firstThatBinds 6 (some .int), Cond.fieldLink RX1 21 "BallCourt$Cases" "count" "I", Cond.fieldLink RX1 18 "BallCourt$Cases" "names" "[I", Cond.fieldLink RX1 9 "BallCourt$Cases" "kind" "[I"]
def wsX5_make_r4 : List Cond := [Cond.methodLink RX5 243 yX3_rulingForAll, Cond.instanceMethod yX3_rulingForAll, Cond.selects RX3 yX3_rulingForAll yX3_rulingForAll, Cond.code yX3_rulingForAll cX3_rulingForAll 6 (some .int), Cond.fieldLink RX3 15 "BallCourt$Laws" "book" "LBallCourt$Book;", Cond.methodLink RX3 40 yX0_mayBe, Cond.methodLink RX3 36 yX3_rulingFor, Cond.instanceMethod yX3_rulingFor, Cond.selects RX3 yX3_rulingFor yX3_rulingFor, Cond.code yX3_rulingFor cX3_rulingFor 2 (some .int), Cond.methodLink RX3 29 yX3_covers, Cond.methodLink RX5 204 yX1_add, Cond.instanceMethod yX1_add, Cond.selects RX1 yX1_add yX1_add, Cond.code yX1_add cX1_add 5 (some .int), Cond.fieldLink RX1 15 "BallCourt$Cases" "ruling" "[I"]
def wsX5_make : List Cond := .code yX5_make cX5_make 5 (some .int) :: ((wsX5_make_r1 ++ (wsX5_make_r2 ++ (wsX5_make_r3 ++ wsX5_make_r4))) ++ wsX50 ++ wsX10 ++ wsX30 ++ wsX40 ++ wsX00)
def wsX5_ofCase : List Cond := .code yX5_ofCase cX5_ofCase 3 (some .int) :: ([.fieldLink RX5 38 "BallCourt" "cases" "LBallCourt$Cases;", .methodLink RX5 206 yX1_has, .instanceMethod yX1_has, .selects RX1 yX1_has yX1_has, .initialized RX1, .code yX1_has cX1_has 2 (some .boolean), .fieldLink RX1 21 "BallCourt$Cases" "count" "I"] ++ wsX50 ++ wsX10)
def wsX5_turned : List Cond := .code yX5_turned cX5_turned 3 (some .int) :: ([.fieldLink RX5 38 "BallCourt" "cases" "LBallCourt$Cases;", .fieldLink RX5 21 "BallCourt" "laws" "LBallCourt$Laws;", .methodLink RX5 156 yX3_rulingFor, .instanceMethod yX3_rulingFor, .selects RX3 yX3_rulingFor yX3_rulingFor, .initialized RX3, .code yX3_rulingFor cX3_rulingFor 2 (some .int), .fieldLink RX3 15 "BallCourt$Laws" "book" "LBallCourt$Book;", .fieldLink RX3 9 "BallCourt$Laws" "lineOf" "[I", .methodLink RX3 29 yX3_covers, .instanceMethod yX3_covers, .selects RX3 yX3_covers yX3_covers, .code yX3_covers cX3_covers 2 (some .boolean)] ++ wsX50 ++ wsX10 ++ wsX30 ++ wsX00)
def wsX5_casesOfTurnedKinds : List Cond := .code yX5_casesOfTurnedKinds cX5_casesOfTurnedKinds 3 (some .int) :: ([.fieldLink RX5 38 "BallCourt" "cases" "LBallCourt$Cases;", .fieldLink RX5 21 "BallCourt" "laws" "LBallCourt$Laws;", .fieldLink RX5 25 "BallCourt" "lawsIfMended" "LBallCourt$Laws;", .methodLink RX5 246 yX3_differFor, .instanceMethod yX3_differFor, .selects RX3 yX3_differFor yX3_differFor, .initialized RX3, .code yX3_differFor cX3_differFor 3 (some .boolean), .methodLink RX3 36 yX3_rulingFor, .instanceMethod yX3_rulingFor, .selects RX3 yX3_rulingFor yX3_rulingFor, .code yX3_rulingFor cX3_rulingFor 2 (some .int), .fieldLink RX3 15 "BallCourt$Laws" "book" "LBallCourt$Book;", .fieldLink RX3 9 "BallCourt$Laws" "lineOf" "[I", .methodLink RX3 29 yX3_covers, .instanceMethod yX3_covers, .selects RX3 yX3_covers yX3_covers, .code yX3_covers cX3_covers 2 (some .boolean)] ++ wsX50 ++ wsX10 ++ wsX30 ++ wsX00)
def wsX5_turnedVerdicts_r1 : List Cond := [Cond.fieldLink RX5 31 "BallCourt" "played" "LBallCourt$Moments;", Cond.fieldLink RX5 21 "BallCourt" "laws" "LBallCourt$Laws;", Cond.fieldLink RX5 25 "BallCourt" "lawsIfMended" "LBallCourt$Laws;", Cond.methodLink RX5 197 yX5_verdictUnder, Cond.instanceMethod yX5_verdictUnder, Cond.selects RX5 yX5_verdictUnder yX5_verdictUnder, Cond.initialized RX5, Cond.code yX5_verdictUnder cX5_verdictUnder 6 (some .int), Cond.fieldLink RX5 10 "BallCourt" "book" "LBallCourt$Book;", Cond.fieldLink RX5 38 "BallCourt" "cases" "LBallCourt$Cases;", Cond.methodLink RX5 179 yX4_knownSo, Cond.instanceMethod yX4_knownSo, Cond.selects RX4 yX4_knownSo yX4_knownSo, Cond.initialized RX4, Cond.code yX4_knownSo cX4_knownSo 2 (some .int), Cond.fieldLink RX4 9 "BallCourt$Moments" "toldSo" "[I", Cond.fieldLink RX4 15 "BallCourt$Moments" "toldNotSo" "[I", Cond.methodLink RX4 29 yX4_ofAll, Cond.static yX4_ofAll, Cond.code yX4_ofAll cX4_ofAll 4 (some .int), Cond.methodLink RX5 182 yX4_knownNotSo, Cond.instanceMethod yX4_knownNotSo, Cond.selects RX4 yX4_knownNotSo yX4_knownNotSo, Cond.code yX4_knownNotSo cX4_knownNotSo 2 (some .int)]
def wsX5_turnedVerdicts_r2 : List Cond := [Cond.methodLink RX5 188 yX0_countMayBe, Cond.instanceMethod yX0_countMayBe, Cond.selects RX0 yX0_countMayBe yX0_countMayBe, Cond.initialized RX0, Cond.code yX0_countMayBe cX0_countMayBe 5 (some .int), Cond.fieldLink RX0 35 "BallCourt$Book" "numbers" "I", Cond.methodLink RX0 58 yX0_mayBe, Cond.instanceMethod yX0_mayBe, Cond.selects RX0 yX0_mayBe yX0_mayBe, Cond.code yX0_mayBe cX0_mayBe 4 (some .boolean), Cond.fieldLink RX0 9 "BallCourt$Book" "isKind" "[Z", Cond.methodLink RX5 194 yX1_firstThatBinds, Cond.instanceMethod yX1_firstThatBinds, Cond.selects RX1 yX1_firstThatBinds yX1_firstThatBinds, Cond.initialized RX1, Cond.code yX1_firstThatBinds cX1_firstThatBinds 6 (some .int), Cond.fieldLink RX1 21 "BallCourt$Cases" "count" "I", Cond.fieldLink RX1 18 "BallCourt$Cases" "names" "[I", Cond.fieldLink RX1 9 "BallCourt$Cases" "kind" "[I", Cond.methodLink RX5 243 yX3_rulingForAll, Cond.instanceMethod yX3_rulingForAll, Cond.selects RX3 yX3_rulingForAll yX3_rulingForAll, Cond.initialized RX3, Cond.code yX3_rulingForAll cX3_rulingForAll 6 (some .int)]
def wsX5_turnedVerdicts_r3 : List Cond := [Cond.fieldLink RX3 15 "BallCourt$Laws" "book" "LBallCourt$Book;", Cond.methodLink RX3 40 yX0_mayBe, Cond.methodLink RX3 36 yX3_rulingFor, Cond.instanceMethod yX3_rulingFor, Cond.selects RX3 yX3_rulingFor yX3_rulingFor, Cond.code yX3_rulingFor cX3_rulingFor 2 (some .int), Cond.fieldLink RX3 9 "BallCourt$Laws" "lineOf" "[I", Cond.methodLink RX3 29 yX3_covers, Cond.instanceMethod yX3_covers, Cond.selects RX3 yX3_covers yX3_covers, Cond.code yX3_covers cX3_covers 2 (some .boolean)]
def wsX5_turnedVerdicts : List Cond := .code yX5_turnedVerdicts cX5_turnedVerdicts 3 (some .int) :: ((wsX5_turnedVerdicts_r1 ++ (wsX5_turnedVerdicts_r2 ++ wsX5_turnedVerdicts_r3)) ++ wsX50 ++ wsX40 ++ wsX10 ++ wsX00 ++ wsX30)
def wsX5_mend_r1 : List Cond := [Cond.fieldLink RX5 10 "BallCourt" "book" "LBallCourt$Book;", Cond.fieldLink RX5 25 "BallCourt" "lawsIfMended" "LBallCourt$Laws;", Cond.methodLink RX5 105 yX0_hasLine, Cond.instanceMethod yX0_hasLine, Cond.selects RX0 yX0_hasLine yX0_hasLine, Cond.initialized RX0, Cond.code yX0_hasLine cX0_hasLine 2 (some .boolean), Cond.fieldLink RX0 38 "BallCourt$Book" "lines" "I", Cond.methodLink RX5 128 yX0_repealedIfMended, Cond.instanceMethod yX0_repealedIfMended, Cond.selects RX0 yX0_repealedIfMended yX0_repealedIfMended, Cond.code yX0_repealedIfMended cX0_repealedIfMended 2 (some .int), Cond.fieldLink RX0 41 "BallCourt$Book" "repealed" "I", Cond.methodLink RX5 70 yX3_work, Cond.instanceMethod yX3_work, Cond.selects RX3 yX3_work yX3_work, Cond.initialized RX3, Cond.code yX3_work cX3_work 3 none, Cond.fieldLink RX3 15 "BallCourt$Laws" "book" "LBallCourt$Book;", Cond.fieldLink RX3 9 "BallCourt$Laws" "lineOf" "[I", Cond.methodLink RX3 25 yX0_lawLine, Cond.instanceMethod yX0_lawLine, Cond.selects RX0 yX0_lawLine yX0_lawLine, Cond.code yX0_lawLine cX0_lawLine 5 (some .int)]
def wsX5_mend_r2 : List Cond := [Cond.fieldLink RX0 44 "BallCourt$Book" "excepting" "I", Cond.methodLink RX0 62 yX0_holding, Cond.instanceMethod yX0_holding, Cond.selects RX0 yX0_holding yX0_holding, Cond.code yX0_holding cX0_holding 6 (some .int), Cond.fieldLink RX0 19 "BallCourt$Book" "must" "[I", Cond.fieldLink RX0 22 "BallCourt$Book" "mustNot" "[I", Cond.fieldLink RX0 28 "BallCourt$Book" "excepters" "[I", Cond.static yX5_hasBit, Cond.initialized RX5, Cond.code yX5_hasBit cX5_hasBit 2 (some .boolean), Cond.methodLink RX5 165 yX5_turnedKinds, Cond.instanceMethod yX5_turnedKinds, Cond.selects RX5 yX5_turnedKinds yX5_turnedKinds, Cond.code yX5_turnedKinds cX5_turnedKinds 3 (some .int), Cond.fieldLink RX5 21 "BallCourt" "laws" "LBallCourt$Laws;", Cond.methodLink RX5 143 yX0_hasKind, Cond.instanceMethod yX0_hasKind, Cond.selects RX0 yX0_hasKind yX0_hasKind, Cond.code yX0_hasKind cX0_hasKind 2 (some .boolean), Cond.fieldLink RX0 35 "BallCourt$Book" "numbers" "I", Cond.fieldLink RX0 9 "BallCourt$Book" "isKind" "[Z", Cond.methodLink RX5 246 yX3_differFor, Cond.instanceMethod yX3_differFor]
def wsX5_mend_r3 : List Cond := [Cond.selects RX3 yX3_differFor yX3_differFor, Cond.code yX3_differFor cX3_differFor 3 (some .boolean), Cond.methodLink RX3 36 yX3_rulingFor, Cond.instanceMethod yX3_rulingFor, Cond.selects RX3 yX3_rulingFor yX3_rulingFor, Cond.code yX3_rulingFor cX3_rulingFor 2 (some .int), Cond.methodLink RX3 29 yX3_covers, Cond.instanceMethod yX3_covers, Cond.selects RX3 yX3_covers yX3_covers, Cond.code yX3_covers cX3_covers 2 (some .boolean), Cond.methodLink RX5 214 yX5_casesOfTurnedKinds, Cond.instanceMethod yX5_casesOfTurnedKinds, Cond.selects RX5 yX5_casesOfTurnedKinds yX5_casesOfTurnedKinds, Cond.code yX5_casesOfTurnedKinds cX5_casesOfTurnedKinds 3 (some .int), Cond.fieldLink RX5 38 "BallCourt" "cases" "LBallCourt$Cases;", Cond.methodLink RX5 217 yX5_turnedVerdicts, Cond.instanceMethod yX5_turnedVerdicts, Cond.selects RX5 yX5_turnedVerdicts yX5_turnedVerdicts, Cond.code yX5_turnedVerdicts cX5_turnedVerdicts 3 (some .int), Cond.fieldLink RX5 31 "BallCourt" "played" "LBallCourt$Moments;", Cond.methodLink RX5 197 yX5_verdictUnder, Cond.instanceMethod yX5_verdictUnder, Cond.selects RX5 yX5_verdictUnder yX5_verdictUnder, Cond.code yX5_verdictUnder cX5_verdictUnder 6 (some .int)]
def wsX5_mend_r4 : List Cond := [Cond.methodLink RX5 179 yX4_knownSo, Cond.instanceMethod yX4_knownSo, Cond.selects RX4 yX4_knownSo yX4_knownSo, Cond.initialized RX4, Cond.code yX4_knownSo cX4_knownSo 2 (some .int), Cond.fieldLink RX4 9 "BallCourt$Moments" "toldSo" "[I", Cond.fieldLink RX4 15 "BallCourt$Moments" "toldNotSo" "[I", Cond.methodLink RX4 29 yX4_ofAll, Cond.static yX4_ofAll, Cond.code yX4_ofAll cX4_ofAll 4 (some .int), Cond.methodLink RX5 182 yX4_knownNotSo, Cond.instanceMethod yX4_knownNotSo, Cond.selects RX4 yX4_knownNotSo yX4_knownNotSo, Cond.code yX4_knownNotSo cX4_knownNotSo 2 (some .int), Cond.methodLink RX5 188 yX0_countMayBe, Cond.instanceMethod yX0_countMayBe, Cond.selects RX0 yX0_countMayBe yX0_countMayBe, Cond.code yX0_countMayBe cX0_countMayBe 5 (some .int), Cond.methodLink RX0 58 yX0_mayBe, Cond.instanceMethod yX0_mayBe, Cond.selects RX0 yX0_mayBe yX0_mayBe, Cond.code yX0_mayBe cX0_mayBe 4 (some .boolean), Cond.methodLink RX5 194 yX1_firstThatBinds, Cond.instanceMethod yX1_firstThatBinds]
def wsX5_mend_r5 : List Cond := [Cond.selects RX1 yX1_firstThatBinds yX1_firstThatBinds, Cond.initialized RX1, Cond.code yX1_firstThatBinds cX1_firstThatBinds 6 (some .int), Cond.fieldLink RX1 21 "BallCourt$Cases" "count" "I", Cond.fieldLink RX1 18 "BallCourt$Cases" "names" "[I", Cond.fieldLink RX1 9 "BallCourt$Cases" "kind" "[I", Cond.methodLink RX5 243 yX3_rulingForAll, Cond.instanceMethod yX3_rulingForAll, Cond.selects RX3 yX3_rulingForAll yX3_rulingForAll, Cond.code yX3_rulingForAll cX3_rulingForAll 6 (some .int), Cond.methodLink RX3 40 yX0_mayBe]
def wsX5_mend : List Cond := .code yX5_mend cX5_mend 3 (some .int) :: ((wsX5_mend_r1 ++ (wsX5_mend_r2 ++ (wsX5_mend_r3 ++ (wsX5_mend_r4 ++ wsX5_mend_r5)))) ++ wsX50 ++ wsX00 ++ wsX30 ++ wsX10 ++ wsX40)
def wsX5_goal : List Cond := .code yX5_goal cX5_goal 3 (some .int) :: ([.fieldLink RX5 52 "BallCourt" "hoopsToWin" "I"] ++ wsX50)
def wsX5_score_r1 : List Cond := [Cond.fieldLink RX5 31 "BallCourt" "played" "LBallCourt$Moments;", Cond.fieldLink RX5 45 "BallCourt" "game" "LBallCourt$Game;", Cond.fieldLink RX5 52 "BallCourt" "hoopsToWin" "I", Cond.fieldLink RX5 21 "BallCourt" "laws" "LBallCourt$Laws;", Cond.methodLink RX5 220 yX2_begin, Cond.instanceMethod yX2_begin, Cond.selects RX2 yX2_begin yX2_begin, Cond.initialized RX2, Cond.code yX2_begin cX2_begin 2 none, Cond.fieldLink RX2 9 "BallCourt$Game" "toWin" "I", Cond.fieldLink RX2 15 "BallCourt$Game" "hoopsOf0" "I", Cond.fieldLink RX2 18 "BallCourt$Game" "hoopsOf1" "I", Cond.fieldLink RX2 21 "BallCourt$Game" "striker" "I", Cond.methodLink RX5 197 yX5_verdictUnder, Cond.instanceMethod yX5_verdictUnder, Cond.selects RX5 yX5_verdictUnder yX5_verdictUnder, Cond.initialized RX5, Cond.code yX5_verdictUnder cX5_verdictUnder 6 (some .int), Cond.fieldLink RX5 10 "BallCourt" "book" "LBallCourt$Book;", Cond.fieldLink RX5 38 "BallCourt" "cases" "LBallCourt$Cases;", Cond.methodLink RX5 179 yX4_knownSo, Cond.instanceMethod yX4_knownSo, Cond.selects RX4 yX4_knownSo yX4_knownSo, Cond.initialized RX4]
def wsX5_score_r2 : List Cond := [Cond.code yX4_knownSo cX4_knownSo 2 (some .int), Cond.fieldLink RX4 9 "BallCourt$Moments" "toldSo" "[I", Cond.fieldLink RX4 15 "BallCourt$Moments" "toldNotSo" "[I", Cond.methodLink RX4 29 yX4_ofAll, Cond.static yX4_ofAll, Cond.code yX4_ofAll cX4_ofAll 4 (some .int), Cond.methodLink RX5 182 yX4_knownNotSo, Cond.instanceMethod yX4_knownNotSo, Cond.selects RX4 yX4_knownNotSo yX4_knownNotSo, Cond.code yX4_knownNotSo cX4_knownNotSo 2 (some .int), Cond.methodLink RX5 188 yX0_countMayBe, Cond.instanceMethod yX0_countMayBe, Cond.selects RX0 yX0_countMayBe yX0_countMayBe, Cond.initialized RX0, Cond.code yX0_countMayBe cX0_countMayBe 5 (some .int), Cond.fieldLink RX0 35 "BallCourt$Book" "numbers" "I", Cond.methodLink RX0 58 yX0_mayBe, Cond.instanceMethod yX0_mayBe, Cond.selects RX0 yX0_mayBe yX0_mayBe, Cond.code yX0_mayBe cX0_mayBe 4 (some .boolean), Cond.fieldLink RX0 9 "BallCourt$Book" "isKind" "[Z", Cond.methodLink RX5 194 yX1_firstThatBinds, Cond.instanceMethod yX1_firstThatBinds, Cond.selects RX1 yX1_firstThatBinds yX1_firstThatBinds]
def wsX5_score_r3 : List Cond := [Cond.initialized RX1, Cond.code yX1_firstThatBinds cX1_firstThatBinds 6 (some .int), Cond.fieldLink RX1 21 "BallCourt$Cases" "count" "I", Cond.fieldLink RX1 18 "BallCourt$Cases" "names" "[I", Cond.fieldLink RX1 9 "BallCourt$Cases" "kind" "[I", Cond.methodLink RX5 243 yX3_rulingForAll, Cond.instanceMethod yX3_rulingForAll, Cond.selects RX3 yX3_rulingForAll yX3_rulingForAll, Cond.initialized RX3, Cond.code yX3_rulingForAll cX3_rulingForAll 6 (some .int), Cond.fieldLink RX3 15 "BallCourt$Laws" "book" "LBallCourt$Book;", Cond.methodLink RX3 40 yX0_mayBe, Cond.methodLink RX3 36 yX3_rulingFor, Cond.instanceMethod yX3_rulingFor, Cond.selects RX3 yX3_rulingFor yX3_rulingFor, Cond.code yX3_rulingFor cX3_rulingFor 2 (some .int), Cond.fieldLink RX3 9 "BallCourt$Laws" "lineOf" "[I", Cond.methodLink RX3 29 yX3_covers, Cond.instanceMethod yX3_covers, Cond.selects RX3 yX3_covers yX3_covers, Cond.code yX3_covers cX3_covers 2 (some .boolean), Cond.methodLink RX5 221 yX2_play, Cond.instanceMethod yX2_play, Cond.selects RX2 yX2_play yX2_play]
def wsX5_score_r4 : List Cond := [Cond.code yX2_play cX2_play 2 none, Cond.methodLink RX2 24 yX2_winner, Cond.instanceMethod yX2_winner, Cond.selects RX2 yX2_winner yX2_winner, Cond.code yX2_winner cX2_winner 1 (some .int), Cond.methodLink RX2 28 yX2_giveHoop, Cond.instanceMethod yX2_giveHoop, Cond.selects RX2 yX2_giveHoop yX2_giveHoop, Cond.code yX2_giveHoop cX2_giveHoop 2 none, Cond.methodLink RX5 233 yX2_winner]
def wsX5_score : List Cond := .code yX5_score cX5_score 4 (some .int) :: ((wsX5_score_r1 ++ (wsX5_score_r2 ++ (wsX5_score_r3 ++ wsX5_score_r4))) ++ wsX50 ++ wsX40 ++ wsX20 ++ wsX10 ++ wsX00 ++ wsX30)
def wsX5_appeal_r1 : List Cond := [Cond.fieldLink RX5 31 "BallCourt" "played" "LBallCourt$Moments;", Cond.fieldLink RX5 45 "BallCourt" "game" "LBallCourt$Game;", Cond.fieldLink RX5 52 "BallCourt" "hoopsToWin" "I", Cond.fieldLink RX5 49 "BallCourt" "gameIfRuled" "LBallCourt$Game;", Cond.fieldLink RX5 21 "BallCourt" "laws" "LBallCourt$Laws;", Cond.methodLink RX5 172 yX4_has, Cond.instanceMethod yX4_has, Cond.selects RX4 yX4_has yX4_has, Cond.initialized RX4, Cond.code yX4_has cX4_has 2 (some .boolean), Cond.fieldLink RX4 21 "BallCourt$Moments" "count" "I", Cond.methodLink RX5 95 yX5_isRuling, Cond.static yX5_isRuling, Cond.initialized RX5, Cond.code yX5_isRuling cX5_isRuling 1 (some .boolean), Cond.methodLink RX5 220 yX2_begin, Cond.instanceMethod yX2_begin, Cond.selects RX2 yX2_begin yX2_begin, Cond.initialized RX2, Cond.code yX2_begin cX2_begin 2 none, Cond.fieldLink RX2 9 "BallCourt$Game" "toWin" "I", Cond.fieldLink RX2 15 "BallCourt$Game" "hoopsOf0" "I", Cond.fieldLink RX2 18 "BallCourt$Game" "hoopsOf1" "I", Cond.fieldLink RX2 21 "BallCourt$Game" "striker" "I"]
def wsX5_appeal_r2 : List Cond := [Cond.methodLink RX5 197 yX5_verdictUnder, Cond.instanceMethod yX5_verdictUnder, Cond.selects RX5 yX5_verdictUnder yX5_verdictUnder, Cond.code yX5_verdictUnder cX5_verdictUnder 6 (some .int), Cond.fieldLink RX5 10 "BallCourt" "book" "LBallCourt$Book;", Cond.fieldLink RX5 38 "BallCourt" "cases" "LBallCourt$Cases;", Cond.methodLink RX5 179 yX4_knownSo, Cond.instanceMethod yX4_knownSo, Cond.selects RX4 yX4_knownSo yX4_knownSo, Cond.code yX4_knownSo cX4_knownSo 2 (some .int), Cond.fieldLink RX4 9 "BallCourt$Moments" "toldSo" "[I", Cond.fieldLink RX4 15 "BallCourt$Moments" "toldNotSo" "[I", Cond.methodLink RX4 29 yX4_ofAll, Cond.static yX4_ofAll, Cond.code yX4_ofAll cX4_ofAll 4 (some .int), Cond.methodLink RX5 182 yX4_knownNotSo, Cond.instanceMethod yX4_knownNotSo, Cond.selects RX4 yX4_knownNotSo yX4_knownNotSo, Cond.code yX4_knownNotSo cX4_knownNotSo 2 (some .int), Cond.methodLink RX5 188 yX0_countMayBe, Cond.instanceMethod yX0_countMayBe, Cond.selects RX0 yX0_countMayBe yX0_countMayBe, Cond.initialized RX0, Cond.code yX0_countMayBe cX0_countMayBe 5 (some .int)]
def wsX5_appeal_r3 : List Cond := [Cond.fieldLink RX0 35 "BallCourt$Book" "numbers" "I", Cond.methodLink RX0 58 yX0_mayBe, Cond.instanceMethod yX0_mayBe, Cond.selects RX0 yX0_mayBe yX0_mayBe, Cond.code yX0_mayBe cX0_mayBe 4 (some .boolean), Cond.fieldLink RX0 9 "BallCourt$Book" "isKind" "[Z", Cond.methodLink RX5 194 yX1_firstThatBinds, Cond.instanceMethod yX1_firstThatBinds, Cond.selects RX1 yX1_firstThatBinds yX1_firstThatBinds, Cond.initialized RX1, Cond.code yX1_firstThatBinds cX1_firstThatBinds 6 (some .int), Cond.fieldLink RX1 21 "BallCourt$Cases" "count" "I", Cond.fieldLink RX1 18 "BallCourt$Cases" "names" "[I", Cond.fieldLink RX1 9 "BallCourt$Cases" "kind" "[I", Cond.methodLink RX5 243 yX3_rulingForAll, Cond.instanceMethod yX3_rulingForAll, Cond.selects RX3 yX3_rulingForAll yX3_rulingForAll, Cond.initialized RX3, Cond.code yX3_rulingForAll cX3_rulingForAll 6 (some .int), Cond.fieldLink RX3 15 "BallCourt$Laws" "book" "LBallCourt$Book;", Cond.methodLink RX3 40 yX0_mayBe, Cond.methodLink RX3 36 yX3_rulingFor, Cond.instanceMethod yX3_rulingFor, Cond.selects RX3 yX3_rulingFor yX3_rulingFor]
def wsX5_appeal_r4 : List Cond := [Cond.code yX3_rulingFor cX3_rulingFor 2 (some .int), Cond.fieldLink RX3 9 "BallCourt$Laws" "lineOf" "[I", Cond.methodLink RX3 29 yX3_covers, Cond.instanceMethod yX3_covers, Cond.selects RX3 yX3_covers yX3_covers, Cond.code yX3_covers cX3_covers 2 (some .boolean), Cond.methodLink RX5 221 yX2_play, Cond.instanceMethod yX2_play, Cond.selects RX2 yX2_play yX2_play, Cond.code yX2_play cX2_play 2 none, Cond.methodLink RX2 24 yX2_winner, Cond.instanceMethod yX2_winner, Cond.selects RX2 yX2_winner yX2_winner, Cond.code yX2_winner cX2_winner 1 (some .int), Cond.methodLink RX2 28 yX2_giveHoop, Cond.instanceMethod yX2_giveHoop, Cond.selects RX2 yX2_giveHoop yX2_giveHoop, Cond.code yX2_giveHoop cX2_giveHoop 2 none, Cond.methodLink RX5 236 yX2_standsAs, Cond.instanceMethod yX2_standsAs, Cond.selects RX2 yX2_standsAs yX2_standsAs, Cond.code yX2_standsAs cX2_standsAs 2 (some .boolean)]
def wsX5_appeal : List Cond := .code yX5_appeal cX5_appeal 5 (some .int) :: ((wsX5_appeal_r1 ++ (wsX5_appeal_r2 ++ (wsX5_appeal_r3 ++ wsX5_appeal_r4))) ++ wsX50 ++ wsX40 ++ wsX20 ++ wsX10 ++ wsX00 ++ wsX30)
def wsX5_coveredKinds : List Cond := .code yX5_coveredKinds cX5_coveredKinds 3 (some .int) :: ([.fieldLink RX5 10 "BallCourt" "book" "LBallCourt$Book;", .fieldLink RX5 21 "BallCourt" "laws" "LBallCourt$Laws;", .methodLink RX5 143 yX0_hasKind, .instanceMethod yX0_hasKind, .selects RX0 yX0_hasKind yX0_hasKind, .initialized RX0, .code yX0_hasKind cX0_hasKind 2 (some .boolean), .fieldLink RX0 35 "BallCourt$Book" "numbers" "I", .fieldLink RX0 9 "BallCourt$Book" "isKind" "[Z", .methodLink RX5 162 yX3_covers, .instanceMethod yX3_covers, .selects RX3 yX3_covers yX3_covers, .initialized RX3, .code yX3_covers cX3_covers 2 (some .boolean), .fieldLink RX3 9 "BallCourt$Laws" "lineOf" "[I"] ++ wsX50 ++ wsX00 ++ wsX30)
def wsX5_told_r1 : List Cond := [Cond.fieldLink RX5 10 "BallCourt" "book" "LBallCourt$Book;", Cond.fieldLink RX5 31 "BallCourt" "played" "LBallCourt$Moments;", Cond.fieldLink RX5 38 "BallCourt" "cases" "LBallCourt$Cases;", Cond.fieldLink RX5 52 "BallCourt" "hoopsToWin" "I", Cond.methodLink RX5 188 yX0_countMayBe, Cond.instanceMethod yX0_countMayBe, Cond.selects RX0 yX0_countMayBe yX0_countMayBe, Cond.initialized RX0, Cond.code yX0_countMayBe cX0_countMayBe 5 (some .int), Cond.fieldLink RX0 35 "BallCourt$Book" "numbers" "I", Cond.methodLink RX0 58 yX0_mayBe, Cond.instanceMethod yX0_mayBe, Cond.selects RX0 yX0_mayBe yX0_mayBe, Cond.code yX0_mayBe cX0_mayBe 4 (some .boolean), Cond.fieldLink RX0 9 "BallCourt$Book" "isKind" "[Z", Cond.methodLink RX5 240 yX5_coveredKinds, Cond.instanceMethod yX5_coveredKinds, Cond.selects RX5 yX5_coveredKinds yX5_coveredKinds, Cond.initialized RX5, Cond.code yX5_coveredKinds cX5_coveredKinds 3 (some .int), Cond.fieldLink RX5 21 "BallCourt" "laws" "LBallCourt$Laws;", Cond.methodLink RX5 143 yX0_hasKind, Cond.instanceMethod yX0_hasKind, Cond.selects RX0 yX0_hasKind yX0_hasKind]
def wsX5_told_r2 : List Cond := [Cond.code yX0_hasKind cX0_hasKind 2 (some .boolean), Cond.methodLink RX5 162 yX3_covers, Cond.instanceMethod yX3_covers, Cond.selects RX3 yX3_covers yX3_covers, Cond.initialized RX3, Cond.code yX3_covers cX3_covers 2 (some .boolean), Cond.fieldLink RX3 9 "BallCourt$Laws" "lineOf" "[I"]
def wsX5_told : List Cond := .code yX5_told cX5_told 2 (some .int) :: ((wsX5_told_r1 ++ wsX5_told_r2) ++ wsX50 ++ wsX00 ++ wsX40 ++ wsX10 ++ wsX30)
def wsX6_init : List Cond := .code yX6_init cX6_init 1 none :: ([.methodLink RX6 1 objectInit, .instanceMethod objectInit, .code objectInit ⟨#[0xb1]⟩ 1 none, .fieldLink RX6 7 "BallCourtModel" "facts" "I", .arrayClass .int, .fieldLink RX6 13 "BallCourtModel" "bars" "[I", .fieldLink RX6 17 "BallCourtModel" "must" "[I", .fieldLink RX6 20 "BallCourtModel" "mustNot" "[I", .fieldLink RX6 23 "BallCourtModel" "ruling" "[I", .arrayClass .boolean, .fieldLink RX6 26 "BallCourtModel" "isRepealed" "[Z", .fieldLink RX6 30 "BallCourtModel" "excepts" "[I", .fieldLink RX6 33 "BallCourtModel" "toldSo" "[I", .fieldLink RX6 36 "BallCourtModel" "toldNot" "[I", .fieldLink RX6 39 "BallCourtModel" "ruled" "[I", .fieldLink RX6 42 "BallCourtModel" "caseKind" "[I", .fieldLink RX6 45 "BallCourtModel" "caseRuling" "[I", .fieldLink RX6 48 "BallCourtModel" "caseNames" "[I", .fieldLink RX6 51 "BallCourtModel" "goal" "I", .fieldLink RX6 54 "BallCourtModel" "before" "[I", .fieldLink RX6 57 "BallCourtModel" "verdict" "[I", .fieldLink RX6 60 "BallCourtModel" "state" "[I", .fieldLink RX6 63 "BallCourtModel" "course" "[I"] ++ wsX60)
def wsX6_in : List Cond := .code yX6_in cX6_in 3 (some .boolean) :: ([])
def wsX6_isFact : List Cond := .code yX6_isFact cX6_isFact 2 (some .boolean) :: ([.fieldLink RX6 7 "BallCourtModel" "facts" "I", .methodLink RX6 66 yX6_in, .static yX6_in, .initialized RX6, .code yX6_in cX6_in 3 (some .boolean)] ++ wsX60)
def wsX6_allFacts : List Cond := .code yX6_allFacts cX6_allFacts 1 (some .int) :: ([.fieldLink RX6 7 "BallCourtModel" "facts" "I"] ++ wsX60)
def wsX6_isLine : List Cond := .code yX6_isLine cX6_isLine 2 (some .boolean) :: ([.fieldLink RX6 70 "BallCourtModel" "lines" "I", .methodLink RX6 66 yX6_in, .static yX6_in, .initialized RX6, .code yX6_in cX6_in 3 (some .boolean)] ++ wsX60)
def wsX6_isRuling : List Cond := .code yX6_isRuling cX6_isRuling 1 (some .boolean) :: ([.methodLink RX6 66 yX6_in, .static yX6_in, .initialized RX6, .code yX6_in cX6_in 3 (some .boolean)])
def wsX6_facts : List Cond := .code yX6_facts cX6_facts 4 (some .int) :: ([.fieldLink RX6 7 "BallCourtModel" "facts" "I", .fieldLink RX6 13 "BallCourtModel" "bars" "[I", .fieldLink RX6 70 "BallCourtModel" "lines" "I", .fieldLink RX6 73 "BallCourtModel" "moments" "I", .fieldLink RX6 76 "BallCourtModel" "cases" "I", .methodLink RX6 66 yX6_in, .static yX6_in, .initialized RX6, .code yX6_in cX6_in 3 (some .boolean)] ++ wsX60)
def wsX6_barred : List Cond := .code yX6_barred cX6_barred 5 (some .int) :: ([.fieldLink RX6 13 "BallCourtModel" "bars" "[I", .methodLink RX6 79 yX6_isFact, .instanceMethod yX6_isFact, .selects RX6 yX6_isFact yX6_isFact, .initialized RX6, .code yX6_isFact cX6_isFact 2 (some .boolean), .fieldLink RX6 7 "BallCourtModel" "facts" "I", .methodLink RX6 66 yX6_in, .static yX6_in, .code yX6_in cX6_in 3 (some .boolean)] ++ wsX60)
def wsX6_isKind : List Cond := .code yX6_isKind cX6_isKind 4 (some .boolean) :: ([.fieldLink RX6 7 "BallCourtModel" "facts" "I", .fieldLink RX6 13 "BallCourtModel" "bars" "[I", .methodLink RX6 83 yX6_allFacts, .instanceMethod yX6_allFacts, .selects RX6 yX6_allFacts yX6_allFacts, .initialized RX6, .code yX6_allFacts cX6_allFacts 1 (some .int), .methodLink RX6 66 yX6_in, .static yX6_in, .code yX6_in cX6_in 3 (some .boolean)] ++ wsX60)
def wsX6_line : List Cond := .code yX6_line cX6_line 4 (some .int) :: ([.fieldLink RX6 70 "BallCourtModel" "lines" "I", .fieldLink RX6 17 "BallCourtModel" "must" "[I", .fieldLink RX6 20 "BallCourtModel" "mustNot" "[I", .fieldLink RX6 23 "BallCourtModel" "ruling" "[I", .fieldLink RX6 26 "BallCourtModel" "isRepealed" "[Z", .fieldLink RX6 30 "BallCourtModel" "excepts" "[I", .methodLink RX6 83 yX6_allFacts, .instanceMethod yX6_allFacts, .selects RX6 yX6_allFacts yX6_allFacts, .initialized RX6, .code yX6_allFacts cX6_allFacts 1 (some .int), .fieldLink RX6 7 "BallCourtModel" "facts" "I", .methodLink RX6 66 yX6_in, .static yX6_in, .code yX6_in cX6_in 3 (some .boolean), .methodLink RX6 87 yX6_isRuling, .static yX6_isRuling, .code yX6_isRuling cX6_isRuling 1 (some .boolean)] ++ wsX60)
def wsX6_bits : List Cond := .code yX6_bits cX6_bits 3 (some .int) :: ([])
def wsX6_except : List Cond := .code yX6_except cX6_except 3 (some .int) :: ([.fieldLink RX6 30 "BallCourtModel" "excepts" "[I", .methodLink RX6 90 yX6_isLine, .instanceMethod yX6_isLine, .selects RX6 yX6_isLine yX6_isLine, .initialized RX6, .code yX6_isLine cX6_isLine 2 (some .boolean), .fieldLink RX6 70 "BallCourtModel" "lines" "I", .methodLink RX6 66 yX6_in, .static yX6_in, .code yX6_in cX6_in 3 (some .boolean), .methodLink RX6 93 yX6_bits, .static yX6_bits, .code yX6_bits cX6_bits 3 (some .int)] ++ wsX60)
def wsX6_repeal : List Cond := .code yX6_repeal cX6_repeal 4 (some .int) :: ([.fieldLink RX6 26 "BallCourtModel" "isRepealed" "[Z", .methodLink RX6 90 yX6_isLine, .instanceMethod yX6_isLine, .selects RX6 yX6_isLine yX6_isLine, .initialized RX6, .code yX6_isLine cX6_isLine 2 (some .boolean), .fieldLink RX6 70 "BallCourtModel" "lines" "I", .methodLink RX6 66 yX6_in, .static yX6_in, .code yX6_in cX6_in 3 (some .boolean)] ++ wsX60)
def wsX6_namedBy : List Cond := .code yX6_namedBy cX6_namedBy 5 (some .int) :: ([.fieldLink RX6 70 "BallCourtModel" "lines" "I", .fieldLink RX6 26 "BallCourtModel" "isRepealed" "[Z", .fieldLink RX6 17 "BallCourtModel" "must" "[I", .fieldLink RX6 20 "BallCourtModel" "mustNot" "[I", .fieldLink RX6 30 "BallCourtModel" "excepts" "[I"] ++ wsX60)
def wsX6_about : List Cond := .code yX6_about cX6_about 3 (some .int) :: ([.fieldLink RX6 17 "BallCourtModel" "must" "[I", .fieldLink RX6 20 "BallCourtModel" "mustNot" "[I", .fieldLink RX6 23 "BallCourtModel" "ruling" "[I", .fieldLink RX6 26 "BallCourtModel" "isRepealed" "[Z", .fieldLink RX6 30 "BallCourtModel" "excepts" "[I", .methodLink RX6 90 yX6_isLine, .instanceMethod yX6_isLine, .selects RX6 yX6_isLine yX6_isLine, .initialized RX6, .code yX6_isLine cX6_isLine 2 (some .boolean), .fieldLink RX6 70 "BallCourtModel" "lines" "I", .methodLink RX6 66 yX6_in, .static yX6_in, .code yX6_in cX6_in 3 (some .boolean), .methodLink RX6 97 yX6_namedBy, .instanceMethod yX6_namedBy, .selects RX6 yX6_namedBy yX6_namedBy, .code yX6_namedBy cX6_namedBy 5 (some .int)] ++ wsX60)
def wsX6_holding : List Cond := .code yX6_holding cX6_holding 5 (some .int) :: ([.fieldLink RX6 70 "BallCourtModel" "lines" "I", .fieldLink RX6 26 "BallCourtModel" "isRepealed" "[Z", .fieldLink RX6 17 "BallCourtModel" "must" "[I", .fieldLink RX6 20 "BallCourtModel" "mustNot" "[I", .fieldLink RX6 30 "BallCourtModel" "excepts" "[I"] ++ wsX60)
def wsX6_holds_r1 : List Cond := [Cond.methodLink RX6 90 yX6_isLine, Cond.instanceMethod yX6_isLine, Cond.selects RX6 yX6_isLine yX6_isLine, Cond.initialized RX6, Cond.code yX6_isLine cX6_isLine 2 (some .boolean), Cond.fieldLink RX6 70 "BallCourtModel" "lines" "I", Cond.methodLink RX6 66 yX6_in, Cond.static yX6_in, Cond.code yX6_in cX6_in 3 (some .boolean), Cond.methodLink RX6 100 yX6_isKind, Cond.instanceMethod yX6_isKind, Cond.selects RX6 yX6_isKind yX6_isKind, Cond.code yX6_isKind cX6_isKind 4 (some .boolean), Cond.fieldLink RX6 7 "BallCourtModel" "facts" "I", Cond.fieldLink RX6 13 "BallCourtModel" "bars" "[I", Cond.methodLink RX6 83 yX6_allFacts, Cond.instanceMethod yX6_allFacts, Cond.selects RX6 yX6_allFacts yX6_allFacts, Cond.code yX6_allFacts cX6_allFacts 1 (some .int), Cond.methodLink RX6 103 yX6_holding, Cond.instanceMethod yX6_holding, Cond.selects RX6 yX6_holding yX6_holding, Cond.code yX6_holding cX6_holding 5 (some .int), Cond.fieldLink RX6 26 "BallCourtModel" "isRepealed" "[Z"]
def wsX6_holds_r2 : List Cond := [Cond.fieldLink RX6 17 "BallCourtModel" "must" "[I", Cond.fieldLink RX6 20 "BallCourtModel" "mustNot" "[I", Cond.fieldLink RX6 30 "BallCourtModel" "excepts" "[I"]
def wsX6_holds : List Cond := .code yX6_holds cX6_holds 3 (some .int) :: ((wsX6_holds_r1 ++ wsX6_holds_r2) ++ wsX60)
def wsX6_lineFor : List Cond := .code yX6_lineFor cX6_lineFor 5 (some .int) :: ([.fieldLink RX6 70 "BallCourtModel" "lines" "I", .fieldLink RX6 30 "BallCourtModel" "excepts" "[I", .methodLink RX6 103 yX6_holding, .instanceMethod yX6_holding, .selects RX6 yX6_holding yX6_holding, .initialized RX6, .code yX6_holding cX6_holding 5 (some .int), .fieldLink RX6 26 "BallCourtModel" "isRepealed" "[Z", .fieldLink RX6 17 "BallCourtModel" "must" "[I", .fieldLink RX6 20 "BallCourtModel" "mustNot" "[I"] ++ wsX60)
def wsX6_rulingFor : List Cond := .code yX6_rulingFor cX6_rulingFor 3 (some .int) :: ([.fieldLink RX6 23 "BallCourtModel" "ruling" "[I", .methodLink RX6 106 yX6_lineFor, .instanceMethod yX6_lineFor, .selects RX6 yX6_lineFor yX6_lineFor, .initialized RX6, .code yX6_lineFor cX6_lineFor 5 (some .int), .fieldLink RX6 70 "BallCourtModel" "lines" "I", .fieldLink RX6 30 "BallCourtModel" "excepts" "[I", .methodLink RX6 103 yX6_holding, .instanceMethod yX6_holding, .selects RX6 yX6_holding yX6_holding, .code yX6_holding cX6_holding 5 (some .int), .fieldLink RX6 26 "BallCourtModel" "isRepealed" "[Z", .fieldLink RX6 17 "BallCourtModel" "must" "[I", .fieldLink RX6 20 "BallCourtModel" "mustNot" "[I"] ++ wsX60)
def wsX6_law_r1 : List Cond := [Cond.methodLink RX6 100 yX6_isKind, Cond.instanceMethod yX6_isKind, Cond.selects RX6 yX6_isKind yX6_isKind, Cond.initialized RX6, Cond.code yX6_isKind cX6_isKind 4 (some .boolean), Cond.fieldLink RX6 7 "BallCourtModel" "facts" "I", Cond.fieldLink RX6 13 "BallCourtModel" "bars" "[I", Cond.methodLink RX6 83 yX6_allFacts, Cond.instanceMethod yX6_allFacts, Cond.selects RX6 yX6_allFacts yX6_allFacts, Cond.code yX6_allFacts cX6_allFacts 1 (some .int), Cond.methodLink RX6 66 yX6_in, Cond.static yX6_in, Cond.code yX6_in cX6_in 3 (some .boolean), Cond.methodLink RX6 106 yX6_lineFor, Cond.instanceMethod yX6_lineFor, Cond.selects RX6 yX6_lineFor yX6_lineFor, Cond.code yX6_lineFor cX6_lineFor 5 (some .int), Cond.fieldLink RX6 70 "BallCourtModel" "lines" "I", Cond.fieldLink RX6 30 "BallCourtModel" "excepts" "[I", Cond.methodLink RX6 103 yX6_holding, Cond.instanceMethod yX6_holding, Cond.selects RX6 yX6_holding yX6_holding, Cond.code yX6_holding cX6_holding 5 (some .int)]
def wsX6_law_r2 : List Cond := [Cond.fieldLink RX6 26 "BallCourtModel" "isRepealed" "[Z", Cond.fieldLink RX6 17 "BallCourtModel" "must" "[I", Cond.fieldLink RX6 20 "BallCourtModel" "mustNot" "[I", Cond.methodLink RX6 109 yX6_rulingFor, Cond.instanceMethod yX6_rulingFor, Cond.selects RX6 yX6_rulingFor yX6_rulingFor, Cond.code yX6_rulingFor cX6_rulingFor 3 (some .int), Cond.fieldLink RX6 23 "BallCourtModel" "ruling" "[I"]
def wsX6_law : List Cond := .code yX6_law cX6_law 3 (some .int) :: ((wsX6_law_r1 ++ wsX6_law_r2) ++ wsX60)
def wsX6_open_r1 : List Cond := [Cond.methodLink RX6 83 yX6_allFacts, Cond.instanceMethod yX6_allFacts, Cond.selects RX6 yX6_allFacts yX6_allFacts, Cond.initialized RX6, Cond.code yX6_allFacts cX6_allFacts 1 (some .int), Cond.fieldLink RX6 7 "BallCourtModel" "facts" "I", Cond.methodLink RX6 100 yX6_isKind, Cond.instanceMethod yX6_isKind, Cond.selects RX6 yX6_isKind yX6_isKind, Cond.code yX6_isKind cX6_isKind 4 (some .boolean), Cond.fieldLink RX6 13 "BallCourtModel" "bars" "[I", Cond.methodLink RX6 66 yX6_in, Cond.static yX6_in, Cond.code yX6_in cX6_in 3 (some .boolean), Cond.methodLink RX6 106 yX6_lineFor, Cond.instanceMethod yX6_lineFor, Cond.selects RX6 yX6_lineFor yX6_lineFor, Cond.code yX6_lineFor cX6_lineFor 5 (some .int), Cond.fieldLink RX6 70 "BallCourtModel" "lines" "I", Cond.fieldLink RX6 30 "BallCourtModel" "excepts" "[I", Cond.methodLink RX6 103 yX6_holding, Cond.instanceMethod yX6_holding, Cond.selects RX6 yX6_holding yX6_holding, Cond.code yX6_holding cX6_holding 5 (some .int)]
def wsX6_open_r2 : List Cond := [Cond.fieldLink RX6 26 "BallCourtModel" "isRepealed" "[Z", Cond.fieldLink RX6 17 "BallCourtModel" "must" "[I", Cond.fieldLink RX6 20 "BallCourtModel" "mustNot" "[I"]
def wsX6_open : List Cond := .code yX6_open cX6_open 4 (some .int) :: ((wsX6_open_r1 ++ wsX6_open_r2) ++ wsX60)
def wsX6_bound : List Cond := .code yX6_bound cX6_bound 2 (some .int) :: ([.methodLink RX6 109 yX6_rulingFor, .instanceMethod yX6_rulingFor, .selects RX6 yX6_rulingFor yX6_rulingFor, .initialized RX6, .code yX6_rulingFor cX6_rulingFor 3 (some .int), .fieldLink RX6 23 "BallCourtModel" "ruling" "[I", .methodLink RX6 106 yX6_lineFor, .instanceMethod yX6_lineFor, .selects RX6 yX6_lineFor yX6_lineFor, .code yX6_lineFor cX6_lineFor 5 (some .int), .fieldLink RX6 70 "BallCourtModel" "lines" "I", .fieldLink RX6 30 "BallCourtModel" "excepts" "[I", .methodLink RX6 103 yX6_holding, .instanceMethod yX6_holding, .selects RX6 yX6_holding yX6_holding, .code yX6_holding cX6_holding 5 (some .int), .fieldLink RX6 26 "BallCourtModel" "isRepealed" "[Z", .fieldLink RX6 17 "BallCourtModel" "must" "[I", .fieldLink RX6 20 "BallCourtModel" "mustNot" "[I"] ++ wsX60)
def wsX6_turnedKinds_r1 : List Cond := [Cond.fieldLink RX6 54 "BallCourtModel" "before" "[I", Cond.fieldLink RX6 26 "BallCourtModel" "isRepealed" "[Z", Cond.methodLink RX6 83 yX6_allFacts, Cond.instanceMethod yX6_allFacts, Cond.selects RX6 yX6_allFacts yX6_allFacts, Cond.initialized RX6, Cond.code yX6_allFacts cX6_allFacts 1 (some .int), Cond.fieldLink RX6 7 "BallCourtModel" "facts" "I", Cond.methodLink RX6 112 yX6_bound, Cond.instanceMethod yX6_bound, Cond.selects RX6 yX6_bound yX6_bound, Cond.code yX6_bound cX6_bound 2 (some .int), Cond.methodLink RX6 109 yX6_rulingFor, Cond.instanceMethod yX6_rulingFor, Cond.selects RX6 yX6_rulingFor yX6_rulingFor, Cond.code yX6_rulingFor cX6_rulingFor 3 (some .int), Cond.fieldLink RX6 23 "BallCourtModel" "ruling" "[I", Cond.methodLink RX6 106 yX6_lineFor, Cond.instanceMethod yX6_lineFor, Cond.selects RX6 yX6_lineFor yX6_lineFor, Cond.code yX6_lineFor cX6_lineFor 5 (some .int), Cond.fieldLink RX6 70 "BallCourtModel" "lines" "I", Cond.fieldLink RX6 30 "BallCourtModel" "excepts" "[I", Cond.methodLink RX6 103 yX6_holding]
def wsX6_turnedKinds_r2 : List Cond := [Cond.instanceMethod yX6_holding, Cond.selects RX6 yX6_holding yX6_holding, Cond.code yX6_holding cX6_holding 5 (some .int), Cond.fieldLink RX6 17 "BallCourtModel" "must" "[I", Cond.fieldLink RX6 20 "BallCourtModel" "mustNot" "[I", Cond.methodLink RX6 100 yX6_isKind, Cond.instanceMethod yX6_isKind, Cond.selects RX6 yX6_isKind yX6_isKind, Cond.code yX6_isKind cX6_isKind 4 (some .boolean), Cond.fieldLink RX6 13 "BallCourtModel" "bars" "[I", Cond.methodLink RX6 66 yX6_in, Cond.static yX6_in, Cond.code yX6_in cX6_in 3 (some .boolean)]
def wsX6_turnedKinds : List Cond := .code yX6_turnedKinds cX6_turnedKinds 4 (some .int) :: ((wsX6_turnedKinds_r1 ++ wsX6_turnedKinds_r2) ++ wsX60)
def wsX6_idle_r1 : List Cond := [Cond.methodLink RX6 90 yX6_isLine, Cond.instanceMethod yX6_isLine, Cond.selects RX6 yX6_isLine yX6_isLine, Cond.initialized RX6, Cond.code yX6_isLine cX6_isLine 2 (some .boolean), Cond.fieldLink RX6 70 "BallCourtModel" "lines" "I", Cond.methodLink RX6 66 yX6_in, Cond.static yX6_in, Cond.code yX6_in cX6_in 3 (some .boolean), Cond.methodLink RX6 115 yX6_turnedKinds, Cond.instanceMethod yX6_turnedKinds, Cond.selects RX6 yX6_turnedKinds yX6_turnedKinds, Cond.code yX6_turnedKinds cX6_turnedKinds 4 (some .int), Cond.fieldLink RX6 54 "BallCourtModel" "before" "[I", Cond.fieldLink RX6 26 "BallCourtModel" "isRepealed" "[Z", Cond.methodLink RX6 83 yX6_allFacts, Cond.instanceMethod yX6_allFacts, Cond.selects RX6 yX6_allFacts yX6_allFacts, Cond.code yX6_allFacts cX6_allFacts 1 (some .int), Cond.fieldLink RX6 7 "BallCourtModel" "facts" "I", Cond.methodLink RX6 112 yX6_bound, Cond.instanceMethod yX6_bound, Cond.selects RX6 yX6_bound yX6_bound, Cond.code yX6_bound cX6_bound 2 (some .int)]
def wsX6_idle_r2 : List Cond := [Cond.methodLink RX6 109 yX6_rulingFor, Cond.instanceMethod yX6_rulingFor, Cond.selects RX6 yX6_rulingFor yX6_rulingFor, Cond.code yX6_rulingFor cX6_rulingFor 3 (some .int), Cond.fieldLink RX6 23 "BallCourtModel" "ruling" "[I", Cond.methodLink RX6 106 yX6_lineFor, Cond.instanceMethod yX6_lineFor, Cond.selects RX6 yX6_lineFor yX6_lineFor, Cond.code yX6_lineFor cX6_lineFor 5 (some .int), Cond.fieldLink RX6 30 "BallCourtModel" "excepts" "[I", Cond.methodLink RX6 103 yX6_holding, Cond.instanceMethod yX6_holding, Cond.selects RX6 yX6_holding yX6_holding, Cond.code yX6_holding cX6_holding 5 (some .int), Cond.fieldLink RX6 17 "BallCourtModel" "must" "[I", Cond.fieldLink RX6 20 "BallCourtModel" "mustNot" "[I", Cond.methodLink RX6 100 yX6_isKind, Cond.instanceMethod yX6_isKind, Cond.selects RX6 yX6_isKind yX6_isKind, Cond.code yX6_isKind cX6_isKind 4 (some .boolean), Cond.fieldLink RX6 13 "BallCourtModel" "bars" "[I"]
def wsX6_idle : List Cond := .code yX6_idle cX6_idle 2 (some .int) :: ((wsX6_idle_r1 ++ wsX6_idle_r2) ++ wsX60)
def wsX6_isMoment : List Cond := .code yX6_isMoment cX6_isMoment 2 (some .boolean) :: ([.fieldLink RX6 73 "BallCourtModel" "moments" "I", .methodLink RX6 66 yX6_in, .static yX6_in, .initialized RX6, .code yX6_in cX6_in 3 (some .boolean)] ++ wsX60)
def wsX6_moment : List Cond := .code yX6_moment cX6_moment 2 (some .int) :: ([.fieldLink RX6 73 "BallCourtModel" "moments" "I", .fieldLink RX6 33 "BallCourtModel" "toldSo" "[I", .fieldLink RX6 36 "BallCourtModel" "toldNot" "[I", .fieldLink RX6 39 "BallCourtModel" "ruled" "[I"] ++ wsX60)
def wsX6_tell : List Cond := .code yX6_tell cX6_tell 7 (some .int) :: ([.fieldLink RX6 33 "BallCourtModel" "toldSo" "[I", .fieldLink RX6 36 "BallCourtModel" "toldNot" "[I", .methodLink RX6 118 yX6_isMoment, .instanceMethod yX6_isMoment, .selects RX6 yX6_isMoment yX6_isMoment, .initialized RX6, .code yX6_isMoment cX6_isMoment 2 (some .boolean), .fieldLink RX6 73 "BallCourtModel" "moments" "I", .methodLink RX6 66 yX6_in, .static yX6_in, .code yX6_in cX6_in 3 (some .boolean), .methodLink RX6 79 yX6_isFact, .instanceMethod yX6_isFact, .selects RX6 yX6_isFact yX6_isFact, .code yX6_isFact cX6_isFact 2 (some .boolean), .fieldLink RX6 7 "BallCourtModel" "facts" "I"] ++ wsX60)
def wsX6_so : List Cond := .code yX6_so cX6_so 4 (some .int) :: ([.fieldLink RX6 33 "BallCourtModel" "toldSo" "[I", .fieldLink RX6 36 "BallCourtModel" "toldNot" "[I"] ++ wsX60)
def wsX6_notSo : List Cond := .code yX6_notSo cX6_notSo 4 (some .int) :: ([.fieldLink RX6 33 "BallCourtModel" "toldSo" "[I", .fieldLink RX6 36 "BallCourtModel" "toldNot" "[I"] ++ wsX60)
def wsX6_doubt : List Cond := .code yX6_doubt cX6_doubt 2 (some .int) :: ([.methodLink RX6 83 yX6_allFacts, .instanceMethod yX6_allFacts, .selects RX6 yX6_allFacts yX6_allFacts, .initialized RX6, .code yX6_allFacts cX6_allFacts 1 (some .int), .fieldLink RX6 7 "BallCourtModel" "facts" "I", .methodLink RX6 121 yX6_so, .instanceMethod yX6_so, .selects RX6 yX6_so yX6_so, .code yX6_so cX6_so 4 (some .int), .fieldLink RX6 33 "BallCourtModel" "toldSo" "[I", .fieldLink RX6 36 "BallCourtModel" "toldNot" "[I", .methodLink RX6 124 yX6_notSo, .instanceMethod yX6_notSo, .selects RX6 yX6_notSo yX6_notSo, .code yX6_notSo cX6_notSo 4 (some .int)] ++ wsX60)
def wsX6_mayBe : List Cond := .code yX6_mayBe cX6_mayBe 3 (some .boolean) :: ([.methodLink RX6 100 yX6_isKind, .instanceMethod yX6_isKind, .selects RX6 yX6_isKind yX6_isKind, .initialized RX6, .code yX6_isKind cX6_isKind 4 (some .boolean), .fieldLink RX6 7 "BallCourtModel" "facts" "I", .fieldLink RX6 13 "BallCourtModel" "bars" "[I", .methodLink RX6 83 yX6_allFacts, .instanceMethod yX6_allFacts, .selects RX6 yX6_allFacts yX6_allFacts, .code yX6_allFacts cX6_allFacts 1 (some .int), .methodLink RX6 66 yX6_in, .static yX6_in, .code yX6_in cX6_in 3 (some .boolean), .methodLink RX6 121 yX6_so, .instanceMethod yX6_so, .selects RX6 yX6_so yX6_so, .code yX6_so cX6_so 4 (some .int), .fieldLink RX6 33 "BallCourtModel" "toldSo" "[I", .fieldLink RX6 36 "BallCourtModel" "toldNot" "[I", .methodLink RX6 124 yX6_notSo, .instanceMethod yX6_notSo, .selects RX6 yX6_notSo yX6_notSo, .code yX6_notSo cX6_notSo 4 (some .int)] ++ wsX60)
def wsX6_mayBes_r1 : List Cond := [Cond.methodLink RX6 83 yX6_allFacts, Cond.instanceMethod yX6_allFacts, Cond.selects RX6 yX6_allFacts yX6_allFacts, Cond.initialized RX6, Cond.code yX6_allFacts cX6_allFacts 1 (some .int), Cond.fieldLink RX6 7 "BallCourtModel" "facts" "I", Cond.methodLink RX6 127 yX6_mayBe, Cond.instanceMethod yX6_mayBe, Cond.selects RX6 yX6_mayBe yX6_mayBe, Cond.code yX6_mayBe cX6_mayBe 3 (some .boolean), Cond.methodLink RX6 100 yX6_isKind, Cond.instanceMethod yX6_isKind, Cond.selects RX6 yX6_isKind yX6_isKind, Cond.code yX6_isKind cX6_isKind 4 (some .boolean), Cond.fieldLink RX6 13 "BallCourtModel" "bars" "[I", Cond.methodLink RX6 66 yX6_in, Cond.static yX6_in, Cond.code yX6_in cX6_in 3 (some .boolean), Cond.methodLink RX6 121 yX6_so, Cond.instanceMethod yX6_so, Cond.selects RX6 yX6_so yX6_so, Cond.code yX6_so cX6_so 4 (some .int), Cond.fieldLink RX6 33 "BallCourtModel" "toldSo" "[I", Cond.fieldLink RX6 36 "BallCourtModel" "toldNot" "[I"]
def wsX6_mayBes_r2 : List Cond := [Cond.methodLink RX6 124 yX6_notSo, Cond.instanceMethod yX6_notSo, Cond.selects RX6 yX6_notSo yX6_notSo, Cond.code yX6_notSo cX6_notSo 4 (some .int), Cond.methodLink RX6 109 yX6_rulingFor, Cond.instanceMethod yX6_rulingFor, Cond.selects RX6 yX6_rulingFor yX6_rulingFor, Cond.code yX6_rulingFor cX6_rulingFor 3 (some .int), Cond.fieldLink RX6 23 "BallCourtModel" "ruling" "[I", Cond.methodLink RX6 106 yX6_lineFor, Cond.instanceMethod yX6_lineFor, Cond.selects RX6 yX6_lineFor yX6_lineFor, Cond.code yX6_lineFor cX6_lineFor 5 (some .int), Cond.fieldLink RX6 70 "BallCourtModel" "lines" "I", Cond.fieldLink RX6 30 "BallCourtModel" "excepts" "[I", Cond.methodLink RX6 103 yX6_holding, Cond.instanceMethod yX6_holding, Cond.selects RX6 yX6_holding yX6_holding, Cond.code yX6_holding cX6_holding 5 (some .int), Cond.fieldLink RX6 26 "BallCourtModel" "isRepealed" "[Z", Cond.fieldLink RX6 17 "BallCourtModel" "must" "[I", Cond.fieldLink RX6 20 "BallCourtModel" "mustNot" "[I"]
def wsX6_mayBes : List Cond := .code yX6_mayBes cX6_mayBes 5 (some .int) :: ((wsX6_mayBes_r1 ++ wsX6_mayBes_r2) ++ wsX60)
def wsX6_known_r1 : List Cond := [Cond.methodLink RX6 118 yX6_isMoment, Cond.instanceMethod yX6_isMoment, Cond.selects RX6 yX6_isMoment yX6_isMoment, Cond.initialized RX6, Cond.code yX6_isMoment cX6_isMoment 2 (some .boolean), Cond.fieldLink RX6 73 "BallCourtModel" "moments" "I", Cond.methodLink RX6 66 yX6_in, Cond.static yX6_in, Cond.code yX6_in cX6_in 3 (some .boolean), Cond.methodLink RX6 121 yX6_so, Cond.instanceMethod yX6_so, Cond.selects RX6 yX6_so yX6_so, Cond.code yX6_so cX6_so 4 (some .int), Cond.fieldLink RX6 33 "BallCourtModel" "toldSo" "[I", Cond.fieldLink RX6 36 "BallCourtModel" "toldNot" "[I", Cond.methodLink RX6 124 yX6_notSo, Cond.instanceMethod yX6_notSo, Cond.selects RX6 yX6_notSo yX6_notSo, Cond.code yX6_notSo cX6_notSo 4 (some .int), Cond.methodLink RX6 131 yX6_doubt, Cond.instanceMethod yX6_doubt, Cond.selects RX6 yX6_doubt yX6_doubt, Cond.code yX6_doubt cX6_doubt 2 (some .int), Cond.methodLink RX6 83 yX6_allFacts]
def wsX6_known_r2 : List Cond := [Cond.instanceMethod yX6_allFacts, Cond.selects RX6 yX6_allFacts yX6_allFacts, Cond.code yX6_allFacts cX6_allFacts 1 (some .int), Cond.fieldLink RX6 7 "BallCourtModel" "facts" "I", Cond.methodLink RX6 134 yX6_mayBes, Cond.instanceMethod yX6_mayBes, Cond.selects RX6 yX6_mayBes yX6_mayBes, Cond.code yX6_mayBes cX6_mayBes 5 (some .int), Cond.methodLink RX6 127 yX6_mayBe, Cond.instanceMethod yX6_mayBe, Cond.selects RX6 yX6_mayBe yX6_mayBe, Cond.code yX6_mayBe cX6_mayBe 3 (some .boolean), Cond.methodLink RX6 100 yX6_isKind, Cond.instanceMethod yX6_isKind, Cond.selects RX6 yX6_isKind yX6_isKind, Cond.code yX6_isKind cX6_isKind 4 (some .boolean), Cond.fieldLink RX6 13 "BallCourtModel" "bars" "[I", Cond.methodLink RX6 109 yX6_rulingFor, Cond.instanceMethod yX6_rulingFor, Cond.selects RX6 yX6_rulingFor yX6_rulingFor, Cond.code yX6_rulingFor cX6_rulingFor 3 (some .int), Cond.fieldLink RX6 23 "BallCourtModel" "ruling" "[I", Cond.methodLink RX6 106 yX6_lineFor, Cond.instanceMethod yX6_lineFor]
def wsX6_known_r3 : List Cond := [Cond.selects RX6 yX6_lineFor yX6_lineFor, Cond.code yX6_lineFor cX6_lineFor 5 (some .int), Cond.fieldLink RX6 70 "BallCourtModel" "lines" "I", Cond.fieldLink RX6 30 "BallCourtModel" "excepts" "[I", Cond.methodLink RX6 103 yX6_holding, Cond.instanceMethod yX6_holding, Cond.selects RX6 yX6_holding yX6_holding, Cond.code yX6_holding cX6_holding 5 (some .int), Cond.fieldLink RX6 26 "BallCourtModel" "isRepealed" "[Z", Cond.fieldLink RX6 17 "BallCourtModel" "must" "[I", Cond.fieldLink RX6 20 "BallCourtModel" "mustNot" "[I"]
def wsX6_known : List Cond := .code yX6_known cX6_known 3 (some .int) :: ((wsX6_known_r1 ++ (wsX6_known_r2 ++ wsX6_known_r3)) ++ wsX60)
def wsX6_proof_r1 : List Cond := [Cond.methodLink RX6 118 yX6_isMoment, Cond.instanceMethod yX6_isMoment, Cond.selects RX6 yX6_isMoment yX6_isMoment, Cond.initialized RX6, Cond.code yX6_isMoment cX6_isMoment 2 (some .boolean), Cond.fieldLink RX6 73 "BallCourtModel" "moments" "I", Cond.methodLink RX6 66 yX6_in, Cond.static yX6_in, Cond.code yX6_in cX6_in 3 (some .boolean), Cond.methodLink RX6 87 yX6_isRuling, Cond.static yX6_isRuling, Cond.code yX6_isRuling cX6_isRuling 1 (some .boolean), Cond.methodLink RX6 134 yX6_mayBes, Cond.instanceMethod yX6_mayBes, Cond.selects RX6 yX6_mayBes yX6_mayBes, Cond.code yX6_mayBes cX6_mayBes 5 (some .int), Cond.methodLink RX6 83 yX6_allFacts, Cond.instanceMethod yX6_allFacts, Cond.selects RX6 yX6_allFacts yX6_allFacts, Cond.code yX6_allFacts cX6_allFacts 1 (some .int), Cond.fieldLink RX6 7 "BallCourtModel" "facts" "I", Cond.methodLink RX6 127 yX6_mayBe, Cond.instanceMethod yX6_mayBe, Cond.selects RX6 yX6_mayBe yX6_mayBe]
def wsX6_proof_r2 : List Cond := [Cond.code yX6_mayBe cX6_mayBe 3 (some .boolean), Cond.methodLink RX6 100 yX6_isKind, Cond.instanceMethod yX6_isKind, Cond.selects RX6 yX6_isKind yX6_isKind, Cond.code yX6_isKind cX6_isKind 4 (some .boolean), Cond.fieldLink RX6 13 "BallCourtModel" "bars" "[I", Cond.methodLink RX6 121 yX6_so, Cond.instanceMethod yX6_so, Cond.selects RX6 yX6_so yX6_so, Cond.code yX6_so cX6_so 4 (some .int), Cond.fieldLink RX6 33 "BallCourtModel" "toldSo" "[I", Cond.fieldLink RX6 36 "BallCourtModel" "toldNot" "[I", Cond.methodLink RX6 124 yX6_notSo, Cond.instanceMethod yX6_notSo, Cond.selects RX6 yX6_notSo yX6_notSo, Cond.code yX6_notSo cX6_notSo 4 (some .int), Cond.methodLink RX6 109 yX6_rulingFor, Cond.instanceMethod yX6_rulingFor, Cond.selects RX6 yX6_rulingFor yX6_rulingFor, Cond.code yX6_rulingFor cX6_rulingFor 3 (some .int), Cond.fieldLink RX6 23 "BallCourtModel" "ruling" "[I", Cond.methodLink RX6 106 yX6_lineFor, Cond.instanceMethod yX6_lineFor, Cond.selects RX6 yX6_lineFor yX6_lineFor]
def wsX6_proof_r3 : List Cond := [Cond.code yX6_lineFor cX6_lineFor 5 (some .int), Cond.fieldLink RX6 70 "BallCourtModel" "lines" "I", Cond.fieldLink RX6 30 "BallCourtModel" "excepts" "[I", Cond.methodLink RX6 103 yX6_holding, Cond.instanceMethod yX6_holding, Cond.selects RX6 yX6_holding yX6_holding, Cond.code yX6_holding cX6_holding 5 (some .int), Cond.fieldLink RX6 26 "BallCourtModel" "isRepealed" "[Z", Cond.fieldLink RX6 17 "BallCourtModel" "must" "[I", Cond.fieldLink RX6 20 "BallCourtModel" "mustNot" "[I"]
def wsX6_proof : List Cond := .code yX6_proof cX6_proof 4 (some .int) :: ((wsX6_proof_r1 ++ (wsX6_proof_r2 ++ wsX6_proof_r3)) ++ wsX60)
def wsX6_bindingCase : List Cond := .code yX6_bindingCase cX6_bindingCase 4 (some .int) :: ([.fieldLink RX6 76 "BallCourtModel" "cases" "I", .fieldLink RX6 48 "BallCourtModel" "caseNames" "[I", .fieldLink RX6 42 "BallCourtModel" "caseKind" "[I", .methodLink RX6 131 yX6_doubt, .instanceMethod yX6_doubt, .selects RX6 yX6_doubt yX6_doubt, .initialized RX6, .code yX6_doubt cX6_doubt 2 (some .int), .methodLink RX6 83 yX6_allFacts, .instanceMethod yX6_allFacts, .selects RX6 yX6_allFacts yX6_allFacts, .code yX6_allFacts cX6_allFacts 1 (some .int), .fieldLink RX6 7 "BallCourtModel" "facts" "I", .methodLink RX6 121 yX6_so, .instanceMethod yX6_so, .selects RX6 yX6_so yX6_so, .code yX6_so cX6_so 4 (some .int), .fieldLink RX6 33 "BallCourtModel" "toldSo" "[I", .fieldLink RX6 36 "BallCourtModel" "toldNot" "[I", .methodLink RX6 124 yX6_notSo, .instanceMethod yX6_notSo, .selects RX6 yX6_notSo yX6_notSo, .code yX6_notSo cX6_notSo 4 (some .int)] ++ wsX60)
def wsX6_binds_r1 : List Cond := [Cond.methodLink RX6 118 yX6_isMoment, Cond.instanceMethod yX6_isMoment, Cond.selects RX6 yX6_isMoment yX6_isMoment, Cond.initialized RX6, Cond.code yX6_isMoment cX6_isMoment 2 (some .boolean), Cond.fieldLink RX6 73 "BallCourtModel" "moments" "I", Cond.methodLink RX6 66 yX6_in, Cond.static yX6_in, Cond.code yX6_in cX6_in 3 (some .boolean), Cond.methodLink RX6 138 yX6_bindingCase, Cond.instanceMethod yX6_bindingCase, Cond.selects RX6 yX6_bindingCase yX6_bindingCase, Cond.code yX6_bindingCase cX6_bindingCase 4 (some .int), Cond.fieldLink RX6 76 "BallCourtModel" "cases" "I", Cond.fieldLink RX6 48 "BallCourtModel" "caseNames" "[I", Cond.fieldLink RX6 42 "BallCourtModel" "caseKind" "[I", Cond.methodLink RX6 131 yX6_doubt, Cond.instanceMethod yX6_doubt, Cond.selects RX6 yX6_doubt yX6_doubt, Cond.code yX6_doubt cX6_doubt 2 (some .int), Cond.methodLink RX6 83 yX6_allFacts, Cond.instanceMethod yX6_allFacts, Cond.selects RX6 yX6_allFacts yX6_allFacts, Cond.code yX6_allFacts cX6_allFacts 1 (some .int)]
def wsX6_binds_r2 : List Cond := [Cond.fieldLink RX6 7 "BallCourtModel" "facts" "I", Cond.methodLink RX6 121 yX6_so, Cond.instanceMethod yX6_so, Cond.selects RX6 yX6_so yX6_so, Cond.code yX6_so cX6_so 4 (some .int), Cond.fieldLink RX6 33 "BallCourtModel" "toldSo" "[I", Cond.fieldLink RX6 36 "BallCourtModel" "toldNot" "[I", Cond.methodLink RX6 124 yX6_notSo, Cond.instanceMethod yX6_notSo, Cond.selects RX6 yX6_notSo yX6_notSo, Cond.code yX6_notSo cX6_notSo 4 (some .int)]
def wsX6_binds : List Cond := .code yX6_binds cX6_binds 2 (some .int) :: ((wsX6_binds_r1 ++ wsX6_binds_r2) ++ wsX60)
def wsX6_verdictOf_r1 : List Cond := [Cond.fieldLink RX6 39 "BallCourtModel" "ruled" "[I", Cond.fieldLink RX6 45 "BallCourtModel" "caseRuling" "[I", Cond.methodLink RX6 134 yX6_mayBes, Cond.instanceMethod yX6_mayBes, Cond.selects RX6 yX6_mayBes yX6_mayBes, Cond.initialized RX6, Cond.code yX6_mayBes cX6_mayBes 5 (some .int), Cond.methodLink RX6 83 yX6_allFacts, Cond.instanceMethod yX6_allFacts, Cond.selects RX6 yX6_allFacts yX6_allFacts, Cond.code yX6_allFacts cX6_allFacts 1 (some .int), Cond.fieldLink RX6 7 "BallCourtModel" "facts" "I", Cond.methodLink RX6 127 yX6_mayBe, Cond.instanceMethod yX6_mayBe, Cond.selects RX6 yX6_mayBe yX6_mayBe, Cond.code yX6_mayBe cX6_mayBe 3 (some .boolean), Cond.methodLink RX6 100 yX6_isKind, Cond.instanceMethod yX6_isKind, Cond.selects RX6 yX6_isKind yX6_isKind, Cond.code yX6_isKind cX6_isKind 4 (some .boolean), Cond.fieldLink RX6 13 "BallCourtModel" "bars" "[I", Cond.methodLink RX6 66 yX6_in, Cond.static yX6_in, Cond.code yX6_in cX6_in 3 (some .boolean)]
def wsX6_verdictOf_r2 : List Cond := [Cond.methodLink RX6 121 yX6_so, Cond.instanceMethod yX6_so, Cond.selects RX6 yX6_so yX6_so, Cond.code yX6_so cX6_so 4 (some .int), Cond.fieldLink RX6 33 "BallCourtModel" "toldSo" "[I", Cond.fieldLink RX6 36 "BallCourtModel" "toldNot" "[I", Cond.methodLink RX6 124 yX6_notSo, Cond.instanceMethod yX6_notSo, Cond.selects RX6 yX6_notSo yX6_notSo, Cond.code yX6_notSo cX6_notSo 4 (some .int), Cond.methodLink RX6 109 yX6_rulingFor, Cond.instanceMethod yX6_rulingFor, Cond.selects RX6 yX6_rulingFor yX6_rulingFor, Cond.code yX6_rulingFor cX6_rulingFor 3 (some .int), Cond.fieldLink RX6 23 "BallCourtModel" "ruling" "[I", Cond.methodLink RX6 106 yX6_lineFor, Cond.instanceMethod yX6_lineFor, Cond.selects RX6 yX6_lineFor yX6_lineFor, Cond.code yX6_lineFor cX6_lineFor 5 (some .int), Cond.fieldLink RX6 70 "BallCourtModel" "lines" "I", Cond.fieldLink RX6 30 "BallCourtModel" "excepts" "[I", Cond.methodLink RX6 103 yX6_holding, Cond.instanceMethod yX6_holding, Cond.selects RX6 yX6_holding yX6_holding]
def wsX6_verdictOf_r3 : List Cond := [Cond.code yX6_holding cX6_holding 5 (some .int), Cond.fieldLink RX6 26 "BallCourtModel" "isRepealed" "[Z", Cond.fieldLink RX6 17 "BallCourtModel" "must" "[I", Cond.fieldLink RX6 20 "BallCourtModel" "mustNot" "[I", Cond.methodLink RX6 138 yX6_bindingCase, Cond.instanceMethod yX6_bindingCase, Cond.selects RX6 yX6_bindingCase yX6_bindingCase, Cond.code yX6_bindingCase cX6_bindingCase 4 (some .int), Cond.fieldLink RX6 76 "BallCourtModel" "cases" "I", Cond.fieldLink RX6 48 "BallCourtModel" "caseNames" "[I", Cond.fieldLink RX6 42 "BallCourtModel" "caseKind" "[I", Cond.methodLink RX6 131 yX6_doubt, Cond.instanceMethod yX6_doubt, Cond.selects RX6 yX6_doubt yX6_doubt, Cond.code yX6_doubt cX6_doubt 2 (some .int)]
def wsX6_verdictOf : List Cond := .code yX6_verdictOf cX6_verdictOf 5 (some .int) :: ((wsX6_verdictOf_r1 ++ (wsX6_verdictOf_r2 ++ wsX6_verdictOf_r3)) ++ wsX60)
def wsX6_verdict_r1 : List Cond := [Cond.methodLink RX6 118 yX6_isMoment, Cond.instanceMethod yX6_isMoment, Cond.selects RX6 yX6_isMoment yX6_isMoment, Cond.initialized RX6, Cond.code yX6_isMoment cX6_isMoment 2 (some .boolean), Cond.fieldLink RX6 73 "BallCourtModel" "moments" "I", Cond.methodLink RX6 66 yX6_in, Cond.static yX6_in, Cond.code yX6_in cX6_in 3 (some .boolean), Cond.methodLink RX6 141 yX6_verdictOf, Cond.instanceMethod yX6_verdictOf, Cond.selects RX6 yX6_verdictOf yX6_verdictOf, Cond.code yX6_verdictOf cX6_verdictOf 5 (some .int), Cond.fieldLink RX6 39 "BallCourtModel" "ruled" "[I", Cond.fieldLink RX6 45 "BallCourtModel" "caseRuling" "[I", Cond.methodLink RX6 134 yX6_mayBes, Cond.instanceMethod yX6_mayBes, Cond.selects RX6 yX6_mayBes yX6_mayBes, Cond.code yX6_mayBes cX6_mayBes 5 (some .int), Cond.methodLink RX6 83 yX6_allFacts, Cond.instanceMethod yX6_allFacts, Cond.selects RX6 yX6_allFacts yX6_allFacts, Cond.code yX6_allFacts cX6_allFacts 1 (some .int), Cond.fieldLink RX6 7 "BallCourtModel" "facts" "I"]
def wsX6_verdict_r2 : List Cond := [Cond.methodLink RX6 127 yX6_mayBe, Cond.instanceMethod yX6_mayBe, Cond.selects RX6 yX6_mayBe yX6_mayBe, Cond.code yX6_mayBe cX6_mayBe 3 (some .boolean), Cond.methodLink RX6 100 yX6_isKind, Cond.instanceMethod yX6_isKind, Cond.selects RX6 yX6_isKind yX6_isKind, Cond.code yX6_isKind cX6_isKind 4 (some .boolean), Cond.fieldLink RX6 13 "BallCourtModel" "bars" "[I", Cond.methodLink RX6 121 yX6_so, Cond.instanceMethod yX6_so, Cond.selects RX6 yX6_so yX6_so, Cond.code yX6_so cX6_so 4 (some .int), Cond.fieldLink RX6 33 "BallCourtModel" "toldSo" "[I", Cond.fieldLink RX6 36 "BallCourtModel" "toldNot" "[I", Cond.methodLink RX6 124 yX6_notSo, Cond.instanceMethod yX6_notSo, Cond.selects RX6 yX6_notSo yX6_notSo, Cond.code yX6_notSo cX6_notSo 4 (some .int), Cond.methodLink RX6 109 yX6_rulingFor, Cond.instanceMethod yX6_rulingFor, Cond.selects RX6 yX6_rulingFor yX6_rulingFor, Cond.code yX6_rulingFor cX6_rulingFor 3 (some .int), Cond.fieldLink RX6 23 "BallCourtModel" "ruling" "[I"]
def wsX6_verdict_r3 : List Cond := [Cond.methodLink RX6 106 yX6_lineFor, Cond.instanceMethod yX6_lineFor, Cond.selects RX6 yX6_lineFor yX6_lineFor, Cond.code yX6_lineFor cX6_lineFor 5 (some .int), Cond.fieldLink RX6 70 "BallCourtModel" "lines" "I", Cond.fieldLink RX6 30 "BallCourtModel" "excepts" "[I", Cond.methodLink RX6 103 yX6_holding, Cond.instanceMethod yX6_holding, Cond.selects RX6 yX6_holding yX6_holding, Cond.code yX6_holding cX6_holding 5 (some .int), Cond.fieldLink RX6 26 "BallCourtModel" "isRepealed" "[Z", Cond.fieldLink RX6 17 "BallCourtModel" "must" "[I", Cond.fieldLink RX6 20 "BallCourtModel" "mustNot" "[I", Cond.methodLink RX6 138 yX6_bindingCase, Cond.instanceMethod yX6_bindingCase, Cond.selects RX6 yX6_bindingCase yX6_bindingCase, Cond.code yX6_bindingCase cX6_bindingCase 4 (some .int), Cond.fieldLink RX6 76 "BallCourtModel" "cases" "I", Cond.fieldLink RX6 48 "BallCourtModel" "caseNames" "[I", Cond.fieldLink RX6 42 "BallCourtModel" "caseKind" "[I", Cond.methodLink RX6 131 yX6_doubt, Cond.instanceMethod yX6_doubt, Cond.selects RX6 yX6_doubt yX6_doubt, Cond.code yX6_doubt cX6_doubt 2 (some .int)]
def wsX6_verdict : List Cond := .code yX6_verdict cX6_verdict 2 (some .int) :: ((wsX6_verdict_r1 ++ (wsX6_verdict_r2 ++ wsX6_verdict_r3)) ++ wsX60)
def wsX6_rule_r1 : List Cond := [Cond.fieldLink RX6 39 "BallCourtModel" "ruled" "[I", Cond.methodLink RX6 118 yX6_isMoment, Cond.instanceMethod yX6_isMoment, Cond.selects RX6 yX6_isMoment yX6_isMoment, Cond.initialized RX6, Cond.code yX6_isMoment cX6_isMoment 2 (some .boolean), Cond.fieldLink RX6 73 "BallCourtModel" "moments" "I", Cond.methodLink RX6 66 yX6_in, Cond.static yX6_in, Cond.code yX6_in cX6_in 3 (some .boolean), Cond.methodLink RX6 87 yX6_isRuling, Cond.static yX6_isRuling, Cond.code yX6_isRuling cX6_isRuling 1 (some .boolean), Cond.methodLink RX6 141 yX6_verdictOf, Cond.instanceMethod yX6_verdictOf, Cond.selects RX6 yX6_verdictOf yX6_verdictOf, Cond.code yX6_verdictOf cX6_verdictOf 5 (some .int), Cond.fieldLink RX6 45 "BallCourtModel" "caseRuling" "[I", Cond.methodLink RX6 134 yX6_mayBes, Cond.instanceMethod yX6_mayBes, Cond.selects RX6 yX6_mayBes yX6_mayBes, Cond.code yX6_mayBes cX6_mayBes 5 (some .int), Cond.methodLink RX6 83 yX6_allFacts, Cond.instanceMethod yX6_allFacts]
def wsX6_rule_r2 : List Cond := [Cond.selects RX6 yX6_allFacts yX6_allFacts, Cond.code yX6_allFacts cX6_allFacts 1 (some .int), Cond.fieldLink RX6 7 "BallCourtModel" "facts" "I", Cond.methodLink RX6 127 yX6_mayBe, Cond.instanceMethod yX6_mayBe, Cond.selects RX6 yX6_mayBe yX6_mayBe, Cond.code yX6_mayBe cX6_mayBe 3 (some .boolean), Cond.methodLink RX6 100 yX6_isKind, Cond.instanceMethod yX6_isKind, Cond.selects RX6 yX6_isKind yX6_isKind, Cond.code yX6_isKind cX6_isKind 4 (some .boolean), Cond.fieldLink RX6 13 "BallCourtModel" "bars" "[I", Cond.methodLink RX6 121 yX6_so, Cond.instanceMethod yX6_so, Cond.selects RX6 yX6_so yX6_so, Cond.code yX6_so cX6_so 4 (some .int), Cond.fieldLink RX6 33 "BallCourtModel" "toldSo" "[I", Cond.fieldLink RX6 36 "BallCourtModel" "toldNot" "[I", Cond.methodLink RX6 124 yX6_notSo, Cond.instanceMethod yX6_notSo, Cond.selects RX6 yX6_notSo yX6_notSo, Cond.code yX6_notSo cX6_notSo 4 (some .int), Cond.methodLink RX6 109 yX6_rulingFor, Cond.instanceMethod yX6_rulingFor]
def wsX6_rule_r3 : List Cond := [Cond.selects RX6 yX6_rulingFor yX6_rulingFor, Cond.code yX6_rulingFor cX6_rulingFor 3 (some .int), Cond.fieldLink RX6 23 "BallCourtModel" "ruling" "[I", Cond.methodLink RX6 106 yX6_lineFor, Cond.instanceMethod yX6_lineFor, Cond.selects RX6 yX6_lineFor yX6_lineFor, Cond.code yX6_lineFor cX6_lineFor 5 (some .int), Cond.fieldLink RX6 70 "BallCourtModel" "lines" "I", Cond.fieldLink RX6 30 "BallCourtModel" "excepts" "[I", Cond.methodLink RX6 103 yX6_holding, Cond.instanceMethod yX6_holding, Cond.selects RX6 yX6_holding yX6_holding, Cond.code yX6_holding cX6_holding 5 (some .int), Cond.fieldLink RX6 26 "BallCourtModel" "isRepealed" "[Z", Cond.fieldLink RX6 17 "BallCourtModel" "must" "[I", Cond.fieldLink RX6 20 "BallCourtModel" "mustNot" "[I", Cond.methodLink RX6 138 yX6_bindingCase, Cond.instanceMethod yX6_bindingCase, Cond.selects RX6 yX6_bindingCase yX6_bindingCase, Cond.code yX6_bindingCase cX6_bindingCase 4 (some .int), Cond.fieldLink RX6 76 "BallCourtModel" "cases" "I", Cond.fieldLink RX6 48 "BallCourtModel" "caseNames" "[I", Cond.fieldLink RX6 42 "BallCourtModel" "caseKind" "[I", Cond.methodLink RX6 131 yX6_doubt]
def wsX6_rule_r4 : List Cond := [Cond.instanceMethod yX6_doubt, Cond.selects RX6 yX6_doubt yX6_doubt, Cond.code yX6_doubt cX6_doubt 2 (some .int)]
def wsX6_rule : List Cond := .code yX6_rule cX6_rule 4 (some .int) :: ((wsX6_rule_r1 ++ (wsX6_rule_r2 ++ (wsX6_rule_r3 ++ wsX6_rule_r4))) ++ wsX60)
def wsX6_make_r1 : List Cond := [Cond.fieldLink RX6 76 "BallCourtModel" "cases" "I", Cond.fieldLink RX6 45 "BallCourtModel" "caseRuling" "[I", Cond.fieldLink RX6 42 "BallCourtModel" "caseKind" "[I", Cond.fieldLink RX6 48 "BallCourtModel" "caseNames" "[I", Cond.methodLink RX6 118 yX6_isMoment, Cond.instanceMethod yX6_isMoment, Cond.selects RX6 yX6_isMoment yX6_isMoment, Cond.initialized RX6, Cond.code yX6_isMoment cX6_isMoment 2 (some .boolean), Cond.fieldLink RX6 73 "BallCourtModel" "moments" "I", Cond.methodLink RX6 66 yX6_in, Cond.static yX6_in, Cond.code yX6_in cX6_in 3 (some .boolean), Cond.methodLink RX6 131 yX6_doubt, Cond.instanceMethod yX6_doubt, Cond.selects RX6 yX6_doubt yX6_doubt, Cond.code yX6_doubt cX6_doubt 2 (some .int), Cond.methodLink RX6 83 yX6_allFacts, Cond.instanceMethod yX6_allFacts, Cond.selects RX6 yX6_allFacts yX6_allFacts, Cond.code yX6_allFacts cX6_allFacts 1 (some .int), Cond.fieldLink RX6 7 "BallCourtModel" "facts" "I", Cond.methodLink RX6 121 yX6_so, Cond.instanceMethod yX6_so]
def wsX6_make_r2 : List Cond := [Cond.selects RX6 yX6_so yX6_so, Cond.code yX6_so cX6_so 4 (some .int), Cond.fieldLink RX6 33 "BallCourtModel" "toldSo" "[I", Cond.fieldLink RX6 36 "BallCourtModel" "toldNot" "[I", Cond.methodLink RX6 124 yX6_notSo, Cond.instanceMethod yX6_notSo, Cond.selects RX6 yX6_notSo yX6_notSo, Cond.code yX6_notSo cX6_notSo 4 (some .int), Cond.methodLink RX6 134 yX6_mayBes, Cond.instanceMethod yX6_mayBes, Cond.selects RX6 yX6_mayBes yX6_mayBes, Cond.code yX6_mayBes cX6_mayBes 5 (some .int), Cond.methodLink RX6 127 yX6_mayBe, Cond.instanceMethod yX6_mayBe, Cond.selects RX6 yX6_mayBe yX6_mayBe, Cond.code yX6_mayBe cX6_mayBe 3 (some .boolean), Cond.methodLink RX6 100 yX6_isKind, Cond.instanceMethod yX6_isKind, Cond.selects RX6 yX6_isKind yX6_isKind, Cond.code yX6_isKind cX6_isKind 4 (some .boolean), Cond.fieldLink RX6 13 "BallCourtModel" "bars" "[I", Cond.methodLink RX6 109 yX6_rulingFor, Cond.instanceMethod yX6_rulingFor, Cond.selects RX6 yX6_rulingFor yX6_rulingFor]
def wsX6_make_r3 : List Cond := [Cond.code yX6_rulingFor cX6_rulingFor 3 (some .int), Cond.fieldLink RX6 23 "BallCourtModel" "ruling" "[I", Cond.methodLink RX6 106 yX6_lineFor, Cond.instanceMethod yX6_lineFor, Cond.selects RX6 yX6_lineFor yX6_lineFor, Cond.code yX6_lineFor cX6_lineFor 5 (some .int), Cond.fieldLink RX6 70 "BallCourtModel" "lines" "I", Cond.fieldLink RX6 30 "BallCourtModel" "excepts" "[I", Cond.methodLink RX6 103 yX6_holding, Cond.instanceMethod yX6_holding, Cond.selects RX6 yX6_holding yX6_holding, Cond.code yX6_holding cX6_holding 5 (some .int), Cond.fieldLink RX6 26 "BallCourtModel" "isRepealed" "[Z", Cond.fieldLink RX6 17 "BallCourtModel" "must" "[I", Cond.fieldLink RX6 20 "BallCourtModel" "mustNot" "[I", Cond.methodLink RX6 141 yX6_verdictOf, Cond.instanceMethod yX6_verdictOf, Cond.selects RX6 yX6_verdictOf yX6_verdictOf, Cond.code yX6_verdictOf cX6_verdictOf 5 (some .int), Cond.fieldLink RX6 39 "BallCourtModel" "ruled" "[I", Cond.methodLink RX6 138 yX6_bindingCase, Cond.instanceMethod yX6_bindingCase, Cond.selects RX6 yX6_bindingCase yX6_bindingCase, Cond.code yX6_bindingCase cX6_bindingCase 4 (some .int)]
def wsX6_make_r4 : List Cond := [Cond.methodLink RX6 97 yX6_namedBy, Cond.instanceMethod yX6_namedBy, Cond.selects RX6 yX6_namedBy yX6_namedBy, Cond.code yX6_namedBy cX6_namedBy 5 (some .int)]
def wsX6_make : List Cond := .code yX6_make cX6_make 4 (some .int) :: ((wsX6_make_r1 ++ (wsX6_make_r2 ++ (wsX6_make_r3 ++ wsX6_make_r4))) ++ wsX60)
def wsX6_ofCase : List Cond := .code yX6_ofCase cX6_ofCase 3 (some .int) :: ([.fieldLink RX6 76 "BallCourtModel" "cases" "I", .fieldLink RX6 42 "BallCourtModel" "caseKind" "[I", .fieldLink RX6 45 "BallCourtModel" "caseRuling" "[I", .fieldLink RX6 48 "BallCourtModel" "caseNames" "[I", .methodLink RX6 66 yX6_in, .static yX6_in, .initialized RX6, .code yX6_in cX6_in 3 (some .boolean)] ++ wsX60)
def wsX6_turned : List Cond := .code yX6_turned cX6_turned 3 (some .int) :: ([.fieldLink RX6 76 "BallCourtModel" "cases" "I", .fieldLink RX6 45 "BallCourtModel" "caseRuling" "[I", .fieldLink RX6 42 "BallCourtModel" "caseKind" "[I", .methodLink RX6 109 yX6_rulingFor, .instanceMethod yX6_rulingFor, .selects RX6 yX6_rulingFor yX6_rulingFor, .initialized RX6, .code yX6_rulingFor cX6_rulingFor 3 (some .int), .fieldLink RX6 23 "BallCourtModel" "ruling" "[I", .methodLink RX6 106 yX6_lineFor, .instanceMethod yX6_lineFor, .selects RX6 yX6_lineFor yX6_lineFor, .code yX6_lineFor cX6_lineFor 5 (some .int), .fieldLink RX6 70 "BallCourtModel" "lines" "I", .fieldLink RX6 30 "BallCourtModel" "excepts" "[I", .methodLink RX6 103 yX6_holding, .instanceMethod yX6_holding, .selects RX6 yX6_holding yX6_holding, .code yX6_holding cX6_holding 5 (some .int), .fieldLink RX6 26 "BallCourtModel" "isRepealed" "[Z", .fieldLink RX6 17 "BallCourtModel" "must" "[I", .fieldLink RX6 20 "BallCourtModel" "mustNot" "[I"] ++ wsX60)
def wsX6_mend_r1 : List Cond := [Cond.fieldLink RX6 76 "BallCourtModel" "cases" "I", Cond.fieldLink RX6 54 "BallCourtModel" "before" "[I", Cond.fieldLink RX6 42 "BallCourtModel" "caseKind" "[I", Cond.fieldLink RX6 73 "BallCourtModel" "moments" "I", Cond.fieldLink RX6 57 "BallCourtModel" "verdict" "[I", Cond.fieldLink RX6 26 "BallCourtModel" "isRepealed" "[Z", Cond.methodLink RX6 90 yX6_isLine, Cond.instanceMethod yX6_isLine, Cond.selects RX6 yX6_isLine yX6_isLine, Cond.initialized RX6, Cond.code yX6_isLine cX6_isLine 2 (some .boolean), Cond.fieldLink RX6 70 "BallCourtModel" "lines" "I", Cond.methodLink RX6 66 yX6_in, Cond.static yX6_in, Cond.code yX6_in cX6_in 3 (some .boolean), Cond.methodLink RX6 115 yX6_turnedKinds, Cond.instanceMethod yX6_turnedKinds, Cond.selects RX6 yX6_turnedKinds yX6_turnedKinds, Cond.code yX6_turnedKinds cX6_turnedKinds 4 (some .int), Cond.methodLink RX6 83 yX6_allFacts, Cond.instanceMethod yX6_allFacts, Cond.selects RX6 yX6_allFacts yX6_allFacts, Cond.code yX6_allFacts cX6_allFacts 1 (some .int), Cond.fieldLink RX6 7 "BallCourtModel" "facts" "I"]
def wsX6_mend_r2 : List Cond := [Cond.methodLink RX6 112 yX6_bound, Cond.instanceMethod yX6_bound, Cond.selects RX6 yX6_bound yX6_bound, Cond.code yX6_bound cX6_bound 2 (some .int), Cond.methodLink RX6 109 yX6_rulingFor, Cond.instanceMethod yX6_rulingFor, Cond.selects RX6 yX6_rulingFor yX6_rulingFor, Cond.code yX6_rulingFor cX6_rulingFor 3 (some .int), Cond.fieldLink RX6 23 "BallCourtModel" "ruling" "[I", Cond.methodLink RX6 106 yX6_lineFor, Cond.instanceMethod yX6_lineFor, Cond.selects RX6 yX6_lineFor yX6_lineFor, Cond.code yX6_lineFor cX6_lineFor 5 (some .int), Cond.fieldLink RX6 30 "BallCourtModel" "excepts" "[I", Cond.methodLink RX6 103 yX6_holding, Cond.instanceMethod yX6_holding, Cond.selects RX6 yX6_holding yX6_holding, Cond.code yX6_holding cX6_holding 5 (some .int), Cond.fieldLink RX6 17 "BallCourtModel" "must" "[I", Cond.fieldLink RX6 20 "BallCourtModel" "mustNot" "[I", Cond.methodLink RX6 100 yX6_isKind, Cond.instanceMethod yX6_isKind, Cond.selects RX6 yX6_isKind yX6_isKind, Cond.code yX6_isKind cX6_isKind 4 (some .boolean)]
def wsX6_mend_r3 : List Cond := [Cond.fieldLink RX6 13 "BallCourtModel" "bars" "[I", Cond.methodLink RX6 141 yX6_verdictOf, Cond.instanceMethod yX6_verdictOf, Cond.selects RX6 yX6_verdictOf yX6_verdictOf, Cond.code yX6_verdictOf cX6_verdictOf 5 (some .int), Cond.fieldLink RX6 39 "BallCourtModel" "ruled" "[I", Cond.fieldLink RX6 45 "BallCourtModel" "caseRuling" "[I", Cond.methodLink RX6 134 yX6_mayBes, Cond.instanceMethod yX6_mayBes, Cond.selects RX6 yX6_mayBes yX6_mayBes, Cond.code yX6_mayBes cX6_mayBes 5 (some .int), Cond.methodLink RX6 127 yX6_mayBe, Cond.instanceMethod yX6_mayBe, Cond.selects RX6 yX6_mayBe yX6_mayBe, Cond.code yX6_mayBe cX6_mayBe 3 (some .boolean), Cond.methodLink RX6 121 yX6_so, Cond.instanceMethod yX6_so, Cond.selects RX6 yX6_so yX6_so, Cond.code yX6_so cX6_so 4 (some .int), Cond.fieldLink RX6 33 "BallCourtModel" "toldSo" "[I", Cond.fieldLink RX6 36 "BallCourtModel" "toldNot" "[I", Cond.methodLink RX6 124 yX6_notSo, Cond.instanceMethod yX6_notSo, Cond.selects RX6 yX6_notSo yX6_notSo]
def wsX6_mend_r4 : List Cond := [Cond.code yX6_notSo cX6_notSo 4 (some .int), Cond.methodLink RX6 138 yX6_bindingCase, Cond.instanceMethod yX6_bindingCase, Cond.selects RX6 yX6_bindingCase yX6_bindingCase, Cond.code yX6_bindingCase cX6_bindingCase 4 (some .int), Cond.fieldLink RX6 48 "BallCourtModel" "caseNames" "[I", Cond.methodLink RX6 131 yX6_doubt, Cond.instanceMethod yX6_doubt, Cond.selects RX6 yX6_doubt yX6_doubt, Cond.code yX6_doubt cX6_doubt 2 (some .int)]
def wsX6_mend : List Cond := .code yX6_mend cX6_mend 6 (some .int) :: ((wsX6_mend_r1 ++ (wsX6_mend_r2 ++ (wsX6_mend_r3 ++ wsX6_mend_r4))) ++ wsX60)
def wsX6_goal : List Cond := .code yX6_goal cX6_goal 3 (some .int) :: ([.fieldLink RX6 51 "BallCourtModel" "goal" "I", .methodLink RX6 66 yX6_in, .static yX6_in, .initialized RX6, .code yX6_in cX6_in 3 (some .boolean)] ++ wsX60)
def wsX6_begin : List Cond := .code yX6_begin cX6_begin 1 none :: ([.fieldLink RX6 60 "BallCourtModel" "state" "[I"] ++ wsX60)
def wsX6_play : List Cond := .code yX6_play cX6_play 3 none :: ([.fieldLink RX6 60 "BallCourtModel" "state" "[I", .fieldLink RX6 51 "BallCourtModel" "goal" "I"] ++ wsX60)
def wsX6_score_r1 : List Cond := [Cond.fieldLink RX6 73 "BallCourtModel" "moments" "I", Cond.fieldLink RX6 60 "BallCourtModel" "state" "[I", Cond.methodLink RX6 66 yX6_in, Cond.static yX6_in, Cond.initialized RX6, Cond.code yX6_in cX6_in 3 (some .boolean), Cond.methodLink RX6 144 yX6_begin, Cond.instanceMethod yX6_begin, Cond.selects RX6 yX6_begin yX6_begin, Cond.code yX6_begin cX6_begin 1 none, Cond.methodLink RX6 141 yX6_verdictOf, Cond.instanceMethod yX6_verdictOf, Cond.selects RX6 yX6_verdictOf yX6_verdictOf, Cond.code yX6_verdictOf cX6_verdictOf 5 (some .int), Cond.fieldLink RX6 39 "BallCourtModel" "ruled" "[I", Cond.fieldLink RX6 45 "BallCourtModel" "caseRuling" "[I", Cond.methodLink RX6 134 yX6_mayBes, Cond.instanceMethod yX6_mayBes, Cond.selects RX6 yX6_mayBes yX6_mayBes, Cond.code yX6_mayBes cX6_mayBes 5 (some .int), Cond.methodLink RX6 83 yX6_allFacts, Cond.instanceMethod yX6_allFacts, Cond.selects RX6 yX6_allFacts yX6_allFacts, Cond.code yX6_allFacts cX6_allFacts 1 (some .int)]
def wsX6_score_r2 : List Cond := [Cond.fieldLink RX6 7 "BallCourtModel" "facts" "I", Cond.methodLink RX6 127 yX6_mayBe, Cond.instanceMethod yX6_mayBe, Cond.selects RX6 yX6_mayBe yX6_mayBe, Cond.code yX6_mayBe cX6_mayBe 3 (some .boolean), Cond.methodLink RX6 100 yX6_isKind, Cond.instanceMethod yX6_isKind, Cond.selects RX6 yX6_isKind yX6_isKind, Cond.code yX6_isKind cX6_isKind 4 (some .boolean), Cond.fieldLink RX6 13 "BallCourtModel" "bars" "[I", Cond.methodLink RX6 121 yX6_so, Cond.instanceMethod yX6_so, Cond.selects RX6 yX6_so yX6_so, Cond.code yX6_so cX6_so 4 (some .int), Cond.fieldLink RX6 33 "BallCourtModel" "toldSo" "[I", Cond.fieldLink RX6 36 "BallCourtModel" "toldNot" "[I", Cond.methodLink RX6 124 yX6_notSo, Cond.instanceMethod yX6_notSo, Cond.selects RX6 yX6_notSo yX6_notSo, Cond.code yX6_notSo cX6_notSo 4 (some .int), Cond.methodLink RX6 109 yX6_rulingFor, Cond.instanceMethod yX6_rulingFor, Cond.selects RX6 yX6_rulingFor yX6_rulingFor, Cond.code yX6_rulingFor cX6_rulingFor 3 (some .int)]
def wsX6_score_r3 : List Cond := [Cond.fieldLink RX6 23 "BallCourtModel" "ruling" "[I", Cond.methodLink RX6 106 yX6_lineFor, Cond.instanceMethod yX6_lineFor, Cond.selects RX6 yX6_lineFor yX6_lineFor, Cond.code yX6_lineFor cX6_lineFor 5 (some .int), Cond.fieldLink RX6 70 "BallCourtModel" "lines" "I", Cond.fieldLink RX6 30 "BallCourtModel" "excepts" "[I", Cond.methodLink RX6 103 yX6_holding, Cond.instanceMethod yX6_holding, Cond.selects RX6 yX6_holding yX6_holding, Cond.code yX6_holding cX6_holding 5 (some .int), Cond.fieldLink RX6 26 "BallCourtModel" "isRepealed" "[Z", Cond.fieldLink RX6 17 "BallCourtModel" "must" "[I", Cond.fieldLink RX6 20 "BallCourtModel" "mustNot" "[I", Cond.methodLink RX6 138 yX6_bindingCase, Cond.instanceMethod yX6_bindingCase, Cond.selects RX6 yX6_bindingCase yX6_bindingCase, Cond.code yX6_bindingCase cX6_bindingCase 4 (some .int), Cond.fieldLink RX6 76 "BallCourtModel" "cases" "I", Cond.fieldLink RX6 48 "BallCourtModel" "caseNames" "[I", Cond.fieldLink RX6 42 "BallCourtModel" "caseKind" "[I", Cond.methodLink RX6 131 yX6_doubt, Cond.instanceMethod yX6_doubt, Cond.selects RX6 yX6_doubt yX6_doubt]
def wsX6_score_r4 : List Cond := [Cond.code yX6_doubt cX6_doubt 2 (some .int), Cond.methodLink RX6 147 yX6_play, Cond.instanceMethod yX6_play, Cond.selects RX6 yX6_play yX6_play, Cond.code yX6_play cX6_play 3 none, Cond.fieldLink RX6 51 "BallCourtModel" "goal" "I"]
def wsX6_score : List Cond := .code yX6_score cX6_score 4 (some .int) :: ((wsX6_score_r1 ++ (wsX6_score_r2 ++ (wsX6_score_r3 ++ wsX6_score_r4))) ++ wsX60)
def wsX6_packed : List Cond := .code yX6_packed cX6_packed 1 (some .int) :: ([.fieldLink RX6 60 "BallCourtModel" "state" "[I"] ++ wsX60)
def wsX6_appeal_r1 : List Cond := [Cond.fieldLink RX6 73 "BallCourtModel" "moments" "I", Cond.fieldLink RX6 57 "BallCourtModel" "verdict" "[I", Cond.fieldLink RX6 63 "BallCourtModel" "course" "[I", Cond.methodLink RX6 118 yX6_isMoment, Cond.instanceMethod yX6_isMoment, Cond.selects RX6 yX6_isMoment yX6_isMoment, Cond.initialized RX6, Cond.code yX6_isMoment cX6_isMoment 2 (some .boolean), Cond.methodLink RX6 66 yX6_in, Cond.static yX6_in, Cond.code yX6_in cX6_in 3 (some .boolean), Cond.methodLink RX6 87 yX6_isRuling, Cond.static yX6_isRuling, Cond.code yX6_isRuling cX6_isRuling 1 (some .boolean), Cond.methodLink RX6 144 yX6_begin, Cond.instanceMethod yX6_begin, Cond.selects RX6 yX6_begin yX6_begin, Cond.code yX6_begin cX6_begin 1 none, Cond.fieldLink RX6 60 "BallCourtModel" "state" "[I", Cond.methodLink RX6 141 yX6_verdictOf, Cond.instanceMethod yX6_verdictOf, Cond.selects RX6 yX6_verdictOf yX6_verdictOf, Cond.code yX6_verdictOf cX6_verdictOf 5 (some .int), Cond.fieldLink RX6 39 "BallCourtModel" "ruled" "[I"]
def wsX6_appeal_r2 : List Cond := [Cond.fieldLink RX6 45 "BallCourtModel" "caseRuling" "[I", Cond.methodLink RX6 134 yX6_mayBes, Cond.instanceMethod yX6_mayBes, Cond.selects RX6 yX6_mayBes yX6_mayBes, Cond.code yX6_mayBes cX6_mayBes 5 (some .int), Cond.methodLink RX6 83 yX6_allFacts, Cond.instanceMethod yX6_allFacts, Cond.selects RX6 yX6_allFacts yX6_allFacts, Cond.code yX6_allFacts cX6_allFacts 1 (some .int), Cond.fieldLink RX6 7 "BallCourtModel" "facts" "I", Cond.methodLink RX6 127 yX6_mayBe, Cond.instanceMethod yX6_mayBe, Cond.selects RX6 yX6_mayBe yX6_mayBe, Cond.code yX6_mayBe cX6_mayBe 3 (some .boolean), Cond.methodLink RX6 100 yX6_isKind, Cond.instanceMethod yX6_isKind, Cond.selects RX6 yX6_isKind yX6_isKind, Cond.code yX6_isKind cX6_isKind 4 (some .boolean), Cond.fieldLink RX6 13 "BallCourtModel" "bars" "[I", Cond.methodLink RX6 121 yX6_so, Cond.instanceMethod yX6_so, Cond.selects RX6 yX6_so yX6_so, Cond.code yX6_so cX6_so 4 (some .int), Cond.fieldLink RX6 33 "BallCourtModel" "toldSo" "[I"]
def wsX6_appeal_r3 : List Cond := [Cond.fieldLink RX6 36 "BallCourtModel" "toldNot" "[I", Cond.methodLink RX6 124 yX6_notSo, Cond.instanceMethod yX6_notSo, Cond.selects RX6 yX6_notSo yX6_notSo, Cond.code yX6_notSo cX6_notSo 4 (some .int), Cond.methodLink RX6 109 yX6_rulingFor, Cond.instanceMethod yX6_rulingFor, Cond.selects RX6 yX6_rulingFor yX6_rulingFor, Cond.code yX6_rulingFor cX6_rulingFor 3 (some .int), Cond.fieldLink RX6 23 "BallCourtModel" "ruling" "[I", Cond.methodLink RX6 106 yX6_lineFor, Cond.instanceMethod yX6_lineFor, Cond.selects RX6 yX6_lineFor yX6_lineFor, Cond.code yX6_lineFor cX6_lineFor 5 (some .int), Cond.fieldLink RX6 70 "BallCourtModel" "lines" "I", Cond.fieldLink RX6 30 "BallCourtModel" "excepts" "[I", Cond.methodLink RX6 103 yX6_holding, Cond.instanceMethod yX6_holding, Cond.selects RX6 yX6_holding yX6_holding, Cond.code yX6_holding cX6_holding 5 (some .int), Cond.fieldLink RX6 26 "BallCourtModel" "isRepealed" "[Z", Cond.fieldLink RX6 17 "BallCourtModel" "must" "[I", Cond.fieldLink RX6 20 "BallCourtModel" "mustNot" "[I", Cond.methodLink RX6 138 yX6_bindingCase]
def wsX6_appeal_r4 : List Cond := [Cond.instanceMethod yX6_bindingCase, Cond.selects RX6 yX6_bindingCase yX6_bindingCase, Cond.code yX6_bindingCase cX6_bindingCase 4 (some .int), Cond.fieldLink RX6 76 "BallCourtModel" "cases" "I", Cond.fieldLink RX6 48 "BallCourtModel" "caseNames" "[I", Cond.fieldLink RX6 42 "BallCourtModel" "caseKind" "[I", Cond.methodLink RX6 131 yX6_doubt, Cond.instanceMethod yX6_doubt, Cond.selects RX6 yX6_doubt yX6_doubt, Cond.code yX6_doubt cX6_doubt 2 (some .int), Cond.methodLink RX6 147 yX6_play, Cond.instanceMethod yX6_play, Cond.selects RX6 yX6_play yX6_play, Cond.code yX6_play cX6_play 3 none, Cond.fieldLink RX6 51 "BallCourtModel" "goal" "I", Cond.methodLink RX6 151 yX6_packed, Cond.instanceMethod yX6_packed, Cond.selects RX6 yX6_packed yX6_packed, Cond.code yX6_packed cX6_packed 1 (some .int)]
def wsX6_appeal : List Cond := .code yX6_appeal cX6_appeal 4 (some .int) :: ((wsX6_appeal_r1 ++ (wsX6_appeal_r2 ++ (wsX6_appeal_r3 ++ wsX6_appeal_r4))) ++ wsX60)
def wsX6_kinds_r1 : List Cond := [Cond.methodLink RX6 83 yX6_allFacts, Cond.instanceMethod yX6_allFacts, Cond.selects RX6 yX6_allFacts yX6_allFacts, Cond.initialized RX6, Cond.code yX6_allFacts cX6_allFacts 1 (some .int), Cond.fieldLink RX6 7 "BallCourtModel" "facts" "I", Cond.methodLink RX6 100 yX6_isKind, Cond.instanceMethod yX6_isKind, Cond.selects RX6 yX6_isKind yX6_isKind, Cond.code yX6_isKind cX6_isKind 4 (some .boolean), Cond.fieldLink RX6 13 "BallCourtModel" "bars" "[I", Cond.methodLink RX6 66 yX6_in, Cond.static yX6_in, Cond.code yX6_in cX6_in 3 (some .boolean), Cond.methodLink RX6 106 yX6_lineFor, Cond.instanceMethod yX6_lineFor, Cond.selects RX6 yX6_lineFor yX6_lineFor, Cond.code yX6_lineFor cX6_lineFor 5 (some .int), Cond.fieldLink RX6 70 "BallCourtModel" "lines" "I", Cond.fieldLink RX6 30 "BallCourtModel" "excepts" "[I", Cond.methodLink RX6 103 yX6_holding, Cond.instanceMethod yX6_holding, Cond.selects RX6 yX6_holding yX6_holding, Cond.code yX6_holding cX6_holding 5 (some .int)]
def wsX6_kinds_r2 : List Cond := [Cond.fieldLink RX6 26 "BallCourtModel" "isRepealed" "[Z", Cond.fieldLink RX6 17 "BallCourtModel" "must" "[I", Cond.fieldLink RX6 20 "BallCourtModel" "mustNot" "[I"]
def wsX6_kinds : List Cond := .code yX6_kinds cX6_kinds 4 (some .int) :: ((wsX6_kinds_r1 ++ wsX6_kinds_r2) ++ wsX60)
def wsX6_told_r1 : List Cond := [Cond.fieldLink RX6 7 "BallCourtModel" "facts" "I", Cond.fieldLink RX6 70 "BallCourtModel" "lines" "I", Cond.fieldLink RX6 73 "BallCourtModel" "moments" "I", Cond.fieldLink RX6 76 "BallCourtModel" "cases" "I", Cond.fieldLink RX6 51 "BallCourtModel" "goal" "I", Cond.methodLink RX6 154 yX6_kinds, Cond.instanceMethod yX6_kinds, Cond.selects RX6 yX6_kinds yX6_kinds, Cond.initialized RX6, Cond.code yX6_kinds cX6_kinds 4 (some .int), Cond.methodLink RX6 83 yX6_allFacts, Cond.instanceMethod yX6_allFacts, Cond.selects RX6 yX6_allFacts yX6_allFacts, Cond.code yX6_allFacts cX6_allFacts 1 (some .int), Cond.methodLink RX6 100 yX6_isKind, Cond.instanceMethod yX6_isKind, Cond.selects RX6 yX6_isKind yX6_isKind, Cond.code yX6_isKind cX6_isKind 4 (some .boolean), Cond.fieldLink RX6 13 "BallCourtModel" "bars" "[I", Cond.methodLink RX6 66 yX6_in, Cond.static yX6_in, Cond.code yX6_in cX6_in 3 (some .boolean), Cond.methodLink RX6 106 yX6_lineFor, Cond.instanceMethod yX6_lineFor]
def wsX6_told_r2 : List Cond := [Cond.selects RX6 yX6_lineFor yX6_lineFor, Cond.code yX6_lineFor cX6_lineFor 5 (some .int), Cond.fieldLink RX6 30 "BallCourtModel" "excepts" "[I", Cond.methodLink RX6 103 yX6_holding, Cond.instanceMethod yX6_holding, Cond.selects RX6 yX6_holding yX6_holding, Cond.code yX6_holding cX6_holding 5 (some .int), Cond.fieldLink RX6 26 "BallCourtModel" "isRepealed" "[Z", Cond.fieldLink RX6 17 "BallCourtModel" "must" "[I", Cond.fieldLink RX6 20 "BallCourtModel" "mustNot" "[I"]
def wsX6_told : List Cond := .code yX6_told cX6_told 2 (some .int) :: ((wsX6_told_r1 ++ wsX6_told_r2) ++ wsX60)
theorem inJ6 : ∀ w ∈ wsJ60, w ∈ lw_tbl := by decide +kernel
abbrev vwCl : List vw_C := [(RX0, TX0, 11), (RX1, TX1, 4), (RX2, TX2, 4), (RX3, TX3, 2), (RX4, TX4, 4), (RX5, TX5, 8), (RX6, TX6, 21)]
end
section
/-! my own base: the nest words as one premise, worlds, pure calls and writing calls, array rows by a Nat place -/
def nwF : List (String × Nat × String × String × String) := [("BallCourt", 63, "BallCourt$Moments", "count", "I"), ("BallCourt", 66, "BallCourt$Cases", "count", "I"), ("BallCourt", 67, "BallCourt$Book", "repealed", "I"), ("BallCourt", 73, "BallCourt$Book", "facts", "I"), ("BallCourt", 98, "BallCourt$Book", "lines", "I"), ("BallCourt", 115, "BallCourt$Book", "excepters", "[I"), ("BallCourt", 131, "BallCourt$Book", "must", "[I"), ("BallCourt", 134, "BallCourt$Book", "mustNot", "[I"), ("BallCourt", 137, "BallCourt$Book", "ruling", "[I"), ("BallCourt", 153, "BallCourt$Laws", "lineOf", "[I"), ("BallCourt", 159, "BallCourt$Book", "numbers", "I"), ("BallCourt", 201, "BallCourt$Moments", "ruled", "[I"), ("BallCourt", 207, "BallCourt$Cases", "kind", "[I"), ("BallCourt", 210, "BallCourt$Cases", "ruling", "[I"), ("BallCourt", 211, "BallCourt$Cases", "names", "[I"), ("BallCourt", 224, "BallCourt$Game", "hoopsOf0", "I"), ("BallCourt", 227, "BallCourt$Game", "hoopsOf1", "I"), ("BallCourt", 230, "BallCourt$Game", "striker", "I"), ("BallCourt$Laws", 19, "BallCourt$Book", "numbers", "I"), ("BallCourt$Laws", 33, "BallCourt$Book", "ruling", "[I")]
def nwM : List (String × Nat × MethodName) := [("BallCourt", 9, yX0_init), ("BallCourt", 30, yX4_init), ("BallCourt", 37, yX1_init), ("BallCourt", 44, yX2_init), ("BallCourt$Book", 50, yX5_hasBit), ("BallCourt$Moments", 25, yX5_hasBit)]
def NW (U : State) : Prop := (∀ q ∈ nwF, va_Nw (.fieldLinkNest q.1 q.2.1 q.2.2.1 q.2.2.2.1 q.2.2.2.2 "BallCourt") U) ∧ ∀ q ∈ nwM, va_Nw (.methodLinkNest q.1 q.2.1 q.2.2 "BallCourt") U
theorem NW.warm {s U : State} (hW : s.WarmedH U.vm) (h : NW s) : NW U := ⟨fun q hq => va_Nw.warmF hW (h.1 q hq), fun q hq => va_Nw.warmM hW (h.2 q hq)⟩
theorem NW.same {u U : State} (h : u.vm = U.vm) (hZ : NW u) : NW U := ⟨fun q hq => va_Nw.same rfl h (hZ.1 q hq), fun q hq => va_Nw.same rfl h (hZ.2 q hq)⟩
theorem NW.f {s : State} (h : NW s) (i : Nat) {own ref n d : String} {idx : Nat} (hq : nwF[i]? = some (own, idx, ref, n, d)) (args : Array Value) : (Cond.fieldLinkNest own idx ref n d "BallCourt").before args s = true := va_Nw.use rfl (h.1 _ (List.mem_of_getElem? hq))
theorem NW.m {s : State} (h : NW s) (i : Nat) {own : String} {idx : Nat} {y : MethodName} (hq : nwM[i]? = some (own, idx, y)) : va_Nw (.methodLinkNest own idx y "BallCourt") s := h.2 _ (List.mem_of_getElem? hq)
abbrev tyA (cI cZ : ClassId) : List (ClassId × FieldType) := [(cI, .int), (cZ, .boolean)]
def XP (D : va_G) (cI cZ : ClassId) (wc : va_W) (U : State) : Prop := va_P D vwCl wc U.heap ∧ va_K D vwCl (tyA cI cZ) U ∧ NW U
def XW (D : va_G) (cI cZ : ClassId) (wc : va_W) (sz : Nat) (U : State) : Prop := U.heap.size = sz ∧ XP D cI cZ wc U ∧ va_D (fun _ => True) wc
def XB (D : va_G) (cI cZ : ClassId) (A : Nat → Prop) (w : va_W) (t : State) : Prop := XP D cI cZ w t ∧ va_D A w
theorem XP.blind {D : va_G} {cI cZ : ClassId} {wc : va_W} {As : List Value} : FrameBlind (va_Pc As (XP D cI cZ wc)) := fun a U g mk q => by
  obtain ⟨q0, qP, qK, qN⟩ := q
  exact ⟨q0, qP, va_K.moved (u := U) (U := U.calling g mk a) (Vm.Alike.refl U.vm) qK, NW.same (u := U) (U := U.calling g mk a) rfl qN⟩
theorem XW.blind {D : va_G} {cI cZ : ClassId} {wc : va_W} {sz : Nat} {As : List Value} : FrameBlind (va_Pc As (XW D cI cZ wc sz)) := fun a U g mk q => by
  obtain ⟨q0, qz, ⟨qP, qK, qN⟩, qD⟩ := q
  exact ⟨q0, qz, ⟨qP, va_K.moved (u := U) (U := U.calling g mk a) (Vm.Alike.refl U.vm) qK, NW.same (u := U) (U := U.calling g mk a) rfl qN⟩, qD⟩
theorem fm_of_map {α β : Type} {f : α → Option β} : ∀ {l : List α} {r : List β}, l.map f = r.map some → l.filterMap f = r
  | [], [], _ => rfl
  | [], _ :: _, h => by cases h
  | _ :: _, [], h => by cases h
  | a :: l, b :: r, h => by
    simp only [List.map_cons, List.cons.injEq] at h
    rw [List.filterMap_cons, h.1]
    simp only [fm_of_map h.2]
section XC
variable {p : Program} {l : Launch} {e : Env} {R : Room} {s : State} {m : MethodId} {args : Array Value} {below : List Frame} {meth : Method} {c : Code} {H : Heap} {locs : List Loc} {cells slots : Nat} {Q : State → Prop}
variable {y : MethodName} {bytes cc : ByteArray} {maxL nL mc ms n index : Nat} {ret : Option FieldType} {ws : List Cond} {rm : Room} {Ts : List Cond} {own C : String} {b : Addr} {As rest st0 : List Value} {pc : Nat} {ls : Array Slot}
variable {D : va_G} {cI cZ : ClassId} {ws0 wc wr : va_W} {A0 : Nat → Prop} {H0 : Heap} {ci q0 N : Nat} {T : u_T} {fs : List Value}
theorem lv_asi {x x' : Int32} (h : x = x') (k : W p l e R s m args below meth c H locs cells slots Q (F0 m pc ls (.int x' :: rest))) : W p l e R s m args below meth c H locs cells slots Q (F0 m pc ls (.int x :: rest)) := h ▸ k
theorem xpV {post : Int32 → Prop} (S : CallFix p m c cc nL s args Ts own) (hM : Met l y ws rm (va_Pc (.ref b :: As) (XP D cI cZ wc)) (vp_Si post) 0 0 (fun _ => False)) (cw : CallW R s args own C index y bytes maxL ret ws rm 0 0 n)
    (hP : va_P D vwCl ws0 H) (is : List Nat) (hs : is.map (fun i => ws0[i]?) = wc.map some) (hK : va_K D vwCl (tyA cI cZ) s) (hN : NW s) (hc : vwCl[ci]? = some (C, T, N)) (he : ws0[q0]? = some (b, .inr (ci, fs)))
    (hn : As.length = n) (hsize : ls.size = nL) (hstack : st0 = As.reverse ++ .ref b :: rest) (hW : (rest.map fun v => v.category).sum ≤ 8) (hdg : decode cc pc = .ok (.invokevirtual index, 3)) (hf : cells ≤ R.cells ∧ slots ≤ R.slots)
    (kk : ∀ r : Int32, post r → W p l e R s m args below meth c H locs cells slots Q (F0 m (pc + 3) ls (.int r :: rest))) : W p l e R s m args below meth c H locs cells slots Q (F0 m pc ls st0) :=
  vp_callSi (va_Run.run (va_runV S hM cw ⟨XP.blind, va_recv hK hP hc he, fun U hU hW => ⟨rfl, by rw [hU]; exact hP.sub is (fm_of_map hs), va_K.moved hW.alike hK, NW.warm hW hN⟩⟩ rfl hn hsize hstack (lv_room hW) hdg hf)) kk
theorem xpS {post : Int32 → Prop} (S : CallFix p m c cc nL s args Ts own) (hM : Met l y ws rm (va_Pc As (XP D cI cZ wc)) (vp_Si post) 0 0 (fun _ => False)) (cw : CallB R s args own index y bytes maxL ret ws rm 0 0 n ∧ (Cond.static y).before args s = true)
    (hP : va_P D vwCl ws0 H) (is : List Nat) (hs : is.map (fun i => ws0[i]?) = wc.map some) (hK : va_K D vwCl (tyA cI cZ) s) (hN : NW s)
    (hn : As.length = n) (hsize : ls.size = nL) (hstack : st0 = As.reverse ++ rest) (hW : (rest.map fun v => v.category).sum ≤ 8) (hdg : decode cc pc = .ok (.invokestatic index, 3)) (hf : cells ≤ R.cells ∧ slots ≤ R.slots)
    (kk : ∀ r : Int32, post r → W p l e R s m args below meth c H locs cells slots Q (F0 m (pc + 3) ls (.int r :: rest))) : W p l e R s m args below meth c H locs cells slots Q (F0 m pc ls st0) :=
  vp_callSi (va_Run.run (va_runS S hM cw ⟨XP.blind, fun U hU hW => ⟨rfl, by rw [hU]; exact hP.sub is (fm_of_map hs), va_K.moved hW.alike hK, NW.warm hW hN⟩⟩ rfl hn hsize hstack (lv_room hW) hdg hf)) kk
theorem xpSN {host : String} {post : Int32 → Prop} (S : CallFix p m c cc nL s args Ts own) (hM : Met l y ws rm (va_Pc As (XP D cI cZ wc)) (vp_Si post) 0 0 (fun _ => False)) (cw : va_CN R s args own index y host bytes maxL ret ws rm 0 0 n) (hst : (Cond.static y).before args s = true)
    (hP : va_P D vwCl ws0 H) (is : List Nat) (hs : is.map (fun i => ws0[i]?) = wc.map some) (hK : va_K D vwCl (tyA cI cZ) s) (hN : NW s)
    (hn : As.length = n) (hsize : ls.size = nL) (hstack : st0 = As.reverse ++ rest) (hW : (rest.map fun v => v.category).sum ≤ 8) (hdg : decode cc pc = .ok (.invokestatic index, 3)) (hf : cells ≤ R.cells ∧ slots ≤ R.slots)
    (kk : ∀ r : Int32, post r → W p l e R s m args below meth c H locs cells slots Q (F0 m (pc + 3) ls (.int r :: rest))) : W p l e R s m args below meth c H locs cells slots Q (F0 m pc ls st0) :=
  vp_callSi (va_Run.run (va_runSN S hM ⟨cw, hst, trivial⟩ ⟨XP.blind, fun U hU hW => ⟨rfl, by rw [hU]; exact hP.sub is (fm_of_map hs), va_K.moved hW.alike hK, NW.warm hW hN⟩⟩ rfl hn hsize hstack (lv_room hW) hdg hf)) kk
theorem xw_pre (hP : va_P D vwCl ws0 H) (hD : va_D A0 ws0) (isC : List Nat) (hC : isC.map (fun i => ws0[i]?) = wc.map some) (hnC : va_nd isC = true) (hK : va_K D vwCl (tyA cI cZ) s) (hN : NW s) : ∀ U : State, U.heap = H → s.WarmedH U.vm → va_Pc As (XW D cI cZ wc H.size) As.toArray U :=
  fun U hU hW => ⟨rfl, by rw [hU], ⟨by rw [hU]; exact hP.sub isC (fm_of_map hC), va_K.moved hW.alike hK, NW.warm hW hN⟩, (hD.sub isC hnC hC).weaken (fun _ _ _ _ => trivial)⟩
theorem xwV {S0 : Type} {post : Int32 → S0 → Prop} {w1 : S0 → va_W} (S : CallFix p m c cc nL s args Ts own) (hM : Met l y ws rm (va_Pc (.ref b :: As) (XW D cI cZ wc H.size)) (va_Qi post (fun u => XB D cI cZ (va_A wc H.size) (w1 u)) (va_A wc H.size)) mc ms (va_A wc H.size)) (cw : CallW R s args own C index y bytes maxL ret ws rm mc ms n)
    (hP : va_P D vwCl ws0 H) (hD : va_D A0 ws0) (hS : va_S A0 H0 H locs) (hA : ∀ q, H0.size ≤ q → A0 q) (isC isR : List Nat) (hC : isC.map (fun i => ws0[i]?) = wc.map some) (hR : isR.map (fun i => ws0[i]?) = wr.map some) (hnC : va_nd isC = true) (hnR : va_nd isR = true) (hdis : ∀ i ∈ isR, i ∉ isC)
    (hK : va_K D vwCl (tyA cI cZ) s) (hN : NW s) (hc : vwCl[ci]? = some (C, T, N)) (he : ws0[q0]? = some (b, .inr (ci, fs)))
    (hn : As.length = n) (hsize : ls.size = nL) (hstack : st0 = As.reverse ++ .ref b :: rest) (hW : (rest.map fun v => v.category).sum ≤ 8) (hdg : decode cc pc = .ok (.invokevirtual index, 3)) (hf : cells + mc ≤ R.cells ∧ slots + ms ≤ R.slots)
    (kk : ∀ (r : Int32) (u : S0) (H1 : Heap) (locs1 : List Loc), post r u → va_P D vwCl (wr ++ w1 u) H1 → va_D A0 (wr ++ w1 u) → va_S A0 H0 H1 locs1 → W p l e R s m args below meth c H1 locs1 (cells + mc) (slots + ms) Q (F0 m (pc + 3) ls (.int r :: rest))) : W p l e R s m args below meth c H locs cells slots Q (F0 m pc ls st0) :=
  va_calli (va_runV S hM cw ⟨XW.blind, va_recv hK hP hc he, xw_pre hP hD isC hC hnC hK hN⟩ rfl hn hsize hstack (lv_room hW) hdg hf) hS (fun q _ h => va_free hD hS hA isC hC q h) (va_free hD hS hA isC hC) (fun r u t H1 locs1 ht _ hw hB _ hk1 hS1 => by
    obtain ⟨⟨hP1, -, -⟩, hD1⟩ := hB
    rw [ht] at hP1
    obtain ⟨hP2, hD2⟩ := va_join hP hD isC isR hC hR hnR hdis hk1 (va_free hD hS hA isC hC) hP1 hD1
    exact kk r u H1 locs1 hw hP2 hD2 hS1)
theorem xwVv {S0 : Type} {post : S0 → Prop} {w1 : S0 → va_W} (S : CallFix p m c cc nL s args Ts own) (hM : Met l y ws rm (va_Pc (.ref b :: As) (XW D cI cZ wc H.size)) (va_Qv post (fun u => XB D cI cZ (va_A wc H.size) (w1 u)) (va_A wc H.size)) mc ms (va_A wc H.size)) (cw : CallW R s args own C index y bytes maxL ret ws rm mc ms n)
    (hP : va_P D vwCl ws0 H) (hD : va_D A0 ws0) (hS : va_S A0 H0 H locs) (hA : ∀ q, H0.size ≤ q → A0 q) (isC isR : List Nat) (hC : isC.map (fun i => ws0[i]?) = wc.map some) (hR : isR.map (fun i => ws0[i]?) = wr.map some) (hnC : va_nd isC = true) (hnR : va_nd isR = true) (hdis : ∀ i ∈ isR, i ∉ isC)
    (hK : va_K D vwCl (tyA cI cZ) s) (hN : NW s) (hc : vwCl[ci]? = some (C, T, N)) (he : ws0[q0]? = some (b, .inr (ci, fs)))
    (hn : As.length = n) (hsize : ls.size = nL) (hstack : st0 = As.reverse ++ .ref b :: rest) (hW : (rest.map fun v => v.category).sum ≤ 8) (hdg : decode cc pc = .ok (.invokevirtual index, 3)) (hf : cells + mc ≤ R.cells ∧ slots + ms ≤ R.slots)
    (kk : ∀ (u : S0) (H1 : Heap) (locs1 : List Loc), post u → va_P D vwCl (wr ++ w1 u) H1 → va_D A0 (wr ++ w1 u) → va_S A0 H0 H1 locs1 → W p l e R s m args below meth c H1 locs1 (cells + mc) (slots + ms) Q (F0 m (pc + 3) ls rest)) : W p l e R s m args below meth c H locs cells slots Q (F0 m pc ls st0) :=
  va_callv (va_runV S hM cw ⟨XW.blind, va_recv hK hP hc he, xw_pre hP hD isC hC hnC hK hN⟩ rfl hn hsize hstack (lv_room hW) hdg hf) hS (fun q _ h => va_free hD hS hA isC hC q h) (va_free hD hS hA isC hC) (fun u t H1 locs1 ht _ hw hB _ hk1 hS1 => by
    obtain ⟨⟨hP1, -, -⟩, hD1⟩ := hB
    rw [ht] at hP1
    obtain ⟨hP2, hD2⟩ := va_join hP hD isC isR hC hR hnR hdis hk1 (va_free hD hS hA isC hC) hP1 hD1
    exact kk u H1 locs1 hw hP2 hD2 hS1)
theorem xwI {S0 : Type} {post : S0 → Prop} {w1 : S0 → va_W} (S : CallFix p m c cc nL s args Ts own) (hM : Met l y ws rm (va_Pc (.ref b :: As) (XW D cI cZ wc H.size)) (va_Qv post (fun u => XB D cI cZ (va_A wc H.size) (w1 u)) (va_A wc H.size)) mc ms (va_A wc H.size)) (cw : CallB R s args own index y bytes maxL none ws rm mc ms n ∧ y.name = "<init>" ∧ (Cond.instanceMethod y).before args s = true)
    (hP : va_P D vwCl ws0 H) (hD : va_D A0 ws0) (hS : va_S A0 H0 H locs) (hA : ∀ q, H0.size ≤ q → A0 q) (isC isR : List Nat) (hC : isC.map (fun i => ws0[i]?) = wc.map some) (hR : isR.map (fun i => ws0[i]?) = wr.map some) (hnC : va_nd isC = true) (hnR : va_nd isR = true) (hdis : ∀ i ∈ isR, i ∉ isC)
    (hK : va_K D vwCl (tyA cI cZ) s) (hN : NW s)
    (hn : As.length = n) (hsize : ls.size = nL) (hstack : st0 = As.reverse ++ .ref b :: rest) (hW : (rest.map fun v => v.category).sum ≤ 8) (hdg : decode cc pc = .ok (.invokespecial index, 3)) (hf : cells + mc ≤ R.cells ∧ slots + ms ≤ R.slots)
    (kk : ∀ (u : S0) (H1 : Heap) (locs1 : List Loc), post u → va_P D vwCl (wr ++ w1 u) H1 → va_D A0 (wr ++ w1 u) → va_S A0 H0 H1 locs1 → W p l e R s m args below meth c H1 locs1 (cells + mc) (slots + ms) Q (F0 m (pc + 3) ls rest)) : W p l e R s m args below meth c H locs cells slots Q (F0 m pc ls st0) :=
  va_callv (va_runI S hM cw ⟨XW.blind, xw_pre hP hD isC hC hnC hK hN⟩ rfl hn hsize hstack (lv_room hW) hdg hf) hS (fun q _ h => va_free hD hS hA isC hC q h) (va_free hD hS hA isC hC) (fun u t H1 locs1 ht _ hw hB _ hk1 hS1 => by
    obtain ⟨⟨hP1, -, -⟩, hD1⟩ := hB
    rw [ht] at hP1
    obtain ⟨hP2, hD2⟩ := va_join hP hD isC isR hC hR hnR hdis hk1 (va_free hD hS hA isC hC) hP1 hD1
    exact kk u H1 locs1 hw hP2 hD2 hS1)
theorem xwIN {host : String} {S0 : Type} {post : S0 → Prop} {w1 : S0 → va_W} (S : CallFix p m c cc nL s args Ts own) (hM : Met l y ws rm (va_Pc (.ref b :: As) (XW D cI cZ wc H.size)) (va_Qv post (fun u => XB D cI cZ (va_A wc H.size) (w1 u)) (va_A wc H.size)) mc ms (va_A wc H.size)) (cw : va_CN R s args own index y host bytes maxL none ws rm mc ms n ∧ y.name = "<init>" ∧ (Cond.instanceMethod y).before args s = true)
    (hP : va_P D vwCl ws0 H) (hD : va_D A0 ws0) (hS : va_S A0 H0 H locs) (hA : ∀ q, H0.size ≤ q → A0 q) (isC isR : List Nat) (hC : isC.map (fun i => ws0[i]?) = wc.map some) (hR : isR.map (fun i => ws0[i]?) = wr.map some) (hnC : va_nd isC = true) (hnR : va_nd isR = true) (hdis : ∀ i ∈ isR, i ∉ isC)
    (hK : va_K D vwCl (tyA cI cZ) s) (hN : NW s)
    (hn : As.length = n) (hsize : ls.size = nL) (hstack : st0 = As.reverse ++ .ref b :: rest) (hW : (rest.map fun v => v.category).sum ≤ 8) (hdg : decode cc pc = .ok (.invokespecial index, 3)) (hf : cells + mc ≤ R.cells ∧ slots + ms ≤ R.slots)
    (kk : ∀ (u : S0) (H1 : Heap) (locs1 : List Loc), post u → va_P D vwCl (wr ++ w1 u) H1 → va_D A0 (wr ++ w1 u) → va_S A0 H0 H1 locs1 → W p l e R s m args below meth c H1 locs1 (cells + mc) (slots + ms) Q (F0 m (pc + 3) ls rest)) : W p l e R s m args below meth c H locs cells slots Q (F0 m pc ls st0) :=
  va_callv (va_runIN S hM cw ⟨XW.blind, xw_pre hP hD isC hC hnC hK hN⟩ rfl hn hsize hstack (lv_room hW) hdg hf) hS (fun q _ h => va_free hD hS hA isC hC q h) (va_free hD hS hA isC hC) (fun u t H1 locs1 ht _ hw hB _ hk1 hS1 => by
    obtain ⟨⟨hP1, -, -⟩, hD1⟩ := hB
    rw [ht] at hP1
    obtain ⟨hP2, hD2⟩ := va_join hP hD isC isR hC hR hnR hdis hk1 (va_free hD hS hA isC hC) hP1 hD1
    exact kk u H1 locs1 hw hP2 hD2 hS1)
/-- arrays by a Nat place -/
theorem xald (hexec : p.tables.exec = Jvm.exec) (hb : c.code = cc) (hK : va_K D vwCl (tyA cI cZ) s) (hP : va_P D vwCl ws0 H) (q0 : Nat) {a n k : Nat} {f : Nat → Int32} (ha : ws0[q0]? = some (a, .inl (cI, n, .inl f))) (hk : k < n) (hn : n < 2 ^ 31) (hdg : decode cc pc = .ok (.iaload, 1))
    (kk : W p l e R s m args below meth c H locs cells slots Q (F0 m (pc + 1) ls (.int (f k) :: rest))) : W p l e R s m args below meth c H locs cells slots Q (F0 m pc ls (.int (nI k) :: .ref a :: rest)) :=
  va_iald hexec hb hK hP q0 0 ha rfl (vp_in_nI hk hn) hdg (by rw [nI_clamp (Nat.lt_trans hk hn)]; exact kk)
theorem xzld (hexec : p.tables.exec = Jvm.exec) (hb : c.code = cc) (hK : va_K D vwCl (tyA cI cZ) s) (hP : va_P D vwCl ws0 H) (q0 : Nat) {a n k : Nat} {f : Nat → Int32} (ha : ws0[q0]? = some (a, .inl (cZ, n, .inl f))) (hk : k < n) (hn : n < 2 ^ 31) (hdg : decode cc pc = .ok (.baload, 1))
    (kk : W p l e R s m args below meth c H locs cells slots Q (F0 m (pc + 1) ls (.int (f k) :: rest))) : W p l e R s m args below meth c H locs cells slots Q (F0 m pc ls (.int (nI k) :: .ref a :: rest)) :=
  va_zald hexec hb hK hP q0 1 ha rfl (vp_in_nI hk hn) hdg (by rw [nI_clamp (Nat.lt_trans hk hn)]; exact kk)
theorem xast (hexec : p.tables.exec = Jvm.exec) (hb : c.code = cc) (hK : va_K D vwCl (tyA cI cZ) s) (hP : va_P D vwCl ws0 H) (hD : va_D A0 ws0) (hS : va_S A0 H0 H locs) (q0 : Nat) {a n k : Nat} {f : Nat → Int32} (ha : ws0[q0]? = some (a, .inl (cI, n, .inl f))) {x : Int32} (hk : k < n) (hn : n < 2 ^ 31) (hdg : decode cc pc = .ok (.iastore, 1))
    (kk : ∀ (H1 : Heap) (locs1 : List Loc), va_P D vwCl (ws0.set q0 (a, .inl (cI, n, .inl (upd f k x)))) H1 → va_D A0 (ws0.set q0 (a, .inl (cI, n, .inl (upd f k x)))) → va_S A0 H0 H1 locs1 → W p l e R s m args below meth c H1 locs1 cells slots Q (F0 m (pc + 1) ls rest)) : W p l e R s m args below meth c H locs cells slots Q (F0 m pc ls (.int x :: .int (nI k) :: .ref a :: rest)) :=
  va_iast hexec hb hK hP hD hS q0 0 ha rfl (vp_in_nI hk hn) hdg (by rw [nI_clamp (Nat.lt_trans hk hn)]; exact kk)
theorem xzst (hexec : p.tables.exec = Jvm.exec) (hb : c.code = cc) (hK : va_K D vwCl (tyA cI cZ) s) (hP : va_P D vwCl ws0 H) (hD : va_D A0 ws0) (hS : va_S A0 H0 H locs) (q0 : Nat) {a n k : Nat} {f : Nat → Int32} (ha : ws0[q0]? = some (a, .inl (cZ, n, .inl f))) {x : Int32} (hx : vp_nar .boolean x = x) (hk : k < n) (hn : n < 2 ^ 31) (hdg : decode cc pc = .ok (.bastore, 1))
    (kk : ∀ (H1 : Heap) (locs1 : List Loc), va_P D vwCl (ws0.set q0 (a, .inl (cZ, n, .inl (upd f k x)))) H1 → va_D A0 (ws0.set q0 (a, .inl (cZ, n, .inl (upd f k x)))) → va_S A0 H0 H1 locs1 → W p l e R s m args below meth c H1 locs1 cells slots Q (F0 m (pc + 1) ls rest)) : W p l e R s m args below meth c H locs cells slots Q (F0 m pc ls (.int x :: .int (nI k) :: .ref a :: rest)) :=
  va_zast hexec hb hK hP hD hS q0 1 ha rfl (vp_in_nI hk hn) hdg (by rw [nI_clamp (Nat.lt_trans hk hn), hx]; exact kk)
theorem xnewI (hexec : p.tables.exec = Jvm.exec) (hb : c.code = cc) (harr : (Cond.arrayClass .int).before args s = true) (hK : va_K D vwCl (tyA cI cZ) s) (hP : va_P D vwCl ws0 H) (hD : va_D A0 ws0) (hS : va_S A0 H0 H locs) (hA : ∀ q, H0.size ≤ q → A0 q) {x : Int32} {n : Nat} (hx : x = nI n) (hn : n < 32768) (hcells : cells + 1 ≤ R.cells) (hslots : slots + n ≤ R.slots) (hdg : decode cc pc = .ok (.newarray .int, 2))
    (kk : ∀ (q : Nat) (H1 : Heap), va_P D vwCl (ws0 ++ [(q, .inl (cI, n, .inl (fun _ => 0)))]) H1 → va_D A0 (ws0 ++ [(q, .inl (cI, n, .inl (fun _ => 0)))]) → va_S A0 H0 H1 locs → W p l e R s m args below meth c H1 locs (cells + 1) (slots + n) Q (F0 m (pc + 2) ls (.ref q :: rest))) : W p l e R s m args below meth c H locs cells slots Q (F0 m pc ls (.int x :: rest)) := by
  subst hx
  refine va_newa (atype := .int) (ty := .int) (a0 := (n, .inl (fun _ => 0))) hexec hb harr rfl hK hP hD hS hA (fun cA => rfl) (nI_pos (by omega)) (nI_clamp (by omega)) (by show n * 4 ≤ _; omega) hcells hslots hdg (fun q cA H1 hK1 hP1 hD1 hS1 => ?_)
  have h1 := (hK1.2 2 (cA, .int) rfl).2
  have h2 := (hK.2 0 (cI, .int) rfl).2
  have h3 : cA = cI := Option.some.inj (Eq.trans (Eq.symm h1) h2)
  subst h3
  exact kk q H1 hP1 hD1 hS1
theorem xnewZ (hexec : p.tables.exec = Jvm.exec) (hb : c.code = cc) (harr : (Cond.arrayClass .boolean).before args s = true) (hK : va_K D vwCl (tyA cI cZ) s) (hP : va_P D vwCl ws0 H) (hD : va_D A0 ws0) (hS : va_S A0 H0 H locs) (hA : ∀ q, H0.size ≤ q → A0 q) {x : Int32} {n : Nat} (hx : x = nI n) (hn : n < 32768) (hcells : cells + 1 ≤ R.cells) (hslots : slots + n ≤ R.slots) (hdg : decode cc pc = .ok (.newarray .boolean, 2))
    (kk : ∀ (q : Nat) (H1 : Heap), va_P D vwCl (ws0 ++ [(q, .inl (cZ, n, .inl (fun _ => 0)))]) H1 → va_D A0 (ws0 ++ [(q, .inl (cZ, n, .inl (fun _ => 0)))]) → va_S A0 H0 H1 locs → W p l e R s m args below meth c H1 locs (cells + 1) (slots + n) Q (F0 m (pc + 2) ls (.ref q :: rest))) : W p l e R s m args below meth c H locs cells slots Q (F0 m pc ls (.int x :: rest)) := by
  subst hx
  refine va_newa (atype := .boolean) (ty := .boolean) (a0 := (n, .inl (fun _ => 0))) hexec hb harr rfl hK hP hD hS hA (fun cA => rfl) (nI_pos (by omega)) (nI_clamp (by omega)) (by show n * 1 ≤ _; omega) hcells hslots hdg (fun q cA H1 hK1 hP1 hD1 hS1 => ?_)
  have h1 := (hK1.2 2 (cA, .boolean) rfl).2
  have h2 := (hK.2 1 (cZ, .boolean) rfl).2
  have h3 : cA = cZ := Option.some.inj (Eq.trans (Eq.symm h1) h2)
  subst h3
  exact kk q H1 hP1 hD1 hS1
end XC
end
section
/-! my spec: the state of the court as one value, and what each answer is -/
section XL
variable {p : Program} {l : Launch} {e : Env} {R : Room} {s : State} {m : MethodId} {args : Array Value} {below : List Frame} {meth : Method} {c : Code} {H : Heap} {locs : List Loc} {cells slots : Nat} {Q : State → Prop}
variable {pc : Nat} {rest : List Value} {D : va_G} {A0 : Nat → Prop} {H0 : Heap}
theorem wloop {α : Type} (μ : α → Nat) (lv : α → List (Nat × Value)) (I : α → Prop) (nL : Nat)
    (step : ∀ a : α, I a → (∀ b : α, I b → μ b < μ a → ∀ ls : Array Slot, lv_has ls nL (lv b) → W p l e R s m args below meth c H locs cells slots Q (F0 m pc ls rest)) → ∀ ls : Array Slot, lv_has ls nL (lv a) → W p l e R s m args below meth c H locs cells slots Q (F0 m pc ls rest))
    (a0 : α) (h0 : I a0) (ls0 : Array Slot) (hl0 : lv_has ls0 nL (lv a0)) : W p l e R s m args below meth c H locs cells slots Q (F0 m pc ls0 rest) := by
  have key : ∀ (n : Nat) (a : α), μ a < n → I a → ∀ ls : Array Slot, lv_has ls nL (lv a) → W p l e R s m args below meth c H locs cells slots Q (F0 m pc ls rest) := by
    intro n
    induction n with
    | zero => intro a h; exact absurd h (Nat.not_lt_zero _)
    | succ n ih => intro a h hi ls hl; exact step a hi (fun b hb hlt ls hl => ih b (by omega) hb ls hl) ls hl
  exact key (μ a0 + 1) a0 (Nat.lt_succ_self _) h0 ls0 hl0
theorem wloopW {α : Type} (μ : α → Nat) (w : α → va_W) (lv : α → List (Nat × Value)) (I : α → Prop) (nL : Nat)
    (step : ∀ a : α, I a → (∀ b : α, I b → μ b < μ a → ∀ (H : Heap) (locs : List Loc), va_P D vwCl (w b) H → va_D A0 (w b) → va_S A0 H0 H locs → ∀ ls : Array Slot, lv_has ls nL (lv b) → W p l e R s m args below meth c H locs cells slots Q (F0 m pc ls rest)) → ∀ (H : Heap) (locs : List Loc), va_P D vwCl (w a) H → va_D A0 (w a) → va_S A0 H0 H locs → ∀ ls : Array Slot, lv_has ls nL (lv a) → W p l e R s m args below meth c H locs cells slots Q (F0 m pc ls rest))
    (a0 : α) (h0 : I a0) (hP : va_P D vwCl (w a0) H) (hD : va_D A0 (w a0)) (hS : va_S A0 H0 H locs) (ls0 : Array Slot) (hl0 : lv_has ls0 nL (lv a0)) : W p l e R s m args below meth c H locs cells slots Q (F0 m pc ls0 rest) := by
  have key : ∀ (n : Nat) (a : α), μ a < n → I a → ∀ (H : Heap) (locs : List Loc), va_P D vwCl (w a) H → va_D A0 (w a) → va_S A0 H0 H locs → ∀ ls : Array Slot, lv_has ls nL (lv a) → W p l e R s m args below meth c H locs cells slots Q (F0 m pc ls rest) := by
    intro n
    induction n with
    | zero => intro a h; exact absurd h (Nat.not_lt_zero _)
    | succ n ih => intro a h hi H locs hP hD hS ls hl; exact step a hi (fun b hb hlt H locs hP hD hS ls hl => ih b (by omega) hb H locs hP hD hS ls hl) H locs hP hD hS ls hl
  exact key (μ a0 + 1) a0 (Nat.lt_succ_self _) h0 H locs hP hD hS ls0 hl0
theorem wjoin {pcJ : Nat} {lv : List (Nat × Value)} {nL : Nat} {st st0 : List Value} {ls0 : Array Slot} (k : ∀ ls : Array Slot, lv_has ls nL lv → W p l e R s m args below meth c H locs cells slots Q (F0 m pcJ ls st))
    (main : (∀ ls : Array Slot, lv_has ls nL lv → W p l e R s m args below meth c H locs cells slots Q (F0 m pcJ ls st)) → W p l e R s m args below meth c H locs cells slots Q (F0 m pc ls0 st0)) : W p l e R s m args below meth c H locs cells slots Q (F0 m pc ls0 st0) := main k
end XL
def b2 (b : Bool) : Int32 := if b then 1 else 0
theorem b2_0 {b : Bool} (h : b2 b = 0) : b = false := by cases b; rfl; exact absurd h (by decide)
theorem b2_1 {b : Bool} (h : ¬ b2 b = 0) : b = true := by cases b; exact absurd rfl h; rfl
theorem nab2 (b : Bool) : narrow .boolean (.int (b2 b)) = .int (b2 b) := by cases b <;> rfl
theorem nar_b2 (b : Bool) : vp_nar .boolean (b2 b) = b2 b := by cases b <;> rfl
theorem b2_t {b : Bool} (h : b = true) : (1 : Int32) = b2 b := by rw [h]; rfl
theorem b2_f {b : Bool} (h : b = false) : (0 : Int32) = b2 b := by rw [h]; rfl
theorem b2_inj {a b : Bool} : b2 a = b2 b ↔ a = b := by cases a <;> cases b <;> decide
theorem nf {b : Bool} (h : ¬ b = true) : b = false := by cases b; rfl; exact absurd rfl h
theorem nt {b : Bool} (h : ¬ b = false) : b = true := by cases b; exact absurd rfl h; rfl
theorem nI_n (n : Nat) : (OfNat.ofNat n : Int32) = nI n := rfl
abbrev ST : Type := Nat × Nat × Nat × Nat × Nat × Int32 × (Nat → Int32) × (Nat → Int32) × (Nat → Int32) × (Nat → Int32) × (Nat → Int32) × (Nat → Int32) × (Nat → Int32) × (Nat → Int32) × (Nat → Int32) × (Nat → Int32) × (Nat → Int32)
def mkS (f n mc cc g : Nat) (rp : Int32) (b mu mn ru er ts tn rd ck cr cn : Nat → Int32) : ST := (f, n, mc, cc, g, rp, b, mu, mn, ru, er, ts, tn, rd, ck, cr, cn)
def sF (σ : ST) : Nat := σ.1
def sN (σ : ST) : Nat := σ.2.1
def sM (σ : ST) : Nat := σ.2.2.1
def sC (σ : ST) : Nat := σ.2.2.2.1
def sG (σ : ST) : Nat := σ.2.2.2.2.1
def sR (σ : ST) : Int32 := σ.2.2.2.2.2.1
def rB (σ : ST) : Nat → Int32 := σ.2.2.2.2.2.2.1
def rMu (σ : ST) : Nat → Int32 := σ.2.2.2.2.2.2.2.1
def rMn (σ : ST) : Nat → Int32 := σ.2.2.2.2.2.2.2.2.1
def rRu (σ : ST) : Nat → Int32 := σ.2.2.2.2.2.2.2.2.2.1
def rEr (σ : ST) : Nat → Int32 := σ.2.2.2.2.2.2.2.2.2.2.1
def rTs (σ : ST) : Nat → Int32 := σ.2.2.2.2.2.2.2.2.2.2.2.1
def rTn (σ : ST) : Nat → Int32 := σ.2.2.2.2.2.2.2.2.2.2.2.2.1
def rRd (σ : ST) : Nat → Int32 := σ.2.2.2.2.2.2.2.2.2.2.2.2.2.1
def rCk (σ : ST) : Nat → Int32 := σ.2.2.2.2.2.2.2.2.2.2.2.2.2.2.1
def rCr (σ : ST) : Nat → Int32 := σ.2.2.2.2.2.2.2.2.2.2.2.2.2.2.2.1
def rCn (σ : ST) : Nat → Int32 := σ.2.2.2.2.2.2.2.2.2.2.2.2.2.2.2.2
def Ok (σ : ST) : Prop := (1 ≤ sF σ ∧ sF σ ≤ 7 ∧ sN σ ≤ 12 ∧ sM σ ≤ 30 ∧ sC σ ≤ 12 ∧ 1 ≤ sG σ ∧ sG σ ≤ 20) ∧
  (∀ l, l < sN σ → (∃ r, r < 5 ∧ rRu σ l = nI r) ∧ (∃ a, a < 2 ^ sF σ ∧ rMu σ l = nI a) ∧ (∃ a, a < 2 ^ sF σ ∧ rMn σ l = nI a) ∧ ∃ a, a < 4096 ∧ rEr σ l = nI a) ∧
  (∀ m, m < 3 * sM σ → (∃ a, a < 2 ^ sF σ ∧ rTs σ m = nI a) ∧ ∃ a, a < 2 ^ sF σ ∧ rTn σ m = nI a) ∧
  (∀ m, m < sM σ → rRd σ m = -1 ∨ ∃ r, r < 5 ∧ rRd σ m = nI r) ∧
  ∀ k, k < sC σ → (∃ a, a < 2 ^ sF σ ∧ rCk σ k = nI a) ∧ ∃ a, a < 2 ^ sF σ ∧ rCn σ k = nI a
theorem p27 {f : Nat} (h : f ≤ 7) : 2 ^ f ≤ 128 := Nat.pow_le_pow_right (by decide) h
theorem Ok.k {σ : ST} (h : Ok σ) : 2 ^ sF σ ≤ 128 := p27 h.1.2.1
theorem Ok.n {σ : ST} (h : Ok σ) : sN σ ≤ 12 := h.1.2.2.1
theorem Ok.m {σ : ST} (h : Ok σ) : sM σ ≤ 30 := h.1.2.2.2.1
theorem Ok.c {σ : ST} (h : Ok σ) : sC σ ≤ 12 := h.1.2.2.2.2.1
/-! bits -/
def bt (x : Int32) (i : Nat) : Bool := x.toBitVec.getLsbD i
theorem b_ext {x y : Int32} (h : ∀ i, i < 32 → bt x i = bt y i) : x = y := Int32.toBitVec_inj.mp (BitVec.eq_of_getLsbD_eq fun i hi => h i hi)
theorem b_or (x y : Int32) (i : Nat) : bt (x ||| y) i = (bt x i || bt y i) := by simp [bt]
theorem b_and (x y : Int32) (i : Nat) : bt (x &&& y) i = (bt x i && bt y i) := by simp [bt]
theorem b_xor (x y : Int32) (i : Nat) : bt (x ^^^ y) i = (bt x i ^^ bt y i) := by simp [bt]
theorem b_m1 : ∀ i, i < 32 → bt (-1) i = true := by decide +kernel
theorem b_0 (i : Nat) : bt 0 i = false := by simp [bt]
theorem b_nI (n : Nat) {i : Nat} (hi : i < 32) : bt (nI n) i = n.testBit i := by
  show (BitVec.ofNat 32 n).getLsbD i = _
  rw [BitVec.getLsbD_ofNat]; simp [hi]
/-- is the bit y of x set, as Java's (x >> y & 1) != 0 -/
def hb (x y : Int32) : Bool := !decide ((x >>> (y &&& 31)) &&& 1 = 0)
theorem and1 (x : Int32) : x &&& 1 = 0 ∨ x &&& 1 = 1 := by
  have h : x &&& 1 = nI (x.toBitVec.toNat % 2 ^ 1) := pk_and x 1 (by decide)
  rcases Nat.mod_two_eq_zero_or_one x.toBitVec.toNat with q | q
  · left; rw [h, show (2 : Nat) ^ 1 = 2 from rfl, q]; rfl
  · right; rw [h, show (2 : Nat) ^ 1 = 2 from rfl, q]; rfl
theorem hb_1 (x y : Int32) : ((x >>> (y &&& 31)) &&& 1 = 1) ↔ hb x y = true := by
  unfold hb
  rcases and1 (x >>> (y &&& 31)) with q | q <;> rw [q] <;> decide
theorem hb_b2 (x y : Int32) : (x >>> (y &&& 31)) &&& 1 = b2 (hb x y) := by
  unfold hb
  rcases and1 (x >>> (y &&& 31)) with q | q <;> rw [q] <;> rfl
/-- k has all of m: two spellings -/
theorem an_iff (m k : Int32) : m &&& (k ^^^ (-1)) = 0 ↔ k &&& m = m := by
  constructor <;> intro h <;> apply b_ext <;> intro i hi <;> have h2 := congrArg (fun z => bt z i) h <;> simp only [b_and, b_xor, b_m1 i hi, b_0] at h2 ⊢ <;> cases hm : bt m i <;> cases hk : bt k i <;> simp_all
theorem or_0 (x : Int32) : x ||| 0 = x := by apply b_ext; intro i hi; simp [b_or, b_0]
theorem or_0' (x : Int32) : 0 ||| x = x := by apply b_ext; intro i hi; simp [b_or, b_0]
theorem and_c (x y : Int32) : x &&& y = y &&& x := by apply b_ext; intro i hi; simp [b_and, Bool.and_comm]
theorem shl1 : ∀ i, i < 31 → (1 : Int32) <<< (nI i &&& 31) = nI (2 ^ i) := by decide +kernel
/-! numbers in a range -/
def inN (x : Int32) (n : Nat) : Bool := !decide (x < 0) && !decide (nI n ≤ x)
def inI (x lo hi : Int32) : Bool := !decide (x < lo) && !decide (hi < x)
theorem inN_t {x : Int32} {n : Nat} (h : inN x n = true) (hn : n < 2 ^ 31) : ∃ k : Nat, k < n ∧ x = nI k := by
  simp only [inN, Bool.and_eq_true, Bool.not_eq_true', decide_eq_false_iff_not] at h
  rcases pk_ix x hn with q | q | q
  · exact absurd q h.1
  · exact absurd q h.2
  · exact q
theorem inN_nI {k n : Nat} (h : k < n) (hn : n < 2 ^ 31) : inN (nI k) n = true := by
  simp only [inN, Bool.and_eq_true, Bool.not_eq_true', decide_eq_false_iff_not]
  exact ⟨nI_pos (by omega), nI_ge h hn⟩
theorem inI_n (x : Int32) (n : Nat) (hn : n < 2 ^ 30) : inI x 0 (nI n - 1) = inN x n := by
  unfold inI inN
  congr 1
  congr 1
  apply decide_eq_decide.mpr
  have h1 : (nI n - 1).toInt = (n : Int) - 1 := by
    have := pk_sub_toInt (a := n) (b := 1) hn (by decide)
    exact this
  rw [Int32.lt_iff_toInt_lt, Int32.le_iff_toInt_le, h1, nI_toInt (by omega)]
  omega
/-! counting, the first, all -/
def allB (q : Nat → Bool) : Nat → Bool
  | 0 => true
  | n + 1 => allB q n && q n
def cnt (q : Nat → Bool) : Nat → Nat
  | 0 => 0
  | n + 1 => cnt q n + if q n then 1 else 0
def fst (q : Nat → Bool) : Nat → Nat
  | 0 => 0
  | n + 1 => if fst q n < n then fst q n else if q n then n else n + 1
theorem allB_t {q : Nat → Bool} : ∀ {n : Nat}, allB q n = true ↔ ∀ k, k < n → q k = true
  | 0 => by simp [allB]
  | n + 1 => by
    rw [allB, Bool.and_eq_true, allB_t]
    exact ⟨fun h k hk => (Nat.lt_succ_iff_lt_or_eq.mp hk).elim (h.1 k) (fun e => e ▸ h.2), fun h => ⟨fun k hk => h k (by omega), h n (by omega)⟩⟩
theorem allB_f {q : Nat → Bool} {n k : Nat} (h : k < n) (hq : q k = false) : allB q n = false := by
  apply nf
  rw [allB_t]
  exact fun z => by have := z k h; rw [hq] at this; cases this
theorem cnt_le (q : Nat → Bool) : ∀ n, cnt q n ≤ n
  | 0 => Nat.le_refl _
  | n + 1 => by have := cnt_le q n; rw [cnt]; split <;> omega
theorem cnt_y {q : Nat → Bool} {n : Nat} (h : q n = true) : nI (cnt q n) + 1 = nI (cnt q (n + 1)) := by rw [cnt, if_pos h, nI_1]
theorem cnt_n {q : Nat → Bool} {n : Nat} (h : q n = false) : cnt q n = cnt q (n + 1) := by rw [cnt, if_neg (by rw [h]; decide)]; rfl
theorem cnt_0 {q : Nat → Bool} : ∀ {n : Nat}, cnt q n = 0 ↔ ∀ k, k < n → q k = false
  | 0 => by simp [cnt]
  | n + 1 => by
    have h := cnt_0 (q := q) (n := n)
    rw [cnt]
    constructor
    · intro z k hk
      cases hq : q n
      · rcases Nat.lt_succ_iff_lt_or_eq.mp hk with a | a
        · exact h.mp (by rw [hq] at z; simpa using z) k a
        · rw [a]; exact hq
      · rw [hq] at z; simp at z
    · intro z
      rw [h.mpr (fun k hk => z k (by omega)), z n (by omega)]; rfl
theorem cnt_cong {q r : Nat → Bool} : ∀ {n : Nat}, (∀ k, k < n → q k = r k) → cnt q n = cnt r n
  | 0, _ => rfl
  | n + 1, h => by rw [cnt, cnt, cnt_cong (fun k hk => h k (by omega)), h n (by omega)]
theorem cnt_sub {q r : Nat → Bool} : ∀ {n : Nat}, (∀ k, k < n → q k = true → r k = true) → cnt q n = cnt r n → ∀ k, k < n → r k = true → q k = true
  | 0, _, _, _, hk, _ => absurd hk (Nat.not_lt_zero _)
  | n + 1, h, e, k, hk, hr => by
    have hle : ∀ m, (∀ k, k < m → q k = true → r k = true) → cnt q m ≤ cnt r m := by
      intro m
      induction m with
      | zero => intro _; exact Nat.le_refl _
      | succ m ih =>
        intro hm
        have h1 := ih (fun k hk => hm k (by omega))
        have h2 := hm m (by omega)
        rw [cnt, cnt]
        cases hq : q m <;> cases hr : r m <;> simp_all <;> omega
    have h1 := hle n (fun k hk => h k (by omega))
    have h2 := h n (by omega)
    rw [cnt, cnt] at e
    have e2 : cnt q n = cnt r n ∧ (q n = r n) := by
      cases hq : q n <;> cases hr : r n <;> simp_all <;> omega
    rcases Nat.lt_succ_iff_lt_or_eq.mp hk with a | a
    · exact cnt_sub (fun k hk => h k (by omega)) e2.1 k a hr
    · rw [a] at hr ⊢; rw [e2.2]; exact hr
theorem fst_le (q : Nat → Bool) : ∀ n, fst q n ≤ n
  | 0 => Nat.le_refl _
  | n + 1 => by rw [fst]; split; omega; split <;> omega
theorem fst_at {q : Nat → Bool} {i : Nat} (hi : q i = true) (hn : ∀ j, j < i → q j = false) : ∀ {n : Nat}, i < n → fst q n = i
  | 0, h => absurd h (Nat.not_lt_zero _)
  | n + 1, h => by
    rw [fst]
    rcases Nat.lt_succ_iff_lt_or_eq.mp h with a | a
    · rw [fst_at hi hn a, if_pos a]
    · subst a
      have : fst q i = i := by
        have hh : ∀ m, m ≤ i → fst q m = m := by
          intro m
          induction m with
          | zero => intro _; rfl
          | succ m ih => intro hm; rw [fst, ih (by omega), if_neg (Nat.lt_irrefl _), if_neg (by rw [hn m (by omega)]; decide)]
        exact hh i (Nat.le_refl _)
      rw [this, if_neg (Nat.lt_irrefl _), if_pos hi]
theorem fst_no {q : Nat → Bool} : ∀ {n : Nat}, (∀ j, j < n → q j = false) → fst q n = n
  | 0, _ => rfl
  | n + 1, h => by rw [fst, fst_no (fun j hj => h j (by omega)), if_neg (Nat.lt_irrefl _), if_neg (by rw [h n (by omega)]; decide)]
theorem fst_yes {q : Nat → Bool} : ∀ {n : Nat}, fst q n < n → q (fst q n) = true ∧ ∀ j, j < fst q n → q j = false
  | 0, h => absurd h (Nat.not_lt_zero _)
  | n + 1, h => by
    rw [fst] at h ⊢
    by_cases a : fst q n < n
    · rw [if_pos a]; exact fst_yes a
    · rw [if_neg a] at h ⊢
      by_cases b : q n = true
      · rw [if_pos b]
        refine ⟨b, fun j hj => ?_⟩
        apply nf
        intro z
        exact a (by
          have : ∀ m, m ≤ n → j < m → fst q m < m := by
            intro m
            induction m with
            | zero => intro _ h; exact absurd h (Nat.not_lt_zero _)
            | succ m ih =>
              intro hm hj2
              rw [fst]
              by_cases x : fst q m < m
              · rw [if_pos x]; omega
              · rw [if_neg x]
                rcases Nat.lt_succ_iff_lt_or_eq.mp hj2 with y | y
                · exact absurd (ih (by omega) y) x
                · rw [← y, if_pos z]; omega
          exact this n (Nat.le_refl _) hj)
      · rw [if_neg b] at h; omega
theorem fst_cong {q r : Nat → Bool} : ∀ {n : Nat}, (∀ k, k < n → q k = r k) → fst q n = fst r n
  | 0, _ => rfl
  | n + 1, h => by rw [fst, fst, fst_cong (fun k hk => h k (by omega)), h n (by omega)]
/-! kinds, lines, the law -/
def kbad (σ : ST) (k i : Nat) : Bool := hb (nI k) (nI i) && !decide (rB σ i &&& nI k = 0)
def kok (σ : ST) (k : Nat) : Bool := allB (fun i => !kbad σ k i) (sF σ)
def kin (σ : ST) (x : Int32) : Bool := inN x (2 ^ sF σ) && kok σ x.toNatClampNeg
def cnd (σ : ST) (rp : Int32) (k l : Nat) (h : Int32) : Bool := decide (nI k &&& rMu σ l = rMu σ l) && decide (nI k &&& rMn σ l = 0) && !hb rp (nI l) && decide (rEr σ l &&& h = 0)
def hdR (σ : ST) (rp : Int32) (k : Nat) : Nat → Int32
  | 0 => 0
  | j + 1 => if cnd σ rp k (sN σ - (j + 1)) (hdR σ rp k j) then hdR σ rp k j ||| nI (2 ^ (sN σ - (j + 1))) else hdR σ rp k j
def holdI (σ : ST) (rp : Int32) (k : Nat) : Int32 := hdR σ rp k (sN σ)
def orE (σ : ST) : Nat → Int32
  | 0 => 0
  | j + 1 => orE σ j ||| rEr σ j
def givI (σ : ST) (rp : Int32) (k : Nat) : Int32 := holdI σ rp k &&& (orE σ (sN σ) ^^^ (-1))
def lawN (σ : ST) (rp : Int32) (k : Nat) : Nat := fst (fun i => hb (givI σ rp k) (nI i)) (sN σ)
def lawI (σ : ST) (rp : Int32) (k : Nat) : Int32 := if lawN σ rp k < sN σ then nI (lawN σ rp k) else -6
def covB (σ : ST) (rp : Int32) (k : Nat) : Bool := decide (lawN σ rp k < sN σ)
def rulI (σ : ST) (rp : Int32) (k : Nat) : Int32 := if lawN σ rp k < sN σ then rRu σ (lawN σ rp k) else 0
theorem hd_y {σ : ST} {rp : Int32} {k q : Nat} (hq : q < sN σ) (h : cnd σ rp k q (hdR σ rp k (sN σ - (q + 1))) = true) : hdR σ rp k (sN σ - q) = hdR σ rp k (sN σ - (q + 1)) ||| nI (2 ^ q) := by
  have e : sN σ - q = (sN σ - (q + 1)) + 1 := by omega
  have e2 : sN σ - ((sN σ - (q + 1)) + 1) = q := by omega
  rw [e, hdR, e2, if_pos h]
theorem hd_n {σ : ST} {rp : Int32} {k q : Nat} (hq : q < sN σ) (h : cnd σ rp k q (hdR σ rp k (sN σ - (q + 1))) = false) : hdR σ rp k (sN σ - q) = hdR σ rp k (sN σ - (q + 1)) := by
  have e : sN σ - q = (sN σ - (q + 1)) + 1 := by omega
  have e2 : sN σ - ((sN σ - (q + 1)) + 1) = q := by omega
  rw [e, hdR, e2, if_neg (by rw [h]; decide)]
theorem lawI_at {σ : ST} {rp : Int32} {k i : Nat} (hi : i < sN σ) (h : hb (givI σ rp k) (nI i) = true) (hn : ∀ j, j < i → hb (givI σ rp k) (nI j) = false) : lawN σ rp k = i := fst_at h hn hi
theorem lawI_no {σ : ST} {rp : Int32} {k : Nat} (h : ∀ j, j < sN σ → hb (givI σ rp k) (nI j) = false) : lawN σ rp k = sN σ := fst_no h
theorem lawI_6 {σ : ST} {rp : Int32} {k : Nat} (hn : sN σ ≤ 12) : (lawI σ rp k = -6) ↔ covB σ rp k = false := by
  unfold lawI covB
  by_cases h : lawN σ rp k < sN σ
  · rw [if_pos h, decide_eq_true h]
    refine ⟨fun z => ?_, fun z => by cases z⟩
    have : ∀ a, a < 12 → ¬ nI a = -6 := by decide +kernel
    exact absurd z (this _ (by omega))
  · rw [if_neg h, decide_eq_false h]
    exact ⟨fun _ => rfl, fun _ => rfl⟩
/-! moments -/
def yesI (t : Nat → Int32) (m : Nat) : Int32 := (t (3 * m) ||| t (3 * m + 1)) ||| t (3 * m + 2)
def soI (σ : ST) (m : Nat) : Int32 := yesI (rTs σ) m &&& (yesI (rTn σ) m ^^^ (-1))
def nsI (σ : ST) (m : Nat) : Int32 := yesI (rTn σ) m &&& (yesI (rTs σ) m ^^^ (-1))
def mbB (σ : ST) (so ns : Int32) (k : Nat) : Bool := kok σ k && decide (nI k &&& so = so) && decide (nI k &&& ns = 0)
def cmb (σ : ST) (so ns : Int32) : Nat := cnt (mbB σ so ns) (2 ^ sF σ)
def mrB (σ : ST) (rp so ns r : Int32) (k : Nat) : Bool := mbB σ so ns k && decide (rulI σ rp k = r)
def cmr (σ : ST) (rp so ns r : Int32) : Nat := cnt (mrB σ rp so ns r) (2 ^ sF σ)
def rfaN (σ : ST) (rp so ns : Int32) : Nat := fst (fun r => decide (cmr σ rp so ns (nI r) = cmb σ so ns)) 5
def rfaI (σ : ST) (rp so ns : Int32) : Int32 := if rfaN σ rp so ns < 5 then nI (rfaN σ rp so ns) else 0
def bnB (σ : ST) (so ns : Int32) (k : Nat) : Bool := decide (so &&& (rCn σ k &&& rCk σ k) = rCn σ k &&& rCk σ k) && decide (ns &&& (rCn σ k &&& (rCk σ k ^^^ (-1))) = rCn σ k &&& (rCk σ k ^^^ (-1)))
def bnN (σ : ST) (so ns : Int32) : Nat := fst (bnB σ so ns) (sC σ)
def bnI (σ : ST) (so ns : Int32) : Int32 := if bnN σ so ns < sC σ then nI (bnN σ so ns) else -6
def verI (σ : ST) (rp : Int32) (m : Nat) : Int32 := if ¬ rRd σ m = -1 then rRd σ m else if cmb σ (soI σ m) (nsI σ m) = 0 then 0 else if bnN σ (soI σ m) (nsI σ m) < sC σ then rCr σ (bnN σ (soI σ m) (nsI σ m)) else rfaI σ rp (soI σ m) (nsI σ m)
theorem bnI_6 {σ : ST} {so ns : Int32} (hc : sC σ ≤ 12) : (bnI σ so ns = -6) ↔ ¬ bnN σ so ns < sC σ := by
  unfold bnI
  by_cases h : bnN σ so ns < sC σ
  · rw [if_pos h]
    have : ∀ a, a < 12 → ¬ nI a = -6 := by decide +kernel
    exact ⟨fun z => absurd z (this _ (by omega)), fun z => absurd h z⟩
  · rw [if_neg h]
    exact ⟨fun _ => h, fun _ => rfl⟩
end
section
theorem dX0_init_0 : decode cX0_init 0 = .ok (.aload_n 0, 1) := by decide +kernel
theorem dX0_init_1 : decode cX0_init 1 = .ok (.invokespecial 3, 3) := by decide +kernel
theorem dX0_init_4 : decode cX0_init 4 = .ok (.aload_n 0, 1) := by decide +kernel
theorem dX0_init_5 : decode cX0_init 5 = .ok (.sipush 128, 3) := by decide +kernel
theorem dX0_init_8 : decode cX0_init 8 = .ok (.newarray .boolean, 2) := by decide +kernel
theorem dX0_init_10 : decode cX0_init 10 = .ok (.putfield 9, 3) := by decide +kernel
theorem dX0_init_13 : decode cX0_init 13 = .ok (.aload_n 0, 1) := by decide +kernel
theorem dX0_init_14 : decode cX0_init 14 = .ok (.bipush 7, 2) := by decide +kernel
theorem dX0_init_16 : decode cX0_init 16 = .ok (.newarray .int, 2) := by decide +kernel
theorem dX0_init_18 : decode cX0_init 18 = .ok (.putfield 15, 3) := by decide +kernel
theorem dX0_init_21 : decode cX0_init 21 = .ok (.aload_n 0, 1) := by decide +kernel
theorem dX0_init_22 : decode cX0_init 22 = .ok (.bipush 12, 2) := by decide +kernel
theorem dX0_init_24 : decode cX0_init 24 = .ok (.newarray .int, 2) := by decide +kernel
theorem dX0_init_26 : decode cX0_init 26 = .ok (.putfield 19, 3) := by decide +kernel
theorem dX0_init_29 : decode cX0_init 29 = .ok (.aload_n 0, 1) := by decide +kernel
theorem dX0_init_30 : decode cX0_init 30 = .ok (.bipush 12, 2) := by decide +kernel
theorem dX0_init_32 : decode cX0_init 32 = .ok (.newarray .int, 2) := by decide +kernel
theorem dX0_init_34 : decode cX0_init 34 = .ok (.putfield 22, 3) := by decide +kernel
theorem dX0_init_37 : decode cX0_init 37 = .ok (.aload_n 0, 1) := by decide +kernel
theorem dX0_init_38 : decode cX0_init 38 = .ok (.bipush 12, 2) := by decide +kernel
theorem dX0_init_40 : decode cX0_init 40 = .ok (.newarray .int, 2) := by decide +kernel
theorem dX0_init_42 : decode cX0_init 42 = .ok (.putfield 25, 3) := by decide +kernel
theorem dX0_init_45 : decode cX0_init 45 = .ok (.aload_n 0, 1) := by decide +kernel
theorem dX0_init_46 : decode cX0_init 46 = .ok (.bipush 12, 2) := by decide +kernel
theorem dX0_init_48 : decode cX0_init 48 = .ok (.newarray .int, 2) := by decide +kernel
theorem dX0_init_50 : decode cX0_init 50 = .ok (.putfield 28, 3) := by decide +kernel
theorem dX0_init_53 : decode cX0_init 53 = .ok (.return_, 1) := by decide +kernel
set_option maxRecDepth 20000 in
theorem ggX0_begin_X0_workKinds : GoodIn wsX0_begin wsX0_workKinds := goodIn_r _ [11, 2, 12, 13, 14, 15, 10, 16, 1, 6, 17, 18, 19, 20, 21, 22, 23, 24, 25, 26, 27, 28, 29, 30] (by decide +kernel) (by decide +kernel)
set_option maxRecDepth 20000 in
theorem gX0_begin_X0_workKinds : GoodIn wsX0_begin (wsV RX0 47 RX0 yX0_workKinds wsX0_workKinds) := goodIn_app (goodIn_of _ (by decide +kernel)) ggX0_begin_X0_workKinds
theorem dX0_begin_0 : decode cX0_begin 0 = .ok (.aload_n 0, 1) := by decide +kernel
theorem dX0_begin_1 : decode cX0_begin 1 = .ok (.iload_n 1, 1) := by decide +kernel
theorem dX0_begin_2 : decode cX0_begin 2 = .ok (.putfield 31, 3) := by decide +kernel
theorem dX0_begin_5 : decode cX0_begin 5 = .ok (.aload_n 0, 1) := by decide +kernel
theorem dX0_begin_6 : decode cX0_begin 6 = .ok (.iconst 1, 1) := by decide +kernel
theorem dX0_begin_7 : decode cX0_begin 7 = .ok (.iload_n 1, 1) := by decide +kernel
theorem dX0_begin_8 : decode cX0_begin 8 = .ok (.ishl, 1) := by decide +kernel
theorem dX0_begin_9 : decode cX0_begin 9 = .ok (.putfield 35, 3) := by decide +kernel
theorem dX0_begin_12 : decode cX0_begin 12 = .ok (.aload_n 0, 1) := by decide +kernel
theorem dX0_begin_13 : decode cX0_begin 13 = .ok (.iconst 0, 1) := by decide +kernel
theorem dX0_begin_14 : decode cX0_begin 14 = .ok (.putfield 38, 3) := by decide +kernel
theorem dX0_begin_17 : decode cX0_begin 17 = .ok (.aload_n 0, 1) := by decide +kernel
theorem dX0_begin_18 : decode cX0_begin 18 = .ok (.iconst 0, 1) := by decide +kernel
theorem dX0_begin_19 : decode cX0_begin 19 = .ok (.putfield 41, 3) := by decide +kernel
theorem dX0_begin_22 : decode cX0_begin 22 = .ok (.aload_n 0, 1) := by decide +kernel
theorem dX0_begin_23 : decode cX0_begin 23 = .ok (.iconst 0, 1) := by decide +kernel
theorem dX0_begin_24 : decode cX0_begin 24 = .ok (.putfield 44, 3) := by decide +kernel
theorem dX0_begin_27 : decode cX0_begin 27 = .ok (.iconst 0, 1) := by decide +kernel
theorem dX0_begin_28 : decode cX0_begin 28 = .ok (.istore_n 2, 1) := by decide +kernel
theorem dX0_begin_29 : decode cX0_begin 29 = .ok (.iload_n 2, 1) := by decide +kernel
theorem dX0_begin_30 : decode cX0_begin 30 = .ok (.bipush 7, 2) := by decide +kernel
theorem dX0_begin_32 : decode cX0_begin 32 = .ok (.if_icmp .ge 16, 3) := by decide +kernel
theorem dX0_begin_35 : decode cX0_begin 35 = .ok (.aload_n 0, 1) := by decide +kernel
theorem dX0_begin_36 : decode cX0_begin 36 = .ok (.getfield 15, 3) := by decide +kernel
theorem dX0_begin_39 : decode cX0_begin 39 = .ok (.iload_n 2, 1) := by decide +kernel
theorem dX0_begin_40 : decode cX0_begin 40 = .ok (.iconst 0, 1) := by decide +kernel
theorem dX0_begin_41 : decode cX0_begin 41 = .ok (.iastore, 1) := by decide +kernel
theorem dX0_begin_42 : decode cX0_begin 42 = .ok (.iinc 2 1, 3) := by decide +kernel
theorem dX0_begin_45 : decode cX0_begin 45 = .ok (.goto (-16), 3) := by decide +kernel
theorem dX0_begin_48 : decode cX0_begin 48 = .ok (.aload_n 0, 1) := by decide +kernel
theorem dX0_begin_49 : decode cX0_begin 49 = .ok (.invokevirtual 47, 3) := by decide +kernel
theorem dX0_begin_52 : decode cX0_begin 52 = .ok (.return_, 1) := by decide +kernel
theorem dX0_hasFact_0 : decode cX0_hasFact 0 = .ok (.iload_n 1, 1) := by decide +kernel
theorem dX0_hasFact_1 : decode cX0_hasFact 1 = .ok (.ifCond .lt 15, 3) := by decide +kernel
theorem dX0_hasFact_4 : decode cX0_hasFact 4 = .ok (.iload_n 1, 1) := by decide +kernel
theorem dX0_hasFact_5 : decode cX0_hasFact 5 = .ok (.aload_n 0, 1) := by decide +kernel
theorem dX0_hasFact_6 : decode cX0_hasFact 6 = .ok (.getfield 31, 3) := by decide +kernel
theorem dX0_hasFact_9 : decode cX0_hasFact 9 = .ok (.if_icmp .ge 7, 3) := by decide +kernel
theorem dX0_hasFact_12 : decode cX0_hasFact 12 = .ok (.iconst 1, 1) := by decide +kernel
theorem dX0_hasFact_13 : decode cX0_hasFact 13 = .ok (.goto 4, 3) := by decide +kernel
theorem dX0_hasFact_16 : decode cX0_hasFact 16 = .ok (.iconst 0, 1) := by decide +kernel
theorem dX0_hasFact_17 : decode cX0_hasFact 17 = .ok (.ireturn, 1) := by decide +kernel
theorem dX0_areFacts_0 : decode cX0_areFacts 0 = .ok (.iload_n 1, 1) := by decide +kernel
theorem dX0_areFacts_1 : decode cX0_areFacts 1 = .ok (.ifCond .lt 15, 3) := by decide +kernel
theorem dX0_areFacts_4 : decode cX0_areFacts 4 = .ok (.iload_n 1, 1) := by decide +kernel
theorem dX0_areFacts_5 : decode cX0_areFacts 5 = .ok (.aload_n 0, 1) := by decide +kernel
theorem dX0_areFacts_6 : decode cX0_areFacts 6 = .ok (.getfield 35, 3) := by decide +kernel
theorem dX0_areFacts_9 : decode cX0_areFacts 9 = .ok (.if_icmp .ge 7, 3) := by decide +kernel
theorem dX0_areFacts_12 : decode cX0_areFacts 12 = .ok (.iconst 1, 1) := by decide +kernel
theorem dX0_areFacts_13 : decode cX0_areFacts 13 = .ok (.goto 4, 3) := by decide +kernel
theorem dX0_areFacts_16 : decode cX0_areFacts 16 = .ok (.iconst 0, 1) := by decide +kernel
theorem dX0_areFacts_17 : decode cX0_areFacts 17 = .ok (.ireturn, 1) := by decide +kernel
theorem dX0_allFacts_0 : decode cX0_allFacts 0 = .ok (.aload_n 0, 1) := by decide +kernel
theorem dX0_allFacts_1 : decode cX0_allFacts 1 = .ok (.getfield 35, 3) := by decide +kernel
theorem dX0_allFacts_4 : decode cX0_allFacts 4 = .ok (.iconst 1, 1) := by decide +kernel
theorem dX0_allFacts_5 : decode cX0_allFacts 5 = .ok (.isub, 1) := by decide +kernel
theorem dX0_allFacts_6 : decode cX0_allFacts 6 = .ok (.ireturn, 1) := by decide +kernel
theorem dX0_hasKind_0 : decode cX0_hasKind 0 = .ok (.iload_n 1, 1) := by decide +kernel
theorem dX0_hasKind_1 : decode cX0_hasKind 1 = .ok (.ifCond .lt 24, 3) := by decide +kernel
theorem dX0_hasKind_4 : decode cX0_hasKind 4 = .ok (.iload_n 1, 1) := by decide +kernel
theorem dX0_hasKind_5 : decode cX0_hasKind 5 = .ok (.aload_n 0, 1) := by decide +kernel
theorem dX0_hasKind_6 : decode cX0_hasKind 6 = .ok (.getfield 35, 3) := by decide +kernel
theorem dX0_hasKind_9 : decode cX0_hasKind 9 = .ok (.if_icmp .ge 16, 3) := by decide +kernel
theorem dX0_hasKind_12 : decode cX0_hasKind 12 = .ok (.aload_n 0, 1) := by decide +kernel
theorem dX0_hasKind_13 : decode cX0_hasKind 13 = .ok (.getfield 9, 3) := by decide +kernel
theorem dX0_hasKind_16 : decode cX0_hasKind 16 = .ok (.iload_n 1, 1) := by decide +kernel
theorem dX0_hasKind_17 : decode cX0_hasKind 17 = .ok (.baload, 1) := by decide +kernel
theorem dX0_hasKind_18 : decode cX0_hasKind 18 = .ok (.ifCond .eq 7, 3) := by decide +kernel
theorem dX0_hasKind_21 : decode cX0_hasKind 21 = .ok (.iconst 1, 1) := by decide +kernel
theorem dX0_hasKind_22 : decode cX0_hasKind 22 = .ok (.goto 4, 3) := by decide +kernel
theorem dX0_hasKind_25 : decode cX0_hasKind 25 = .ok (.iconst 0, 1) := by decide +kernel
theorem dX0_hasKind_26 : decode cX0_hasKind 26 = .ok (.ireturn, 1) := by decide +kernel
theorem dX0_hasLine_0 : decode cX0_hasLine 0 = .ok (.iload_n 1, 1) := by decide +kernel
theorem dX0_hasLine_1 : decode cX0_hasLine 1 = .ok (.ifCond .lt 15, 3) := by decide +kernel
theorem dX0_hasLine_4 : decode cX0_hasLine 4 = .ok (.iload_n 1, 1) := by decide +kernel
theorem dX0_hasLine_5 : decode cX0_hasLine 5 = .ok (.aload_n 0, 1) := by decide +kernel
theorem dX0_hasLine_6 : decode cX0_hasLine 6 = .ok (.getfield 38, 3) := by decide +kernel
theorem dX0_hasLine_9 : decode cX0_hasLine 9 = .ok (.if_icmp .ge 7, 3) := by decide +kernel
theorem dX0_hasLine_12 : decode cX0_hasLine 12 = .ok (.iconst 1, 1) := by decide +kernel
theorem dX0_hasLine_13 : decode cX0_hasLine 13 = .ok (.goto 4, 3) := by decide +kernel
theorem dX0_hasLine_16 : decode cX0_hasLine 16 = .ok (.iconst 0, 1) := by decide +kernel
theorem dX0_hasLine_17 : decode cX0_hasLine 17 = .ok (.ireturn, 1) := by decide +kernel
set_option maxRecDepth 20000 in
theorem ggX0_areBarred_X5_hasBit : GoodIn wsX0_areBarred wsX5_hasBit := goodIn_r _ [4] (by decide +kernel) (by decide +kernel)
set_option maxRecDepth 20000 in
theorem gX0_areBarred_X5_hasBit_n50 : GoodIn wsX0_areBarred (wsX5_hasBit) := ggX0_areBarred_X5_hasBit
theorem dX0_areBarred_0 : decode cX0_areBarred 0 = .ok (.aload_n 0, 1) := by decide +kernel
theorem dX0_areBarred_1 : decode cX0_areBarred 1 = .ok (.getfield 15, 3) := by decide +kernel
theorem dX0_areBarred_4 : decode cX0_areBarred 4 = .ok (.iload_n 1, 1) := by decide +kernel
theorem dX0_areBarred_5 : decode cX0_areBarred 5 = .ok (.iaload, 1) := by decide +kernel
theorem dX0_areBarred_6 : decode cX0_areBarred 6 = .ok (.iload_n 2, 1) := by decide +kernel
theorem dX0_areBarred_7 : decode cX0_areBarred 7 = .ok (.invokestatic 50, 3) := by decide +kernel
theorem dX0_areBarred_10 : decode cX0_areBarred 10 = .ok (.ireturn, 1) := by decide +kernel
set_option maxRecDepth 20000 in
theorem ggX0_bar_X0_workKinds : GoodIn wsX0_bar wsX0_workKinds := goodIn_r _ [6, 7, 8, 9, 10, 11, 5, 12, 13, 1, 14, 15, 16, 17, 18, 19, 20, 21, 22, 23, 24, 25, 26, 27] (by decide +kernel) (by decide +kernel)
set_option maxRecDepth 20000 in
theorem gX0_bar_X0_workKinds : GoodIn wsX0_bar (wsV RX0 47 RX0 yX0_workKinds wsX0_workKinds) := goodIn_app (goodIn_of _ (by decide +kernel)) ggX0_bar_X0_workKinds
theorem dX0_bar_0 : decode cX0_bar 0 = .ok (.iload_n 3, 1) := by decide +kernel
theorem dX0_bar_1 : decode cX0_bar 1 = .ok (.ifCond .eq 30, 3) := by decide +kernel
theorem dX0_bar_4 : decode cX0_bar 4 = .ok (.aload_n 0, 1) := by decide +kernel
theorem dX0_bar_5 : decode cX0_bar 5 = .ok (.getfield 15, 3) := by decide +kernel
theorem dX0_bar_8 : decode cX0_bar 8 = .ok (.iload_n 1, 1) := by decide +kernel
theorem dX0_bar_9 : decode cX0_bar 9 = .ok (.dup2, 1) := by decide +kernel
theorem dX0_bar_10 : decode cX0_bar 10 = .ok (.iaload, 1) := by decide +kernel
theorem dX0_bar_11 : decode cX0_bar 11 = .ok (.iconst 1, 1) := by decide +kernel
theorem dX0_bar_12 : decode cX0_bar 12 = .ok (.iload_n 2, 1) := by decide +kernel
theorem dX0_bar_13 : decode cX0_bar 13 = .ok (.ishl, 1) := by decide +kernel
theorem dX0_bar_14 : decode cX0_bar 14 = .ok (.ior, 1) := by decide +kernel
theorem dX0_bar_15 : decode cX0_bar 15 = .ok (.iastore, 1) := by decide +kernel
theorem dX0_bar_16 : decode cX0_bar 16 = .ok (.aload_n 0, 1) := by decide +kernel
theorem dX0_bar_17 : decode cX0_bar 17 = .ok (.getfield 15, 3) := by decide +kernel
theorem dX0_bar_20 : decode cX0_bar 20 = .ok (.iload_n 2, 1) := by decide +kernel
theorem dX0_bar_21 : decode cX0_bar 21 = .ok (.dup2, 1) := by decide +kernel
theorem dX0_bar_22 : decode cX0_bar 22 = .ok (.iaload, 1) := by decide +kernel
theorem dX0_bar_23 : decode cX0_bar 23 = .ok (.iconst 1, 1) := by decide +kernel
theorem dX0_bar_24 : decode cX0_bar 24 = .ok (.iload_n 1, 1) := by decide +kernel
theorem dX0_bar_25 : decode cX0_bar 25 = .ok (.ishl, 1) := by decide +kernel
theorem dX0_bar_26 : decode cX0_bar 26 = .ok (.ior, 1) := by decide +kernel
theorem dX0_bar_27 : decode cX0_bar 27 = .ok (.iastore, 1) := by decide +kernel
theorem dX0_bar_28 : decode cX0_bar 28 = .ok (.goto 31, 3) := by decide +kernel
theorem dX0_bar_31 : decode cX0_bar 31 = .ok (.aload_n 0, 1) := by decide +kernel
theorem dX0_bar_32 : decode cX0_bar 32 = .ok (.getfield 15, 3) := by decide +kernel
theorem dX0_bar_35 : decode cX0_bar 35 = .ok (.iload_n 1, 1) := by decide +kernel
theorem dX0_bar_36 : decode cX0_bar 36 = .ok (.dup2, 1) := by decide +kernel
theorem dX0_bar_37 : decode cX0_bar 37 = .ok (.iaload, 1) := by decide +kernel
theorem dX0_bar_38 : decode cX0_bar 38 = .ok (.iconst 1, 1) := by decide +kernel
theorem dX0_bar_39 : decode cX0_bar 39 = .ok (.iload_n 2, 1) := by decide +kernel
theorem dX0_bar_40 : decode cX0_bar 40 = .ok (.ishl, 1) := by decide +kernel
theorem dX0_bar_41 : decode cX0_bar 41 = .ok (.iconst (-1), 1) := by decide +kernel
theorem dX0_bar_42 : decode cX0_bar 42 = .ok (.ixor, 1) := by decide +kernel
theorem dX0_bar_43 : decode cX0_bar 43 = .ok (.iand, 1) := by decide +kernel
theorem dX0_bar_44 : decode cX0_bar 44 = .ok (.iastore, 1) := by decide +kernel
theorem dX0_bar_45 : decode cX0_bar 45 = .ok (.aload_n 0, 1) := by decide +kernel
theorem dX0_bar_46 : decode cX0_bar 46 = .ok (.getfield 15, 3) := by decide +kernel
theorem dX0_bar_49 : decode cX0_bar 49 = .ok (.iload_n 2, 1) := by decide +kernel
theorem dX0_bar_50 : decode cX0_bar 50 = .ok (.dup2, 1) := by decide +kernel
theorem dX0_bar_51 : decode cX0_bar 51 = .ok (.iaload, 1) := by decide +kernel
theorem dX0_bar_52 : decode cX0_bar 52 = .ok (.iconst 1, 1) := by decide +kernel
theorem dX0_bar_53 : decode cX0_bar 53 = .ok (.iload_n 1, 1) := by decide +kernel
theorem dX0_bar_54 : decode cX0_bar 54 = .ok (.ishl, 1) := by decide +kernel
theorem dX0_bar_55 : decode cX0_bar 55 = .ok (.iconst (-1), 1) := by decide +kernel
theorem dX0_bar_56 : decode cX0_bar 56 = .ok (.ixor, 1) := by decide +kernel
theorem dX0_bar_57 : decode cX0_bar 57 = .ok (.iand, 1) := by decide +kernel
theorem dX0_bar_58 : decode cX0_bar 58 = .ok (.iastore, 1) := by decide +kernel
theorem dX0_bar_59 : decode cX0_bar 59 = .ok (.aload_n 0, 1) := by decide +kernel
theorem dX0_bar_60 : decode cX0_bar 60 = .ok (.invokevirtual 47, 3) := by decide +kernel
theorem dX0_bar_63 : decode cX0_bar 63 = .ok (.return_, 1) := by decide +kernel
set_option maxRecDepth 20000 in
theorem ggX0_workKinds_X0_hasBarredPair : GoodIn wsX0_workKinds wsX0_hasBarredPair := goodIn_r _ [7, 8, 9, 10, 11, 12, 13, 14, 15, 16, 17, 18, 19, 20, 21, 22, 23] (by decide +kernel) (by decide +kernel)
set_option maxRecDepth 20000 in
theorem gX0_workKinds_X0_hasBarredPair : GoodIn wsX0_workKinds (wsV RX0 54 RX0 yX0_hasBarredPair wsX0_hasBarredPair) := goodIn_app (goodIn_of _ (by decide +kernel)) ggX0_workKinds_X0_hasBarredPair
theorem dX0_workKinds_0 : decode cX0_workKinds 0 = .ok (.iconst 0, 1) := by decide +kernel
theorem dX0_workKinds_1 : decode cX0_workKinds 1 = .ok (.istore_n 1, 1) := by decide +kernel
theorem dX0_workKinds_2 : decode cX0_workKinds 2 = .ok (.iload_n 1, 1) := by decide +kernel
theorem dX0_workKinds_3 : decode cX0_workKinds 3 = .ok (.aload_n 0, 1) := by decide +kernel
theorem dX0_workKinds_4 : decode cX0_workKinds 4 = .ok (.getfield 35, 3) := by decide +kernel
theorem dX0_workKinds_7 : decode cX0_workKinds 7 = .ok (.if_icmp .ge 28, 3) := by decide +kernel
theorem dX0_workKinds_10 : decode cX0_workKinds 10 = .ok (.aload_n 0, 1) := by decide +kernel
theorem dX0_workKinds_11 : decode cX0_workKinds 11 = .ok (.getfield 9, 3) := by decide +kernel
theorem dX0_workKinds_14 : decode cX0_workKinds 14 = .ok (.iload_n 1, 1) := by decide +kernel
theorem dX0_workKinds_15 : decode cX0_workKinds 15 = .ok (.aload_n 0, 1) := by decide +kernel
theorem dX0_workKinds_16 : decode cX0_workKinds 16 = .ok (.iload_n 1, 1) := by decide +kernel
theorem dX0_workKinds_17 : decode cX0_workKinds 17 = .ok (.invokevirtual 54, 3) := by decide +kernel
theorem dX0_workKinds_20 : decode cX0_workKinds 20 = .ok (.ifCond .ne 7, 3) := by decide +kernel
theorem dX0_workKinds_23 : decode cX0_workKinds 23 = .ok (.iconst 1, 1) := by decide +kernel
theorem dX0_workKinds_24 : decode cX0_workKinds 24 = .ok (.goto 4, 3) := by decide +kernel
theorem dX0_workKinds_27 : decode cX0_workKinds 27 = .ok (.iconst 0, 1) := by decide +kernel
theorem dX0_workKinds_28 : decode cX0_workKinds 28 = .ok (.bastore, 1) := by decide +kernel
theorem dX0_workKinds_29 : decode cX0_workKinds 29 = .ok (.iinc 1 1, 3) := by decide +kernel
theorem dX0_workKinds_32 : decode cX0_workKinds 32 = .ok (.goto (-30), 3) := by decide +kernel
theorem dX0_workKinds_35 : decode cX0_workKinds 35 = .ok (.return_, 1) := by decide +kernel
set_option maxRecDepth 20000 in
theorem ggX0_hasBarredPair_X5_hasBit : GoodIn wsX0_hasBarredPair wsX5_hasBit := goodIn_r _ [5] (by decide +kernel) (by decide +kernel)
set_option maxRecDepth 20000 in
theorem gX0_hasBarredPair_X5_hasBit_n50 : GoodIn wsX0_hasBarredPair (wsX5_hasBit) := ggX0_hasBarredPair_X5_hasBit
theorem dX0_hasBarredPair_0 : decode cX0_hasBarredPair 0 = .ok (.iconst 0, 1) := by decide +kernel
theorem dX0_hasBarredPair_1 : decode cX0_hasBarredPair 1 = .ok (.istore_n 2, 1) := by decide +kernel
theorem dX0_hasBarredPair_2 : decode cX0_hasBarredPair 2 = .ok (.iload_n 2, 1) := by decide +kernel
theorem dX0_hasBarredPair_3 : decode cX0_hasBarredPair 3 = .ok (.aload_n 0, 1) := by decide +kernel
theorem dX0_hasBarredPair_4 : decode cX0_hasBarredPair 4 = .ok (.getfield 31, 3) := by decide +kernel
theorem dX0_hasBarredPair_7 : decode cX0_hasBarredPair 7 = .ok (.if_icmp .ge 30, 3) := by decide +kernel
theorem dX0_hasBarredPair_10 : decode cX0_hasBarredPair 10 = .ok (.iload_n 1, 1) := by decide +kernel
theorem dX0_hasBarredPair_11 : decode cX0_hasBarredPair 11 = .ok (.iload_n 2, 1) := by decide +kernel
theorem dX0_hasBarredPair_12 : decode cX0_hasBarredPair 12 = .ok (.invokestatic 50, 3) := by decide +kernel
theorem dX0_hasBarredPair_15 : decode cX0_hasBarredPair 15 = .ok (.ifCond .eq 16, 3) := by decide +kernel
theorem dX0_hasBarredPair_18 : decode cX0_hasBarredPair 18 = .ok (.aload_n 0, 1) := by decide +kernel
theorem dX0_hasBarredPair_19 : decode cX0_hasBarredPair 19 = .ok (.getfield 15, 3) := by decide +kernel
theorem dX0_hasBarredPair_22 : decode cX0_hasBarredPair 22 = .ok (.iload_n 2, 1) := by decide +kernel
theorem dX0_hasBarredPair_23 : decode cX0_hasBarredPair 23 = .ok (.iaload, 1) := by decide +kernel
theorem dX0_hasBarredPair_24 : decode cX0_hasBarredPair 24 = .ok (.iload_n 1, 1) := by decide +kernel
theorem dX0_hasBarredPair_25 : decode cX0_hasBarredPair 25 = .ok (.iand, 1) := by decide +kernel
theorem dX0_hasBarredPair_26 : decode cX0_hasBarredPair 26 = .ok (.ifCond .eq 5, 3) := by decide +kernel
theorem dX0_hasBarredPair_29 : decode cX0_hasBarredPair 29 = .ok (.iconst 1, 1) := by decide +kernel
theorem dX0_hasBarredPair_30 : decode cX0_hasBarredPair 30 = .ok (.ireturn, 1) := by decide +kernel
theorem dX0_hasBarredPair_31 : decode cX0_hasBarredPair 31 = .ok (.iinc 2 1, 3) := by decide +kernel
theorem dX0_hasBarredPair_34 : decode cX0_hasBarredPair 34 = .ok (.goto (-32), 3) := by decide +kernel
theorem dX0_hasBarredPair_37 : decode cX0_hasBarredPair 37 = .ok (.iconst 0, 1) := by decide +kernel
theorem dX0_hasBarredPair_38 : decode cX0_hasBarredPair 38 = .ok (.ireturn, 1) := by decide +kernel
theorem dX0_mayBe_0 : decode cX0_mayBe 0 = .ok (.aload_n 0, 1) := by decide +kernel
theorem dX0_mayBe_1 : decode cX0_mayBe 1 = .ok (.getfield 9, 3) := by decide +kernel
theorem dX0_mayBe_4 : decode cX0_mayBe 4 = .ok (.iload_n 1, 1) := by decide +kernel
theorem dX0_mayBe_5 : decode cX0_mayBe 5 = .ok (.baload, 1) := by decide +kernel
theorem dX0_mayBe_6 : decode cX0_mayBe 6 = .ok (.ifCond .eq 20, 3) := by decide +kernel
theorem dX0_mayBe_9 : decode cX0_mayBe 9 = .ok (.iload_n 1, 1) := by decide +kernel
theorem dX0_mayBe_10 : decode cX0_mayBe 10 = .ok (.iload_n 2, 1) := by decide +kernel
theorem dX0_mayBe_11 : decode cX0_mayBe 11 = .ok (.iand, 1) := by decide +kernel
theorem dX0_mayBe_12 : decode cX0_mayBe 12 = .ok (.iload_n 2, 1) := by decide +kernel
theorem dX0_mayBe_13 : decode cX0_mayBe 13 = .ok (.if_icmp .ne 13, 3) := by decide +kernel
theorem dX0_mayBe_16 : decode cX0_mayBe 16 = .ok (.iload_n 1, 1) := by decide +kernel
theorem dX0_mayBe_17 : decode cX0_mayBe 17 = .ok (.iload_n 3, 1) := by decide +kernel
theorem dX0_mayBe_18 : decode cX0_mayBe 18 = .ok (.iand, 1) := by decide +kernel
theorem dX0_mayBe_19 : decode cX0_mayBe 19 = .ok (.ifCond .ne 7, 3) := by decide +kernel
theorem dX0_mayBe_22 : decode cX0_mayBe 22 = .ok (.iconst 1, 1) := by decide +kernel
theorem dX0_mayBe_23 : decode cX0_mayBe 23 = .ok (.goto 4, 3) := by decide +kernel
theorem dX0_mayBe_26 : decode cX0_mayBe 26 = .ok (.iconst 0, 1) := by decide +kernel
theorem dX0_mayBe_27 : decode cX0_mayBe 27 = .ok (.ireturn, 1) := by decide +kernel
set_option maxRecDepth 20000 in
theorem ggX0_countMayBe_X0_mayBe : GoodIn wsX0_countMayBe wsX0_mayBe := goodIn_r _ [6, 7, 8, 9, 10, 11, 12, 13, 14, 15, 16, 17, 18] (by decide +kernel) (by decide +kernel)
set_option maxRecDepth 20000 in
theorem gX0_countMayBe_X0_mayBe : GoodIn wsX0_countMayBe (wsV RX0 58 RX0 yX0_mayBe wsX0_mayBe) := goodIn_app (goodIn_of _ (by decide +kernel)) ggX0_countMayBe_X0_mayBe
theorem dX0_countMayBe_0 : decode cX0_countMayBe 0 = .ok (.iconst 0, 1) := by decide +kernel
theorem dX0_countMayBe_1 : decode cX0_countMayBe 1 = .ok (.istore_n 3, 1) := by decide +kernel
theorem dX0_countMayBe_2 : decode cX0_countMayBe 2 = .ok (.iconst 0, 1) := by decide +kernel
theorem dX0_countMayBe_3 : decode cX0_countMayBe 3 = .ok (.istore 4, 2) := by decide +kernel
theorem dX0_countMayBe_5 : decode cX0_countMayBe 5 = .ok (.iload 4, 2) := by decide +kernel
theorem dX0_countMayBe_7 : decode cX0_countMayBe 7 = .ok (.aload_n 0, 1) := by decide +kernel
theorem dX0_countMayBe_8 : decode cX0_countMayBe 8 = .ok (.getfield 35, 3) := by decide +kernel
theorem dX0_countMayBe_11 : decode cX0_countMayBe 11 = .ok (.if_icmp .ge 23, 3) := by decide +kernel
theorem dX0_countMayBe_14 : decode cX0_countMayBe 14 = .ok (.aload_n 0, 1) := by decide +kernel
theorem dX0_countMayBe_15 : decode cX0_countMayBe 15 = .ok (.iload 4, 2) := by decide +kernel
theorem dX0_countMayBe_17 : decode cX0_countMayBe 17 = .ok (.iload_n 1, 1) := by decide +kernel
theorem dX0_countMayBe_18 : decode cX0_countMayBe 18 = .ok (.iload_n 2, 1) := by decide +kernel
theorem dX0_countMayBe_19 : decode cX0_countMayBe 19 = .ok (.invokevirtual 58, 3) := by decide +kernel
theorem dX0_countMayBe_22 : decode cX0_countMayBe 22 = .ok (.ifCond .eq 6, 3) := by decide +kernel
theorem dX0_countMayBe_25 : decode cX0_countMayBe 25 = .ok (.iinc 3 1, 3) := by decide +kernel
theorem dX0_countMayBe_28 : decode cX0_countMayBe 28 = .ok (.iinc 4 1, 3) := by decide +kernel
theorem dX0_countMayBe_31 : decode cX0_countMayBe 31 = .ok (.goto (-26), 3) := by decide +kernel
theorem dX0_countMayBe_34 : decode cX0_countMayBe 34 = .ok (.iload_n 3, 1) := by decide +kernel
theorem dX0_countMayBe_35 : decode cX0_countMayBe 35 = .ok (.ireturn, 1) := by decide +kernel
theorem dX0_addLine_0 : decode cX0_addLine 0 = .ok (.aload_n 0, 1) := by decide +kernel
theorem dX0_addLine_1 : decode cX0_addLine 1 = .ok (.getfield 38, 3) := by decide +kernel
theorem dX0_addLine_4 : decode cX0_addLine 4 = .ok (.istore 4, 2) := by decide +kernel
theorem dX0_addLine_6 : decode cX0_addLine 6 = .ok (.aload_n 0, 1) := by decide +kernel
theorem dX0_addLine_7 : decode cX0_addLine 7 = .ok (.getfield 19, 3) := by decide +kernel
theorem dX0_addLine_10 : decode cX0_addLine 10 = .ok (.iload 4, 2) := by decide +kernel
theorem dX0_addLine_12 : decode cX0_addLine 12 = .ok (.iload_n 1, 1) := by decide +kernel
theorem dX0_addLine_13 : decode cX0_addLine 13 = .ok (.iastore, 1) := by decide +kernel
theorem dX0_addLine_14 : decode cX0_addLine 14 = .ok (.aload_n 0, 1) := by decide +kernel
theorem dX0_addLine_15 : decode cX0_addLine 15 = .ok (.getfield 22, 3) := by decide +kernel
theorem dX0_addLine_18 : decode cX0_addLine 18 = .ok (.iload 4, 2) := by decide +kernel
theorem dX0_addLine_20 : decode cX0_addLine 20 = .ok (.iload_n 2, 1) := by decide +kernel
theorem dX0_addLine_21 : decode cX0_addLine 21 = .ok (.iastore, 1) := by decide +kernel
theorem dX0_addLine_22 : decode cX0_addLine 22 = .ok (.aload_n 0, 1) := by decide +kernel
theorem dX0_addLine_23 : decode cX0_addLine 23 = .ok (.getfield 25, 3) := by decide +kernel
theorem dX0_addLine_26 : decode cX0_addLine 26 = .ok (.iload 4, 2) := by decide +kernel
theorem dX0_addLine_28 : decode cX0_addLine 28 = .ok (.iload_n 3, 1) := by decide +kernel
theorem dX0_addLine_29 : decode cX0_addLine 29 = .ok (.iastore, 1) := by decide +kernel
theorem dX0_addLine_30 : decode cX0_addLine 30 = .ok (.aload_n 0, 1) := by decide +kernel
theorem dX0_addLine_31 : decode cX0_addLine 31 = .ok (.getfield 28, 3) := by decide +kernel
theorem dX0_addLine_34 : decode cX0_addLine 34 = .ok (.iload 4, 2) := by decide +kernel
theorem dX0_addLine_36 : decode cX0_addLine 36 = .ok (.iconst 0, 1) := by decide +kernel
theorem dX0_addLine_37 : decode cX0_addLine 37 = .ok (.iastore, 1) := by decide +kernel
theorem dX0_addLine_38 : decode cX0_addLine 38 = .ok (.aload_n 0, 1) := by decide +kernel
theorem dX0_addLine_39 : decode cX0_addLine 39 = .ok (.dup, 1) := by decide +kernel
theorem dX0_addLine_40 : decode cX0_addLine 40 = .ok (.getfield 38, 3) := by decide +kernel
theorem dX0_addLine_43 : decode cX0_addLine 43 = .ok (.iconst 1, 1) := by decide +kernel
theorem dX0_addLine_44 : decode cX0_addLine 44 = .ok (.iadd, 1) := by decide +kernel
theorem dX0_addLine_45 : decode cX0_addLine 45 = .ok (.putfield 38, 3) := by decide +kernel
theorem dX0_addLine_48 : decode cX0_addLine 48 = .ok (.iload 4, 2) := by decide +kernel
theorem dX0_addLine_50 : decode cX0_addLine 50 = .ok (.ireturn, 1) := by decide +kernel
set_option maxRecDepth 20000 in
theorem ggX0_excepts_X5_hasBit : GoodIn wsX0_excepts wsX5_hasBit := goodIn_r _ [4] (by decide +kernel) (by decide +kernel)
set_option maxRecDepth 20000 in
theorem gX0_excepts_X5_hasBit_n50 : GoodIn wsX0_excepts (wsX5_hasBit) := ggX0_excepts_X5_hasBit
theorem dX0_excepts_0 : decode cX0_excepts 0 = .ok (.aload_n 0, 1) := by decide +kernel
theorem dX0_excepts_1 : decode cX0_excepts 1 = .ok (.getfield 28, 3) := by decide +kernel
theorem dX0_excepts_4 : decode cX0_excepts 4 = .ok (.iload_n 2, 1) := by decide +kernel
theorem dX0_excepts_5 : decode cX0_excepts 5 = .ok (.iaload, 1) := by decide +kernel
theorem dX0_excepts_6 : decode cX0_excepts 6 = .ok (.iload_n 1, 1) := by decide +kernel
theorem dX0_excepts_7 : decode cX0_excepts 7 = .ok (.invokestatic 50, 3) := by decide +kernel
theorem dX0_excepts_10 : decode cX0_excepts 10 = .ok (.ireturn, 1) := by decide +kernel
theorem dX0_addException_0 : decode cX0_addException 0 = .ok (.aload_n 0, 1) := by decide +kernel
theorem dX0_addException_1 : decode cX0_addException 1 = .ok (.getfield 28, 3) := by decide +kernel
theorem dX0_addException_4 : decode cX0_addException 4 = .ok (.iload_n 2, 1) := by decide +kernel
theorem dX0_addException_5 : decode cX0_addException 5 = .ok (.dup2, 1) := by decide +kernel
theorem dX0_addException_6 : decode cX0_addException 6 = .ok (.iaload, 1) := by decide +kernel
theorem dX0_addException_7 : decode cX0_addException 7 = .ok (.iconst 1, 1) := by decide +kernel
theorem dX0_addException_8 : decode cX0_addException 8 = .ok (.iload_n 1, 1) := by decide +kernel
theorem dX0_addException_9 : decode cX0_addException 9 = .ok (.ishl, 1) := by decide +kernel
theorem dX0_addException_10 : decode cX0_addException 10 = .ok (.ior, 1) := by decide +kernel
theorem dX0_addException_11 : decode cX0_addException 11 = .ok (.iastore, 1) := by decide +kernel
theorem dX0_addException_12 : decode cX0_addException 12 = .ok (.aload_n 0, 1) := by decide +kernel
theorem dX0_addException_13 : decode cX0_addException 13 = .ok (.dup, 1) := by decide +kernel
theorem dX0_addException_14 : decode cX0_addException 14 = .ok (.getfield 44, 3) := by decide +kernel
theorem dX0_addException_17 : decode cX0_addException 17 = .ok (.iconst 1, 1) := by decide +kernel
theorem dX0_addException_18 : decode cX0_addException 18 = .ok (.iload_n 1, 1) := by decide +kernel
theorem dX0_addException_19 : decode cX0_addException 19 = .ok (.ishl, 1) := by decide +kernel
theorem dX0_addException_20 : decode cX0_addException 20 = .ok (.ior, 1) := by decide +kernel
theorem dX0_addException_21 : decode cX0_addException 21 = .ok (.putfield 44, 3) := by decide +kernel
theorem dX0_addException_24 : decode cX0_addException 24 = .ok (.return_, 1) := by decide +kernel
set_option maxRecDepth 20000 in
theorem ggX0_isRepealed_X5_hasBit : GoodIn wsX0_isRepealed wsX5_hasBit := goodIn_r _ [4] (by decide +kernel) (by decide +kernel)
set_option maxRecDepth 20000 in
theorem gX0_isRepealed_X5_hasBit_n50 : GoodIn wsX0_isRepealed (wsX5_hasBit) := ggX0_isRepealed_X5_hasBit
theorem dX0_isRepealed_0 : decode cX0_isRepealed 0 = .ok (.aload_n 0, 1) := by decide +kernel
theorem dX0_isRepealed_1 : decode cX0_isRepealed 1 = .ok (.getfield 41, 3) := by decide +kernel
theorem dX0_isRepealed_4 : decode cX0_isRepealed 4 = .ok (.iload_n 1, 1) := by decide +kernel
theorem dX0_isRepealed_5 : decode cX0_isRepealed 5 = .ok (.invokestatic 50, 3) := by decide +kernel
theorem dX0_isRepealed_8 : decode cX0_isRepealed 8 = .ok (.ireturn, 1) := by decide +kernel
theorem dX0_repealedIfMended_0 : decode cX0_repealedIfMended 0 = .ok (.aload_n 0, 1) := by decide +kernel
theorem dX0_repealedIfMended_1 : decode cX0_repealedIfMended 1 = .ok (.getfield 41, 3) := by decide +kernel
theorem dX0_repealedIfMended_4 : decode cX0_repealedIfMended 4 = .ok (.iconst 1, 1) := by decide +kernel
theorem dX0_repealedIfMended_5 : decode cX0_repealedIfMended 5 = .ok (.iload_n 1, 1) := by decide +kernel
theorem dX0_repealedIfMended_6 : decode cX0_repealedIfMended 6 = .ok (.ishl, 1) := by decide +kernel
theorem dX0_repealedIfMended_7 : decode cX0_repealedIfMended 7 = .ok (.ixor, 1) := by decide +kernel
theorem dX0_repealedIfMended_8 : decode cX0_repealedIfMended 8 = .ok (.ireturn, 1) := by decide +kernel
set_option maxRecDepth 20000 in
theorem ggX0_holding_X5_hasBit : GoodIn wsX0_holding wsX5_hasBit := goodIn_r _ [7] (by decide +kernel) (by decide +kernel)
set_option maxRecDepth 20000 in
theorem gX0_holding_X5_hasBit_n50 : GoodIn wsX0_holding (wsX5_hasBit) := ggX0_holding_X5_hasBit
theorem dX0_holding_0 : decode cX0_holding 0 = .ok (.iconst 0, 1) := by decide +kernel
theorem dX0_holding_1 : decode cX0_holding 1 = .ok (.istore_n 3, 1) := by decide +kernel
theorem dX0_holding_2 : decode cX0_holding 2 = .ok (.aload_n 0, 1) := by decide +kernel
theorem dX0_holding_3 : decode cX0_holding 3 = .ok (.getfield 38, 3) := by decide +kernel
theorem dX0_holding_6 : decode cX0_holding 6 = .ok (.iconst 1, 1) := by decide +kernel
theorem dX0_holding_7 : decode cX0_holding 7 = .ok (.isub, 1) := by decide +kernel
theorem dX0_holding_8 : decode cX0_holding 8 = .ok (.istore 4, 2) := by decide +kernel
theorem dX0_holding_10 : decode cX0_holding 10 = .ok (.iload 4, 2) := by decide +kernel
theorem dX0_holding_12 : decode cX0_holding 12 = .ok (.ifCond .lt 80, 3) := by decide +kernel
theorem dX0_holding_15 : decode cX0_holding 15 = .ok (.iload_n 1, 1) := by decide +kernel
theorem dX0_holding_16 : decode cX0_holding 16 = .ok (.aload_n 0, 1) := by decide +kernel
theorem dX0_holding_17 : decode cX0_holding 17 = .ok (.getfield 19, 3) := by decide +kernel
theorem dX0_holding_20 : decode cX0_holding 20 = .ok (.iload 4, 2) := by decide +kernel
theorem dX0_holding_22 : decode cX0_holding 22 = .ok (.iaload, 1) := by decide +kernel
theorem dX0_holding_23 : decode cX0_holding 23 = .ok (.iand, 1) := by decide +kernel
theorem dX0_holding_24 : decode cX0_holding 24 = .ok (.aload_n 0, 1) := by decide +kernel
theorem dX0_holding_25 : decode cX0_holding 25 = .ok (.getfield 19, 3) := by decide +kernel
theorem dX0_holding_28 : decode cX0_holding 28 = .ok (.iload 4, 2) := by decide +kernel
theorem dX0_holding_30 : decode cX0_holding 30 = .ok (.iaload, 1) := by decide +kernel
theorem dX0_holding_31 : decode cX0_holding 31 = .ok (.if_icmp .ne 19, 3) := by decide +kernel
theorem dX0_holding_34 : decode cX0_holding 34 = .ok (.iload_n 1, 1) := by decide +kernel
theorem dX0_holding_35 : decode cX0_holding 35 = .ok (.aload_n 0, 1) := by decide +kernel
theorem dX0_holding_36 : decode cX0_holding 36 = .ok (.getfield 22, 3) := by decide +kernel
theorem dX0_holding_39 : decode cX0_holding 39 = .ok (.iload 4, 2) := by decide +kernel
theorem dX0_holding_41 : decode cX0_holding 41 = .ok (.iaload, 1) := by decide +kernel
theorem dX0_holding_42 : decode cX0_holding 42 = .ok (.iand, 1) := by decide +kernel
theorem dX0_holding_43 : decode cX0_holding 43 = .ok (.ifCond .ne 7, 3) := by decide +kernel
theorem dX0_holding_46 : decode cX0_holding 46 = .ok (.iconst 1, 1) := by decide +kernel
theorem dX0_holding_47 : decode cX0_holding 47 = .ok (.goto 4, 3) := by decide +kernel
theorem dX0_holding_50 : decode cX0_holding 50 = .ok (.iconst 0, 1) := by decide +kernel
theorem dX0_holding_51 : decode cX0_holding 51 = .ok (.istore 5, 2) := by decide +kernel
theorem dX0_holding_53 : decode cX0_holding 53 = .ok (.iload 5, 2) := by decide +kernel
theorem dX0_holding_55 : decode cX0_holding 55 = .ok (.ifCond .eq 31, 3) := by decide +kernel
theorem dX0_holding_58 : decode cX0_holding 58 = .ok (.iload_n 2, 1) := by decide +kernel
theorem dX0_holding_59 : decode cX0_holding 59 = .ok (.iload 4, 2) := by decide +kernel
theorem dX0_holding_61 : decode cX0_holding 61 = .ok (.invokestatic 50, 3) := by decide +kernel
theorem dX0_holding_64 : decode cX0_holding 64 = .ok (.ifCond .ne 22, 3) := by decide +kernel
theorem dX0_holding_67 : decode cX0_holding 67 = .ok (.aload_n 0, 1) := by decide +kernel
theorem dX0_holding_68 : decode cX0_holding 68 = .ok (.getfield 28, 3) := by decide +kernel
theorem dX0_holding_71 : decode cX0_holding 71 = .ok (.iload 4, 2) := by decide +kernel
theorem dX0_holding_73 : decode cX0_holding 73 = .ok (.iaload, 1) := by decide +kernel
theorem dX0_holding_74 : decode cX0_holding 74 = .ok (.iload_n 3, 1) := by decide +kernel
theorem dX0_holding_75 : decode cX0_holding 75 = .ok (.iand, 1) := by decide +kernel
theorem dX0_holding_76 : decode cX0_holding 76 = .ok (.ifCond .ne 10, 3) := by decide +kernel
theorem dX0_holding_79 : decode cX0_holding 79 = .ok (.iload_n 3, 1) := by decide +kernel
theorem dX0_holding_80 : decode cX0_holding 80 = .ok (.iconst 1, 1) := by decide +kernel
theorem dX0_holding_81 : decode cX0_holding 81 = .ok (.iload 4, 2) := by decide +kernel
theorem dX0_holding_83 : decode cX0_holding 83 = .ok (.ishl, 1) := by decide +kernel
theorem dX0_holding_84 : decode cX0_holding 84 = .ok (.ior, 1) := by decide +kernel
theorem dX0_holding_85 : decode cX0_holding 85 = .ok (.istore_n 3, 1) := by decide +kernel
theorem dX0_holding_86 : decode cX0_holding 86 = .ok (.iinc 4 (-1), 3) := by decide +kernel
theorem dX0_holding_89 : decode cX0_holding 89 = .ok (.goto (-79), 3) := by decide +kernel
theorem dX0_holding_92 : decode cX0_holding 92 = .ok (.iload_n 3, 1) := by decide +kernel
theorem dX0_holding_93 : decode cX0_holding 93 = .ok (.ireturn, 1) := by decide +kernel
set_option maxRecDepth 20000 in
theorem ggX0_lawLine_X0_holding : GoodIn wsX0_lawLine wsX0_holding := goodIn_r _ [7, 2, 8, 9, 10, 11, 12, 13, 14, 15, 16, 17, 18, 19, 20, 21, 22, 23, 24] (by decide +kernel) (by decide +kernel)
set_option maxRecDepth 20000 in
theorem gX0_lawLine_X0_holding : GoodIn wsX0_lawLine (wsV RX0 62 RX0 yX0_holding wsX0_holding) := goodIn_app (goodIn_of _ (by decide +kernel)) ggX0_lawLine_X0_holding
set_option maxRecDepth 20000 in
theorem ggX0_lawLine_X5_hasBit : GoodIn wsX0_lawLine wsX5_hasBit := goodIn_r _ [13] (by decide +kernel) (by decide +kernel)
set_option maxRecDepth 20000 in
theorem gX0_lawLine_X5_hasBit_n50 : GoodIn wsX0_lawLine (wsX5_hasBit) := ggX0_lawLine_X5_hasBit
theorem dX0_lawLine_0 : decode cX0_lawLine 0 = .ok (.aload_n 0, 1) := by decide +kernel
theorem dX0_lawLine_1 : decode cX0_lawLine 1 = .ok (.iload_n 1, 1) := by decide +kernel
theorem dX0_lawLine_2 : decode cX0_lawLine 2 = .ok (.iload_n 2, 1) := by decide +kernel
theorem dX0_lawLine_3 : decode cX0_lawLine 3 = .ok (.invokevirtual 62, 3) := by decide +kernel
theorem dX0_lawLine_6 : decode cX0_lawLine 6 = .ok (.aload_n 0, 1) := by decide +kernel
theorem dX0_lawLine_7 : decode cX0_lawLine 7 = .ok (.getfield 44, 3) := by decide +kernel
theorem dX0_lawLine_10 : decode cX0_lawLine 10 = .ok (.iconst (-1), 1) := by decide +kernel
theorem dX0_lawLine_11 : decode cX0_lawLine 11 = .ok (.ixor, 1) := by decide +kernel
theorem dX0_lawLine_12 : decode cX0_lawLine 12 = .ok (.iand, 1) := by decide +kernel
theorem dX0_lawLine_13 : decode cX0_lawLine 13 = .ok (.istore_n 3, 1) := by decide +kernel
theorem dX0_lawLine_14 : decode cX0_lawLine 14 = .ok (.iconst 0, 1) := by decide +kernel
theorem dX0_lawLine_15 : decode cX0_lawLine 15 = .ok (.istore 4, 2) := by decide +kernel
theorem dX0_lawLine_17 : decode cX0_lawLine 17 = .ok (.iload 4, 2) := by decide +kernel
theorem dX0_lawLine_19 : decode cX0_lawLine 19 = .ok (.aload_n 0, 1) := by decide +kernel
theorem dX0_lawLine_20 : decode cX0_lawLine 20 = .ok (.getfield 38, 3) := by decide +kernel
theorem dX0_lawLine_23 : decode cX0_lawLine 23 = .ok (.if_icmp .ge 21, 3) := by decide +kernel
theorem dX0_lawLine_26 : decode cX0_lawLine 26 = .ok (.iload_n 3, 1) := by decide +kernel
theorem dX0_lawLine_27 : decode cX0_lawLine 27 = .ok (.iload 4, 2) := by decide +kernel
theorem dX0_lawLine_29 : decode cX0_lawLine 29 = .ok (.invokestatic 50, 3) := by decide +kernel
theorem dX0_lawLine_32 : decode cX0_lawLine 32 = .ok (.ifCond .eq 6, 3) := by decide +kernel
theorem dX0_lawLine_35 : decode cX0_lawLine 35 = .ok (.iload 4, 2) := by decide +kernel
theorem dX0_lawLine_37 : decode cX0_lawLine 37 = .ok (.ireturn, 1) := by decide +kernel
theorem dX0_lawLine_38 : decode cX0_lawLine 38 = .ok (.iinc 4 1, 3) := by decide +kernel
theorem dX0_lawLine_41 : decode cX0_lawLine 41 = .ok (.goto (-24), 3) := by decide +kernel
theorem dX0_lawLine_44 : decode cX0_lawLine 44 = .ok (.bipush (-6), 2) := by decide +kernel
theorem dX0_lawLine_46 : decode cX0_lawLine 46 = .ok (.ireturn, 1) := by decide +kernel
set_option maxRecDepth 20000 in
theorem ggX0_namedBy_X5_hasBit : GoodIn wsX0_namedBy wsX5_hasBit := goodIn_r _ [8] (by decide +kernel) (by decide +kernel)
set_option maxRecDepth 20000 in
theorem gX0_namedBy_X5_hasBit_n50 : GoodIn wsX0_namedBy (wsX5_hasBit) := ggX0_namedBy_X5_hasBit
theorem dX0_namedBy_0 : decode cX0_namedBy 0 = .ok (.iconst 0, 1) := by decide +kernel
theorem dX0_namedBy_1 : decode cX0_namedBy 1 = .ok (.istore_n 2, 1) := by decide +kernel
theorem dX0_namedBy_2 : decode cX0_namedBy 2 = .ok (.iconst 1, 1) := by decide +kernel
theorem dX0_namedBy_3 : decode cX0_namedBy 3 = .ok (.iload_n 1, 1) := by decide +kernel
theorem dX0_namedBy_4 : decode cX0_namedBy 4 = .ok (.ishl, 1) := by decide +kernel
theorem dX0_namedBy_5 : decode cX0_namedBy 5 = .ok (.istore_n 3, 1) := by decide +kernel
theorem dX0_namedBy_6 : decode cX0_namedBy 6 = .ok (.iload_n 1, 1) := by decide +kernel
theorem dX0_namedBy_7 : decode cX0_namedBy 7 = .ok (.istore 4, 2) := by decide +kernel
theorem dX0_namedBy_9 : decode cX0_namedBy 9 = .ok (.iload 4, 2) := by decide +kernel
theorem dX0_namedBy_11 : decode cX0_namedBy 11 = .ok (.aload_n 0, 1) := by decide +kernel
theorem dX0_namedBy_12 : decode cX0_namedBy 12 = .ok (.getfield 38, 3) := by decide +kernel
theorem dX0_namedBy_15 : decode cX0_namedBy 15 = .ok (.if_icmp .ge 53, 3) := by decide +kernel
theorem dX0_namedBy_18 : decode cX0_namedBy 18 = .ok (.iload_n 3, 1) := by decide +kernel
theorem dX0_namedBy_19 : decode cX0_namedBy 19 = .ok (.iload 4, 2) := by decide +kernel
theorem dX0_namedBy_21 : decode cX0_namedBy 21 = .ok (.invokestatic 50, 3) := by decide +kernel
theorem dX0_namedBy_24 : decode cX0_namedBy 24 = .ok (.ifCond .eq 38, 3) := by decide +kernel
theorem dX0_namedBy_27 : decode cX0_namedBy 27 = .ok (.iload_n 2, 1) := by decide +kernel
theorem dX0_namedBy_28 : decode cX0_namedBy 28 = .ok (.aload_n 0, 1) := by decide +kernel
theorem dX0_namedBy_29 : decode cX0_namedBy 29 = .ok (.getfield 19, 3) := by decide +kernel
theorem dX0_namedBy_32 : decode cX0_namedBy 32 = .ok (.iload 4, 2) := by decide +kernel
theorem dX0_namedBy_34 : decode cX0_namedBy 34 = .ok (.iaload, 1) := by decide +kernel
theorem dX0_namedBy_35 : decode cX0_namedBy 35 = .ok (.aload_n 0, 1) := by decide +kernel
theorem dX0_namedBy_36 : decode cX0_namedBy 36 = .ok (.getfield 22, 3) := by decide +kernel
theorem dX0_namedBy_39 : decode cX0_namedBy 39 = .ok (.iload 4, 2) := by decide +kernel
theorem dX0_namedBy_41 : decode cX0_namedBy 41 = .ok (.iaload, 1) := by decide +kernel
theorem dX0_namedBy_42 : decode cX0_namedBy 42 = .ok (.ior, 1) := by decide +kernel
theorem dX0_namedBy_43 : decode cX0_namedBy 43 = .ok (.ior, 1) := by decide +kernel
theorem dX0_namedBy_44 : decode cX0_namedBy 44 = .ok (.istore_n 2, 1) := by decide +kernel
theorem dX0_namedBy_45 : decode cX0_namedBy 45 = .ok (.iload_n 3, 1) := by decide +kernel
theorem dX0_namedBy_46 : decode cX0_namedBy 46 = .ok (.aload_n 0, 1) := by decide +kernel
theorem dX0_namedBy_47 : decode cX0_namedBy 47 = .ok (.getfield 28, 3) := by decide +kernel
theorem dX0_namedBy_50 : decode cX0_namedBy 50 = .ok (.iload 4, 2) := by decide +kernel
theorem dX0_namedBy_52 : decode cX0_namedBy 52 = .ok (.iaload, 1) := by decide +kernel
theorem dX0_namedBy_53 : decode cX0_namedBy 53 = .ok (.aload_n 0, 1) := by decide +kernel
theorem dX0_namedBy_54 : decode cX0_namedBy 54 = .ok (.getfield 41, 3) := by decide +kernel
theorem dX0_namedBy_57 : decode cX0_namedBy 57 = .ok (.iconst (-1), 1) := by decide +kernel
theorem dX0_namedBy_58 : decode cX0_namedBy 58 = .ok (.ixor, 1) := by decide +kernel
theorem dX0_namedBy_59 : decode cX0_namedBy 59 = .ok (.iand, 1) := by decide +kernel
theorem dX0_namedBy_60 : decode cX0_namedBy 60 = .ok (.ior, 1) := by decide +kernel
theorem dX0_namedBy_61 : decode cX0_namedBy 61 = .ok (.istore_n 3, 1) := by decide +kernel
theorem dX0_namedBy_62 : decode cX0_namedBy 62 = .ok (.iinc 4 1, 3) := by decide +kernel
theorem dX0_namedBy_65 : decode cX0_namedBy 65 = .ok (.goto (-56), 3) := by decide +kernel
theorem dX0_namedBy_68 : decode cX0_namedBy 68 = .ok (.iload_n 2, 1) := by decide +kernel
theorem dX0_namedBy_69 : decode cX0_namedBy 69 = .ok (.ireturn, 1) := by decide +kernel
theorem dX1_init_0 : decode cX1_init 0 = .ok (.aload_n 0, 1) := by decide +kernel
theorem dX1_init_1 : decode cX1_init 1 = .ok (.invokespecial 3, 3) := by decide +kernel
theorem dX1_init_4 : decode cX1_init 4 = .ok (.aload_n 0, 1) := by decide +kernel
theorem dX1_init_5 : decode cX1_init 5 = .ok (.bipush 12, 2) := by decide +kernel
theorem dX1_init_7 : decode cX1_init 7 = .ok (.newarray .int, 2) := by decide +kernel
theorem dX1_init_9 : decode cX1_init 9 = .ok (.putfield 9, 3) := by decide +kernel
theorem dX1_init_12 : decode cX1_init 12 = .ok (.aload_n 0, 1) := by decide +kernel
theorem dX1_init_13 : decode cX1_init 13 = .ok (.bipush 12, 2) := by decide +kernel
theorem dX1_init_15 : decode cX1_init 15 = .ok (.newarray .int, 2) := by decide +kernel
theorem dX1_init_17 : decode cX1_init 17 = .ok (.putfield 15, 3) := by decide +kernel
theorem dX1_init_20 : decode cX1_init 20 = .ok (.aload_n 0, 1) := by decide +kernel
theorem dX1_init_21 : decode cX1_init 21 = .ok (.bipush 12, 2) := by decide +kernel
theorem dX1_init_23 : decode cX1_init 23 = .ok (.newarray .int, 2) := by decide +kernel
theorem dX1_init_25 : decode cX1_init 25 = .ok (.putfield 18, 3) := by decide +kernel
theorem dX1_init_28 : decode cX1_init 28 = .ok (.return_, 1) := by decide +kernel
theorem dX1_has_0 : decode cX1_has 0 = .ok (.iload_n 1, 1) := by decide +kernel
theorem dX1_has_1 : decode cX1_has 1 = .ok (.ifCond .lt 15, 3) := by decide +kernel
theorem dX1_has_4 : decode cX1_has 4 = .ok (.iload_n 1, 1) := by decide +kernel
theorem dX1_has_5 : decode cX1_has 5 = .ok (.aload_n 0, 1) := by decide +kernel
theorem dX1_has_6 : decode cX1_has 6 = .ok (.getfield 21, 3) := by decide +kernel
theorem dX1_has_9 : decode cX1_has 9 = .ok (.if_icmp .ge 7, 3) := by decide +kernel
theorem dX1_has_12 : decode cX1_has 12 = .ok (.iconst 1, 1) := by decide +kernel
theorem dX1_has_13 : decode cX1_has 13 = .ok (.goto 4, 3) := by decide +kernel
theorem dX1_has_16 : decode cX1_has 16 = .ok (.iconst 0, 1) := by decide +kernel
theorem dX1_has_17 : decode cX1_has 17 = .ok (.ireturn, 1) := by decide +kernel
theorem dX1_add_0 : decode cX1_add 0 = .ok (.aload_n 0, 1) := by decide +kernel
theorem dX1_add_1 : decode cX1_add 1 = .ok (.getfield 21, 3) := by decide +kernel
theorem dX1_add_4 : decode cX1_add 4 = .ok (.istore 4, 2) := by decide +kernel
theorem dX1_add_6 : decode cX1_add 6 = .ok (.aload_n 0, 1) := by decide +kernel
theorem dX1_add_7 : decode cX1_add 7 = .ok (.getfield 9, 3) := by decide +kernel
theorem dX1_add_10 : decode cX1_add 10 = .ok (.iload 4, 2) := by decide +kernel
theorem dX1_add_12 : decode cX1_add 12 = .ok (.iload_n 1, 1) := by decide +kernel
theorem dX1_add_13 : decode cX1_add 13 = .ok (.iastore, 1) := by decide +kernel
theorem dX1_add_14 : decode cX1_add 14 = .ok (.aload_n 0, 1) := by decide +kernel
theorem dX1_add_15 : decode cX1_add 15 = .ok (.getfield 15, 3) := by decide +kernel
theorem dX1_add_18 : decode cX1_add 18 = .ok (.iload 4, 2) := by decide +kernel
theorem dX1_add_20 : decode cX1_add 20 = .ok (.iload_n 2, 1) := by decide +kernel
theorem dX1_add_21 : decode cX1_add 21 = .ok (.iastore, 1) := by decide +kernel
theorem dX1_add_22 : decode cX1_add 22 = .ok (.aload_n 0, 1) := by decide +kernel
theorem dX1_add_23 : decode cX1_add 23 = .ok (.getfield 18, 3) := by decide +kernel
theorem dX1_add_26 : decode cX1_add 26 = .ok (.iload 4, 2) := by decide +kernel
theorem dX1_add_28 : decode cX1_add 28 = .ok (.iload_n 3, 1) := by decide +kernel
theorem dX1_add_29 : decode cX1_add 29 = .ok (.iastore, 1) := by decide +kernel
theorem dX1_add_30 : decode cX1_add 30 = .ok (.aload_n 0, 1) := by decide +kernel
theorem dX1_add_31 : decode cX1_add 31 = .ok (.dup, 1) := by decide +kernel
theorem dX1_add_32 : decode cX1_add 32 = .ok (.getfield 21, 3) := by decide +kernel
theorem dX1_add_35 : decode cX1_add 35 = .ok (.iconst 1, 1) := by decide +kernel
theorem dX1_add_36 : decode cX1_add 36 = .ok (.iadd, 1) := by decide +kernel
theorem dX1_add_37 : decode cX1_add 37 = .ok (.putfield 21, 3) := by decide +kernel
theorem dX1_add_40 : decode cX1_add 40 = .ok (.iload 4, 2) := by decide +kernel
theorem dX1_add_42 : decode cX1_add 42 = .ok (.ireturn, 1) := by decide +kernel
theorem dX1_firstThatBinds_0 : decode cX1_firstThatBinds 0 = .ok (.iconst 0, 1) := by decide +kernel
theorem dX1_firstThatBinds_1 : decode cX1_firstThatBinds 1 = .ok (.istore_n 3, 1) := by decide +kernel
theorem dX1_firstThatBinds_2 : decode cX1_firstThatBinds 2 = .ok (.iload_n 3, 1) := by decide +kernel
theorem dX1_firstThatBinds_3 : decode cX1_firstThatBinds 3 = .ok (.aload_n 0, 1) := by decide +kernel
theorem dX1_firstThatBinds_4 : decode cX1_firstThatBinds 4 = .ok (.getfield 21, 3) := by decide +kernel
theorem dX1_firstThatBinds_7 : decode cX1_firstThatBinds 7 = .ok (.if_icmp .ge 61, 3) := by decide +kernel
theorem dX1_firstThatBinds_10 : decode cX1_firstThatBinds 10 = .ok (.aload_n 0, 1) := by decide +kernel
theorem dX1_firstThatBinds_11 : decode cX1_firstThatBinds 11 = .ok (.getfield 18, 3) := by decide +kernel
theorem dX1_firstThatBinds_14 : decode cX1_firstThatBinds 14 = .ok (.iload_n 3, 1) := by decide +kernel
theorem dX1_firstThatBinds_15 : decode cX1_firstThatBinds 15 = .ok (.iaload, 1) := by decide +kernel
theorem dX1_firstThatBinds_16 : decode cX1_firstThatBinds 16 = .ok (.aload_n 0, 1) := by decide +kernel
theorem dX1_firstThatBinds_17 : decode cX1_firstThatBinds 17 = .ok (.getfield 9, 3) := by decide +kernel
theorem dX1_firstThatBinds_20 : decode cX1_firstThatBinds 20 = .ok (.iload_n 3, 1) := by decide +kernel
theorem dX1_firstThatBinds_21 : decode cX1_firstThatBinds 21 = .ok (.iaload, 1) := by decide +kernel
theorem dX1_firstThatBinds_22 : decode cX1_firstThatBinds 22 = .ok (.iand, 1) := by decide +kernel
theorem dX1_firstThatBinds_23 : decode cX1_firstThatBinds 23 = .ok (.istore 4, 2) := by decide +kernel
theorem dX1_firstThatBinds_25 : decode cX1_firstThatBinds 25 = .ok (.aload_n 0, 1) := by decide +kernel
theorem dX1_firstThatBinds_26 : decode cX1_firstThatBinds 26 = .ok (.getfield 18, 3) := by decide +kernel
theorem dX1_firstThatBinds_29 : decode cX1_firstThatBinds 29 = .ok (.iload_n 3, 1) := by decide +kernel
theorem dX1_firstThatBinds_30 : decode cX1_firstThatBinds 30 = .ok (.iaload, 1) := by decide +kernel
theorem dX1_firstThatBinds_31 : decode cX1_firstThatBinds 31 = .ok (.aload_n 0, 1) := by decide +kernel
theorem dX1_firstThatBinds_32 : decode cX1_firstThatBinds 32 = .ok (.getfield 9, 3) := by decide +kernel
theorem dX1_firstThatBinds_35 : decode cX1_firstThatBinds 35 = .ok (.iload_n 3, 1) := by decide +kernel
theorem dX1_firstThatBinds_36 : decode cX1_firstThatBinds 36 = .ok (.iaload, 1) := by decide +kernel
theorem dX1_firstThatBinds_37 : decode cX1_firstThatBinds 37 = .ok (.iconst (-1), 1) := by decide +kernel
theorem dX1_firstThatBinds_38 : decode cX1_firstThatBinds 38 = .ok (.ixor, 1) := by decide +kernel
theorem dX1_firstThatBinds_39 : decode cX1_firstThatBinds 39 = .ok (.iand, 1) := by decide +kernel
theorem dX1_firstThatBinds_40 : decode cX1_firstThatBinds 40 = .ok (.istore 5, 2) := by decide +kernel
theorem dX1_firstThatBinds_42 : decode cX1_firstThatBinds 42 = .ok (.iload_n 1, 1) := by decide +kernel
theorem dX1_firstThatBinds_43 : decode cX1_firstThatBinds 43 = .ok (.iload 4, 2) := by decide +kernel
theorem dX1_firstThatBinds_45 : decode cX1_firstThatBinds 45 = .ok (.iand, 1) := by decide +kernel
theorem dX1_firstThatBinds_46 : decode cX1_firstThatBinds 46 = .ok (.iload 4, 2) := by decide +kernel
theorem dX1_firstThatBinds_48 : decode cX1_firstThatBinds 48 = .ok (.if_icmp .ne 14, 3) := by decide +kernel
theorem dX1_firstThatBinds_51 : decode cX1_firstThatBinds 51 = .ok (.iload_n 2, 1) := by decide +kernel
theorem dX1_firstThatBinds_52 : decode cX1_firstThatBinds 52 = .ok (.iload 5, 2) := by decide +kernel
theorem dX1_firstThatBinds_54 : decode cX1_firstThatBinds 54 = .ok (.iand, 1) := by decide +kernel
theorem dX1_firstThatBinds_55 : decode cX1_firstThatBinds 55 = .ok (.iload 5, 2) := by decide +kernel
theorem dX1_firstThatBinds_57 : decode cX1_firstThatBinds 57 = .ok (.if_icmp .ne 5, 3) := by decide +kernel
theorem dX1_firstThatBinds_60 : decode cX1_firstThatBinds 60 = .ok (.iload_n 3, 1) := by decide +kernel
theorem dX1_firstThatBinds_61 : decode cX1_firstThatBinds 61 = .ok (.ireturn, 1) := by decide +kernel
theorem dX1_firstThatBinds_62 : decode cX1_firstThatBinds 62 = .ok (.iinc 3 1, 3) := by decide +kernel
theorem dX1_firstThatBinds_65 : decode cX1_firstThatBinds 65 = .ok (.goto (-63), 3) := by decide +kernel
theorem dX1_firstThatBinds_68 : decode cX1_firstThatBinds 68 = .ok (.bipush (-6), 2) := by decide +kernel
theorem dX1_firstThatBinds_70 : decode cX1_firstThatBinds 70 = .ok (.ireturn, 1) := by decide +kernel
theorem dX2_init_0 : decode cX2_init 0 = .ok (.aload_n 0, 1) := by decide +kernel
theorem dX2_init_1 : decode cX2_init 1 = .ok (.invokespecial 3, 3) := by decide +kernel
theorem dX2_init_4 : decode cX2_init 4 = .ok (.return_, 1) := by decide +kernel
theorem dX2_begin_0 : decode cX2_begin 0 = .ok (.aload_n 0, 1) := by decide +kernel
theorem dX2_begin_1 : decode cX2_begin 1 = .ok (.iload_n 1, 1) := by decide +kernel
theorem dX2_begin_2 : decode cX2_begin 2 = .ok (.putfield 9, 3) := by decide +kernel
theorem dX2_begin_5 : decode cX2_begin 5 = .ok (.aload_n 0, 1) := by decide +kernel
theorem dX2_begin_6 : decode cX2_begin 6 = .ok (.iconst 0, 1) := by decide +kernel
theorem dX2_begin_7 : decode cX2_begin 7 = .ok (.putfield 15, 3) := by decide +kernel
theorem dX2_begin_10 : decode cX2_begin 10 = .ok (.aload_n 0, 1) := by decide +kernel
theorem dX2_begin_11 : decode cX2_begin 11 = .ok (.iconst 0, 1) := by decide +kernel
theorem dX2_begin_12 : decode cX2_begin 12 = .ok (.putfield 18, 3) := by decide +kernel
theorem dX2_begin_15 : decode cX2_begin 15 = .ok (.aload_n 0, 1) := by decide +kernel
theorem dX2_begin_16 : decode cX2_begin 16 = .ok (.iconst 0, 1) := by decide +kernel
theorem dX2_begin_17 : decode cX2_begin 17 = .ok (.putfield 21, 3) := by decide +kernel
theorem dX2_begin_20 : decode cX2_begin 20 = .ok (.return_, 1) := by decide +kernel
set_option maxRecDepth 20000 in
theorem ggX2_play_X2_winner : GoodIn wsX2_play wsX2_winner := goodIn_r _ [6, 7, 8, 9, 14, 15, 16, 17] (by decide +kernel) (by decide +kernel)
set_option maxRecDepth 20000 in
theorem gX2_play_X2_winner : GoodIn wsX2_play (wsV RX2 24 RX2 yX2_winner wsX2_winner) := goodIn_app (goodIn_of _ (by decide +kernel)) ggX2_play_X2_winner
set_option maxRecDepth 20000 in
theorem ggX2_play_X2_giveHoop : GoodIn wsX2_play wsX2_giveHoop := goodIn_r _ [13, 7, 9, 14, 15, 16, 17] (by decide +kernel) (by decide +kernel)
set_option maxRecDepth 20000 in
theorem gX2_play_X2_giveHoop : GoodIn wsX2_play (wsV RX2 28 RX2 yX2_giveHoop wsX2_giveHoop) := goodIn_app (goodIn_of _ (by decide +kernel)) ggX2_play_X2_giveHoop
theorem dX2_play_0 : decode cX2_play 0 = .ok (.aload_n 0, 1) := by decide +kernel
theorem dX2_play_1 : decode cX2_play 1 = .ok (.invokevirtual 24, 3) := by decide +kernel
theorem dX2_play_4 : decode cX2_play 4 = .ok (.bipush (-6), 2) := by decide +kernel
theorem dX2_play_6 : decode cX2_play 6 = .ok (.if_icmp .eq 4, 3) := by decide +kernel
theorem dX2_play_9 : decode cX2_play 9 = .ok (.return_, 1) := by decide +kernel
theorem dX2_play_10 : decode cX2_play 10 = .ok (.iload_n 1, 1) := by decide +kernel
theorem dX2_play_11 : decode cX2_play 11 = .ok (.iconst 1, 1) := by decide +kernel
theorem dX2_play_12 : decode cX2_play 12 = .ok (.if_icmp .ne 11, 3) := by decide +kernel
theorem dX2_play_15 : decode cX2_play 15 = .ok (.aload_n 0, 1) := by decide +kernel
theorem dX2_play_16 : decode cX2_play 16 = .ok (.aload_n 0, 1) := by decide +kernel
theorem dX2_play_17 : decode cX2_play 17 = .ok (.getfield 21, 3) := by decide +kernel
theorem dX2_play_20 : decode cX2_play 20 = .ok (.invokevirtual 28, 3) := by decide +kernel
theorem dX2_play_23 : decode cX2_play 23 = .ok (.iload_n 1, 1) := by decide +kernel
theorem dX2_play_24 : decode cX2_play 24 = .ok (.iconst 3, 1) := by decide +kernel
theorem dX2_play_25 : decode cX2_play 25 = .ok (.if_icmp .ne 13, 3) := by decide +kernel
theorem dX2_play_28 : decode cX2_play 28 = .ok (.aload_n 0, 1) := by decide +kernel
theorem dX2_play_29 : decode cX2_play 29 = .ok (.iconst 1, 1) := by decide +kernel
theorem dX2_play_30 : decode cX2_play 30 = .ok (.aload_n 0, 1) := by decide +kernel
theorem dX2_play_31 : decode cX2_play 31 = .ok (.getfield 21, 3) := by decide +kernel
theorem dX2_play_34 : decode cX2_play 34 = .ok (.isub, 1) := by decide +kernel
theorem dX2_play_35 : decode cX2_play 35 = .ok (.invokevirtual 28, 3) := by decide +kernel
theorem dX2_play_38 : decode cX2_play 38 = .ok (.iload_n 1, 1) := by decide +kernel
theorem dX2_play_39 : decode cX2_play 39 = .ok (.iconst 2, 1) := by decide +kernel
theorem dX2_play_40 : decode cX2_play 40 = .ok (.if_icmp .eq 8, 3) := by decide +kernel
theorem dX2_play_43 : decode cX2_play 43 = .ok (.iload_n 1, 1) := by decide +kernel
theorem dX2_play_44 : decode cX2_play 44 = .ok (.iconst 3, 1) := by decide +kernel
theorem dX2_play_45 : decode cX2_play 45 = .ok (.if_icmp .ne 13, 3) := by decide +kernel
theorem dX2_play_48 : decode cX2_play 48 = .ok (.aload_n 0, 1) := by decide +kernel
theorem dX2_play_49 : decode cX2_play 49 = .ok (.iconst 1, 1) := by decide +kernel
theorem dX2_play_50 : decode cX2_play 50 = .ok (.aload_n 0, 1) := by decide +kernel
theorem dX2_play_51 : decode cX2_play 51 = .ok (.getfield 21, 3) := by decide +kernel
theorem dX2_play_54 : decode cX2_play 54 = .ok (.isub, 1) := by decide +kernel
theorem dX2_play_55 : decode cX2_play 55 = .ok (.putfield 21, 3) := by decide +kernel
theorem dX2_play_58 : decode cX2_play 58 = .ok (.return_, 1) := by decide +kernel
theorem dX2_giveHoop_0 : decode cX2_giveHoop 0 = .ok (.iload_n 1, 1) := by decide +kernel
theorem dX2_giveHoop_1 : decode cX2_giveHoop 1 = .ok (.ifCond .ne 16, 3) := by decide +kernel
theorem dX2_giveHoop_4 : decode cX2_giveHoop 4 = .ok (.aload_n 0, 1) := by decide +kernel
theorem dX2_giveHoop_5 : decode cX2_giveHoop 5 = .ok (.dup, 1) := by decide +kernel
theorem dX2_giveHoop_6 : decode cX2_giveHoop 6 = .ok (.getfield 15, 3) := by decide +kernel
theorem dX2_giveHoop_9 : decode cX2_giveHoop 9 = .ok (.iconst 1, 1) := by decide +kernel
theorem dX2_giveHoop_10 : decode cX2_giveHoop 10 = .ok (.iadd, 1) := by decide +kernel
theorem dX2_giveHoop_11 : decode cX2_giveHoop 11 = .ok (.putfield 15, 3) := by decide +kernel
theorem dX2_giveHoop_14 : decode cX2_giveHoop 14 = .ok (.goto 13, 3) := by decide +kernel
theorem dX2_giveHoop_17 : decode cX2_giveHoop 17 = .ok (.aload_n 0, 1) := by decide +kernel
theorem dX2_giveHoop_18 : decode cX2_giveHoop 18 = .ok (.dup, 1) := by decide +kernel
theorem dX2_giveHoop_19 : decode cX2_giveHoop 19 = .ok (.getfield 18, 3) := by decide +kernel
theorem dX2_giveHoop_22 : decode cX2_giveHoop 22 = .ok (.iconst 1, 1) := by decide +kernel
theorem dX2_giveHoop_23 : decode cX2_giveHoop 23 = .ok (.iadd, 1) := by decide +kernel
theorem dX2_giveHoop_24 : decode cX2_giveHoop 24 = .ok (.putfield 18, 3) := by decide +kernel
theorem dX2_giveHoop_27 : decode cX2_giveHoop 27 = .ok (.return_, 1) := by decide +kernel
theorem dX2_winner_0 : decode cX2_winner 0 = .ok (.aload_n 0, 1) := by decide +kernel
theorem dX2_winner_1 : decode cX2_winner 1 = .ok (.getfield 15, 3) := by decide +kernel
theorem dX2_winner_4 : decode cX2_winner 4 = .ok (.aload_n 0, 1) := by decide +kernel
theorem dX2_winner_5 : decode cX2_winner 5 = .ok (.getfield 9, 3) := by decide +kernel
theorem dX2_winner_8 : decode cX2_winner 8 = .ok (.if_icmp .lt 5, 3) := by decide +kernel
theorem dX2_winner_11 : decode cX2_winner 11 = .ok (.iconst 0, 1) := by decide +kernel
theorem dX2_winner_12 : decode cX2_winner 12 = .ok (.ireturn, 1) := by decide +kernel
theorem dX2_winner_13 : decode cX2_winner 13 = .ok (.aload_n 0, 1) := by decide +kernel
theorem dX2_winner_14 : decode cX2_winner 14 = .ok (.getfield 18, 3) := by decide +kernel
theorem dX2_winner_17 : decode cX2_winner 17 = .ok (.aload_n 0, 1) := by decide +kernel
theorem dX2_winner_18 : decode cX2_winner 18 = .ok (.getfield 9, 3) := by decide +kernel
theorem dX2_winner_21 : decode cX2_winner 21 = .ok (.if_icmp .lt 7, 3) := by decide +kernel
theorem dX2_winner_24 : decode cX2_winner 24 = .ok (.iconst 1, 1) := by decide +kernel
theorem dX2_winner_25 : decode cX2_winner 25 = .ok (.goto 5, 3) := by decide +kernel
theorem dX2_winner_28 : decode cX2_winner 28 = .ok (.bipush (-6), 2) := by decide +kernel
theorem dX2_winner_30 : decode cX2_winner 30 = .ok (.ireturn, 1) := by decide +kernel
set_option maxRecDepth 20000 in
theorem ggX2_standsAs_X2_winner : GoodIn wsX2_standsAs wsX2_winner := goodIn_r _ [8, 1, 9, 2, 10, 11, 12, 13] (by decide +kernel) (by decide +kernel)
set_option maxRecDepth 20000 in
theorem gX2_standsAs_X2_winner : GoodIn wsX2_standsAs (wsV RX2 24 RX2 yX2_winner wsX2_winner) := goodIn_app (goodIn_of _ (by decide +kernel)) ggX2_standsAs_X2_winner
theorem dX2_standsAs_0 : decode cX2_standsAs 0 = .ok (.aload_n 0, 1) := by decide +kernel
theorem dX2_standsAs_1 : decode cX2_standsAs 1 = .ok (.getfield 15, 3) := by decide +kernel
theorem dX2_standsAs_4 : decode cX2_standsAs 4 = .ok (.aload_n 1, 1) := by decide +kernel
theorem dX2_standsAs_5 : decode cX2_standsAs 5 = .ok (.getfield 15, 3) := by decide +kernel
theorem dX2_standsAs_8 : decode cX2_standsAs 8 = .ok (.if_icmp .ne 40, 3) := by decide +kernel
theorem dX2_standsAs_11 : decode cX2_standsAs 11 = .ok (.aload_n 0, 1) := by decide +kernel
theorem dX2_standsAs_12 : decode cX2_standsAs 12 = .ok (.getfield 18, 3) := by decide +kernel
theorem dX2_standsAs_15 : decode cX2_standsAs 15 = .ok (.aload_n 1, 1) := by decide +kernel
theorem dX2_standsAs_16 : decode cX2_standsAs 16 = .ok (.getfield 18, 3) := by decide +kernel
theorem dX2_standsAs_19 : decode cX2_standsAs 19 = .ok (.if_icmp .ne 29, 3) := by decide +kernel
theorem dX2_standsAs_22 : decode cX2_standsAs 22 = .ok (.aload_n 0, 1) := by decide +kernel
theorem dX2_standsAs_23 : decode cX2_standsAs 23 = .ok (.getfield 21, 3) := by decide +kernel
theorem dX2_standsAs_26 : decode cX2_standsAs 26 = .ok (.aload_n 1, 1) := by decide +kernel
theorem dX2_standsAs_27 : decode cX2_standsAs 27 = .ok (.getfield 21, 3) := by decide +kernel
theorem dX2_standsAs_30 : decode cX2_standsAs 30 = .ok (.if_icmp .ne 18, 3) := by decide +kernel
theorem dX2_standsAs_33 : decode cX2_standsAs 33 = .ok (.aload_n 0, 1) := by decide +kernel
theorem dX2_standsAs_34 : decode cX2_standsAs 34 = .ok (.invokevirtual 24, 3) := by decide +kernel
theorem dX2_standsAs_37 : decode cX2_standsAs 37 = .ok (.aload_n 1, 1) := by decide +kernel
theorem dX2_standsAs_38 : decode cX2_standsAs 38 = .ok (.invokevirtual 24, 3) := by decide +kernel
theorem dX2_standsAs_41 : decode cX2_standsAs 41 = .ok (.if_icmp .ne 7, 3) := by decide +kernel
theorem dX2_standsAs_44 : decode cX2_standsAs 44 = .ok (.iconst 1, 1) := by decide +kernel
theorem dX2_standsAs_45 : decode cX2_standsAs 45 = .ok (.goto 4, 3) := by decide +kernel
theorem dX2_standsAs_48 : decode cX2_standsAs 48 = .ok (.iconst 0, 1) := by decide +kernel
theorem dX2_standsAs_49 : decode cX2_standsAs 49 = .ok (.ireturn, 1) := by decide +kernel
theorem dX3_init_0 : decode cX3_init 0 = .ok (.aload_n 0, 1) := by decide +kernel
theorem dX3_init_1 : decode cX3_init 1 = .ok (.invokespecial 3, 3) := by decide +kernel
theorem dX3_init_4 : decode cX3_init 4 = .ok (.aload_n 0, 1) := by decide +kernel
theorem dX3_init_5 : decode cX3_init 5 = .ok (.sipush 128, 3) := by decide +kernel
theorem dX3_init_8 : decode cX3_init 8 = .ok (.newarray .int, 2) := by decide +kernel
theorem dX3_init_10 : decode cX3_init 10 = .ok (.putfield 9, 3) := by decide +kernel
theorem dX3_init_13 : decode cX3_init 13 = .ok (.aload_n 0, 1) := by decide +kernel
theorem dX3_init_14 : decode cX3_init 14 = .ok (.aload_n 1, 1) := by decide +kernel
theorem dX3_init_15 : decode cX3_init 15 = .ok (.putfield 15, 3) := by decide +kernel
theorem dX3_init_18 : decode cX3_init 18 = .ok (.return_, 1) := by decide +kernel
set_option maxRecDepth 20000 in
theorem ggX3_work_X0_lawLine : GoodIn wsX3_work wsX0_lawLine := goodIn_r _ [7, 8, 9, 10, 11, 12, 6, 13, 14, 15, 16, 17, 18, 19, 22, 23, 24, 25, 26, 27, 28, 29, 30, 31, 32] (by decide +kernel) (by decide +kernel)
set_option maxRecDepth 20000 in
theorem gX3_work_X0_lawLine : GoodIn wsX3_work (wsV RX3 25 RX0 yX0_lawLine wsX0_lawLine) := goodIn_app (goodIn_of _ (by decide +kernel)) ggX3_work_X0_lawLine
theorem dX3_work_0 : decode cX3_work 0 = .ok (.iconst 0, 1) := by decide +kernel
theorem dX3_work_1 : decode cX3_work 1 = .ok (.istore_n 2, 1) := by decide +kernel
theorem dX3_work_2 : decode cX3_work 2 = .ok (.iload_n 2, 1) := by decide +kernel
theorem dX3_work_3 : decode cX3_work 3 = .ok (.aload_n 0, 1) := by decide +kernel
theorem dX3_work_4 : decode cX3_work 4 = .ok (.getfield 15, 3) := by decide +kernel
theorem dX3_work_7 : decode cX3_work 7 = .ok (.getfield 19, 3) := by decide +kernel
theorem dX3_work_10 : decode cX3_work 10 = .ok (.if_icmp .ge 24, 3) := by decide +kernel
theorem dX3_work_13 : decode cX3_work 13 = .ok (.aload_n 0, 1) := by decide +kernel
theorem dX3_work_14 : decode cX3_work 14 = .ok (.getfield 9, 3) := by decide +kernel
theorem dX3_work_17 : decode cX3_work 17 = .ok (.iload_n 2, 1) := by decide +kernel
theorem dX3_work_18 : decode cX3_work 18 = .ok (.aload_n 0, 1) := by decide +kernel
theorem dX3_work_19 : decode cX3_work 19 = .ok (.getfield 15, 3) := by decide +kernel
theorem dX3_work_22 : decode cX3_work 22 = .ok (.iload_n 2, 1) := by decide +kernel
theorem dX3_work_23 : decode cX3_work 23 = .ok (.iload_n 1, 1) := by decide +kernel
theorem dX3_work_24 : decode cX3_work 24 = .ok (.invokevirtual 25, 3) := by decide +kernel
theorem dX3_work_27 : decode cX3_work 27 = .ok (.iastore, 1) := by decide +kernel
theorem dX3_work_28 : decode cX3_work 28 = .ok (.iinc 2 1, 3) := by decide +kernel
theorem dX3_work_31 : decode cX3_work 31 = .ok (.goto (-29), 3) := by decide +kernel
theorem dX3_work_34 : decode cX3_work 34 = .ok (.return_, 1) := by decide +kernel
theorem dX3_covers_0 : decode cX3_covers 0 = .ok (.aload_n 0, 1) := by decide +kernel
theorem dX3_covers_1 : decode cX3_covers 1 = .ok (.getfield 9, 3) := by decide +kernel
theorem dX3_covers_4 : decode cX3_covers 4 = .ok (.iload_n 1, 1) := by decide +kernel
theorem dX3_covers_5 : decode cX3_covers 5 = .ok (.iaload, 1) := by decide +kernel
theorem dX3_covers_6 : decode cX3_covers 6 = .ok (.bipush (-6), 2) := by decide +kernel
theorem dX3_covers_8 : decode cX3_covers 8 = .ok (.if_icmp .eq 7, 3) := by decide +kernel
theorem dX3_covers_11 : decode cX3_covers 11 = .ok (.iconst 1, 1) := by decide +kernel
theorem dX3_covers_12 : decode cX3_covers 12 = .ok (.goto 4, 3) := by decide +kernel
theorem dX3_covers_15 : decode cX3_covers 15 = .ok (.iconst 0, 1) := by decide +kernel
theorem dX3_covers_16 : decode cX3_covers 16 = .ok (.ireturn, 1) := by decide +kernel
set_option maxRecDepth 20000 in
theorem ggX3_rulingFor_X3_covers : GoodIn wsX3_rulingFor wsX3_covers := goodIn_r _ [7, 2, 8, 9] (by decide +kernel) (by decide +kernel)
set_option maxRecDepth 20000 in
theorem gX3_rulingFor_X3_covers : GoodIn wsX3_rulingFor (wsV RX3 29 RX3 yX3_covers wsX3_covers) := goodIn_app (goodIn_of _ (by decide +kernel)) ggX3_rulingFor_X3_covers
theorem dX3_rulingFor_0 : decode cX3_rulingFor 0 = .ok (.aload_n 0, 1) := by decide +kernel
theorem dX3_rulingFor_1 : decode cX3_rulingFor 1 = .ok (.iload_n 1, 1) := by decide +kernel
theorem dX3_rulingFor_2 : decode cX3_rulingFor 2 = .ok (.invokevirtual 29, 3) := by decide +kernel
theorem dX3_rulingFor_5 : decode cX3_rulingFor 5 = .ok (.ifCond .eq 20, 3) := by decide +kernel
theorem dX3_rulingFor_8 : decode cX3_rulingFor 8 = .ok (.aload_n 0, 1) := by decide +kernel
theorem dX3_rulingFor_9 : decode cX3_rulingFor 9 = .ok (.getfield 15, 3) := by decide +kernel
theorem dX3_rulingFor_12 : decode cX3_rulingFor 12 = .ok (.getfield 33, 3) := by decide +kernel
theorem dX3_rulingFor_15 : decode cX3_rulingFor 15 = .ok (.aload_n 0, 1) := by decide +kernel
theorem dX3_rulingFor_16 : decode cX3_rulingFor 16 = .ok (.getfield 9, 3) := by decide +kernel
theorem dX3_rulingFor_19 : decode cX3_rulingFor 19 = .ok (.iload_n 1, 1) := by decide +kernel
theorem dX3_rulingFor_20 : decode cX3_rulingFor 20 = .ok (.iaload, 1) := by decide +kernel
theorem dX3_rulingFor_21 : decode cX3_rulingFor 21 = .ok (.iaload, 1) := by decide +kernel
theorem dX3_rulingFor_22 : decode cX3_rulingFor 22 = .ok (.goto 4, 3) := by decide +kernel
theorem dX3_rulingFor_25 : decode cX3_rulingFor 25 = .ok (.iconst 0, 1) := by decide +kernel
theorem dX3_rulingFor_26 : decode cX3_rulingFor 26 = .ok (.ireturn, 1) := by decide +kernel
set_option maxRecDepth 20000 in
theorem ggX3_differFor_X3_rulingFor : GoodIn wsX3_differFor wsX3_rulingFor := goodIn_r _ [5, 6, 7, 8, 9, 10, 4, 11, 12, 13, 14, 15, 16, 17, 18, 19, 20, 21, 22, 23, 24] (by decide +kernel) (by decide +kernel)
set_option maxRecDepth 20000 in
theorem gX3_differFor_X3_rulingFor : GoodIn wsX3_differFor (wsV RX3 36 RX3 yX3_rulingFor wsX3_rulingFor) := goodIn_app (goodIn_of _ (by decide +kernel)) ggX3_differFor_X3_rulingFor
set_option maxRecDepth 20000 in
theorem ggX3_differFor_X3_covers : GoodIn wsX3_differFor wsX3_covers := goodIn_r _ [11, 7, 12, 13] (by decide +kernel) (by decide +kernel)
set_option maxRecDepth 20000 in
theorem gX3_differFor_X3_covers : GoodIn wsX3_differFor (wsV RX3 29 RX3 yX3_covers wsX3_covers) := goodIn_app (goodIn_of _ (by decide +kernel)) ggX3_differFor_X3_covers
theorem dX3_differFor_0 : decode cX3_differFor 0 = .ok (.aload_n 0, 1) := by decide +kernel
theorem dX3_differFor_1 : decode cX3_differFor 1 = .ok (.iload_n 1, 1) := by decide +kernel
theorem dX3_differFor_2 : decode cX3_differFor 2 = .ok (.invokevirtual 36, 3) := by decide +kernel
theorem dX3_differFor_5 : decode cX3_differFor 5 = .ok (.aload_n 2, 1) := by decide +kernel
theorem dX3_differFor_6 : decode cX3_differFor 6 = .ok (.iload_n 1, 1) := by decide +kernel
theorem dX3_differFor_7 : decode cX3_differFor 7 = .ok (.invokevirtual 36, 3) := by decide +kernel
theorem dX3_differFor_10 : decode cX3_differFor 10 = .ok (.if_icmp .ne 16, 3) := by decide +kernel
theorem dX3_differFor_13 : decode cX3_differFor 13 = .ok (.aload_n 0, 1) := by decide +kernel
theorem dX3_differFor_14 : decode cX3_differFor 14 = .ok (.iload_n 1, 1) := by decide +kernel
theorem dX3_differFor_15 : decode cX3_differFor 15 = .ok (.invokevirtual 29, 3) := by decide +kernel
theorem dX3_differFor_18 : decode cX3_differFor 18 = .ok (.aload_n 2, 1) := by decide +kernel
theorem dX3_differFor_19 : decode cX3_differFor 19 = .ok (.iload_n 1, 1) := by decide +kernel
theorem dX3_differFor_20 : decode cX3_differFor 20 = .ok (.invokevirtual 29, 3) := by decide +kernel
theorem dX3_differFor_23 : decode cX3_differFor 23 = .ok (.if_icmp .eq 7, 3) := by decide +kernel
theorem dX3_differFor_26 : decode cX3_differFor 26 = .ok (.iconst 1, 1) := by decide +kernel
theorem dX3_differFor_27 : decode cX3_differFor 27 = .ok (.goto 4, 3) := by decide +kernel
theorem dX3_differFor_30 : decode cX3_differFor 30 = .ok (.iconst 0, 1) := by decide +kernel
theorem dX3_differFor_31 : decode cX3_differFor 31 = .ok (.ireturn, 1) := by decide +kernel
set_option maxRecDepth 20000 in
theorem ggX3_countMayBeRuled_X0_mayBe : GoodIn wsX3_countMayBeRuled wsX0_mayBe := goodIn_r _ [6, 7, 20, 21, 22, 23, 24, 25, 26, 27, 28, 29, 30] (by decide +kernel) (by decide +kernel)
set_option maxRecDepth 20000 in
theorem gX3_countMayBeRuled_X0_mayBe : GoodIn wsX3_countMayBeRuled (wsV RX3 40 RX0 yX0_mayBe wsX0_mayBe) := goodIn_app (goodIn_of _ (by decide +kernel)) ggX3_countMayBeRuled_X0_mayBe
set_option maxRecDepth 20000 in
theorem ggX3_countMayBeRuled_X3_rulingFor : GoodIn wsX3_countMayBeRuled wsX3_rulingFor := goodIn_r _ [12, 1, 13, 14, 15, 16, 11, 17, 18, 19, 20, 21, 22, 23, 24, 25, 26, 27, 28, 29, 30] (by decide +kernel) (by decide +kernel)
set_option maxRecDepth 20000 in
theorem gX3_countMayBeRuled_X3_rulingFor : GoodIn wsX3_countMayBeRuled (wsV RX3 36 RX3 yX3_rulingFor wsX3_rulingFor) := goodIn_app (goodIn_of _ (by decide +kernel)) ggX3_countMayBeRuled_X3_rulingFor
theorem dX3_countMayBeRuled_0 : decode cX3_countMayBeRuled 0 = .ok (.iconst 0, 1) := by decide +kernel
theorem dX3_countMayBeRuled_1 : decode cX3_countMayBeRuled 1 = .ok (.istore 4, 2) := by decide +kernel
theorem dX3_countMayBeRuled_3 : decode cX3_countMayBeRuled 3 = .ok (.iconst 0, 1) := by decide +kernel
theorem dX3_countMayBeRuled_4 : decode cX3_countMayBeRuled 4 = .ok (.istore 5, 2) := by decide +kernel
theorem dX3_countMayBeRuled_6 : decode cX3_countMayBeRuled 6 = .ok (.iload 5, 2) := by decide +kernel
theorem dX3_countMayBeRuled_8 : decode cX3_countMayBeRuled 8 = .ok (.aload_n 0, 1) := by decide +kernel
theorem dX3_countMayBeRuled_9 : decode cX3_countMayBeRuled 9 = .ok (.getfield 15, 3) := by decide +kernel
theorem dX3_countMayBeRuled_12 : decode cX3_countMayBeRuled 12 = .ok (.getfield 19, 3) := by decide +kernel
theorem dX3_countMayBeRuled_15 : decode cX3_countMayBeRuled 15 = .ok (.if_icmp .ge 36, 3) := by decide +kernel
theorem dX3_countMayBeRuled_18 : decode cX3_countMayBeRuled 18 = .ok (.aload_n 0, 1) := by decide +kernel
theorem dX3_countMayBeRuled_19 : decode cX3_countMayBeRuled 19 = .ok (.getfield 15, 3) := by decide +kernel
theorem dX3_countMayBeRuled_22 : decode cX3_countMayBeRuled 22 = .ok (.iload 5, 2) := by decide +kernel
theorem dX3_countMayBeRuled_24 : decode cX3_countMayBeRuled 24 = .ok (.iload_n 1, 1) := by decide +kernel
theorem dX3_countMayBeRuled_25 : decode cX3_countMayBeRuled 25 = .ok (.iload_n 2, 1) := by decide +kernel
theorem dX3_countMayBeRuled_26 : decode cX3_countMayBeRuled 26 = .ok (.invokevirtual 40, 3) := by decide +kernel
theorem dX3_countMayBeRuled_29 : decode cX3_countMayBeRuled 29 = .ok (.ifCond .eq 16, 3) := by decide +kernel
theorem dX3_countMayBeRuled_32 : decode cX3_countMayBeRuled 32 = .ok (.aload_n 0, 1) := by decide +kernel
theorem dX3_countMayBeRuled_33 : decode cX3_countMayBeRuled 33 = .ok (.iload 5, 2) := by decide +kernel
theorem dX3_countMayBeRuled_35 : decode cX3_countMayBeRuled 35 = .ok (.invokevirtual 36, 3) := by decide +kernel
theorem dX3_countMayBeRuled_38 : decode cX3_countMayBeRuled 38 = .ok (.iload_n 3, 1) := by decide +kernel
theorem dX3_countMayBeRuled_39 : decode cX3_countMayBeRuled 39 = .ok (.if_icmp .ne 6, 3) := by decide +kernel
theorem dX3_countMayBeRuled_42 : decode cX3_countMayBeRuled 42 = .ok (.iinc 4 1, 3) := by decide +kernel
theorem dX3_countMayBeRuled_45 : decode cX3_countMayBeRuled 45 = .ok (.iinc 5 1, 3) := by decide +kernel
theorem dX3_countMayBeRuled_48 : decode cX3_countMayBeRuled 48 = .ok (.goto (-42), 3) := by decide +kernel
theorem dX3_countMayBeRuled_51 : decode cX3_countMayBeRuled 51 = .ok (.iload 4, 2) := by decide +kernel
theorem dX3_countMayBeRuled_53 : decode cX3_countMayBeRuled 53 = .ok (.ireturn, 1) := by decide +kernel
set_option maxRecDepth 20000 in
theorem ggX3_rulingForAll_X0_mayBe : GoodIn wsX3_rulingForAll wsX0_mayBe := goodIn_r _ [6, 7, 20, 21, 22, 23, 24, 25, 26, 27, 28, 29, 30] (by decide +kernel) (by decide +kernel)
set_option maxRecDepth 20000 in
theorem gX3_rulingForAll_X0_mayBe : GoodIn wsX3_rulingForAll (wsV RX3 40 RX0 yX0_mayBe wsX0_mayBe) := goodIn_app (goodIn_of _ (by decide +kernel)) ggX3_rulingForAll_X0_mayBe
set_option maxRecDepth 20000 in
theorem ggX3_rulingForAll_X3_rulingFor : GoodIn wsX3_rulingForAll wsX3_rulingFor := goodIn_r _ [12, 1, 13, 14, 15, 16, 11, 17, 18, 19, 20, 21, 22, 23, 24, 25, 26, 27, 28, 29, 30] (by decide +kernel) (by decide +kernel)
set_option maxRecDepth 20000 in
theorem gX3_rulingForAll_X3_rulingFor : GoodIn wsX3_rulingForAll (wsV RX3 36 RX3 yX3_rulingFor wsX3_rulingFor) := goodIn_app (goodIn_of _ (by decide +kernel)) ggX3_rulingForAll_X3_rulingFor
theorem dX3_rulingForAll_0 : decode cX3_rulingForAll 0 = .ok (.iconst (-1), 1) := by decide +kernel
theorem dX3_rulingForAll_1 : decode cX3_rulingForAll 1 = .ok (.istore_n 3, 1) := by decide +kernel
theorem dX3_rulingForAll_2 : decode cX3_rulingForAll 2 = .ok (.iconst 0, 1) := by decide +kernel
theorem dX3_rulingForAll_3 : decode cX3_rulingForAll 3 = .ok (.istore 4, 2) := by decide +kernel
theorem dX3_rulingForAll_5 : decode cX3_rulingForAll 5 = .ok (.iload 4, 2) := by decide +kernel
theorem dX3_rulingForAll_7 : decode cX3_rulingForAll 7 = .ok (.aload_n 0, 1) := by decide +kernel
theorem dX3_rulingForAll_8 : decode cX3_rulingForAll 8 = .ok (.getfield 15, 3) := by decide +kernel
theorem dX3_rulingForAll_11 : decode cX3_rulingForAll 11 = .ok (.getfield 19, 3) := by decide +kernel
theorem dX3_rulingForAll_14 : decode cX3_rulingForAll 14 = .ok (.if_icmp .ge 47, 3) := by decide +kernel
theorem dX3_rulingForAll_17 : decode cX3_rulingForAll 17 = .ok (.aload_n 0, 1) := by decide +kernel
theorem dX3_rulingForAll_18 : decode cX3_rulingForAll 18 = .ok (.getfield 15, 3) := by decide +kernel
theorem dX3_rulingForAll_21 : decode cX3_rulingForAll 21 = .ok (.iload 4, 2) := by decide +kernel
theorem dX3_rulingForAll_23 : decode cX3_rulingForAll 23 = .ok (.iload_n 1, 1) := by decide +kernel
theorem dX3_rulingForAll_24 : decode cX3_rulingForAll 24 = .ok (.iload_n 2, 1) := by decide +kernel
theorem dX3_rulingForAll_25 : decode cX3_rulingForAll 25 = .ok (.invokevirtual 40, 3) := by decide +kernel
theorem dX3_rulingForAll_28 : decode cX3_rulingForAll 28 = .ok (.ifCond .eq 27, 3) := by decide +kernel
theorem dX3_rulingForAll_31 : decode cX3_rulingForAll 31 = .ok (.aload_n 0, 1) := by decide +kernel
theorem dX3_rulingForAll_32 : decode cX3_rulingForAll 32 = .ok (.iload 4, 2) := by decide +kernel
theorem dX3_rulingForAll_34 : decode cX3_rulingForAll 34 = .ok (.invokevirtual 36, 3) := by decide +kernel
theorem dX3_rulingForAll_37 : decode cX3_rulingForAll 37 = .ok (.istore 5, 2) := by decide +kernel
theorem dX3_rulingForAll_39 : decode cX3_rulingForAll 39 = .ok (.iload_n 3, 1) := by decide +kernel
theorem dX3_rulingForAll_40 : decode cX3_rulingForAll 40 = .ok (.iconst (-1), 1) := by decide +kernel
theorem dX3_rulingForAll_41 : decode cX3_rulingForAll 41 = .ok (.if_icmp .eq 11, 3) := by decide +kernel
theorem dX3_rulingForAll_44 : decode cX3_rulingForAll 44 = .ok (.iload_n 3, 1) := by decide +kernel
theorem dX3_rulingForAll_45 : decode cX3_rulingForAll 45 = .ok (.iload 5, 2) := by decide +kernel
theorem dX3_rulingForAll_47 : decode cX3_rulingForAll 47 = .ok (.if_icmp .eq 5, 3) := by decide +kernel
theorem dX3_rulingForAll_50 : decode cX3_rulingForAll 50 = .ok (.iconst 0, 1) := by decide +kernel
theorem dX3_rulingForAll_51 : decode cX3_rulingForAll 51 = .ok (.ireturn, 1) := by decide +kernel
theorem dX3_rulingForAll_52 : decode cX3_rulingForAll 52 = .ok (.iload 5, 2) := by decide +kernel
theorem dX3_rulingForAll_54 : decode cX3_rulingForAll 54 = .ok (.istore_n 3, 1) := by decide +kernel
theorem dX3_rulingForAll_55 : decode cX3_rulingForAll 55 = .ok (.iinc 4 1, 3) := by decide +kernel
theorem dX3_rulingForAll_58 : decode cX3_rulingForAll 58 = .ok (.goto (-53), 3) := by decide +kernel
theorem dX3_rulingForAll_61 : decode cX3_rulingForAll 61 = .ok (.iload_n 3, 1) := by decide +kernel
theorem dX3_rulingForAll_62 : decode cX3_rulingForAll 62 = .ok (.iconst (-1), 1) := by decide +kernel
theorem dX3_rulingForAll_63 : decode cX3_rulingForAll 63 = .ok (.if_icmp .ne 7, 3) := by decide +kernel
theorem dX3_rulingForAll_66 : decode cX3_rulingForAll 66 = .ok (.iconst 0, 1) := by decide +kernel
theorem dX3_rulingForAll_67 : decode cX3_rulingForAll 67 = .ok (.goto 4, 3) := by decide +kernel
theorem dX3_rulingForAll_70 : decode cX3_rulingForAll 70 = .ok (.iload_n 3, 1) := by decide +kernel
theorem dX3_rulingForAll_71 : decode cX3_rulingForAll 71 = .ok (.ireturn, 1) := by decide +kernel
theorem dX4_init_0 : decode cX4_init 0 = .ok (.aload_n 0, 1) := by decide +kernel
theorem dX4_init_1 : decode cX4_init 1 = .ok (.invokespecial 3, 3) := by decide +kernel
theorem dX4_init_4 : decode cX4_init 4 = .ok (.aload_n 0, 1) := by decide +kernel
theorem dX4_init_5 : decode cX4_init 5 = .ok (.bipush 90, 2) := by decide +kernel
theorem dX4_init_7 : decode cX4_init 7 = .ok (.newarray .int, 2) := by decide +kernel
theorem dX4_init_9 : decode cX4_init 9 = .ok (.putfield 9, 3) := by decide +kernel
theorem dX4_init_12 : decode cX4_init 12 = .ok (.aload_n 0, 1) := by decide +kernel
theorem dX4_init_13 : decode cX4_init 13 = .ok (.bipush 90, 2) := by decide +kernel
theorem dX4_init_15 : decode cX4_init 15 = .ok (.newarray .int, 2) := by decide +kernel
theorem dX4_init_17 : decode cX4_init 17 = .ok (.putfield 15, 3) := by decide +kernel
theorem dX4_init_20 : decode cX4_init 20 = .ok (.aload_n 0, 1) := by decide +kernel
theorem dX4_init_21 : decode cX4_init 21 = .ok (.bipush 30, 2) := by decide +kernel
theorem dX4_init_23 : decode cX4_init 23 = .ok (.newarray .int, 2) := by decide +kernel
theorem dX4_init_25 : decode cX4_init 25 = .ok (.putfield 18, 3) := by decide +kernel
theorem dX4_init_28 : decode cX4_init 28 = .ok (.return_, 1) := by decide +kernel
theorem dX4_has_0 : decode cX4_has 0 = .ok (.iload_n 1, 1) := by decide +kernel
theorem dX4_has_1 : decode cX4_has 1 = .ok (.ifCond .lt 15, 3) := by decide +kernel
theorem dX4_has_4 : decode cX4_has 4 = .ok (.iload_n 1, 1) := by decide +kernel
theorem dX4_has_5 : decode cX4_has 5 = .ok (.aload_n 0, 1) := by decide +kernel
theorem dX4_has_6 : decode cX4_has 6 = .ok (.getfield 21, 3) := by decide +kernel
theorem dX4_has_9 : decode cX4_has 9 = .ok (.if_icmp .ge 7, 3) := by decide +kernel
theorem dX4_has_12 : decode cX4_has 12 = .ok (.iconst 1, 1) := by decide +kernel
theorem dX4_has_13 : decode cX4_has 13 = .ok (.goto 4, 3) := by decide +kernel
theorem dX4_has_16 : decode cX4_has 16 = .ok (.iconst 0, 1) := by decide +kernel
theorem dX4_has_17 : decode cX4_has 17 = .ok (.ireturn, 1) := by decide +kernel
theorem dX4_add_0 : decode cX4_add 0 = .ok (.aload_n 0, 1) := by decide +kernel
theorem dX4_add_1 : decode cX4_add 1 = .ok (.getfield 21, 3) := by decide +kernel
theorem dX4_add_4 : decode cX4_add 4 = .ok (.istore_n 1, 1) := by decide +kernel
theorem dX4_add_5 : decode cX4_add 5 = .ok (.iconst 0, 1) := by decide +kernel
theorem dX4_add_6 : decode cX4_add 6 = .ok (.istore_n 2, 1) := by decide +kernel
theorem dX4_add_7 : decode cX4_add 7 = .ok (.iload_n 2, 1) := by decide +kernel
theorem dX4_add_8 : decode cX4_add 8 = .ok (.iconst 3, 1) := by decide +kernel
theorem dX4_add_9 : decode cX4_add 9 = .ok (.if_icmp .ge 31, 3) := by decide +kernel
theorem dX4_add_12 : decode cX4_add 12 = .ok (.aload_n 0, 1) := by decide +kernel
theorem dX4_add_13 : decode cX4_add 13 = .ok (.getfield 9, 3) := by decide +kernel
theorem dX4_add_16 : decode cX4_add 16 = .ok (.iload_n 1, 1) := by decide +kernel
theorem dX4_add_17 : decode cX4_add 17 = .ok (.iconst 3, 1) := by decide +kernel
theorem dX4_add_18 : decode cX4_add 18 = .ok (.imul, 1) := by decide +kernel
theorem dX4_add_19 : decode cX4_add 19 = .ok (.iload_n 2, 1) := by decide +kernel
theorem dX4_add_20 : decode cX4_add 20 = .ok (.iadd, 1) := by decide +kernel
theorem dX4_add_21 : decode cX4_add 21 = .ok (.iconst 0, 1) := by decide +kernel
theorem dX4_add_22 : decode cX4_add 22 = .ok (.iastore, 1) := by decide +kernel
theorem dX4_add_23 : decode cX4_add 23 = .ok (.aload_n 0, 1) := by decide +kernel
theorem dX4_add_24 : decode cX4_add 24 = .ok (.getfield 15, 3) := by decide +kernel
theorem dX4_add_27 : decode cX4_add 27 = .ok (.iload_n 1, 1) := by decide +kernel
theorem dX4_add_28 : decode cX4_add 28 = .ok (.iconst 3, 1) := by decide +kernel
theorem dX4_add_29 : decode cX4_add 29 = .ok (.imul, 1) := by decide +kernel
theorem dX4_add_30 : decode cX4_add 30 = .ok (.iload_n 2, 1) := by decide +kernel
theorem dX4_add_31 : decode cX4_add 31 = .ok (.iadd, 1) := by decide +kernel
theorem dX4_add_32 : decode cX4_add 32 = .ok (.iconst 0, 1) := by decide +kernel
theorem dX4_add_33 : decode cX4_add 33 = .ok (.iastore, 1) := by decide +kernel
theorem dX4_add_34 : decode cX4_add 34 = .ok (.iinc 2 1, 3) := by decide +kernel
theorem dX4_add_37 : decode cX4_add 37 = .ok (.goto (-30), 3) := by decide +kernel
theorem dX4_add_40 : decode cX4_add 40 = .ok (.aload_n 0, 1) := by decide +kernel
theorem dX4_add_41 : decode cX4_add 41 = .ok (.getfield 18, 3) := by decide +kernel
theorem dX4_add_44 : decode cX4_add 44 = .ok (.iload_n 1, 1) := by decide +kernel
theorem dX4_add_45 : decode cX4_add 45 = .ok (.iconst (-1), 1) := by decide +kernel
theorem dX4_add_46 : decode cX4_add 46 = .ok (.iastore, 1) := by decide +kernel
theorem dX4_add_47 : decode cX4_add 47 = .ok (.aload_n 0, 1) := by decide +kernel
theorem dX4_add_48 : decode cX4_add 48 = .ok (.dup, 1) := by decide +kernel
theorem dX4_add_49 : decode cX4_add 49 = .ok (.getfield 21, 3) := by decide +kernel
theorem dX4_add_52 : decode cX4_add 52 = .ok (.iconst 1, 1) := by decide +kernel
theorem dX4_add_53 : decode cX4_add 53 = .ok (.iadd, 1) := by decide +kernel
theorem dX4_add_54 : decode cX4_add 54 = .ok (.putfield 21, 3) := by decide +kernel
theorem dX4_add_57 : decode cX4_add 57 = .ok (.iload_n 1, 1) := by decide +kernel
theorem dX4_add_58 : decode cX4_add 58 = .ok (.ireturn, 1) := by decide +kernel
set_option maxRecDepth 20000 in
theorem ggX4_hear_X5_hasBit : GoodIn wsX4_hear wsX5_hasBit := goodIn_r _ [5] (by decide +kernel) (by decide +kernel)
set_option maxRecDepth 20000 in
theorem gX4_hear_X5_hasBit_n25 : GoodIn wsX4_hear (wsX5_hasBit) := ggX4_hear_X5_hasBit
theorem dX4_hear_0 : decode cX4_hear 0 = .ok (.iload_n 1, 1) := by decide +kernel
theorem dX4_hear_1 : decode cX4_hear 1 = .ok (.iconst 3, 1) := by decide +kernel
theorem dX4_hear_2 : decode cX4_hear 2 = .ok (.imul, 1) := by decide +kernel
theorem dX4_hear_3 : decode cX4_hear 3 = .ok (.iload_n 2, 1) := by decide +kernel
theorem dX4_hear_4 : decode cX4_hear 4 = .ok (.iadd, 1) := by decide +kernel
theorem dX4_hear_5 : decode cX4_hear 5 = .ok (.istore 5, 2) := by decide +kernel
theorem dX4_hear_7 : decode cX4_hear 7 = .ok (.iconst 2, 1) := by decide +kernel
theorem dX4_hear_8 : decode cX4_hear 8 = .ok (.istore 6, 2) := by decide +kernel
theorem dX4_hear_10 : decode cX4_hear 10 = .ok (.aload_n 0, 1) := by decide +kernel
theorem dX4_hear_11 : decode cX4_hear 11 = .ok (.getfield 9, 3) := by decide +kernel
theorem dX4_hear_14 : decode cX4_hear 14 = .ok (.iload 5, 2) := by decide +kernel
theorem dX4_hear_16 : decode cX4_hear 16 = .ok (.iaload, 1) := by decide +kernel
theorem dX4_hear_17 : decode cX4_hear 17 = .ok (.iload_n 3, 1) := by decide +kernel
theorem dX4_hear_18 : decode cX4_hear 18 = .ok (.invokestatic 25, 3) := by decide +kernel
theorem dX4_hear_21 : decode cX4_hear 21 = .ok (.ifCond .eq 9, 3) := by decide +kernel
theorem dX4_hear_24 : decode cX4_hear 24 = .ok (.iconst 1, 1) := by decide +kernel
theorem dX4_hear_25 : decode cX4_hear 25 = .ok (.istore 6, 2) := by decide +kernel
theorem dX4_hear_27 : decode cX4_hear 27 = .ok (.goto 20, 3) := by decide +kernel
theorem dX4_hear_30 : decode cX4_hear 30 = .ok (.aload_n 0, 1) := by decide +kernel
theorem dX4_hear_31 : decode cX4_hear 31 = .ok (.getfield 15, 3) := by decide +kernel
theorem dX4_hear_34 : decode cX4_hear 34 = .ok (.iload 5, 2) := by decide +kernel
theorem dX4_hear_36 : decode cX4_hear 36 = .ok (.iaload, 1) := by decide +kernel
theorem dX4_hear_37 : decode cX4_hear 37 = .ok (.iload_n 3, 1) := by decide +kernel
theorem dX4_hear_38 : decode cX4_hear 38 = .ok (.invokestatic 25, 3) := by decide +kernel
theorem dX4_hear_41 : decode cX4_hear 41 = .ok (.ifCond .eq 6, 3) := by decide +kernel
theorem dX4_hear_44 : decode cX4_hear 44 = .ok (.iconst 0, 1) := by decide +kernel
theorem dX4_hear_45 : decode cX4_hear 45 = .ok (.istore 6, 2) := by decide +kernel
theorem dX4_hear_47 : decode cX4_hear 47 = .ok (.aload_n 0, 1) := by decide +kernel
theorem dX4_hear_48 : decode cX4_hear 48 = .ok (.getfield 9, 3) := by decide +kernel
theorem dX4_hear_51 : decode cX4_hear 51 = .ok (.iload 5, 2) := by decide +kernel
theorem dX4_hear_53 : decode cX4_hear 53 = .ok (.dup2, 1) := by decide +kernel
theorem dX4_hear_54 : decode cX4_hear 54 = .ok (.iaload, 1) := by decide +kernel
theorem dX4_hear_55 : decode cX4_hear 55 = .ok (.iconst 1, 1) := by decide +kernel
theorem dX4_hear_56 : decode cX4_hear 56 = .ok (.iload_n 3, 1) := by decide +kernel
theorem dX4_hear_57 : decode cX4_hear 57 = .ok (.ishl, 1) := by decide +kernel
theorem dX4_hear_58 : decode cX4_hear 58 = .ok (.iconst (-1), 1) := by decide +kernel
theorem dX4_hear_59 : decode cX4_hear 59 = .ok (.ixor, 1) := by decide +kernel
theorem dX4_hear_60 : decode cX4_hear 60 = .ok (.iand, 1) := by decide +kernel
theorem dX4_hear_61 : decode cX4_hear 61 = .ok (.iastore, 1) := by decide +kernel
theorem dX4_hear_62 : decode cX4_hear 62 = .ok (.aload_n 0, 1) := by decide +kernel
theorem dX4_hear_63 : decode cX4_hear 63 = .ok (.getfield 15, 3) := by decide +kernel
theorem dX4_hear_66 : decode cX4_hear 66 = .ok (.iload 5, 2) := by decide +kernel
theorem dX4_hear_68 : decode cX4_hear 68 = .ok (.dup2, 1) := by decide +kernel
theorem dX4_hear_69 : decode cX4_hear 69 = .ok (.iaload, 1) := by decide +kernel
theorem dX4_hear_70 : decode cX4_hear 70 = .ok (.iconst 1, 1) := by decide +kernel
theorem dX4_hear_71 : decode cX4_hear 71 = .ok (.iload_n 3, 1) := by decide +kernel
theorem dX4_hear_72 : decode cX4_hear 72 = .ok (.ishl, 1) := by decide +kernel
theorem dX4_hear_73 : decode cX4_hear 73 = .ok (.iconst (-1), 1) := by decide +kernel
theorem dX4_hear_74 : decode cX4_hear 74 = .ok (.ixor, 1) := by decide +kernel
theorem dX4_hear_75 : decode cX4_hear 75 = .ok (.iand, 1) := by decide +kernel
theorem dX4_hear_76 : decode cX4_hear 76 = .ok (.iastore, 1) := by decide +kernel
theorem dX4_hear_77 : decode cX4_hear 77 = .ok (.iload 4, 2) := by decide +kernel
theorem dX4_hear_79 : decode cX4_hear 79 = .ok (.iconst 1, 1) := by decide +kernel
theorem dX4_hear_80 : decode cX4_hear 80 = .ok (.if_icmp .ne 19, 3) := by decide +kernel
theorem dX4_hear_83 : decode cX4_hear 83 = .ok (.aload_n 0, 1) := by decide +kernel
theorem dX4_hear_84 : decode cX4_hear 84 = .ok (.getfield 9, 3) := by decide +kernel
theorem dX4_hear_87 : decode cX4_hear 87 = .ok (.iload 5, 2) := by decide +kernel
theorem dX4_hear_89 : decode cX4_hear 89 = .ok (.dup2, 1) := by decide +kernel
theorem dX4_hear_90 : decode cX4_hear 90 = .ok (.iaload, 1) := by decide +kernel
theorem dX4_hear_91 : decode cX4_hear 91 = .ok (.iconst 1, 1) := by decide +kernel
theorem dX4_hear_92 : decode cX4_hear 92 = .ok (.iload_n 3, 1) := by decide +kernel
theorem dX4_hear_93 : decode cX4_hear 93 = .ok (.ishl, 1) := by decide +kernel
theorem dX4_hear_94 : decode cX4_hear 94 = .ok (.ior, 1) := by decide +kernel
theorem dX4_hear_95 : decode cX4_hear 95 = .ok (.iastore, 1) := by decide +kernel
theorem dX4_hear_96 : decode cX4_hear 96 = .ok (.goto 21, 3) := by decide +kernel
theorem dX4_hear_99 : decode cX4_hear 99 = .ok (.iload 4, 2) := by decide +kernel
theorem dX4_hear_101 : decode cX4_hear 101 = .ok (.ifCond .ne 16, 3) := by decide +kernel
theorem dX4_hear_104 : decode cX4_hear 104 = .ok (.aload_n 0, 1) := by decide +kernel
theorem dX4_hear_105 : decode cX4_hear 105 = .ok (.getfield 15, 3) := by decide +kernel
theorem dX4_hear_108 : decode cX4_hear 108 = .ok (.iload 5, 2) := by decide +kernel
theorem dX4_hear_110 : decode cX4_hear 110 = .ok (.dup2, 1) := by decide +kernel
theorem dX4_hear_111 : decode cX4_hear 111 = .ok (.iaload, 1) := by decide +kernel
theorem dX4_hear_112 : decode cX4_hear 112 = .ok (.iconst 1, 1) := by decide +kernel
theorem dX4_hear_113 : decode cX4_hear 113 = .ok (.iload_n 3, 1) := by decide +kernel
theorem dX4_hear_114 : decode cX4_hear 114 = .ok (.ishl, 1) := by decide +kernel
theorem dX4_hear_115 : decode cX4_hear 115 = .ok (.ior, 1) := by decide +kernel
theorem dX4_hear_116 : decode cX4_hear 116 = .ok (.iastore, 1) := by decide +kernel
theorem dX4_hear_117 : decode cX4_hear 117 = .ok (.iload 6, 2) := by decide +kernel
theorem dX4_hear_119 : decode cX4_hear 119 = .ok (.ireturn, 1) := by decide +kernel
set_option maxRecDepth 20000 in
theorem ggX4_knownSo_X4_ofAll : GoodIn wsX4_knownSo wsX4_ofAll := goodIn_r _ [6] (by decide +kernel) (by decide +kernel)
set_option maxRecDepth 20000 in
theorem gX4_knownSo_X4_ofAll : GoodIn wsX4_knownSo (va_wsS RX4 29 yX4_ofAll wsX4_ofAll) := goodIn_app (goodIn_of _ (by decide +kernel)) ggX4_knownSo_X4_ofAll
theorem dX4_knownSo_0 : decode cX4_knownSo 0 = .ok (.aload_n 0, 1) := by decide +kernel
theorem dX4_knownSo_1 : decode cX4_knownSo 1 = .ok (.getfield 9, 3) := by decide +kernel
theorem dX4_knownSo_4 : decode cX4_knownSo 4 = .ok (.iload_n 1, 1) := by decide +kernel
theorem dX4_knownSo_5 : decode cX4_knownSo 5 = .ok (.invokestatic 29, 3) := by decide +kernel
theorem dX4_knownSo_8 : decode cX4_knownSo 8 = .ok (.aload_n 0, 1) := by decide +kernel
theorem dX4_knownSo_9 : decode cX4_knownSo 9 = .ok (.getfield 15, 3) := by decide +kernel
theorem dX4_knownSo_12 : decode cX4_knownSo 12 = .ok (.iload_n 1, 1) := by decide +kernel
theorem dX4_knownSo_13 : decode cX4_knownSo 13 = .ok (.invokestatic 29, 3) := by decide +kernel
theorem dX4_knownSo_16 : decode cX4_knownSo 16 = .ok (.iconst (-1), 1) := by decide +kernel
theorem dX4_knownSo_17 : decode cX4_knownSo 17 = .ok (.ixor, 1) := by decide +kernel
theorem dX4_knownSo_18 : decode cX4_knownSo 18 = .ok (.iand, 1) := by decide +kernel
theorem dX4_knownSo_19 : decode cX4_knownSo 19 = .ok (.ireturn, 1) := by decide +kernel
set_option maxRecDepth 20000 in
theorem ggX4_knownNotSo_X4_ofAll : GoodIn wsX4_knownNotSo wsX4_ofAll := goodIn_r _ [6] (by decide +kernel) (by decide +kernel)
set_option maxRecDepth 20000 in
theorem gX4_knownNotSo_X4_ofAll : GoodIn wsX4_knownNotSo (va_wsS RX4 29 yX4_ofAll wsX4_ofAll) := goodIn_app (goodIn_of _ (by decide +kernel)) ggX4_knownNotSo_X4_ofAll
theorem dX4_knownNotSo_0 : decode cX4_knownNotSo 0 = .ok (.aload_n 0, 1) := by decide +kernel
theorem dX4_knownNotSo_1 : decode cX4_knownNotSo 1 = .ok (.getfield 15, 3) := by decide +kernel
theorem dX4_knownNotSo_4 : decode cX4_knownNotSo 4 = .ok (.iload_n 1, 1) := by decide +kernel
theorem dX4_knownNotSo_5 : decode cX4_knownNotSo 5 = .ok (.invokestatic 29, 3) := by decide +kernel
theorem dX4_knownNotSo_8 : decode cX4_knownNotSo 8 = .ok (.aload_n 0, 1) := by decide +kernel
theorem dX4_knownNotSo_9 : decode cX4_knownNotSo 9 = .ok (.getfield 9, 3) := by decide +kernel
theorem dX4_knownNotSo_12 : decode cX4_knownNotSo 12 = .ok (.iload_n 1, 1) := by decide +kernel
theorem dX4_knownNotSo_13 : decode cX4_knownNotSo 13 = .ok (.invokestatic 29, 3) := by decide +kernel
theorem dX4_knownNotSo_16 : decode cX4_knownNotSo 16 = .ok (.iconst (-1), 1) := by decide +kernel
theorem dX4_knownNotSo_17 : decode cX4_knownNotSo 17 = .ok (.ixor, 1) := by decide +kernel
theorem dX4_knownNotSo_18 : decode cX4_knownNotSo 18 = .ok (.iand, 1) := by decide +kernel
theorem dX4_knownNotSo_19 : decode cX4_knownNotSo 19 = .ok (.ireturn, 1) := by decide +kernel
theorem dX4_ofAll_0 : decode cX4_ofAll 0 = .ok (.iconst 0, 1) := by decide +kernel
theorem dX4_ofAll_1 : decode cX4_ofAll 1 = .ok (.istore_n 2, 1) := by decide +kernel
theorem dX4_ofAll_2 : decode cX4_ofAll 2 = .ok (.iconst 0, 1) := by decide +kernel
theorem dX4_ofAll_3 : decode cX4_ofAll 3 = .ok (.istore_n 3, 1) := by decide +kernel
theorem dX4_ofAll_4 : decode cX4_ofAll 4 = .ok (.iload_n 3, 1) := by decide +kernel
theorem dX4_ofAll_5 : decode cX4_ofAll 5 = .ok (.iconst 3, 1) := by decide +kernel
theorem dX4_ofAll_6 : decode cX4_ofAll 6 = .ok (.if_icmp .ge 19, 3) := by decide +kernel
theorem dX4_ofAll_9 : decode cX4_ofAll 9 = .ok (.iload_n 2, 1) := by decide +kernel
theorem dX4_ofAll_10 : decode cX4_ofAll 10 = .ok (.aload_n 0, 1) := by decide +kernel
theorem dX4_ofAll_11 : decode cX4_ofAll 11 = .ok (.iload_n 1, 1) := by decide +kernel
theorem dX4_ofAll_12 : decode cX4_ofAll 12 = .ok (.iconst 3, 1) := by decide +kernel
theorem dX4_ofAll_13 : decode cX4_ofAll 13 = .ok (.imul, 1) := by decide +kernel
theorem dX4_ofAll_14 : decode cX4_ofAll 14 = .ok (.iload_n 3, 1) := by decide +kernel
theorem dX4_ofAll_15 : decode cX4_ofAll 15 = .ok (.iadd, 1) := by decide +kernel
theorem dX4_ofAll_16 : decode cX4_ofAll 16 = .ok (.iaload, 1) := by decide +kernel
theorem dX4_ofAll_17 : decode cX4_ofAll 17 = .ok (.ior, 1) := by decide +kernel
theorem dX4_ofAll_18 : decode cX4_ofAll 18 = .ok (.istore_n 2, 1) := by decide +kernel
theorem dX4_ofAll_19 : decode cX4_ofAll 19 = .ok (.iinc 3 1, 3) := by decide +kernel
theorem dX4_ofAll_22 : decode cX4_ofAll 22 = .ok (.goto (-18), 3) := by decide +kernel
theorem dX4_ofAll_25 : decode cX4_ofAll 25 = .ok (.iload_n 2, 1) := by decide +kernel
theorem dX4_ofAll_26 : decode cX4_ofAll 26 = .ok (.ireturn, 1) := by decide +kernel
theorem dX5_oneIf_0 : decode cX5_oneIf 0 = .ok (.iload_n 0, 1) := by decide +kernel
theorem dX5_oneIf_1 : decode cX5_oneIf 1 = .ok (.ifCond .eq 7, 3) := by decide +kernel
theorem dX5_oneIf_4 : decode cX5_oneIf 4 = .ok (.iconst 1, 1) := by decide +kernel
theorem dX5_oneIf_5 : decode cX5_oneIf 5 = .ok (.goto 4, 3) := by decide +kernel
theorem dX5_oneIf_8 : decode cX5_oneIf 8 = .ok (.iconst 0, 1) := by decide +kernel
theorem dX5_oneIf_9 : decode cX5_oneIf 9 = .ok (.ireturn, 1) := by decide +kernel
theorem dX5_hasBit_0 : decode cX5_hasBit 0 = .ok (.iload_n 0, 1) := by decide +kernel
theorem dX5_hasBit_1 : decode cX5_hasBit 1 = .ok (.iload_n 1, 1) := by decide +kernel
theorem dX5_hasBit_2 : decode cX5_hasBit 2 = .ok (.ishr, 1) := by decide +kernel
theorem dX5_hasBit_3 : decode cX5_hasBit 3 = .ok (.iconst 1, 1) := by decide +kernel
theorem dX5_hasBit_4 : decode cX5_hasBit 4 = .ok (.iand, 1) := by decide +kernel
theorem dX5_hasBit_5 : decode cX5_hasBit 5 = .ok (.ifCond .eq 7, 3) := by decide +kernel
theorem dX5_hasBit_8 : decode cX5_hasBit 8 = .ok (.iconst 1, 1) := by decide +kernel
theorem dX5_hasBit_9 : decode cX5_hasBit 9 = .ok (.goto 4, 3) := by decide +kernel
theorem dX5_hasBit_12 : decode cX5_hasBit 12 = .ok (.iconst 0, 1) := by decide +kernel
theorem dX5_hasBit_13 : decode cX5_hasBit 13 = .ok (.ireturn, 1) := by decide +kernel
theorem dX5_isRuling_0 : decode cX5_isRuling 0 = .ok (.iload_n 0, 1) := by decide +kernel
theorem dX5_isRuling_1 : decode cX5_isRuling 1 = .ok (.ifCond .lt 12, 3) := by decide +kernel
theorem dX5_isRuling_4 : decode cX5_isRuling 4 = .ok (.iload_n 0, 1) := by decide +kernel
theorem dX5_isRuling_5 : decode cX5_isRuling 5 = .ok (.iconst 4, 1) := by decide +kernel
theorem dX5_isRuling_6 : decode cX5_isRuling 6 = .ok (.if_icmp .gt 7, 3) := by decide +kernel
theorem dX5_isRuling_9 : decode cX5_isRuling 9 = .ok (.iconst 1, 1) := by decide +kernel
theorem dX5_isRuling_10 : decode cX5_isRuling 10 = .ok (.goto 4, 3) := by decide +kernel
theorem dX5_isRuling_13 : decode cX5_isRuling 13 = .ok (.iconst 0, 1) := by decide +kernel
theorem dX5_isRuling_14 : decode cX5_isRuling 14 = .ok (.ireturn, 1) := by decide +kernel
end
section
/-! what the loops need -/
theorem m1_f {q : Nat} (h : ¬ nI q - 1 < 0) : 0 < q := by
  rcases Nat.eq_zero_or_pos q with e | e
  · subst e; exact absurd (by decide) h
  · exact e
theorem m1_t {q : Nat} (hq : q < 2 ^ 30) (h : nI q - 1 < 0) : q = 0 := by
  rcases Nat.eq_zero_or_pos q with e | e
  · exact e
  · obtain ⟨j, rfl⟩ : ∃ j, q = j + 1 := ⟨q - 1, by omega⟩
    rw [nI_pred] at h
    exact absurd h (nI_pos (by omega))
theorem dec1 (x : Int32) : x + Int32.ofInt (-1) = x - 1 := by rw [Int32.sub_eq_add_neg]; rfl
def nmR (σ : ST) (rp : Int32) (q : Nat) : Nat → Int32 × Int32
  | 0 => (0, nI (2 ^ q))
  | j + 1 => if hb (nmR σ rp q j).2 (nI (q + j)) then ((nmR σ rp q j).1 ||| (rMu σ (q + j) ||| rMn σ (q + j)), (nmR σ rp q j).2 ||| (rEr σ (q + j) &&& (rp ^^^ (-1)))) else nmR σ rp q j
def nmI (σ : ST) (rp : Int32) (q : Nat) : Int32 := (nmR σ rp q (sN σ - q)).1
theorem nmR_y {σ : ST} {rp : Int32} {q j : Nat} (h : hb (nmR σ rp q j).2 (nI (q + j)) = true) : nmR σ rp q (j + 1) = ((nmR σ rp q j).1 ||| (rMu σ (q + j) ||| rMn σ (q + j)), (nmR σ rp q j).2 ||| (rEr σ (q + j) &&& (rp ^^^ (-1)))) := by rw [nmR, if_pos h]
theorem nmR_n {σ : ST} {rp : Int32} {q j : Nat} (h : hb (nmR σ rp q j).2 (nI (q + j)) = false) : nmR σ rp q (j + 1) = nmR σ rp q j := by rw [nmR, if_neg (by rw [h]; decide)]
def difB (σ : ST) (rp rq : Int32) (k : Nat) : Bool := !decide (rulI σ rp k = rulI σ rq k) || !decide (covB σ rp k = covB σ rq k)
theorem rulI_5 {σ : ST} (hok : Ok σ) (rp : Int32) (k : Nat) : ∃ r, r < 5 ∧ rulI σ rp k = nI r := by
  unfold rulI
  by_cases h : lawN σ rp k < sN σ
  · rw [if_pos h]; exact (hok.2.1 _ h).1
  · rw [if_neg h]; exact ⟨0, by decide, rfl⟩
theorem n5 : ∀ r, r < 5 → ¬ nI r = -1 := by decide +kernel
theorem n5i {a b : Nat} (ha : a < 5) (hb : b < 5) (h : nI a = nI b) : a = b := (nI_eq (by omega) (by omega)).mp h
def rfV (σ : ST) (rp so ns : Int32) (k : Nat) (x : Int32) : Prop := (x = -1 ∧ ∀ j, j < k → mbB σ so ns j = false) ∨ (∃ r, r < 5 ∧ x = nI r ∧ (∀ j, j < k → mbB σ so ns j = true → rulI σ rp j = nI r) ∧ ∃ j, j < k ∧ mbB σ so ns j = true)
theorem rfa_skip {σ : ST} {rp so ns x : Int32} {k : Nat} (hv : rfV σ rp so ns k x) (h : mbB σ so ns k = false) : rfV σ rp so ns (k + 1) x := by
  rcases hv with ⟨a, b⟩ | ⟨r, a, b, c, j, d, e⟩
  · exact Or.inl ⟨a, lt_s b h⟩
  · refine Or.inr ⟨r, a, b, lt_s c (fun z => by rw [h] at z; cases z), j, by omega, e⟩
theorem rfa_step {σ : ST} {rp so ns x : Int32} {k : Nat} (hok : Ok σ) (_ : k < 2 ^ sF σ) (hv : rfV σ rp so ns k x) (h : mbB σ so ns k = true) (hx : x = -1 ∨ x = rulI σ rp k) : rfV σ rp so ns (k + 1) (rulI σ rp k) := by
  obtain ⟨r0, h0, e0⟩ := rulI_5 hok rp k
  rcases hv with ⟨a, b⟩ | ⟨r, a, b, c, j, d, e⟩
  · exact Or.inr ⟨r0, h0, e0, lt_s (fun j hj z => by rw [b j hj] at z; cases z) (fun _ => e0), k, by omega, h⟩
  · rcases hx with q | q
    · exact absurd (b.symm.trans q) (n5 r a)
    · exact Or.inr ⟨r, a, q.symm.trans b, lt_s c (fun _ => q.symm.trans b), k, by omega, h⟩
theorem rfa_all {σ : ST} {rp so ns : Int32} {r : Nat} (h : decide (cmr σ rp so ns (nI r) = cmb σ so ns) = true) : ∀ j, j < 2 ^ sF σ → mbB σ so ns j = true → rulI σ rp j = nI r := by
  intro j hj hm
  have := cnt_sub (q := mrB σ rp so ns (nI r)) (r := mbB σ so ns) (n := 2 ^ sF σ) (fun k _ hq => by simp only [mrB, Bool.and_eq_true] at hq; exact hq.1) (of_decide_eq_true h) j hj hm
  simp only [mrB, Bool.and_eq_true, decide_eq_true_eq] at this
  exact this.2
theorem rfa_two {σ : ST} {rp so ns x : Int32} {k : Nat} (hk : k < 2 ^ sF σ) (hv : rfV σ rp so ns k x) (h : mbB σ so ns k = true) (h1 : ¬ x = -1) (h2 : ¬ x = rulI σ rp k) : rfaI σ rp so ns = 0 := by
  rcases hv with ⟨a, b⟩ | ⟨r, a, b, c, j, d, e⟩
  · exact absurd a h1
  · unfold rfaI rfaN
    rw [fst_no, if_neg (by decide)]
    intro r' _
    apply nf
    intro z
    have z1 := rfa_all z j (by omega) e
    have z2 := rfa_all z k hk h
    exact h2 (b.trans ((c j d e).symm.trans (z1.trans z2.symm)))
theorem rfa_none {σ : ST} {rp so ns x : Int32} {k : Nat} (hk : k = 2 ^ sF σ) (hv : rfV σ rp so ns k x) (h1 : x = -1) : rfaI σ rp so ns = 0 := by
  rcases hv with ⟨a, b⟩ | ⟨r, a, b, c, j, d, e⟩
  · subst hk
    have z1 : cmb σ so ns = 0 := cnt_0.mpr b
    have z2 : cmr σ rp so ns (nI 0) = 0 := cnt_0.mpr (fun j hj => by simp [mrB, b j hj])
    unfold rfaI rfaN
    rw [fst_at (i := 0) (by rw [z1, z2]; rfl) (fun j hj => absurd hj (Nat.not_lt_zero _)) (by decide)]
    rfl
  · exact absurd (b.symm.trans h1) (n5 r a)
theorem rfa_one {σ : ST} {rp so ns x : Int32} {k : Nat} (hk : k = 2 ^ sF σ) (hv : rfV σ rp so ns k x) (h1 : ¬ x = -1) : rfaI σ rp so ns = x := by
  rcases hv with ⟨a, b⟩ | ⟨r, a, b, c, j, d, e⟩
  · exact absurd a h1
  · subst hk
    unfold rfaI rfaN
    have z1 : decide (cmr σ rp so ns (nI r) = cmb σ so ns) = true := decide_eq_true (cnt_cong (fun k hk => by
      cases hm : mbB σ so ns k
      · simp [mrB, hm]
      · simp [mrB, hm, c k hk hm]))
    rw [fst_at (i := r) z1 (fun r' hr' => nf (fun z => by
      have z3 := rfa_all z j d e
      have := n5i (by omega) a (z3.symm.trans (c j d e))
      omega)) a, if_pos a, b]
end
section
set_option maxHeartbeats 4000000 in
set_option maxRecDepth 100000 in
theorem c_X5_hasBit (l : Launch) (D : va_G) (cI cZ : ClassId) (a : Int32) (b : Int32) : Met l yX5_hasBit wsX5_hasBit ({ frames := 0, cells := 0, slots := 0, locals := 0 }) (va_Pc [.int a, .int b] (XP D cI cZ [])) (vp_Si (fun r => r = b2 (hb a b))) 0 0 (fun _ => False) := by
  refine Met.ofW (cc := cX5_hasBit) (maxL := 2) (ret := (some .boolean)) (by decide) rfl ?_
  intro p e s m args below meth c s₁ B hml hv
  obtain ⟨rfl, hP, hK, hN⟩ := hv
  have hx := B.exec
  have hb := B.bytes
  have hr := B.returns
  have hts := atoms_spec (ws := wsX5_hasBit) B.pre
  have hown : s.vm.findClass RX5 = some m.cls := findClass_of_methodNamed B.named
  have hlocks := B.notSynchronized
  have hl := lv_entry ([.int a, .int b]) (n := 2) (Nat.le_of_ble_eq_true rfl)
  rw [lg_entry_eq]
  generalize (lg_sl ([.int a, .int b]) ++ List.replicate (2 - (lg_sl ([.int a, .int b])).length) Slot.unset).toArray = ls at hl ⊢
  have hl : lv_has ls 2 [(0, .int a), (1, .int b)] := hl
  refine lv_iload_n hx hb dX5_hasBit_0 rfl (lv_at hl 0 rfl) ?_
  refine lv_iload_n hx hb dX5_hasBit_1 rfl (lv_at hl 1 rfl) ?_
  refine lv_ishr hx hb dX5_hasBit_2 ?_
  refine lv_iconst (v := 1) hx hb dX5_hasBit_3 (by decide) ?_
  refine lv_iand hx hb dX5_hasBit_4 ?_
  refine lv_asi (show (a >>> (b &&& 31)) &&& 1 = b2 (hb a b) from hb_b2 _ _) ?_
  refine lv_if_eq (tgt := 12) hx hb dX5_hasBit_5 (by decide) (fun c5 => ?_) (fun c5 => ?_)
  · skip
    have c5 := b2_0 c5
    refine lv_iconst (v := 0) hx hb dX5_hasBit_12 (by decide) ?_
    exact W.zret (v := 0) (ty := .boolean) hx hb hr rfl (fun t ht hW => ⟨_, rfl, by simp [c5, b2], ht⟩) (fun _ h => absurd h List.not_mem_nil) dX5_hasBit_13
  · skip
    have c5 := b2_1 c5
    refine lv_iconst (v := 1) hx hb dX5_hasBit_8 (by decide) ?_
    refine lv_goto (tgt := 13) hx hb dX5_hasBit_9 (by decide) ?_
    exact W.zret (v := 1) (ty := .boolean) hx hb hr rfl (fun t ht hW => ⟨_, rfl, by simp [c5, b2], ht⟩) (fun _ h => absurd h List.not_mem_nil) dX5_hasBit_13

set_option maxHeartbeats 4000000 in
set_option maxRecDepth 100000 in
theorem c_X5_oneIf (l : Launch) (D : va_G) (cI cZ : ClassId) (a : Bool) : Met l yX5_oneIf wsX5_oneIf ({ frames := 0, cells := 0, slots := 0, locals := 0 }) (va_Pc [.int (b2 a)] (XP D cI cZ [])) (vp_Si (fun r => r = b2 a)) 0 0 (fun _ => False) := by
  refine Met.ofW (cc := cX5_oneIf) (maxL := 1) (ret := (some .int)) (by decide) rfl ?_
  intro p e s m args below meth c s₁ B hml hv
  obtain ⟨rfl, hP, hK, hN⟩ := hv
  have hx := B.exec
  have hb := B.bytes
  have hr := B.returns
  have hts := atoms_spec (ws := wsX5_oneIf) B.pre
  have hown : s.vm.findClass RX5 = some m.cls := findClass_of_methodNamed B.named
  have hlocks := B.notSynchronized
  have hl := lv_entry ([.int (b2 a)]) (n := 1) (Nat.le_of_ble_eq_true rfl)
  rw [lg_entry_eq]
  generalize (lg_sl ([.int (b2 a)]) ++ List.replicate (1 - (lg_sl ([.int (b2 a)])).length) Slot.unset).toArray = ls at hl ⊢
  have hl : lv_has ls 1 [(0, .int (b2 a))] := hl
  refine lv_iload_n hx hb dX5_oneIf_0 rfl (lv_at hl 0 rfl) ?_
  refine lv_if_eq (tgt := 8) hx hb dX5_oneIf_1 (by decide) (fun c1 => ?_) (fun c1 => ?_)
  · skip
    have c1 := b2_0 c1
    refine lv_iconst (v := 0) hx hb dX5_oneIf_8 (by decide) ?_
    exact W.iret (v := 0) hx hb hr (fun t ht hW => ⟨_, rfl, by simp [c1, b2], ht⟩) (fun _ h => absurd h List.not_mem_nil) dX5_oneIf_9
  · skip
    have c1 := b2_1 c1
    refine lv_iconst (v := 1) hx hb dX5_oneIf_4 (by decide) ?_
    refine lv_goto (tgt := 9) hx hb dX5_oneIf_5 (by decide) ?_
    exact W.iret (v := 1) hx hb hr (fun t ht hW => ⟨_, rfl, by simp [c1, b2], ht⟩) (fun _ h => absurd h List.not_mem_nil) dX5_oneIf_9

set_option maxHeartbeats 4000000 in
set_option maxRecDepth 100000 in
theorem c_X5_isRuling (l : Launch) (D : va_G) (cI cZ : ClassId) (x : Int32) : Met l yX5_isRuling wsX5_isRuling ({ frames := 0, cells := 0, slots := 0, locals := 0 }) (va_Pc [.int x] (XP D cI cZ [])) (vp_Si (fun r => r = b2 (inI x 0 4))) 0 0 (fun _ => False) := by
  refine Met.ofW (cc := cX5_isRuling) (maxL := 1) (ret := (some .boolean)) (by decide) rfl ?_
  intro p e s m args below meth c s₁ B hml hv
  obtain ⟨rfl, hP, hK, hN⟩ := hv
  have hx := B.exec
  have hb := B.bytes
  have hr := B.returns
  have hts := atoms_spec (ws := wsX5_isRuling) B.pre
  have hown : s.vm.findClass RX5 = some m.cls := findClass_of_methodNamed B.named
  have hlocks := B.notSynchronized
  have hl := lv_entry ([.int x]) (n := 1) (Nat.le_of_ble_eq_true rfl)
  rw [lg_entry_eq]
  generalize (lg_sl ([.int x]) ++ List.replicate (1 - (lg_sl ([.int x])).length) Slot.unset).toArray = ls at hl ⊢
  have hl : lv_has ls 1 [(0, .int x)] := hl
  refine lv_iload_n hx hb dX5_isRuling_0 rfl (lv_at hl 0 rfl) ?_
  refine lv_if_lt (tgt := 13) hx hb dX5_isRuling_1 (by decide) (fun c1 => ?_) (fun c1 => ?_)
  · skip
    refine lv_iconst (v := 0) hx hb dX5_isRuling_13 (by decide) ?_
    exact W.zret (v := 0) (ty := .boolean) hx hb hr rfl (fun t ht hW => ⟨_, rfl, by simp [c1, b2, inI], ht⟩) (fun _ h => absurd h List.not_mem_nil) dX5_isRuling_14
  · skip
    refine lv_iload_n hx hb dX5_isRuling_4 rfl (lv_at hl 0 rfl) ?_
    refine lv_iconst (v := 4) hx hb dX5_isRuling_5 (by decide) ?_
    refine lv_icmp_gt (tgt := 13) hx hb dX5_isRuling_6 (by decide) (fun c6 => ?_) (fun c6 => ?_)
    · skip
      refine lv_iconst (v := 0) hx hb dX5_isRuling_13 (by decide) ?_
      exact W.zret (v := 0) (ty := .boolean) hx hb hr rfl (fun t ht hW => ⟨_, rfl, by simp [c1, c6, b2, inI], ht⟩) (fun _ h => absurd h List.not_mem_nil) dX5_isRuling_14
    · skip
      refine lv_iconst (v := 1) hx hb dX5_isRuling_9 (by decide) ?_
      refine lv_goto (tgt := 14) hx hb dX5_isRuling_10 (by decide) ?_
      exact W.zret (v := 1) (ty := .boolean) hx hb hr rfl (fun t ht hW => ⟨_, rfl, by simp [c1, c6, b2, inI], ht⟩) (fun _ h => absurd h List.not_mem_nil) dX5_isRuling_14

set_option maxHeartbeats 4000000 in
set_option maxRecDepth 100000 in
theorem c_X0_hasFact (l : Launch) (D : va_G) (cI cZ : ClassId) (zB : Nat) (zK : Nat) (zW : Nat) (zU : Nat) (zV : Nat) (zR : Nat) (zE : Nat) (σ : ST) (x : Int32) : Met l yX0_hasFact wsX0_hasFact ({ frames := 0, cells := 0, slots := 0, locals := 0 }) (va_Pc [.ref zB, .int x] (XP D cI cZ [(zB, .inr (0, [.int (nI (sF σ)), .int (nI (2 ^ sF σ)), .ref zK, .ref zW, .int (nI (sN σ)), .int (sR σ), .int (orE σ (sN σ)), .ref zU, .ref zV, .ref zR, .ref zE]))])) (vp_Si (fun r => r = b2 (inN x (sF σ)))) 0 0 (fun _ => False) := by
  refine Met.ofW (cc := cX0_hasFact) (maxL := 2) (ret := (some .boolean)) (by decide) rfl ?_
  intro p e s m args below meth c s₁ B hml hv
  obtain ⟨rfl, hP, hK, hN⟩ := hv
  have hx := B.exec
  have hb := B.bytes
  have hr := B.returns
  have hts := atoms_spec (ws := wsX0_hasFact) B.pre
  have hown : s.vm.findClass RX0 = some m.cls := findClass_of_methodNamed B.named
  have hlocks := B.notSynchronized
  have hf31 := hts (.fieldLink RX0 31 "BallCourt$Book" "facts" "I") (List.mem_of_getElem? (i := 1) (by decide +kernel))
  have hiX0 : ∀ w ∈ wsX00, w ∈ wsX0_hasFact := fun w h => List.mem_cons_of_mem _ (List.mem_append_right _ h)
  have hl := lv_entry ([.ref zB, .int x]) (n := 2) (Nat.le_of_ble_eq_true rfl)
  rw [lg_entry_eq]
  generalize (lg_sl ([.ref zB, .int x]) ++ List.replicate (2 - (lg_sl ([.ref zB, .int x])).length) Slot.unset).toArray = ls at hl ⊢
  have hl : lv_has ls 2 [(0, .ref zB), (1, .int x)] := hl
  refine lv_iload_n hx hb dX0_hasFact_0 rfl (lv_at hl 1 rfl) ?_
  refine lv_if_lt (tgt := 16) hx hb dX0_hasFact_1 (by decide) (fun c1 => ?_) (fun c1 => ?_)
  · skip
    refine lv_iconst (v := 0) hx hb dX0_hasFact_16 (by decide) ?_
    exact W.zret (v := 0) (ty := .boolean) hx hb hr rfl (fun t ht hW => ⟨_, rfl, by simp [c1, b2, inN], ht⟩) (fun _ h => absurd h List.not_mem_nil) dX0_hasFact_17
  · skip
    refine lv_iload_n hx hb dX0_hasFact_4 rfl (lv_at hl 1 rfl) ?_
    refine lv_aload_n hx hb dX0_hasFact_5 rfl (lv_at hl 0 rfl) ?_
    refine va_get (D := D) (ci := 0) (v := .int (nI (sF σ))) (C := RX0) (T := TX0) (N := 11) hx hb hts hiX0 hown hK hP 0 rfl rfl 0 (by decide) hf31 (fun _ h9 => h9) rfl dX0_hasFact_6 ?_
    refine lv_icmp_ge (tgt := 16) hx hb dX0_hasFact_9 (by decide) (fun c9 => ?_) (fun c9 => ?_)
    · skip
      refine lv_iconst (v := 0) hx hb dX0_hasFact_16 (by decide) ?_
      exact W.zret (v := 0) (ty := .boolean) hx hb hr rfl (fun t ht hW => ⟨_, rfl, by simp [c1, c9, b2, inN], ht⟩) (fun _ h => absurd h List.not_mem_nil) dX0_hasFact_17
    · skip
      refine lv_iconst (v := 1) hx hb dX0_hasFact_12 (by decide) ?_
      refine lv_goto (tgt := 17) hx hb dX0_hasFact_13 (by decide) ?_
      exact W.zret (v := 1) (ty := .boolean) hx hb hr rfl (fun t ht hW => ⟨_, rfl, by simp [c1, c9, b2, inN], ht⟩) (fun _ h => absurd h List.not_mem_nil) dX0_hasFact_17

set_option maxHeartbeats 4000000 in
set_option maxRecDepth 100000 in
theorem c_X0_areFacts (l : Launch) (D : va_G) (cI cZ : ClassId) (zB : Nat) (zK : Nat) (zW : Nat) (zU : Nat) (zV : Nat) (zR : Nat) (zE : Nat) (σ : ST) (x : Int32) : Met l yX0_areFacts wsX0_areFacts ({ frames := 0, cells := 0, slots := 0, locals := 0 }) (va_Pc [.ref zB, .int x] (XP D cI cZ [(zB, .inr (0, [.int (nI (sF σ)), .int (nI (2 ^ sF σ)), .ref zK, .ref zW, .int (nI (sN σ)), .int (sR σ), .int (orE σ (sN σ)), .ref zU, .ref zV, .ref zR, .ref zE]))])) (vp_Si (fun r => r = b2 (inN x (2 ^ sF σ)))) 0 0 (fun _ => False) := by
  refine Met.ofW (cc := cX0_areFacts) (maxL := 2) (ret := (some .boolean)) (by decide) rfl ?_
  intro p e s m args below meth c s₁ B hml hv
  obtain ⟨rfl, hP, hK, hN⟩ := hv
  have hx := B.exec
  have hb := B.bytes
  have hr := B.returns
  have hts := atoms_spec (ws := wsX0_areFacts) B.pre
  have hown : s.vm.findClass RX0 = some m.cls := findClass_of_methodNamed B.named
  have hlocks := B.notSynchronized
  have hf35 := hts (.fieldLink RX0 35 "BallCourt$Book" "numbers" "I") (List.mem_of_getElem? (i := 1) (by decide +kernel))
  have hiX0 : ∀ w ∈ wsX00, w ∈ wsX0_areFacts := fun w h => List.mem_cons_of_mem _ (List.mem_append_right _ h)
  have hl := lv_entry ([.ref zB, .int x]) (n := 2) (Nat.le_of_ble_eq_true rfl)
  rw [lg_entry_eq]
  generalize (lg_sl ([.ref zB, .int x]) ++ List.replicate (2 - (lg_sl ([.ref zB, .int x])).length) Slot.unset).toArray = ls at hl ⊢
  have hl : lv_has ls 2 [(0, .ref zB), (1, .int x)] := hl
  refine lv_iload_n hx hb dX0_areFacts_0 rfl (lv_at hl 1 rfl) ?_
  refine lv_if_lt (tgt := 16) hx hb dX0_areFacts_1 (by decide) (fun c1 => ?_) (fun c1 => ?_)
  · skip
    refine lv_iconst (v := 0) hx hb dX0_areFacts_16 (by decide) ?_
    exact W.zret (v := 0) (ty := .boolean) hx hb hr rfl (fun t ht hW => ⟨_, rfl, by simp [c1, b2, inN], ht⟩) (fun _ h => absurd h List.not_mem_nil) dX0_areFacts_17
  · skip
    refine lv_iload_n hx hb dX0_areFacts_4 rfl (lv_at hl 1 rfl) ?_
    refine lv_aload_n hx hb dX0_areFacts_5 rfl (lv_at hl 0 rfl) ?_
    refine va_get (D := D) (ci := 0) (v := .int (nI (2 ^ sF σ))) (C := RX0) (T := TX0) (N := 11) hx hb hts hiX0 hown hK hP 0 rfl rfl 1 (by decide) hf35 (fun _ h9 => h9) rfl dX0_areFacts_6 ?_
    refine lv_icmp_ge (tgt := 16) hx hb dX0_areFacts_9 (by decide) (fun c9 => ?_) (fun c9 => ?_)
    · skip
      refine lv_iconst (v := 0) hx hb dX0_areFacts_16 (by decide) ?_
      exact W.zret (v := 0) (ty := .boolean) hx hb hr rfl (fun t ht hW => ⟨_, rfl, by simp [c1, c9, b2, inN], ht⟩) (fun _ h => absurd h List.not_mem_nil) dX0_areFacts_17
    · skip
      refine lv_iconst (v := 1) hx hb dX0_areFacts_12 (by decide) ?_
      refine lv_goto (tgt := 17) hx hb dX0_areFacts_13 (by decide) ?_
      exact W.zret (v := 1) (ty := .boolean) hx hb hr rfl (fun t ht hW => ⟨_, rfl, by simp [c1, c9, b2, inN], ht⟩) (fun _ h => absurd h List.not_mem_nil) dX0_areFacts_17

set_option maxHeartbeats 4000000 in
set_option maxRecDepth 100000 in
theorem c_X0_hasLine (l : Launch) (D : va_G) (cI cZ : ClassId) (zB : Nat) (zK : Nat) (zW : Nat) (zU : Nat) (zV : Nat) (zR : Nat) (zE : Nat) (σ : ST) (x : Int32) : Met l yX0_hasLine wsX0_hasLine ({ frames := 0, cells := 0, slots := 0, locals := 0 }) (va_Pc [.ref zB, .int x] (XP D cI cZ [(zB, .inr (0, [.int (nI (sF σ)), .int (nI (2 ^ sF σ)), .ref zK, .ref zW, .int (nI (sN σ)), .int (sR σ), .int (orE σ (sN σ)), .ref zU, .ref zV, .ref zR, .ref zE]))])) (vp_Si (fun r => r = b2 (inN x (sN σ)))) 0 0 (fun _ => False) := by
  refine Met.ofW (cc := cX0_hasLine) (maxL := 2) (ret := (some .boolean)) (by decide) rfl ?_
  intro p e s m args below meth c s₁ B hml hv
  obtain ⟨rfl, hP, hK, hN⟩ := hv
  have hx := B.exec
  have hb := B.bytes
  have hr := B.returns
  have hts := atoms_spec (ws := wsX0_hasLine) B.pre
  have hown : s.vm.findClass RX0 = some m.cls := findClass_of_methodNamed B.named
  have hlocks := B.notSynchronized
  have hf38 := hts (.fieldLink RX0 38 "BallCourt$Book" "lines" "I") (List.mem_of_getElem? (i := 1) (by decide +kernel))
  have hiX0 : ∀ w ∈ wsX00, w ∈ wsX0_hasLine := fun w h => List.mem_cons_of_mem _ (List.mem_append_right _ h)
  have hl := lv_entry ([.ref zB, .int x]) (n := 2) (Nat.le_of_ble_eq_true rfl)
  rw [lg_entry_eq]
  generalize (lg_sl ([.ref zB, .int x]) ++ List.replicate (2 - (lg_sl ([.ref zB, .int x])).length) Slot.unset).toArray = ls at hl ⊢
  have hl : lv_has ls 2 [(0, .ref zB), (1, .int x)] := hl
  refine lv_iload_n hx hb dX0_hasLine_0 rfl (lv_at hl 1 rfl) ?_
  refine lv_if_lt (tgt := 16) hx hb dX0_hasLine_1 (by decide) (fun c1 => ?_) (fun c1 => ?_)
  · skip
    refine lv_iconst (v := 0) hx hb dX0_hasLine_16 (by decide) ?_
    exact W.zret (v := 0) (ty := .boolean) hx hb hr rfl (fun t ht hW => ⟨_, rfl, by simp [c1, b2, inN], ht⟩) (fun _ h => absurd h List.not_mem_nil) dX0_hasLine_17
  · skip
    refine lv_iload_n hx hb dX0_hasLine_4 rfl (lv_at hl 1 rfl) ?_
    refine lv_aload_n hx hb dX0_hasLine_5 rfl (lv_at hl 0 rfl) ?_
    refine va_get (D := D) (ci := 0) (v := .int (nI (sN σ))) (C := RX0) (T := TX0) (N := 11) hx hb hts hiX0 hown hK hP 0 rfl rfl 4 (by decide) hf38 (fun _ h9 => h9) rfl dX0_hasLine_6 ?_
    refine lv_icmp_ge (tgt := 16) hx hb dX0_hasLine_9 (by decide) (fun c9 => ?_) (fun c9 => ?_)
    · skip
      refine lv_iconst (v := 0) hx hb dX0_hasLine_16 (by decide) ?_
      exact W.zret (v := 0) (ty := .boolean) hx hb hr rfl (fun t ht hW => ⟨_, rfl, by simp [c1, c9, b2, inN], ht⟩) (fun _ h => absurd h List.not_mem_nil) dX0_hasLine_17
    · skip
      refine lv_iconst (v := 1) hx hb dX0_hasLine_12 (by decide) ?_
      refine lv_goto (tgt := 17) hx hb dX0_hasLine_13 (by decide) ?_
      exact W.zret (v := 1) (ty := .boolean) hx hb hr rfl (fun t ht hW => ⟨_, rfl, by simp [c1, c9, b2, inN], ht⟩) (fun _ h => absurd h List.not_mem_nil) dX0_hasLine_17

set_option maxHeartbeats 4000000 in
set_option maxRecDepth 100000 in
theorem c_X4_has (l : Launch) (D : va_G) (cI cZ : ClassId) (zM : Nat) (zS : Nat) (zT : Nat) (zD : Nat) (σ : ST) (x : Int32) : Met l yX4_has wsX4_has ({ frames := 0, cells := 0, slots := 0, locals := 0 }) (va_Pc [.ref zM, .int x] (XP D cI cZ [(zM, .inr (4, [.int (nI (sM σ)), .ref zS, .ref zT, .ref zD]))])) (vp_Si (fun r => r = b2 (inN x (sM σ)))) 0 0 (fun _ => False) := by
  refine Met.ofW (cc := cX4_has) (maxL := 2) (ret := (some .boolean)) (by decide) rfl ?_
  intro p e s m args below meth c s₁ B hml hv
  obtain ⟨rfl, hP, hK, hN⟩ := hv
  have hx := B.exec
  have hb := B.bytes
  have hr := B.returns
  have hts := atoms_spec (ws := wsX4_has) B.pre
  have hown : s.vm.findClass RX4 = some m.cls := findClass_of_methodNamed B.named
  have hlocks := B.notSynchronized
  have hf21 := hts (.fieldLink RX4 21 "BallCourt$Moments" "count" "I") (List.mem_of_getElem? (i := 1) (by decide +kernel))
  have hiX4 : ∀ w ∈ wsX40, w ∈ wsX4_has := fun w h => List.mem_cons_of_mem _ (List.mem_append_right _ h)
  have hl := lv_entry ([.ref zM, .int x]) (n := 2) (Nat.le_of_ble_eq_true rfl)
  rw [lg_entry_eq]
  generalize (lg_sl ([.ref zM, .int x]) ++ List.replicate (2 - (lg_sl ([.ref zM, .int x])).length) Slot.unset).toArray = ls at hl ⊢
  have hl : lv_has ls 2 [(0, .ref zM), (1, .int x)] := hl
  refine lv_iload_n hx hb dX4_has_0 rfl (lv_at hl 1 rfl) ?_
  refine lv_if_lt (tgt := 16) hx hb dX4_has_1 (by decide) (fun c1 => ?_) (fun c1 => ?_)
  · skip
    refine lv_iconst (v := 0) hx hb dX4_has_16 (by decide) ?_
    exact W.zret (v := 0) (ty := .boolean) hx hb hr rfl (fun t ht hW => ⟨_, rfl, by simp [c1, b2, inN], ht⟩) (fun _ h => absurd h List.not_mem_nil) dX4_has_17
  · skip
    refine lv_iload_n hx hb dX4_has_4 rfl (lv_at hl 1 rfl) ?_
    refine lv_aload_n hx hb dX4_has_5 rfl (lv_at hl 0 rfl) ?_
    refine va_get (D := D) (ci := 4) (v := .int (nI (sM σ))) (C := RX4) (T := TX4) (N := 4) hx hb hts hiX4 hown hK hP 0 rfl rfl 0 (by decide) hf21 (fun _ h9 => h9) rfl dX4_has_6 ?_
    refine lv_icmp_ge (tgt := 16) hx hb dX4_has_9 (by decide) (fun c9 => ?_) (fun c9 => ?_)
    · skip
      refine lv_iconst (v := 0) hx hb dX4_has_16 (by decide) ?_
      exact W.zret (v := 0) (ty := .boolean) hx hb hr rfl (fun t ht hW => ⟨_, rfl, by simp [c1, c9, b2, inN], ht⟩) (fun _ h => absurd h List.not_mem_nil) dX4_has_17
    · skip
      refine lv_iconst (v := 1) hx hb dX4_has_12 (by decide) ?_
      refine lv_goto (tgt := 17) hx hb dX4_has_13 (by decide) ?_
      exact W.zret (v := 1) (ty := .boolean) hx hb hr rfl (fun t ht hW => ⟨_, rfl, by simp [c1, c9, b2, inN], ht⟩) (fun _ h => absurd h List.not_mem_nil) dX4_has_17

set_option maxHeartbeats 4000000 in
set_option maxRecDepth 100000 in
theorem c_X1_has (l : Launch) (D : va_G) (cI cZ : ClassId) (zC : Nat) (zQ : Nat) (zP : Nat) (zN : Nat) (σ : ST) (x : Int32) : Met l yX1_has wsX1_has ({ frames := 0, cells := 0, slots := 0, locals := 0 }) (va_Pc [.ref zC, .int x] (XP D cI cZ [(zC, .inr (1, [.int (nI (sC σ)), .ref zQ, .ref zP, .ref zN]))])) (vp_Si (fun r => r = b2 (inN x (sC σ)))) 0 0 (fun _ => False) := by
  refine Met.ofW (cc := cX1_has) (maxL := 2) (ret := (some .boolean)) (by decide) rfl ?_
  intro p e s m args below meth c s₁ B hml hv
  obtain ⟨rfl, hP, hK, hN⟩ := hv
  have hx := B.exec
  have hb := B.bytes
  have hr := B.returns
  have hts := atoms_spec (ws := wsX1_has) B.pre
  have hown : s.vm.findClass RX1 = some m.cls := findClass_of_methodNamed B.named
  have hlocks := B.notSynchronized
  have hf21 := hts (.fieldLink RX1 21 "BallCourt$Cases" "count" "I") (List.mem_of_getElem? (i := 1) (by decide +kernel))
  have hiX1 : ∀ w ∈ wsX10, w ∈ wsX1_has := fun w h => List.mem_cons_of_mem _ (List.mem_append_right _ h)
  have hl := lv_entry ([.ref zC, .int x]) (n := 2) (Nat.le_of_ble_eq_true rfl)
  rw [lg_entry_eq]
  generalize (lg_sl ([.ref zC, .int x]) ++ List.replicate (2 - (lg_sl ([.ref zC, .int x])).length) Slot.unset).toArray = ls at hl ⊢
  have hl : lv_has ls 2 [(0, .ref zC), (1, .int x)] := hl
  refine lv_iload_n hx hb dX1_has_0 rfl (lv_at hl 1 rfl) ?_
  refine lv_if_lt (tgt := 16) hx hb dX1_has_1 (by decide) (fun c1 => ?_) (fun c1 => ?_)
  · skip
    refine lv_iconst (v := 0) hx hb dX1_has_16 (by decide) ?_
    exact W.zret (v := 0) (ty := .boolean) hx hb hr rfl (fun t ht hW => ⟨_, rfl, by simp [c1, b2, inN], ht⟩) (fun _ h => absurd h List.not_mem_nil) dX1_has_17
  · skip
    refine lv_iload_n hx hb dX1_has_4 rfl (lv_at hl 1 rfl) ?_
    refine lv_aload_n hx hb dX1_has_5 rfl (lv_at hl 0 rfl) ?_
    refine va_get (D := D) (ci := 1) (v := .int (nI (sC σ))) (C := RX1) (T := TX1) (N := 4) hx hb hts hiX1 hown hK hP 0 rfl rfl 0 (by decide) hf21 (fun _ h9 => h9) rfl dX1_has_6 ?_
    refine lv_icmp_ge (tgt := 16) hx hb dX1_has_9 (by decide) (fun c9 => ?_) (fun c9 => ?_)
    · skip
      refine lv_iconst (v := 0) hx hb dX1_has_16 (by decide) ?_
      exact W.zret (v := 0) (ty := .boolean) hx hb hr rfl (fun t ht hW => ⟨_, rfl, by simp [c1, c9, b2, inN], ht⟩) (fun _ h => absurd h List.not_mem_nil) dX1_has_17
    · skip
      refine lv_iconst (v := 1) hx hb dX1_has_12 (by decide) ?_
      refine lv_goto (tgt := 17) hx hb dX1_has_13 (by decide) ?_
      exact W.zret (v := 1) (ty := .boolean) hx hb hr rfl (fun t ht hW => ⟨_, rfl, by simp [c1, c9, b2, inN], ht⟩) (fun _ h => absurd h List.not_mem_nil) dX1_has_17

set_option maxHeartbeats 4000000 in
set_option maxRecDepth 100000 in
theorem c_X0_allFacts (l : Launch) (D : va_G) (cI cZ : ClassId) (zB : Nat) (zK : Nat) (zW : Nat) (zU : Nat) (zV : Nat) (zR : Nat) (zE : Nat) (σ : ST) (hok : Ok σ) : Met l yX0_allFacts wsX0_allFacts ({ frames := 0, cells := 0, slots := 0, locals := 0 }) (va_Pc [.ref zB] (XP D cI cZ [(zB, .inr (0, [.int (nI (sF σ)), .int (nI (2 ^ sF σ)), .ref zK, .ref zW, .int (nI (sN σ)), .int (sR σ), .int (orE σ (sN σ)), .ref zU, .ref zV, .ref zR, .ref zE]))])) (vp_Si (fun r => r = nI (2 ^ sF σ - 1))) 0 0 (fun _ => False) := by
  refine Met.ofW (cc := cX0_allFacts) (maxL := 1) (ret := (some .int)) (by decide) rfl ?_
  intro p e s m args below meth c s₁ B hml hv
  obtain ⟨rfl, hP, hK, hN⟩ := hv
  have hx := B.exec
  have hb := B.bytes
  have hr := B.returns
  have hts := atoms_spec (ws := wsX0_allFacts) B.pre
  have hown : s.vm.findClass RX0 = some m.cls := findClass_of_methodNamed B.named
  have hlocks := B.notSynchronized
  have ho := hok.1
  have hk2 := hok.k
  have hf35 := hts (.fieldLink RX0 35 "BallCourt$Book" "numbers" "I") (List.mem_of_getElem? (i := 1) (by decide +kernel))
  have hiX0 : ∀ w ∈ wsX00, w ∈ wsX0_allFacts := fun w h => List.mem_cons_of_mem _ (List.mem_append_right _ h)
  have hl := lv_entry ([.ref zB]) (n := 1) (Nat.le_of_ble_eq_true rfl)
  rw [lg_entry_eq]
  generalize (lg_sl ([.ref zB]) ++ List.replicate (1 - (lg_sl ([.ref zB])).length) Slot.unset).toArray = ls at hl ⊢
  have hl : lv_has ls 1 [(0, .ref zB)] := hl
  refine lv_aload_n hx hb dX0_allFacts_0 rfl (lv_at hl 0 rfl) ?_
  refine va_get (D := D) (ci := 0) (v := .int (nI (2 ^ sF σ))) (C := RX0) (T := TX0) (N := 11) hx hb hts hiX0 hown hK hP 0 rfl rfl 1 (by decide) hf35 (fun _ h9 => h9) rfl dX0_allFacts_1 ?_
  refine lv_iconst (v := nI 1) hx hb dX0_allFacts_4 (by decide) ?_
  refine lv_isub hx hb dX0_allFacts_5 ?_
  refine lv_asi (show (nI (2 ^ sF σ)) - (nI 1) = nI (2 ^ sF σ - 1) from pk_sub (Nat.two_pow_pos _)) ?_
  exact W.iret (v := nI (2 ^ sF σ - 1)) hx hb hr (fun t ht hW => ⟨_, rfl, rfl, ht⟩) (fun _ h => absurd h List.not_mem_nil) dX0_allFacts_6

set_option maxHeartbeats 4000000 in
set_option maxRecDepth 100000 in
theorem c_X0_hasBarredPair (l : Launch) (D : va_G) (cI cZ : ClassId) (zB : Nat) (zK : Nat) (zW : Nat) (zU : Nat) (zV : Nat) (zR : Nat) (zE : Nat) (σ : ST) (k : Nat) (hok : Ok σ) : Met l yX0_hasBarredPair wsX0_hasBarredPair ({ frames := 1, cells := 0, slots := 0, locals := 21 }) (va_Pc [.ref zB, .int (nI k)] (XP D cI cZ [(zB, .inr (0, [.int (nI (sF σ)), .int (nI (2 ^ sF σ)), .ref zK, .ref zW, .int (nI (sN σ)), .int (sR σ), .int (orE σ (sN σ)), .ref zU, .ref zV, .ref zR, .ref zE])), (zW, .inl (cI, 7, .inl (rB σ)))])) (vp_Si (fun r => r = b2 (!kok σ k))) 0 0 (fun _ => False) := by
  refine Met.ofW (cc := cX0_hasBarredPair) (maxL := 3) (ret := (some .boolean)) (by decide) rfl ?_
  intro p e s m args below meth c s₁ B hml hv
  obtain ⟨rfl, hP, hK, hN⟩ := hv
  have hx := B.exec
  have hb := B.bytes
  have hr := B.returns
  have hts := atoms_spec (ws := wsX0_hasBarredPair) B.pre
  have hown : s.vm.findClass RX0 = some m.cls := findClass_of_methodNamed B.named
  have hlocks := B.notSynchronized
  have ho := hok.1
  have hk2 := hok.k
  have hf31 := hts (.fieldLink RX0 31 "BallCourt$Book" "facts" "I") (List.mem_of_getElem? (i := 1) (by decide +kernel))
  have hiX0 : ∀ w ∈ wsX00, w ∈ wsX0_hasBarredPair := fun w h => List.mem_cons_of_mem _ (List.mem_append_right _ h)
  have hf15 := hts (.fieldLink RX0 15 "BallCourt$Book" "barredWith" "[I") (List.mem_of_getElem? (i := 2) (by decide +kernel))
  have hl := lv_entry ([.ref zB, .int (nI k)]) (n := 3) (Nat.le_of_ble_eq_true rfl)
  rw [lg_entry_eq]
  generalize (lg_sl ([.ref zB, .int (nI k)]) ++ List.replicate (3 - (lg_sl ([.ref zB, .int (nI k)])).length) Slot.unset).toArray = ls at hl ⊢
  have hl : lv_has ls 3 [(0, .ref zB), (1, .int (nI k))] := hl
  refine lv_iconst (v := nI 0) hx hb dX0_hasBarredPair_0 (by decide) ?_
  refine lv_istore_n (lv' := [(2, .int (nI 0)), (0, .ref zB), (1, .int (nI k))]) hx hb dX0_hasBarredPair_1 rfl hl (by decide) rfl (fun ls hl => ?_)
  refine wloop (α := Nat) (fun v => sF σ - v) (fun v => [(0, .ref zB), (1, .int (nI k)), (2, .int (nI v))]) (fun v => (v ≤ sF σ) ∧ (∀ j, j < v → kbad σ k j = false)) 3 (fun v hv ih2 ls hl => ?_) 0 ⟨(show 0 ≤ sF σ from Nat.zero_le _), (show ∀ j, j < 0 → kbad σ k j = false from fun j hj => absurd hj (Nat.not_lt_zero _))⟩ ls (lv_sub hl [1, 2, 0] rfl)
  obtain ⟨i, rfl⟩ : ∃ z : Nat, z = v := ⟨_, rfl⟩
  obtain ⟨hi, hn⟩ := hv
  have hi : i ≤ sF σ := hi
  have hn : ∀ j, j < i → kbad σ k j = false := hn
  have hl : lv_has ls 3 [(0, .ref zB), (1, .int (nI k)), (2, .int (nI i))] := hl
  refine lv_iload_n hx hb dX0_hasBarredPair_2 rfl (lv_at hl 2 rfl) ?_
  refine lv_aload_n hx hb dX0_hasBarredPair_3 rfl (lv_at hl 0 rfl) ?_
  refine va_get (D := D) (ci := 0) (v := .int (nI (sF σ))) (C := RX0) (T := TX0) (N := 11) hx hb hts hiX0 hown hK hP 0 rfl rfl 0 (by decide) hf31 (fun _ h9 => h9) rfl dX0_hasBarredPair_4 ?_
  refine lv_icmp_ge (tgt := 37) hx hb dX0_hasBarredPair_7 (by decide) (fun c7 => ?_) (fun c7 => ?_)
  · skip
    have c7 := (nI_leI (by omega) (by omega)).mp c7
    refine lv_iconst (v := 0) hx hb dX0_hasBarredPair_37 (by decide) ?_
    exact W.zret (v := 0) (ty := .boolean) hx hb hr rfl (fun t ht hW => ⟨_, rfl, b2_f (by rw [show kok σ k = true from allB_t.mpr (fun j hj => by rw [hn j (by omega)]; rfl)]; rfl), ht⟩) (fun _ h => absurd h List.not_mem_nil) dX0_hasBarredPair_38
  · skip
    have c7 := Nat.lt_of_not_le (fun z => c7 ((nI_leI (by omega) (by omega)).mpr z))
    refine lv_iload_n hx hb dX0_hasBarredPair_10 rfl (lv_at hl 1 rfl) ?_
    refine lv_iload_n hx hb dX0_hasBarredPair_11 rfl (lv_at hl 2 rfl) ?_
    refine xpSN (host := "BallCourt") (rest := []) ⟨hx, hb, hml, hown, hts⟩ (c_X5_hasBit l D cI cZ (nI k) (nI i)) (va_cnB 2 hts gX0_hasBarredPair_X5_hasBit_n50 rfl rfl rfl (NW.m hN 4 rfl) (hts (.initialized RX5) (List.mem_of_getElem? (i := 4) (by decide +kernel))) (by decide +kernel) ⟨Nat.le_of_ble_eq_true rfl, Nat.le_of_ble_eq_true rfl⟩) (hts (.static yX5_hasBit) (List.mem_of_getElem? (i := 3) (by decide +kernel))) hP [] rfl hK hN rfl hl.1 rfl (Nat.le_of_ble_eq_true rfl) dX0_hasBarredPair_12 ⟨Nat.zero_le _, Nat.zero_le _⟩ (fun r12 e12 => ?_)
    subst e12
    refine lv_if_eq (tgt := 31) hx hb dX0_hasBarredPair_15 (by decide) (fun c15 => ?_) (fun c15 => ?_)
    · skip
      have c15 := b2_0 c15
      refine lv_iinc (k := 2) (x := nI i) (v := nI (i + 1)) (lv' := [(2, .int (nI (i + 1))), (0, .ref zB), (1, .int (nI k))]) hx hb dX0_hasBarredPair_31 hl rfl (show (nI i) + Int32.ofInt 1 = nI (i + 1) from nI_1 _) (by decide) rfl (fun ls hl => ?_)
      refine lv_goto (tgt := 2) hx hb dX0_hasBarredPair_34 (by decide) ?_
      exact ih2 (i + 1) ⟨(show (i + 1) ≤ sF σ from (by omega)), (show ∀ j, j < (i + 1) → kbad σ k j = false from lt_s hn (by simp [kbad, c15]))⟩ (by show sF σ - (i + 1) < sF σ - i; omega) ls (lv_sub hl [1, 2, 0] rfl)
    · skip
      have c15 := b2_1 c15
      refine lv_aload_n hx hb dX0_hasBarredPair_18 rfl (lv_at hl 0 rfl) ?_
      refine va_get (D := D) (ci := 0) (v := .ref zW) (C := RX0) (T := TX0) (N := 11) hx hb hts hiX0 hown hK hP 0 rfl rfl 3 (by decide) hf15 (fun _ h9 => h9) rfl dX0_hasBarredPair_19 ?_
      refine lv_iload_n hx hb dX0_hasBarredPair_22 rfl (lv_at hl 2 rfl) ?_
      refine xald (k := i) hx hb hK hP 1 rfl (by omega) (by decide) dX0_hasBarredPair_23 ?_
      refine lv_iload_n hx hb dX0_hasBarredPair_24 rfl (lv_at hl 1 rfl) ?_
      refine lv_iand hx hb dX0_hasBarredPair_25 ?_
      refine lv_if_eq (tgt := 31) hx hb dX0_hasBarredPair_26 (by decide) (fun c26 => ?_) (fun c26 => ?_)
      · skip
        refine lv_iinc (k := 2) (x := nI i) (v := nI (i + 1)) (lv' := [(2, .int (nI (i + 1))), (0, .ref zB), (1, .int (nI k))]) hx hb dX0_hasBarredPair_31 hl rfl (show (nI i) + Int32.ofInt 1 = nI (i + 1) from nI_1 _) (by decide) rfl (fun ls hl => ?_)
        refine lv_goto (tgt := 2) hx hb dX0_hasBarredPair_34 (by decide) ?_
        exact ih2 (i + 1) ⟨(show (i + 1) ≤ sF σ from (by omega)), (show ∀ j, j < (i + 1) → kbad σ k j = false from lt_s hn (by simp [kbad, c15, c26]))⟩ (by show sF σ - (i + 1) < sF σ - i; omega) ls (lv_sub hl [1, 2, 0] rfl)
      · skip
        refine lv_iconst (v := 1) hx hb dX0_hasBarredPair_29 (by decide) ?_
        exact W.zret (v := 1) (ty := .boolean) hx hb hr rfl (fun t ht hW => ⟨_, rfl, b2_t (by rw [show kok σ k = false from allB_f c7 (by simp [kbad, c15, c26])]; rfl), ht⟩) (fun _ h => absurd h List.not_mem_nil) dX0_hasBarredPair_30

set_option maxHeartbeats 4000000 in
set_option maxRecDepth 100000 in
theorem c_X0_mayBe (l : Launch) (D : va_G) (cI cZ : ClassId) (zB : Nat) (zK : Nat) (zW : Nat) (zU : Nat) (zV : Nat) (zR : Nat) (zE : Nat) (σ : ST) (kI : Nat → Int32) (k : Nat) (so : Int32) (ns : Int32) (hok : Ok σ) (hk : k < 2 ^ sF σ) (hkI : ∀ k, k < 2 ^ sF σ → kI k = b2 (kok σ k)) : Met l yX0_mayBe wsX0_mayBe ({ frames := 0, cells := 0, slots := 0, locals := 0 }) (va_Pc [.ref zB, .int (nI k), .int so, .int ns] (XP D cI cZ [(zB, .inr (0, [.int (nI (sF σ)), .int (nI (2 ^ sF σ)), .ref zK, .ref zW, .int (nI (sN σ)), .int (sR σ), .int (orE σ (sN σ)), .ref zU, .ref zV, .ref zR, .ref zE])), (zK, .inl (cZ, 128, .inl kI))])) (vp_Si (fun r => r = b2 (mbB σ so ns k))) 0 0 (fun _ => False) := by
  refine Met.ofW (cc := cX0_mayBe) (maxL := 4) (ret := (some .boolean)) (by decide) rfl ?_
  intro p e s m args below meth c s₁ B hml hv
  obtain ⟨rfl, hP, hK, hN⟩ := hv
  have hx := B.exec
  have hb := B.bytes
  have hr := B.returns
  have hts := atoms_spec (ws := wsX0_mayBe) B.pre
  have hown : s.vm.findClass RX0 = some m.cls := findClass_of_methodNamed B.named
  have hlocks := B.notSynchronized
  have ho := hok.1
  have hk2 := hok.k
  have hf9 := hts (.fieldLink RX0 9 "BallCourt$Book" "isKind" "[Z") (List.mem_of_getElem? (i := 1) (by decide +kernel))
  have hiX0 : ∀ w ∈ wsX00, w ∈ wsX0_mayBe := fun w h => List.mem_cons_of_mem _ (List.mem_append_right _ h)
  have hl := lv_entry ([.ref zB, .int (nI k), .int so, .int ns]) (n := 4) (Nat.le_of_ble_eq_true rfl)
  rw [lg_entry_eq]
  generalize (lg_sl ([.ref zB, .int (nI k), .int so, .int ns]) ++ List.replicate (4 - (lg_sl ([.ref zB, .int (nI k), .int so, .int ns])).length) Slot.unset).toArray = ls at hl ⊢
  have hl : lv_has ls 4 [(0, .ref zB), (1, .int (nI k)), (2, .int so), (3, .int ns)] := hl
  refine lv_aload_n hx hb dX0_mayBe_0 rfl (lv_at hl 0 rfl) ?_
  refine va_get (D := D) (ci := 0) (v := .ref zK) (C := RX0) (T := TX0) (N := 11) hx hb hts hiX0 hown hK hP 0 rfl rfl 2 (by decide) hf9 (fun _ h9 => h9) rfl dX0_mayBe_1 ?_
  refine lv_iload_n hx hb dX0_mayBe_4 rfl (lv_at hl 1 rfl) ?_
  refine xzld (k := k) hx hb hK hP 1 rfl (by omega) (by decide) dX0_mayBe_5 ?_
  refine lv_asi (show kI k = b2 (kok σ k) from hkI k hk) ?_
  refine lv_if_eq (tgt := 26) hx hb dX0_mayBe_6 (by decide) (fun c6 => ?_) (fun c6 => ?_)
  · skip
    have c6 := b2_0 c6
    refine lv_iconst (v := 0) hx hb dX0_mayBe_26 (by decide) ?_
    exact W.zret (v := 0) (ty := .boolean) hx hb hr rfl (fun t ht hW => ⟨_, rfl, by simp [c6, b2, mbB], ht⟩) (fun _ h => absurd h List.not_mem_nil) dX0_mayBe_27
  · skip
    have c6 := b2_1 c6
    refine lv_iload_n hx hb dX0_mayBe_9 rfl (lv_at hl 1 rfl) ?_
    refine lv_iload_n hx hb dX0_mayBe_10 rfl (lv_at hl 2 rfl) ?_
    refine lv_iand hx hb dX0_mayBe_11 ?_
    refine lv_iload_n hx hb dX0_mayBe_12 rfl (lv_at hl 2 rfl) ?_
    refine lv_icmp_ne (tgt := 26) hx hb dX0_mayBe_13 (by decide) (fun c13 => ?_) (fun c13 => ?_)
    · skip
      refine lv_iconst (v := 0) hx hb dX0_mayBe_26 (by decide) ?_
      exact W.zret (v := 0) (ty := .boolean) hx hb hr rfl (fun t ht hW => ⟨_, rfl, by simp [c6, c13, b2, mbB], ht⟩) (fun _ h => absurd h List.not_mem_nil) dX0_mayBe_27
    · skip
      refine lv_iload_n hx hb dX0_mayBe_16 rfl (lv_at hl 1 rfl) ?_
      refine lv_iload_n hx hb dX0_mayBe_17 rfl (lv_at hl 3 rfl) ?_
      refine lv_iand hx hb dX0_mayBe_18 ?_
      refine lv_if_ne (tgt := 26) hx hb dX0_mayBe_19 (by decide) (fun c19 => ?_) (fun c19 => ?_)
      · skip
        refine lv_iconst (v := 0) hx hb dX0_mayBe_26 (by decide) ?_
        exact W.zret (v := 0) (ty := .boolean) hx hb hr rfl (fun t ht hW => ⟨_, rfl, by simp [c6, c13, c19, b2, mbB], ht⟩) (fun _ h => absurd h List.not_mem_nil) dX0_mayBe_27
      · skip
        refine lv_iconst (v := 1) hx hb dX0_mayBe_22 (by decide) ?_
        refine lv_goto (tgt := 27) hx hb dX0_mayBe_23 (by decide) ?_
        exact W.zret (v := 1) (ty := .boolean) hx hb hr rfl (fun t ht hW => ⟨_, rfl, by simp [c6, c13, c19, b2, mbB], ht⟩) (fun _ h => absurd h List.not_mem_nil) dX0_mayBe_27

set_option maxHeartbeats 4000000 in
set_option maxRecDepth 100000 in
theorem c_X0_countMayBe (l : Launch) (D : va_G) (cI cZ : ClassId) (zB : Nat) (zK : Nat) (zW : Nat) (zU : Nat) (zV : Nat) (zR : Nat) (zE : Nat) (σ : ST) (kI : Nat → Int32) (so : Int32) (ns : Int32) (hok : Ok σ) (hkI : ∀ k, k < 2 ^ sF σ → kI k = b2 (kok σ k)) : Met l yX0_countMayBe wsX0_countMayBe ({ frames := 1, cells := 0, slots := 0, locals := 23 }) (va_Pc [.ref zB, .int so, .int ns] (XP D cI cZ [(zB, .inr (0, [.int (nI (sF σ)), .int (nI (2 ^ sF σ)), .ref zK, .ref zW, .int (nI (sN σ)), .int (sR σ), .int (orE σ (sN σ)), .ref zU, .ref zV, .ref zR, .ref zE])), (zK, .inl (cZ, 128, .inl kI))])) (vp_Si (fun r => r = nI (cmb σ so ns))) 0 0 (fun _ => False) := by
  refine Met.ofW (cc := cX0_countMayBe) (maxL := 5) (ret := (some .int)) (by decide) rfl ?_
  intro p e s m args below meth c s₁ B hml hv
  obtain ⟨rfl, hP, hK, hN⟩ := hv
  have hx := B.exec
  have hb := B.bytes
  have hr := B.returns
  have hts := atoms_spec (ws := wsX0_countMayBe) B.pre
  have hown : s.vm.findClass RX0 = some m.cls := findClass_of_methodNamed B.named
  have hlocks := B.notSynchronized
  have ho := hok.1
  have hk2 := hok.k
  have hf35 := hts (.fieldLink RX0 35 "BallCourt$Book" "numbers" "I") (List.mem_of_getElem? (i := 1) (by decide +kernel))
  have hiX0 : ∀ w ∈ wsX00, w ∈ wsX0_countMayBe := fun w h => List.mem_cons_of_mem _ (List.mem_append_right _ h)
  have hl := lv_entry ([.ref zB, .int so, .int ns]) (n := 5) (Nat.le_of_ble_eq_true rfl)
  rw [lg_entry_eq]
  generalize (lg_sl ([.ref zB, .int so, .int ns]) ++ List.replicate (5 - (lg_sl ([.ref zB, .int so, .int ns])).length) Slot.unset).toArray = ls at hl ⊢
  have hl : lv_has ls 5 [(0, .ref zB), (1, .int so), (2, .int ns)] := hl
  refine lv_iconst (v := nI 0) hx hb dX0_countMayBe_0 (by decide) ?_
  refine lv_istore_n (lv' := [(3, .int (nI 0)), (0, .ref zB), (1, .int so), (2, .int ns)]) hx hb dX0_countMayBe_1 rfl hl (by decide) rfl (fun ls hl => ?_)
  refine lv_iconst (v := nI 0) hx hb dX0_countMayBe_2 (by decide) ?_
  refine lv_istore (lv' := [(4, .int (nI 0)), (3, .int (nI 0)), (0, .ref zB), (1, .int so), (2, .int ns)]) hx hb dX0_countMayBe_3 hl (by decide) rfl (fun ls hl => ?_)
  refine wloop (α := Nat) (fun v => 2 ^ sF σ - v) (fun v => [(0, .ref zB), (1, .int so), (2, .int ns), (3, .int (nI (cnt (mbB σ so ns) v))), (4, .int (nI v))]) (fun v => (v ≤ 2 ^ sF σ)) 5 (fun v hv ih5 ls hl => ?_) 0 (show 0 ≤ 2 ^ sF σ from Nat.zero_le _) ls (lv_sub hl [2, 3, 4, 1, 0] rfl)
  obtain ⟨k, rfl⟩ : ∃ z : Nat, z = v := ⟨_, rfl⟩
  have hk : k ≤ 2 ^ sF σ := hv
  have hl : lv_has ls 5 [(0, .ref zB), (1, .int so), (2, .int ns), (3, .int (nI (cnt (mbB σ so ns) k))), (4, .int (nI k))] := hl
  refine lv_iload hx hb dX0_countMayBe_5 (lv_at hl 4 rfl) ?_
  refine lv_aload_n hx hb dX0_countMayBe_7 rfl (lv_at hl 0 rfl) ?_
  refine va_get (D := D) (ci := 0) (v := .int (nI (2 ^ sF σ))) (C := RX0) (T := TX0) (N := 11) hx hb hts hiX0 hown hK hP 0 rfl rfl 1 (by decide) hf35 (fun _ h9 => h9) rfl dX0_countMayBe_8 ?_
  refine lv_icmp_ge (tgt := 34) hx hb dX0_countMayBe_11 (by decide) (fun c11 => ?_) (fun c11 => ?_)
  · skip
    have c11 := (nI_leI (by omega) (by omega)).mp c11
    refine lv_iload_n hx hb dX0_countMayBe_34 rfl (lv_at hl 3 rfl) ?_
    exact W.iret (v := nI (cnt (mbB σ so ns) k)) hx hb hr (fun t ht hW => ⟨_, rfl, by rw [show k = 2 ^ sF σ by omega]; rfl, ht⟩) (fun _ h => absurd h List.not_mem_nil) dX0_countMayBe_35
  · skip
    have c11 := Nat.lt_of_not_le (fun z => c11 ((nI_leI (by omega) (by omega)).mpr z))
    refine lv_aload_n hx hb dX0_countMayBe_14 rfl (lv_at hl 0 rfl) ?_
    refine lv_iload hx hb dX0_countMayBe_15 (lv_at hl 4 rfl) ?_
    refine lv_iload_n hx hb dX0_countMayBe_17 rfl (lv_at hl 1 rfl) ?_
    refine lv_iload_n hx hb dX0_countMayBe_18 rfl (lv_at hl 2 rfl) ?_
    refine xpV (rest := []) ⟨hx, hb, hml, hown, hts⟩ (c_X0_mayBe l D cI cZ zB zK zW zU zV zR zE σ kI k so ns hok c11 hkI) (cwV 3 hts gX0_countMayBe_X0_mayBe rfl rfl rfl (by decide +kernel) ⟨Nat.le_of_ble_eq_true rfl, Nat.le_of_ble_eq_true rfl⟩) hP [0, 1] rfl hK hN (ci := 0) (q0 := 0) rfl rfl rfl hl.1 rfl (Nat.le_of_ble_eq_true rfl) dX0_countMayBe_19 ⟨Nat.zero_le _, Nat.zero_le _⟩ (fun r19 e19 => ?_)
    subst e19
    refine lv_if_eq (tgt := 28) hx hb dX0_countMayBe_22 (by decide) (fun c22 => ?_) (fun c22 => ?_)
    · skip
      have c22 := b2_0 c22
      have hl : lv_has ls 5 [(0, .ref zB), (1, .int so), (2, .int ns), (3, .int (nI (cnt (mbB σ so ns) (k + 1)))), (4, .int (nI k))] := by rw [← (show nI (cnt (mbB σ so ns) k) = nI (cnt (mbB σ so ns) (k + 1)) from congrArg nI (cnt_n c22))]; exact hl
      refine lv_iinc (k := 4) (x := nI k) (v := nI (k + 1)) (lv' := [(4, .int (nI (k + 1))), (0, .ref zB), (1, .int so), (2, .int ns), (3, .int (nI (cnt (mbB σ so ns) (k + 1))))]) hx hb dX0_countMayBe_28 hl rfl (show (nI k) + Int32.ofInt 1 = nI (k + 1) from nI_1 _) (by decide) rfl (fun ls hl => ?_)
      refine lv_goto (tgt := 5) hx hb dX0_countMayBe_31 (by decide) ?_
      exact ih5 (k + 1) (show (k + 1) ≤ 2 ^ sF σ from (by omega)) (by show 2 ^ sF σ - (k + 1) < 2 ^ sF σ - k; omega) ls (lv_sub hl [1, 2, 3, 4, 0] rfl)
    · skip
      have c22 := b2_1 c22
      refine lv_iinc (k := 3) (x := nI (cnt (mbB σ so ns) k)) (v := nI (cnt (mbB σ so ns) (k + 1))) (lv' := [(3, .int (nI (cnt (mbB σ so ns) (k + 1)))), (0, .ref zB), (1, .int so), (2, .int ns), (4, .int (nI k))]) hx hb dX0_countMayBe_25 hl rfl (show (nI (cnt (mbB σ so ns) k)) + Int32.ofInt 1 = nI (cnt (mbB σ so ns) (k + 1)) from cnt_y c22) (by decide) rfl (fun ls hl => ?_)
      refine lv_iinc (k := 4) (x := nI k) (v := nI (k + 1)) (lv' := [(4, .int (nI (k + 1))), (3, .int (nI (cnt (mbB σ so ns) (k + 1)))), (0, .ref zB), (1, .int so), (2, .int ns)]) hx hb dX0_countMayBe_28 hl rfl (show (nI k) + Int32.ofInt 1 = nI (k + 1) from nI_1 _) (by decide) rfl (fun ls hl => ?_)
      refine lv_goto (tgt := 5) hx hb dX0_countMayBe_31 (by decide) ?_
      exact ih5 (k + 1) (show (k + 1) ≤ 2 ^ sF σ from (by omega)) (by show 2 ^ sF σ - (k + 1) < 2 ^ sF σ - k; omega) ls (lv_sub hl [2, 3, 4, 1, 0] rfl)

set_option maxHeartbeats 4000000 in
set_option maxRecDepth 100000 in
theorem c_X0_holding (l : Launch) (D : va_G) (cI cZ : ClassId) (zB : Nat) (zK : Nat) (zW : Nat) (zU : Nat) (zV : Nat) (zR : Nat) (zE : Nat) (σ : ST) (rp : Int32) (k : Nat) (hok : Ok σ) : Met l yX0_holding wsX0_holding ({ frames := 1, cells := 0, slots := 0, locals := 21 }) (va_Pc [.ref zB, .int (nI k), .int rp] (XP D cI cZ [(zB, .inr (0, [.int (nI (sF σ)), .int (nI (2 ^ sF σ)), .ref zK, .ref zW, .int (nI (sN σ)), .int (sR σ), .int (orE σ (sN σ)), .ref zU, .ref zV, .ref zR, .ref zE])), (zU, .inl (cI, 12, .inl (rMu σ))), (zV, .inl (cI, 12, .inl (rMn σ))), (zE, .inl (cI, 12, .inl (rEr σ)))])) (vp_Si (fun r => r = holdI σ rp k)) 0 0 (fun _ => False) := by
  refine Met.ofW (cc := cX0_holding) (maxL := 6) (ret := (some .int)) (by decide) rfl ?_
  intro p e s m args below meth c s₁ B hml hv
  obtain ⟨rfl, hP, hK, hN⟩ := hv
  have hx := B.exec
  have hb := B.bytes
  have hr := B.returns
  have hts := atoms_spec (ws := wsX0_holding) B.pre
  have hown : s.vm.findClass RX0 = some m.cls := findClass_of_methodNamed B.named
  have hlocks := B.notSynchronized
  have ho := hok.1
  have hk2 := hok.k
  have hf38 := hts (.fieldLink RX0 38 "BallCourt$Book" "lines" "I") (List.mem_of_getElem? (i := 1) (by decide +kernel))
  have hiX0 : ∀ w ∈ wsX00, w ∈ wsX0_holding := fun w h => List.mem_cons_of_mem _ (List.mem_append_right _ h)
  have hf28 := hts (.fieldLink RX0 28 "BallCourt$Book" "excepters" "[I") (List.mem_of_getElem? (i := 4) (by decide +kernel))
  have hf19 := hts (.fieldLink RX0 19 "BallCourt$Book" "must" "[I") (List.mem_of_getElem? (i := 2) (by decide +kernel))
  have hf22 := hts (.fieldLink RX0 22 "BallCourt$Book" "mustNot" "[I") (List.mem_of_getElem? (i := 3) (by decide +kernel))
  have hl := lv_entry ([.ref zB, .int (nI k), .int rp]) (n := 6) (Nat.le_of_ble_eq_true rfl)
  rw [lg_entry_eq]
  generalize (lg_sl ([.ref zB, .int (nI k), .int rp]) ++ List.replicate (6 - (lg_sl ([.ref zB, .int (nI k), .int rp])).length) Slot.unset).toArray = ls at hl ⊢
  have hl : lv_has ls 6 [(0, .ref zB), (1, .int (nI k)), (2, .int rp)] := hl
  refine lv_iconst (v := 0) hx hb dX0_holding_0 (by decide) ?_
  refine lv_istore_n (lv' := [(3, .int 0), (0, .ref zB), (1, .int (nI k)), (2, .int rp)]) hx hb dX0_holding_1 rfl hl (by decide) rfl (fun ls hl => ?_)
  refine lv_aload_n hx hb dX0_holding_2 rfl (lv_at hl 1 rfl) ?_
  refine va_get (D := D) (ci := 0) (v := .int (nI (sN σ))) (C := RX0) (T := TX0) (N := 11) hx hb hts hiX0 hown hK hP 0 rfl rfl 4 (by decide) hf38 (fun _ h9 => h9) rfl dX0_holding_3 ?_
  refine lv_iconst (v := 1) hx hb dX0_holding_6 (by decide) ?_
  refine lv_isub hx hb dX0_holding_7 ?_
  refine lv_istore (lv' := [(4, .int ((nI (sN σ)) - 1)), (3, .int 0), (0, .ref zB), (1, .int (nI k)), (2, .int rp)]) hx hb dX0_holding_8 hl (by decide) rfl (fun ls hl => ?_)
  have hl : lv_has ls 6 [(4, .int ((nI (sN σ)) - 1)), (3, .int (hdR σ rp k (sN σ - sN σ))), (0, .ref zB), (1, .int (nI k)), (2, .int rp)] := by rw [← (show 0 = hdR σ rp k (sN σ - sN σ) from (by rw [Nat.sub_self]; rfl))]; exact hl
  refine wloop (α := Nat) (fun v => v) (fun v => [(0, .ref zB), (1, .int (nI k)), (2, .int rp), (3, .int (hdR σ rp k (sN σ - v))), (4, .int (nI v - 1))]) (fun v => (v ≤ sN σ)) 6 (fun v hv ih10 ls hl => ?_) (sN σ) (show (sN σ) ≤ sN σ from Nat.le_refl _) ls (lv_sub hl [2, 3, 4, 1, 0] rfl)
  obtain ⟨q, rfl⟩ : ∃ z : Nat, z = v := ⟨_, rfl⟩
  have hq : q ≤ sN σ := hv
  have hl : lv_has ls 6 [(0, .ref zB), (1, .int (nI k)), (2, .int rp), (3, .int (hdR σ rp k (sN σ - q))), (4, .int (nI q - 1))] := hl
  refine lv_iload hx hb dX0_holding_10 (lv_at hl 4 rfl) ?_
  refine lv_if_lt (tgt := 92) hx hb dX0_holding_12 (by decide) (fun c12 => ?_) (fun c12 => ?_)
  · skip
    have c12 := m1_t (by omega) c12
    refine lv_iload_n hx hb dX0_holding_92 rfl (lv_at hl 3 rfl) ?_
    exact W.iret (v := hdR σ rp k (sN σ - q)) hx hb hr (fun t ht hW => ⟨_, rfl, by rw [c12]; rfl, ht⟩) (fun _ h => absurd h List.not_mem_nil) dX0_holding_93
  · skip
    obtain ⟨j, rfl⟩ : ∃ j, q = j + 1 := ⟨q - 1, by have := m1_f c12; omega⟩
    have hl : lv_has ls 6 [(0, .ref zB), (1, .int (nI k)), (2, .int rp), (3, .int (hdR σ rp k (sN σ - (j + 1)))), (4, .int (nI j))] := by rw [← (show nI (j + 1) - 1 = nI j from nI_pred j)]; exact hl
    refine wjoin (pcJ := 51) (lv := [(0, .ref zB), (1, .int (nI k)), (2, .int rp), (3, .int (hdR σ rp k (sN σ - (j + 1)))), (4, .int (nI j))]) (nL := 6) (st := [.int (b2 (decide (nI k &&& rMu σ j = rMu σ j) && decide (nI k &&& rMn σ j = 0)))]) (fun ls hl => ?_) (fun J51 => ?_)
    · skip
      refine lv_istore (lv' := [(5, .int (b2 (decide (nI k &&& rMu σ j = rMu σ j) && decide (nI k &&& rMn σ j = 0)))), (0, .ref zB), (1, .int (nI k)), (2, .int rp), (3, .int (hdR σ rp k (sN σ - (j + 1)))), (4, .int (nI j))]) hx hb dX0_holding_51 hl (by decide) rfl (fun ls hl => ?_)
      refine lv_iload hx hb dX0_holding_53 (lv_at hl 0 rfl) ?_
      refine lv_if_eq (tgt := 86) hx hb dX0_holding_55 (by decide) (fun c55 => ?_) (fun c55 => ?_)
      · skip
        have c55 := b2_0 c55
        have hl : lv_has ls 6 [(5, .int (b2 (decide (nI k &&& rMu σ j = rMu σ j) && decide (nI k &&& rMn σ j = 0)))), (0, .ref zB), (1, .int (nI k)), (2, .int rp), (3, .int (hdR σ rp k (sN σ - j))), (4, .int (nI j))] := by rw [← (show hdR σ rp k (sN σ - (j + 1)) = hdR σ rp k (sN σ - j) from (hd_n (by omega) (by unfold cnd; rw [c55]; rfl)).symm)]; exact hl
        refine lv_iinc (k := 5) (x := nI j) (v := nI j - 1) (lv' := [(4, .int (nI j - 1)), (5, .int (b2 (decide (nI k &&& rMu σ j = rMu σ j) && decide (nI k &&& rMn σ j = 0)))), (0, .ref zB), (1, .int (nI k)), (2, .int rp), (3, .int (hdR σ rp k (sN σ - j)))]) hx hb dX0_holding_86 hl rfl (show (nI j) + Int32.ofInt (-1) = nI j - 1 from dec1 _) (by decide) rfl (fun ls hl => ?_)
        refine lv_goto (tgt := 10) hx hb dX0_holding_89 (by decide) ?_
        exact ih10 j (show j ≤ sN σ from (by omega)) (by show j < q; omega) ls (lv_sub hl [2, 3, 4, 5, 0] rfl)
      · skip
        have c55 := b2_1 c55
        refine lv_iload_n hx hb dX0_holding_58 rfl (lv_at hl 3 rfl) ?_
        refine lv_iload hx hb dX0_holding_59 (lv_at hl 5 rfl) ?_
        refine xpSN (host := "BallCourt") (rest := []) ⟨hx, hb, hml, hown, hts⟩ (c_X5_hasBit l D cI cZ rp (nI j)) (va_cnB 2 hts gX0_holding_X5_hasBit_n50 rfl rfl rfl (NW.m hN 4 rfl) (hts (.initialized RX5) (List.mem_of_getElem? (i := 6) (by decide +kernel))) (by decide +kernel) ⟨Nat.le_of_ble_eq_true rfl, Nat.le_of_ble_eq_true rfl⟩) (hts (.static yX5_hasBit) (List.mem_of_getElem? (i := 5) (by decide +kernel))) hP [] rfl hK hN rfl hl.1 rfl (Nat.le_of_ble_eq_true rfl) dX0_holding_61 ⟨Nat.zero_le _, Nat.zero_le _⟩ (fun r61 e61 => ?_)
        subst e61
        refine lv_if_ne (tgt := 86) hx hb dX0_holding_64 (by decide) (fun c64 => ?_) (fun c64 => ?_)
        · skip
          have c64 := b2_1 c64
          have hl : lv_has ls 6 [(5, .int (b2 (decide (nI k &&& rMu σ j = rMu σ j) && decide (nI k &&& rMn σ j = 0)))), (0, .ref zB), (1, .int (nI k)), (2, .int rp), (3, .int (hdR σ rp k (sN σ - j))), (4, .int (nI j))] := by rw [← (show hdR σ rp k (sN σ - (j + 1)) = hdR σ rp k (sN σ - j) from (hd_n (by omega) (by unfold cnd; rw [c55, c64]; rfl)).symm)]; exact hl
          refine lv_iinc (k := 5) (x := nI j) (v := nI j - 1) (lv' := [(4, .int (nI j - 1)), (5, .int (b2 (decide (nI k &&& rMu σ j = rMu σ j) && decide (nI k &&& rMn σ j = 0)))), (0, .ref zB), (1, .int (nI k)), (2, .int rp), (3, .int (hdR σ rp k (sN σ - j)))]) hx hb dX0_holding_86 hl rfl (show (nI j) + Int32.ofInt (-1) = nI j - 1 from dec1 _) (by decide) rfl (fun ls hl => ?_)
          refine lv_goto (tgt := 10) hx hb dX0_holding_89 (by decide) ?_
          exact ih10 j (show j ≤ sN σ from (by omega)) (by show j < q; omega) ls (lv_sub hl [2, 3, 4, 5, 0] rfl)
        · skip
          have c64 := b2_0 c64
          refine lv_aload_n hx hb dX0_holding_67 rfl (lv_at hl 1 rfl) ?_
          refine va_get (D := D) (ci := 0) (v := .ref zE) (C := RX0) (T := TX0) (N := 11) hx hb hts hiX0 hown hK hP 0 rfl rfl 10 (by decide) hf28 (fun _ h9 => h9) rfl dX0_holding_68 ?_
          refine lv_iload hx hb dX0_holding_71 (lv_at hl 5 rfl) ?_
          refine xald (k := j) hx hb hK hP 3 rfl (by omega) (by decide) dX0_holding_73 ?_
          refine lv_iload_n hx hb dX0_holding_74 rfl (lv_at hl 4 rfl) ?_
          refine lv_iand hx hb dX0_holding_75 ?_
          refine lv_if_ne (tgt := 86) hx hb dX0_holding_76 (by decide) (fun c76 => ?_) (fun c76 => ?_)
          · skip
            have hl : lv_has ls 6 [(5, .int (b2 (decide (nI k &&& rMu σ j = rMu σ j) && decide (nI k &&& rMn σ j = 0)))), (0, .ref zB), (1, .int (nI k)), (2, .int rp), (3, .int (hdR σ rp k (sN σ - j))), (4, .int (nI j))] := by rw [← (show hdR σ rp k (sN σ - (j + 1)) = hdR σ rp k (sN σ - j) from (hd_n (by omega) (by unfold cnd; rw [c55, c64, decide_eq_false c76]; rfl)).symm)]; exact hl
            refine lv_iinc (k := 5) (x := nI j) (v := nI j - 1) (lv' := [(4, .int (nI j - 1)), (5, .int (b2 (decide (nI k &&& rMu σ j = rMu σ j) && decide (nI k &&& rMn σ j = 0)))), (0, .ref zB), (1, .int (nI k)), (2, .int rp), (3, .int (hdR σ rp k (sN σ - j)))]) hx hb dX0_holding_86 hl rfl (show (nI j) + Int32.ofInt (-1) = nI j - 1 from dec1 _) (by decide) rfl (fun ls hl => ?_)
            refine lv_goto (tgt := 10) hx hb dX0_holding_89 (by decide) ?_
            exact ih10 j (show j ≤ sN σ from (by omega)) (by show j < q; omega) ls (lv_sub hl [2, 3, 4, 5, 0] rfl)
          · skip
            refine lv_iload_n hx hb dX0_holding_79 rfl (lv_at hl 4 rfl) ?_
            refine lv_iconst (v := 1) hx hb dX0_holding_80 (by decide) ?_
            refine lv_iload hx hb dX0_holding_81 (lv_at hl 5 rfl) ?_
            refine lv_ishl hx hb dX0_holding_83 ?_
            refine lv_asi (show 1 <<< ((nI j) &&& 31) = nI (2 ^ j) from shl1 j (by omega)) ?_
            refine lv_ior hx hb dX0_holding_84 ?_
            refine lv_istore_n (lv' := [(3, .int ((hdR σ rp k (sN σ - (j + 1))) ||| (nI (2 ^ j)))), (5, .int (b2 (decide (nI k &&& rMu σ j = rMu σ j) && decide (nI k &&& rMn σ j = 0)))), (0, .ref zB), (1, .int (nI k)), (2, .int rp), (4, .int (nI j))]) hx hb dX0_holding_85 rfl hl (by decide) rfl (fun ls hl => ?_)
            have hl : lv_has ls 6 [(3, .int (hdR σ rp k (sN σ - j))), (5, .int (b2 (decide (nI k &&& rMu σ j = rMu σ j) && decide (nI k &&& rMn σ j = 0)))), (0, .ref zB), (1, .int (nI k)), (2, .int rp), (4, .int (nI j))] := by rw [← (show (hdR σ rp k (sN σ - (j + 1))) ||| (nI (2 ^ j)) = hdR σ rp k (sN σ - j) from (hd_n (by omega) (by unfold cnd; rw [c55, c64, decide_eq_false c76]; rfl)).symm)]; exact hl
            refine lv_iinc (k := 5) (x := nI j) (v := nI j - 1) (lv' := [(4, .int (nI j - 1)), (3, .int (hdR σ rp k (sN σ - j))), (5, .int (b2 (decide (nI k &&& rMu σ j = rMu σ j) && decide (nI k &&& rMn σ j = 0)))), (0, .ref zB), (1, .int (nI k)), (2, .int rp)]) hx hb dX0_holding_86 hl rfl (show (nI j) + Int32.ofInt (-1) = nI j - 1 from dec1 _) (by decide) rfl (fun ls hl => ?_)
            refine lv_goto (tgt := 10) hx hb dX0_holding_89 (by decide) ?_
            exact ih10 j (show j ≤ sN σ from (by omega)) (by show j < q; omega) ls (lv_sub hl [3, 4, 5, 1, 0] rfl)
    · skip
      refine lv_iload_n hx hb dX0_holding_15 rfl (lv_at hl 1 rfl) ?_
      refine lv_aload_n hx hb dX0_holding_16 rfl (lv_at hl 0 rfl) ?_
      refine va_get (D := D) (ci := 0) (v := .ref zU) (C := RX0) (T := TX0) (N := 11) hx hb hts hiX0 hown hK hP 0 rfl rfl 7 (by decide) hf19 (fun _ h9 => h9) rfl dX0_holding_17 ?_
      refine lv_iload hx hb dX0_holding_20 (lv_at hl 4 rfl) ?_
      refine xald (k := j) hx hb hK hP 1 rfl (by omega) (by decide) dX0_holding_22 ?_
      refine lv_iand hx hb dX0_holding_23 ?_
      refine lv_aload_n hx hb dX0_holding_24 rfl (lv_at hl 0 rfl) ?_
      refine va_get (D := D) (ci := 0) (v := .ref zU) (C := RX0) (T := TX0) (N := 11) hx hb hts hiX0 hown hK hP 0 rfl rfl 7 (by decide) hf19 (fun _ h9 => h9) rfl dX0_holding_25 ?_
      refine lv_iload hx hb dX0_holding_28 (lv_at hl 4 rfl) ?_
      refine xald (k := j) hx hb hK hP 1 rfl (by omega) (by decide) dX0_holding_30 ?_
      refine lv_icmp_ne (tgt := 50) hx hb dX0_holding_31 (by decide) (fun c31 => ?_) (fun c31 => ?_)
      · skip
        refine lv_iconst (v := 0) hx hb dX0_holding_50 (by decide) ?_
        refine lv_asi (show (0 : Int32) = b2 (decide (nI k &&& rMu σ j = rMu σ j) && decide (nI k &&& rMn σ j = 0)) from by simp [c12, c31, b2]) ?_
        exact J51 ls (lv_sub hl [0, 1, 2, 3, 4] rfl)
      · skip
        refine lv_iload_n hx hb dX0_holding_34 rfl (lv_at hl 1 rfl) ?_
        refine lv_aload_n hx hb dX0_holding_35 rfl (lv_at hl 0 rfl) ?_
        refine va_get (D := D) (ci := 0) (v := .ref zV) (C := RX0) (T := TX0) (N := 11) hx hb hts hiX0 hown hK hP 0 rfl rfl 8 (by decide) hf22 (fun _ h9 => h9) rfl dX0_holding_36 ?_
        refine lv_iload hx hb dX0_holding_39 (lv_at hl 4 rfl) ?_
        refine xald (k := j) hx hb hK hP 2 rfl (by omega) (by decide) dX0_holding_41 ?_
        refine lv_iand hx hb dX0_holding_42 ?_
        refine lv_if_ne (tgt := 50) hx hb dX0_holding_43 (by decide) (fun c43 => ?_) (fun c43 => ?_)
        · skip
          refine lv_iconst (v := 0) hx hb dX0_holding_50 (by decide) ?_
          refine lv_asi (show (0 : Int32) = b2 (decide (nI k &&& rMu σ j = rMu σ j) && decide (nI k &&& rMn σ j = 0)) from by simp [c12, c31, c43, b2]) ?_
          exact J51 ls (lv_sub hl [0, 1, 2, 3, 4] rfl)
        · skip
          refine lv_iconst (v := 1) hx hb dX0_holding_46 (by decide) ?_
          refine lv_goto (tgt := 51) hx hb dX0_holding_47 (by decide) ?_
          refine lv_asi (show (1 : Int32) = b2 (decide (nI k &&& rMu σ j = rMu σ j) && decide (nI k &&& rMn σ j = 0)) from by simp [c12, c31, c43, b2]) ?_
          exact J51 ls (lv_sub hl [0, 1, 2, 3, 4] rfl)

set_option maxHeartbeats 4000000 in
set_option maxRecDepth 100000 in
theorem c_X0_lawLine (l : Launch) (D : va_G) (cI cZ : ClassId) (zB : Nat) (zK : Nat) (zW : Nat) (zU : Nat) (zV : Nat) (zR : Nat) (zE : Nat) (σ : ST) (rp : Int32) (k : Nat) (hok : Ok σ) : Met l yX0_lawLine wsX0_lawLine ({ frames := 2, cells := 0, slots := 0, locals := 46 }) (va_Pc [.ref zB, .int (nI k), .int rp] (XP D cI cZ [(zB, .inr (0, [.int (nI (sF σ)), .int (nI (2 ^ sF σ)), .ref zK, .ref zW, .int (nI (sN σ)), .int (sR σ), .int (orE σ (sN σ)), .ref zU, .ref zV, .ref zR, .ref zE])), (zU, .inl (cI, 12, .inl (rMu σ))), (zV, .inl (cI, 12, .inl (rMn σ))), (zE, .inl (cI, 12, .inl (rEr σ)))])) (vp_Si (fun r => r = lawI σ rp k)) 0 0 (fun _ => False) := by
  refine Met.ofW (cc := cX0_lawLine) (maxL := 5) (ret := (some .int)) (by decide) rfl ?_
  intro p e s m args below meth c s₁ B hml hv
  obtain ⟨rfl, hP, hK, hN⟩ := hv
  have hx := B.exec
  have hb := B.bytes
  have hr := B.returns
  have hts := atoms_spec (ws := wsX0_lawLine) B.pre
  have hown : s.vm.findClass RX0 = some m.cls := findClass_of_methodNamed B.named
  have hlocks := B.notSynchronized
  have ho := hok.1
  have hk2 := hok.k
  have hf44 := hts (.fieldLink RX0 44 "BallCourt$Book" "excepting" "I") (List.mem_of_getElem? (i := 1) (by decide +kernel))
  have hiX0 : ∀ w ∈ wsX00, w ∈ wsX0_lawLine := fun w h => List.mem_cons_of_mem _ (List.mem_append_right _ h)
  have hf38 := hts (.fieldLink RX0 38 "BallCourt$Book" "lines" "I") (List.mem_of_getElem? (i := 2) (by decide +kernel))
  have hl := lv_entry ([.ref zB, .int (nI k), .int rp]) (n := 5) (Nat.le_of_ble_eq_true rfl)
  rw [lg_entry_eq]
  generalize (lg_sl ([.ref zB, .int (nI k), .int rp]) ++ List.replicate (5 - (lg_sl ([.ref zB, .int (nI k), .int rp])).length) Slot.unset).toArray = ls at hl ⊢
  have hl : lv_has ls 5 [(0, .ref zB), (1, .int (nI k)), (2, .int rp)] := hl
  refine lv_aload_n hx hb dX0_lawLine_0 rfl (lv_at hl 0 rfl) ?_
  refine lv_iload_n hx hb dX0_lawLine_1 rfl (lv_at hl 1 rfl) ?_
  refine lv_iload_n hx hb dX0_lawLine_2 rfl (lv_at hl 2 rfl) ?_
  refine xpV (rest := []) ⟨hx, hb, hml, hown, hts⟩ (c_X0_holding l D cI cZ zB zK zW zU zV zR zE σ rp k hok) (cwV 2 hts gX0_lawLine_X0_holding rfl rfl rfl (by decide +kernel) ⟨Nat.le_of_ble_eq_true rfl, Nat.le_of_ble_eq_true rfl⟩) hP [0, 1, 2, 3] rfl hK hN (ci := 0) (q0 := 0) rfl rfl rfl hl.1 rfl (Nat.le_of_ble_eq_true rfl) dX0_lawLine_3 ⟨Nat.zero_le _, Nat.zero_le _⟩ (fun r3 e3 => ?_)
  subst e3
  refine lv_aload_n hx hb dX0_lawLine_6 rfl (lv_at hl 0 rfl) ?_
  refine va_get (D := D) (ci := 0) (v := .int (orE σ (sN σ))) (C := RX0) (T := TX0) (N := 11) hx hb hts hiX0 hown hK hP 0 rfl rfl 6 (by decide) hf44 (fun _ h9 => h9) rfl dX0_lawLine_7 ?_
  refine lv_iconst (v := (-1)) hx hb dX0_lawLine_10 (by decide) ?_
  refine lv_ixor hx hb dX0_lawLine_11 ?_
  refine lv_iand hx hb dX0_lawLine_12 ?_
  refine lv_asi (show (holdI σ rp k) &&& ((orE σ (sN σ)) ^^^ (-1)) = givI σ rp k from rfl) ?_
  refine lv_istore_n (lv' := [(3, .int (givI σ rp k)), (0, .ref zB), (1, .int (nI k)), (2, .int rp)]) hx hb dX0_lawLine_13 rfl hl (by decide) rfl (fun ls hl => ?_)
  refine lv_iconst (v := nI 0) hx hb dX0_lawLine_14 (by decide) ?_
  refine lv_istore (lv' := [(4, .int (nI 0)), (3, .int (givI σ rp k)), (0, .ref zB), (1, .int (nI k)), (2, .int rp)]) hx hb dX0_lawLine_15 hl (by decide) rfl (fun ls hl => ?_)
  refine wloop (α := Nat) (fun v => sN σ - v) (fun v => [(0, .ref zB), (1, .int (nI k)), (2, .int rp), (3, .int (givI σ rp k)), (4, .int (nI v))]) (fun v => (v ≤ sN σ) ∧ (∀ j, j < v → hb (givI σ rp k) (nI j) = false)) 5 (fun v hv ih17 ls hl => ?_) 0 ⟨(show 0 ≤ sN σ from Nat.zero_le _), (show ∀ j, j < 0 → hb (givI σ rp k) (nI j) = false from fun j hj => absurd hj (Nat.not_lt_zero _))⟩ ls (lv_sub hl [2, 3, 4, 1, 0] rfl)
  obtain ⟨i, rfl⟩ : ∃ z : Nat, z = v := ⟨_, rfl⟩
  obtain ⟨hi, hn⟩ := hv
  have hi : i ≤ sN σ := hi
  have hn : ∀ j, j < i → hb (givI σ rp k) (nI j) = false := hn
  have hl : lv_has ls 5 [(0, .ref zB), (1, .int (nI k)), (2, .int rp), (3, .int (givI σ rp k)), (4, .int (nI i))] := hl
  refine lv_iload hx hb dX0_lawLine_17 (lv_at hl 4 rfl) ?_
  refine lv_aload_n hx hb dX0_lawLine_19 rfl (lv_at hl 0 rfl) ?_
  refine va_get (D := D) (ci := 0) (v := .int (nI (sN σ))) (C := RX0) (T := TX0) (N := 11) hx hb hts hiX0 hown hK hP 0 rfl rfl 4 (by decide) hf38 (fun _ h9 => h9) rfl dX0_lawLine_20 ?_
  refine lv_icmp_ge (tgt := 44) hx hb dX0_lawLine_23 (by decide) (fun c23 => ?_) (fun c23 => ?_)
  · skip
    have c23 := (nI_leI (by omega) (by omega)).mp c23
    refine lv_bipush (v := (-6)) hx hb dX0_lawLine_44 (by decide) ?_
    exact W.iret (v := (-6)) hx hb hr (fun t ht hW => ⟨_, rfl, by rw [lawI, lawI_no (fun j hj => hn j (by omega)), if_neg (Nat.lt_irrefl _)], ht⟩) (fun _ h => absurd h List.not_mem_nil) dX0_lawLine_46
  · skip
    have c23 := Nat.lt_of_not_le (fun z => c23 ((nI_leI (by omega) (by omega)).mpr z))
    refine lv_iload_n hx hb dX0_lawLine_26 rfl (lv_at hl 3 rfl) ?_
    refine lv_iload hx hb dX0_lawLine_27 (lv_at hl 4 rfl) ?_
    refine xpSN (host := "BallCourt") (rest := []) ⟨hx, hb, hml, hown, hts⟩ (c_X5_hasBit l D cI cZ (givI σ rp k) (nI i)) (va_cnB 2 hts gX0_lawLine_X5_hasBit_n50 rfl rfl rfl (NW.m hN 4 rfl) (hts (.initialized RX5) (List.mem_of_getElem? (i := 12) (by decide +kernel))) (by decide +kernel) ⟨Nat.le_of_ble_eq_true rfl, Nat.le_of_ble_eq_true rfl⟩) (hts (.static yX5_hasBit) (List.mem_of_getElem? (i := 11) (by decide +kernel))) hP [] rfl hK hN rfl hl.1 rfl (Nat.le_of_ble_eq_true rfl) dX0_lawLine_29 ⟨Nat.zero_le _, Nat.zero_le _⟩ (fun r29 e29 => ?_)
    subst e29
    refine lv_if_eq (tgt := 38) hx hb dX0_lawLine_32 (by decide) (fun c32 => ?_) (fun c32 => ?_)
    · skip
      have c32 := b2_0 c32
      refine lv_iinc (k := 4) (x := nI i) (v := nI (i + 1)) (lv' := [(4, .int (nI (i + 1))), (0, .ref zB), (1, .int (nI k)), (2, .int rp), (3, .int (givI σ rp k))]) hx hb dX0_lawLine_38 hl rfl (show (nI i) + Int32.ofInt 1 = nI (i + 1) from nI_1 _) (by decide) rfl (fun ls hl => ?_)
      refine lv_goto (tgt := 17) hx hb dX0_lawLine_41 (by decide) ?_
      exact ih17 (i + 1) ⟨(show (i + 1) ≤ sN σ from (by omega)), (show ∀ j, j < (i + 1) → hb (givI σ rp k) (nI j) = false from lt_s hn c32)⟩ (by show sN σ - (i + 1) < sN σ - i; omega) ls (lv_sub hl [1, 2, 3, 4, 0] rfl)
    · skip
      have c32 := b2_1 c32
      refine lv_iload hx hb dX0_lawLine_35 (lv_at hl 4 rfl) ?_
      exact W.iret (v := nI i) hx hb hr (fun t ht hW => ⟨_, rfl, by rw [lawI, lawI_at c23 c32 hn, if_pos c23], ht⟩) (fun _ h => absurd h List.not_mem_nil) dX0_lawLine_37

set_option maxHeartbeats 4000000 in
set_option maxRecDepth 100000 in
theorem c_X0_namedBy (l : Launch) (D : va_G) (cI cZ : ClassId) (zB : Nat) (zK : Nat) (zW : Nat) (zU : Nat) (zV : Nat) (zR : Nat) (zE : Nat) (σ : ST) (q : Nat) (hok : Ok σ) (hq : q < sN σ) : Met l yX0_namedBy wsX0_namedBy ({ frames := 1, cells := 0, slots := 0, locals := 21 }) (va_Pc [.ref zB, .int (nI q)] (XP D cI cZ [(zB, .inr (0, [.int (nI (sF σ)), .int (nI (2 ^ sF σ)), .ref zK, .ref zW, .int (nI (sN σ)), .int (sR σ), .int (orE σ (sN σ)), .ref zU, .ref zV, .ref zR, .ref zE])), (zU, .inl (cI, 12, .inl (rMu σ))), (zV, .inl (cI, 12, .inl (rMn σ))), (zE, .inl (cI, 12, .inl (rEr σ)))])) (vp_Si (fun r => r = nmI σ (sR σ) q)) 0 0 (fun _ => False) := by
  refine Met.ofW (cc := cX0_namedBy) (maxL := 5) (ret := (some .int)) (by decide) rfl ?_
  intro p e s m args below meth c s₁ B hml hv
  obtain ⟨rfl, hP, hK, hN⟩ := hv
  have hx := B.exec
  have hb := B.bytes
  have hr := B.returns
  have hts := atoms_spec (ws := wsX0_namedBy) B.pre
  have hown : s.vm.findClass RX0 = some m.cls := findClass_of_methodNamed B.named
  have hlocks := B.notSynchronized
  have ho := hok.1
  have hk2 := hok.k
  have hf38 := hts (.fieldLink RX0 38 "BallCourt$Book" "lines" "I") (List.mem_of_getElem? (i := 1) (by decide +kernel))
  have hiX0 : ∀ w ∈ wsX00, w ∈ wsX0_namedBy := fun w h => List.mem_cons_of_mem _ (List.mem_append_right _ h)
  have hf19 := hts (.fieldLink RX0 19 "BallCourt$Book" "must" "[I") (List.mem_of_getElem? (i := 2) (by decide +kernel))
  have hf22 := hts (.fieldLink RX0 22 "BallCourt$Book" "mustNot" "[I") (List.mem_of_getElem? (i := 3) (by decide +kernel))
  have hf28 := hts (.fieldLink RX0 28 "BallCourt$Book" "excepters" "[I") (List.mem_of_getElem? (i := 4) (by decide +kernel))
  have hf41 := hts (.fieldLink RX0 41 "BallCourt$Book" "repealed" "I") (List.mem_of_getElem? (i := 5) (by decide +kernel))
  have hl := lv_entry ([.ref zB, .int (nI q)]) (n := 5) (Nat.le_of_ble_eq_true rfl)
  rw [lg_entry_eq]
  generalize (lg_sl ([.ref zB, .int (nI q)]) ++ List.replicate (5 - (lg_sl ([.ref zB, .int (nI q)])).length) Slot.unset).toArray = ls at hl ⊢
  have hl : lv_has ls 5 [(0, .ref zB), (1, .int (nI q))] := hl
  refine lv_iconst (v := 0) hx hb dX0_namedBy_0 (by decide) ?_
  refine lv_istore_n (lv' := [(2, .int 0), (0, .ref zB), (1, .int (nI q))]) hx hb dX0_namedBy_1 rfl hl (by decide) rfl (fun ls hl => ?_)
  refine lv_iconst (v := 1) hx hb dX0_namedBy_2 (by decide) ?_
  refine lv_iload_n hx hb dX0_namedBy_3 rfl (lv_at hl 2 rfl) ?_
  refine lv_ishl hx hb dX0_namedBy_4 ?_
  refine lv_asi (show 1 <<< ((nI q) &&& 31) = (nmR σ (sR σ) q 0).2 from shl1 q (by omega)) ?_
  refine lv_istore_n (lv' := [(3, .int ((nmR σ (sR σ) q 0).2)), (2, .int 0), (0, .ref zB), (1, .int (nI q))]) hx hb dX0_namedBy_5 rfl hl (by decide) rfl (fun ls hl => ?_)
  refine lv_iload_n hx hb dX0_namedBy_6 rfl (lv_at hl 3 rfl) ?_
  refine lv_istore (lv' := [(4, .int (nI q)), (3, .int ((nmR σ (sR σ) q 0).2)), (2, .int 0), (0, .ref zB), (1, .int (nI q))]) hx hb dX0_namedBy_7 hl (by decide) rfl (fun ls hl => ?_)
  have hl : lv_has ls 5 [(4, .int (nI q)), (3, .int ((nmR σ (sR σ) q 0).2)), (2, .int ((nmR σ (sR σ) q 0).1)), (0, .ref zB), (1, .int (nI q))] := by rw [← (show 0 = (nmR σ (sR σ) q 0).1 from rfl)]; exact hl
  have hl : lv_has ls 5 [(4, .int (nI (q + 0))), (3, .int ((nmR σ (sR σ) q 0).2)), (2, .int ((nmR σ (sR σ) q 0).1)), (0, .ref zB), (1, .int (nI q))] := by rw [← (show nI q = nI (q + 0) from rfl)]; exact hl
  refine wloop (α := Nat) (fun v => sN σ - v) (fun v => [(0, .ref zB), (1, .int (nI q)), (2, .int ((nmR σ (sR σ) q v).1)), (3, .int ((nmR σ (sR σ) q v).2)), (4, .int (nI (q + v)))]) (fun v => (q + v ≤ sN σ)) 5 (fun v hv ih9 ls hl => ?_) 0 (show q + 0 ≤ sN σ from (by omega)) ls (lv_sub hl [3, 4, 2, 1, 0] rfl)
  obtain ⟨j, rfl⟩ : ∃ z : Nat, z = v := ⟨_, rfl⟩
  have hj : q + j ≤ sN σ := hv
  have hl : lv_has ls 5 [(0, .ref zB), (1, .int (nI q)), (2, .int ((nmR σ (sR σ) q j).1)), (3, .int ((nmR σ (sR σ) q j).2)), (4, .int (nI (q + j)))] := hl
  refine lv_iload hx hb dX0_namedBy_9 (lv_at hl 4 rfl) ?_
  refine lv_aload_n hx hb dX0_namedBy_11 rfl (lv_at hl 0 rfl) ?_
  refine va_get (D := D) (ci := 0) (v := .int (nI (sN σ))) (C := RX0) (T := TX0) (N := 11) hx hb hts hiX0 hown hK hP 0 rfl rfl 4 (by decide) hf38 (fun _ h9 => h9) rfl dX0_namedBy_12 ?_
  refine lv_icmp_ge (tgt := 68) hx hb dX0_namedBy_15 (by decide) (fun c15 => ?_) (fun c15 => ?_)
  · skip
    have c15 := (nI_leI (by omega) (by omega)).mp c15
    refine lv_iload_n hx hb dX0_namedBy_68 rfl (lv_at hl 2 rfl) ?_
    exact W.iret (v := (nmR σ (sR σ) q j).1) hx hb hr (fun t ht hW => ⟨_, rfl, by rw [nmI, show sN σ - q = j by omega], ht⟩) (fun _ h => absurd h List.not_mem_nil) dX0_namedBy_69
  · skip
    have c15 := Nat.lt_of_not_le (fun z => c15 ((nI_leI (by omega) (by omega)).mpr z))
    refine lv_iload_n hx hb dX0_namedBy_18 rfl (lv_at hl 3 rfl) ?_
    refine lv_iload hx hb dX0_namedBy_19 (lv_at hl 4 rfl) ?_
    refine xpSN (host := "BallCourt") (rest := []) ⟨hx, hb, hml, hown, hts⟩ (c_X5_hasBit l D cI cZ ((nmR σ (sR σ) q j).2) (nI (q + j))) (va_cnB 2 hts gX0_namedBy_X5_hasBit_n50 rfl rfl rfl (NW.m hN 4 rfl) (hts (.initialized RX5) (List.mem_of_getElem? (i := 7) (by decide +kernel))) (by decide +kernel) ⟨Nat.le_of_ble_eq_true rfl, Nat.le_of_ble_eq_true rfl⟩) (hts (.static yX5_hasBit) (List.mem_of_getElem? (i := 6) (by decide +kernel))) hP [] rfl hK hN rfl hl.1 rfl (Nat.le_of_ble_eq_true rfl) dX0_namedBy_21 ⟨Nat.zero_le _, Nat.zero_le _⟩ (fun r21 e21 => ?_)
    subst e21
    refine lv_if_eq (tgt := 62) hx hb dX0_namedBy_24 (by decide) (fun c24 => ?_) (fun c24 => ?_)
    · skip
      have c24 := b2_0 c24
      have hl : lv_has ls 5 [(0, .ref zB), (1, .int (nI q)), (2, .int ((nmR σ (sR σ) q (j + 1)).1)), (3, .int ((nmR σ (sR σ) q j).2)), (4, .int (nI (q + j)))] := by rw [← (show (nmR σ (sR σ) q j).1 = (nmR σ (sR σ) q (j + 1)).1 from (by rw [nmR_n c24]))]; exact hl
      have hl : lv_has ls 5 [(0, .ref zB), (1, .int (nI q)), (2, .int ((nmR σ (sR σ) q (j + 1)).1)), (3, .int ((nmR σ (sR σ) q (j + 1)).2)), (4, .int (nI (q + j)))] := by rw [← (show (nmR σ (sR σ) q j).2 = (nmR σ (sR σ) q (j + 1)).2 from (by rw [nmR_n c24]))]; exact hl
      refine lv_iinc (k := 4) (x := nI (q + j)) (v := nI (q + (j + 1))) (lv' := [(4, .int (nI (q + (j + 1)))), (0, .ref zB), (1, .int (nI q)), (2, .int ((nmR σ (sR σ) q (j + 1)).1)), (3, .int ((nmR σ (sR σ) q (j + 1)).2))]) hx hb dX0_namedBy_62 hl rfl (show (nI (q + j)) + Int32.ofInt 1 = nI (q + (j + 1)) from nI_1 _) (by decide) rfl (fun ls hl => ?_)
      refine lv_goto (tgt := 9) hx hb dX0_namedBy_65 (by decide) ?_
      exact ih9 (j + 1) (show q + (j + 1) ≤ sN σ from (by omega)) (by show sN σ - (j + 1) < sN σ - j; omega) ls (lv_sub hl [1, 2, 3, 4, 0] rfl)
    · skip
      have c24 := b2_1 c24
      refine lv_iload_n hx hb dX0_namedBy_27 rfl (lv_at hl 2 rfl) ?_
      refine lv_aload_n hx hb dX0_namedBy_28 rfl (lv_at hl 0 rfl) ?_
      refine va_get (D := D) (ci := 0) (v := .ref zU) (C := RX0) (T := TX0) (N := 11) hx hb hts hiX0 hown hK hP 0 rfl rfl 7 (by decide) hf19 (fun _ h9 => h9) rfl dX0_namedBy_29 ?_
      refine lv_iload hx hb dX0_namedBy_32 (lv_at hl 4 rfl) ?_
      refine xald (k := (q + j)) hx hb hK hP 1 rfl (by omega) (by decide) dX0_namedBy_34 ?_
      refine lv_aload_n hx hb dX0_namedBy_35 rfl (lv_at hl 0 rfl) ?_
      refine va_get (D := D) (ci := 0) (v := .ref zV) (C := RX0) (T := TX0) (N := 11) hx hb hts hiX0 hown hK hP 0 rfl rfl 8 (by decide) hf22 (fun _ h9 => h9) rfl dX0_namedBy_36 ?_
      refine lv_iload hx hb dX0_namedBy_39 (lv_at hl 4 rfl) ?_
      refine xald (k := (q + j)) hx hb hK hP 2 rfl (by omega) (by decide) dX0_namedBy_41 ?_
      refine lv_ior hx hb dX0_namedBy_42 ?_
      refine lv_ior hx hb dX0_namedBy_43 ?_
      refine lv_istore_n (lv' := [(2, .int (((nmR σ (sR σ) q j).1) ||| ((rMu σ (q + j)) ||| (rMn σ (q + j))))), (0, .ref zB), (1, .int (nI q)), (3, .int ((nmR σ (sR σ) q j).2)), (4, .int (nI (q + j)))]) hx hb dX0_namedBy_44 rfl hl (by decide) rfl (fun ls hl => ?_)
      refine lv_iload_n hx hb dX0_namedBy_45 rfl (lv_at hl 3 rfl) ?_
      refine lv_aload_n hx hb dX0_namedBy_46 rfl (lv_at hl 1 rfl) ?_
      refine va_get (D := D) (ci := 0) (v := .ref zE) (C := RX0) (T := TX0) (N := 11) hx hb hts hiX0 hown hK hP 0 rfl rfl 10 (by decide) hf28 (fun _ h9 => h9) rfl dX0_namedBy_47 ?_
      refine lv_iload hx hb dX0_namedBy_50 (lv_at hl 4 rfl) ?_
      refine xald (k := (q + j)) hx hb hK hP 3 rfl (by omega) (by decide) dX0_namedBy_52 ?_
      refine lv_aload_n hx hb dX0_namedBy_53 rfl (lv_at hl 1 rfl) ?_
      refine va_get (D := D) (ci := 0) (v := .int (sR σ)) (C := RX0) (T := TX0) (N := 11) hx hb hts hiX0 hown hK hP 0 rfl rfl 5 (by decide) hf41 (fun _ h9 => h9) rfl dX0_namedBy_54 ?_
      refine lv_iconst (v := (-1)) hx hb dX0_namedBy_57 (by decide) ?_
      refine lv_ixor hx hb dX0_namedBy_58 ?_
      refine lv_iand hx hb dX0_namedBy_59 ?_
      refine lv_ior hx hb dX0_namedBy_60 ?_
      refine lv_istore_n (lv' := [(3, .int (((nmR σ (sR σ) q j).2) ||| ((rEr σ (q + j)) &&& ((sR σ) ^^^ (-1))))), (2, .int (((nmR σ (sR σ) q j).1) ||| ((rMu σ (q + j)) ||| (rMn σ (q + j))))), (0, .ref zB), (1, .int (nI q)), (4, .int (nI (q + j)))]) hx hb dX0_namedBy_61 rfl hl (by decide) rfl (fun ls hl => ?_)
      have hl : lv_has ls 5 [(3, .int (((nmR σ (sR σ) q j).2) ||| ((rEr σ (q + j)) &&& ((sR σ) ^^^ (-1))))), (2, .int ((nmR σ (sR σ) q (j + 1)).1)), (0, .ref zB), (1, .int (nI q)), (4, .int (nI (q + j)))] := by rw [← (show ((nmR σ (sR σ) q j).1) ||| ((rMu σ (q + j)) ||| (rMn σ (q + j))) = (nmR σ (sR σ) q (j + 1)).1 from (by rw [nmR_y c24]))]; exact hl
      have hl : lv_has ls 5 [(3, .int ((nmR σ (sR σ) q (j + 1)).2)), (2, .int ((nmR σ (sR σ) q (j + 1)).1)), (0, .ref zB), (1, .int (nI q)), (4, .int (nI (q + j)))] := by rw [← (show ((nmR σ (sR σ) q j).2) ||| ((rEr σ (q + j)) &&& ((sR σ) ^^^ (-1))) = (nmR σ (sR σ) q (j + 1)).2 from (by rw [nmR_y c24]))]; exact hl
      refine lv_iinc (k := 4) (x := nI (q + j)) (v := nI (q + (j + 1))) (lv' := [(4, .int (nI (q + (j + 1)))), (3, .int ((nmR σ (sR σ) q (j + 1)).2)), (2, .int ((nmR σ (sR σ) q (j + 1)).1)), (0, .ref zB), (1, .int (nI q))]) hx hb dX0_namedBy_62 hl rfl (show (nI (q + j)) + Int32.ofInt 1 = nI (q + (j + 1)) from nI_1 _) (by decide) rfl (fun ls hl => ?_)
      refine lv_goto (tgt := 9) hx hb dX0_namedBy_65 (by decide) ?_
      exact ih9 (j + 1) (show q + (j + 1) ≤ sN σ from (by omega)) (by show sN σ - (j + 1) < sN σ - j; omega) ls (lv_sub hl [3, 4, 2, 1, 0] rfl)

set_option maxHeartbeats 4000000 in
set_option maxRecDepth 100000 in
theorem c_X3_covers (l : Launch) (D : va_G) (cI cZ : ClassId) (zB : Nat) (zL : Nat) (zLo : Nat) (σ : ST) (lo : Nat → Int32) (rp : Int32) (k : Nat) (hok : Ok σ) (hk : k < 2 ^ sF σ) (hlo : ∀ k, k < 2 ^ sF σ → lo k = lawI σ rp k) : Met l yX3_covers wsX3_covers ({ frames := 0, cells := 0, slots := 0, locals := 0 }) (va_Pc [.ref zL, .int (nI k)] (XP D cI cZ [(zL, .inr (3, [.ref zB, .ref zLo])), (zLo, .inl (cI, 128, .inl lo))])) (vp_Si (fun r => r = b2 (covB σ rp k))) 0 0 (fun _ => False) := by
  refine Met.ofW (cc := cX3_covers) (maxL := 2) (ret := (some .boolean)) (by decide) rfl ?_
  intro p e s m args below meth c s₁ B hml hv
  obtain ⟨rfl, hP, hK, hN⟩ := hv
  have hx := B.exec
  have hb := B.bytes
  have hr := B.returns
  have hts := atoms_spec (ws := wsX3_covers) B.pre
  have hown : s.vm.findClass RX3 = some m.cls := findClass_of_methodNamed B.named
  have hlocks := B.notSynchronized
  have ho := hok.1
  have hk2 := hok.k
  have hf9 := hts (.fieldLink RX3 9 "BallCourt$Laws" "lineOf" "[I") (List.mem_of_getElem? (i := 1) (by decide +kernel))
  have hiX3 : ∀ w ∈ wsX30, w ∈ wsX3_covers := fun w h => List.mem_cons_of_mem _ (List.mem_append_right _ h)
  have hl := lv_entry ([.ref zL, .int (nI k)]) (n := 2) (Nat.le_of_ble_eq_true rfl)
  rw [lg_entry_eq]
  generalize (lg_sl ([.ref zL, .int (nI k)]) ++ List.replicate (2 - (lg_sl ([.ref zL, .int (nI k)])).length) Slot.unset).toArray = ls at hl ⊢
  have hl : lv_has ls 2 [(0, .ref zL), (1, .int (nI k))] := hl
  refine lv_aload_n hx hb dX3_covers_0 rfl (lv_at hl 0 rfl) ?_
  refine va_get (D := D) (ci := 3) (v := .ref zLo) (C := RX3) (T := TX3) (N := 2) hx hb hts hiX3 hown hK hP 0 rfl rfl 1 (by decide) hf9 (fun _ h9 => h9) rfl dX3_covers_1 ?_
  refine lv_iload_n hx hb dX3_covers_4 rfl (lv_at hl 1 rfl) ?_
  refine xald (k := k) hx hb hK hP 1 rfl (by omega) (by decide) dX3_covers_5 ?_
  refine lv_asi (show lo k = lawI σ rp k from hlo k hk) ?_
  refine lv_bipush (v := (-6)) hx hb dX3_covers_6 (by decide) ?_
  refine lv_icmp_eq (tgt := 15) hx hb dX3_covers_8 (by decide) (fun c8 => ?_) (fun c8 => ?_)
  · skip
    have c8 := (lawI_6 (by omega)).mp c8
    refine lv_iconst (v := 0) hx hb dX3_covers_15 (by decide) ?_
    exact W.zret (v := 0) (ty := .boolean) hx hb hr rfl (fun t ht hW => ⟨_, rfl, by simp [c8, b2], ht⟩) (fun _ h => absurd h List.not_mem_nil) dX3_covers_16
  · skip
    have c8 := nt (fun z => c8 ((lawI_6 (by omega)).mpr z))
    refine lv_iconst (v := 1) hx hb dX3_covers_11 (by decide) ?_
    refine lv_goto (tgt := 16) hx hb dX3_covers_12 (by decide) ?_
    exact W.zret (v := 1) (ty := .boolean) hx hb hr rfl (fun t ht hW => ⟨_, rfl, by simp [c8, b2], ht⟩) (fun _ h => absurd h List.not_mem_nil) dX3_covers_16

set_option maxHeartbeats 4000000 in
set_option maxRecDepth 100000 in
theorem c_X3_rulingFor (l : Launch) (D : va_G) (cI cZ : ClassId) (zB : Nat) (zL : Nat) (zK : Nat) (zW : Nat) (zU : Nat) (zV : Nat) (zR : Nat) (zE : Nat) (zLo : Nat) (σ : ST) (lo : Nat → Int32) (rp : Int32) (k : Nat) (hok : Ok σ) (hk : k < 2 ^ sF σ) (hlo : ∀ k, k < 2 ^ sF σ → lo k = lawI σ rp k) : Met l yX3_rulingFor wsX3_rulingFor ({ frames := 1, cells := 0, slots := 0, locals := 21 }) (va_Pc [.ref zL, .int (nI k)] (XP D cI cZ [(zL, .inr (3, [.ref zB, .ref zLo])), (zLo, .inl (cI, 128, .inl lo)), (zB, .inr (0, [.int (nI (sF σ)), .int (nI (2 ^ sF σ)), .ref zK, .ref zW, .int (nI (sN σ)), .int (sR σ), .int (orE σ (sN σ)), .ref zU, .ref zV, .ref zR, .ref zE])), (zR, .inl (cI, 12, .inl (rRu σ)))])) (vp_Si (fun r => r = rulI σ rp k)) 0 0 (fun _ => False) := by
  refine Met.ofW (cc := cX3_rulingFor) (maxL := 2) (ret := (some .int)) (by decide) rfl ?_
  intro p e s m args below meth c s₁ B hml hv
  obtain ⟨rfl, hP, hK, hN⟩ := hv
  have hx := B.exec
  have hb := B.bytes
  have hr := B.returns
  have hts := atoms_spec (ws := wsX3_rulingFor) B.pre
  have hown : s.vm.findClass RX3 = some m.cls := findClass_of_methodNamed B.named
  have hlocks := B.notSynchronized
  have ho := hok.1
  have hk2 := hok.k
  have hf15 := hts (.fieldLink RX3 15 "BallCourt$Laws" "book" "LBallCourt$Book;") (List.mem_of_getElem? (i := 1) (by decide +kernel))
  have hiX3 : ∀ w ∈ wsX30, w ∈ wsX3_rulingFor := fun w h => List.mem_cons_of_mem _ (List.mem_append_left _ (List.mem_append_right _ h))
  have hiX0 : ∀ w ∈ wsX00, w ∈ wsX3_rulingFor := fun w h => List.mem_cons_of_mem _ (List.mem_append_right _ h)
  have hf9 := hts (.fieldLink RX3 9 "BallCourt$Laws" "lineOf" "[I") (List.mem_of_getElem? (i := 2) (by decide +kernel))
  have hl := lv_entry ([.ref zL, .int (nI k)]) (n := 2) (Nat.le_of_ble_eq_true rfl)
  rw [lg_entry_eq]
  generalize (lg_sl ([.ref zL, .int (nI k)]) ++ List.replicate (2 - (lg_sl ([.ref zL, .int (nI k)])).length) Slot.unset).toArray = ls at hl ⊢
  have hl : lv_has ls 2 [(0, .ref zL), (1, .int (nI k))] := hl
  refine lv_aload_n hx hb dX3_rulingFor_0 rfl (lv_at hl 0 rfl) ?_
  refine lv_iload_n hx hb dX3_rulingFor_1 rfl (lv_at hl 1 rfl) ?_
  refine xpV (rest := []) ⟨hx, hb, hml, hown, hts⟩ (c_X3_covers l D cI cZ zB zL zLo σ lo rp k hok hk hlo) (cwV 1 hts gX3_rulingFor_X3_covers rfl rfl rfl (by decide +kernel) ⟨Nat.le_of_ble_eq_true rfl, Nat.le_of_ble_eq_true rfl⟩) hP [0, 1] rfl hK hN (ci := 3) (q0 := 0) rfl rfl rfl hl.1 rfl (Nat.le_of_ble_eq_true rfl) dX3_rulingFor_2 ⟨Nat.zero_le _, Nat.zero_le _⟩ (fun r2 e2 => ?_)
  subst e2
  refine lv_if_eq (tgt := 25) hx hb dX3_rulingFor_5 (by decide) (fun c5 => ?_) (fun c5 => ?_)
  · skip
    have c5 := b2_0 c5
    have c5 := of_decide_eq_false c5
    refine lv_iconst (v := 0) hx hb dX3_rulingFor_25 (by decide) ?_
    exact W.iret (v := 0) hx hb hr (fun t ht hW => ⟨_, rfl, by rw [rulI, if_neg c5], ht⟩) (fun _ h => absurd h List.not_mem_nil) dX3_rulingFor_26
  · skip
    have c5 := b2_1 c5
    have c5 := of_decide_eq_true c5
    refine lv_aload_n hx hb dX3_rulingFor_8 rfl (lv_at hl 0 rfl) ?_
    refine va_get (D := D) (ci := 3) (v := .ref zB) (C := RX3) (T := TX3) (N := 2) hx hb hts hiX3 hown hK hP 0 rfl rfl 0 (by decide) hf15 (fun _ h9 => h9) rfl dX3_rulingFor_9 ?_
    refine va_getN (D := D) (ci := 0) (v := .ref zR) (C := RX0) (T := TX0) (N := 11) hx hb hts hiX0 hown hK hP 2 rfl rfl 9 (by decide) (NW.f hN 19 rfl _) (fun _ h9 => h9) rfl dX3_rulingFor_12 ?_
    refine lv_aload_n hx hb dX3_rulingFor_15 rfl (lv_at hl 0 rfl) ?_
    refine va_get (D := D) (ci := 3) (v := .ref zLo) (C := RX3) (T := TX3) (N := 2) hx hb hts hiX3 hown hK hP 0 rfl rfl 1 (by decide) hf9 (fun _ h9 => h9) rfl dX3_rulingFor_16 ?_
    refine lv_iload_n hx hb dX3_rulingFor_19 rfl (lv_at hl 1 rfl) ?_
    refine xald (k := k) hx hb hK hP 1 rfl (by omega) (by decide) dX3_rulingFor_20 ?_
    refine lv_asi (show lo k = nI (lawN σ rp k) from by rw [hlo k hk, lawI, if_pos c5]) ?_
    refine xald (k := (lawN σ rp k)) hx hb hK hP 3 rfl (by omega) (by decide) dX3_rulingFor_21 ?_
    refine lv_goto (tgt := 26) hx hb dX3_rulingFor_22 (by decide) ?_
    exact W.iret (v := rRu σ (lawN σ rp k)) hx hb hr (fun t ht hW => ⟨_, rfl, by rw [rulI, if_pos c5], ht⟩) (fun _ h => absurd h List.not_mem_nil) dX3_rulingFor_26

set_option maxHeartbeats 4000000 in
set_option maxRecDepth 100000 in
theorem c_X3_differFor (l : Launch) (D : va_G) (cI cZ : ClassId) (zB : Nat) (zL : Nat) (zF : Nat) (zK : Nat) (zW : Nat) (zU : Nat) (zV : Nat) (zR : Nat) (zE : Nat) (zLo : Nat) (zFo : Nat) (σ : ST) (lo : Nat → Int32) (lf : Nat → Int32) (rp : Int32) (k : Nat) (rq : Int32) (hok : Ok σ) (hk : k < 2 ^ sF σ) (hlo : ∀ k, k < 2 ^ sF σ → lo k = lawI σ rp k) (hlf : ∀ k, k < 2 ^ sF σ → lf k = lawI σ rq k) : Met l yX3_differFor wsX3_differFor ({ frames := 2, cells := 0, slots := 0, locals := 42 }) (va_Pc [.ref zL, .int (nI k), .ref zF] (XP D cI cZ [(zL, .inr (3, [.ref zB, .ref zLo])), (zLo, .inl (cI, 128, .inl lo)), (zB, .inr (0, [.int (nI (sF σ)), .int (nI (2 ^ sF σ)), .ref zK, .ref zW, .int (nI (sN σ)), .int (sR σ), .int (orE σ (sN σ)), .ref zU, .ref zV, .ref zR, .ref zE])), (zR, .inl (cI, 12, .inl (rRu σ))), (zF, .inr (3, [.ref zB, .ref zFo])), (zFo, .inl (cI, 128, .inl lf))])) (vp_Si (fun r => r = b2 (difB σ rp rq k))) 0 0 (fun _ => False) := by
  refine Met.ofW (cc := cX3_differFor) (maxL := 3) (ret := (some .boolean)) (by decide) rfl ?_
  intro p e s m args below meth c s₁ B hml hv
  obtain ⟨rfl, hP, hK, hN⟩ := hv
  have hx := B.exec
  have hb := B.bytes
  have hr := B.returns
  have hts := atoms_spec (ws := wsX3_differFor) B.pre
  have hown : s.vm.findClass RX3 = some m.cls := findClass_of_methodNamed B.named
  have hlocks := B.notSynchronized
  have ho := hok.1
  have hk2 := hok.k
  have hl := lv_entry ([.ref zL, .int (nI k), .ref zF]) (n := 3) (Nat.le_of_ble_eq_true rfl)
  rw [lg_entry_eq]
  generalize (lg_sl ([.ref zL, .int (nI k), .ref zF]) ++ List.replicate (3 - (lg_sl ([.ref zL, .int (nI k), .ref zF])).length) Slot.unset).toArray = ls at hl ⊢
  have hl : lv_has ls 3 [(0, .ref zL), (1, .int (nI k)), (2, .ref zF)] := hl
  refine lv_aload_n hx hb dX3_differFor_0 rfl (lv_at hl 0 rfl) ?_
  refine lv_iload_n hx hb dX3_differFor_1 rfl (lv_at hl 1 rfl) ?_
  refine xpV (rest := []) ⟨hx, hb, hml, hown, hts⟩ (c_X3_rulingFor l D cI cZ zB zL zK zW zU zV zR zE zLo σ lo rp k hok hk hlo) (cwV 1 hts gX3_differFor_X3_rulingFor rfl rfl rfl (by decide +kernel) ⟨Nat.le_of_ble_eq_true rfl, Nat.le_of_ble_eq_true rfl⟩) hP [0, 1, 2, 3] rfl hK hN (ci := 3) (q0 := 0) rfl rfl rfl hl.1 rfl (Nat.le_of_ble_eq_true rfl) dX3_differFor_2 ⟨Nat.zero_le _, Nat.zero_le _⟩ (fun r2 e2 => ?_)
  subst e2
  refine lv_aload_n hx hb dX3_differFor_5 rfl (lv_at hl 2 rfl) ?_
  refine lv_iload_n hx hb dX3_differFor_6 rfl (lv_at hl 1 rfl) ?_
  refine xpV (rest := [.int (rulI σ rp k)]) ⟨hx, hb, hml, hown, hts⟩ (c_X3_rulingFor l D cI cZ zB zF zK zW zU zV zR zE zFo σ lf rq k hok hk hlf) (cwV 1 hts gX3_differFor_X3_rulingFor rfl rfl rfl (by decide +kernel) ⟨Nat.le_of_ble_eq_true rfl, Nat.le_of_ble_eq_true rfl⟩) hP [4, 5, 2, 3] rfl hK hN (ci := 3) (q0 := 4) rfl rfl rfl hl.1 rfl (Nat.le_of_ble_eq_true rfl) dX3_differFor_7 ⟨Nat.zero_le _, Nat.zero_le _⟩ (fun r7 e7 => ?_)
  subst e7
  refine lv_icmp_ne (tgt := 26) hx hb dX3_differFor_10 (by decide) (fun c10 => ?_) (fun c10 => ?_)
  · skip
    refine lv_iconst (v := 1) hx hb dX3_differFor_26 (by decide) ?_
    refine lv_goto (tgt := 31) hx hb dX3_differFor_27 (by decide) ?_
    exact W.zret (v := 1) (ty := .boolean) hx hb hr rfl (fun t ht hW => ⟨_, rfl, by simp [c10, b2, difB], ht⟩) (fun _ h => absurd h List.not_mem_nil) dX3_differFor_31
  · skip
    refine lv_aload_n hx hb dX3_differFor_13 rfl (lv_at hl 0 rfl) ?_
    refine lv_iload_n hx hb dX3_differFor_14 rfl (lv_at hl 1 rfl) ?_
    refine xpV (rest := []) ⟨hx, hb, hml, hown, hts⟩ (c_X3_covers l D cI cZ zB zL zLo σ lo rp k hok hk hlo) (cwV 1 hts gX3_differFor_X3_covers rfl rfl rfl (by decide +kernel) ⟨Nat.le_of_ble_eq_true rfl, Nat.le_of_ble_eq_true rfl⟩) hP [0, 1] rfl hK hN (ci := 3) (q0 := 0) rfl rfl rfl hl.1 rfl (Nat.le_of_ble_eq_true rfl) dX3_differFor_15 ⟨Nat.zero_le _, Nat.zero_le _⟩ (fun r15 e15 => ?_)
    subst e15
    refine lv_aload_n hx hb dX3_differFor_18 rfl (lv_at hl 2 rfl) ?_
    refine lv_iload_n hx hb dX3_differFor_19 rfl (lv_at hl 1 rfl) ?_
    refine xpV (rest := [.int (b2 (covB σ rp k))]) ⟨hx, hb, hml, hown, hts⟩ (c_X3_covers l D cI cZ zB zF zFo σ lf rq k hok hk hlf) (cwV 1 hts gX3_differFor_X3_covers rfl rfl rfl (by decide +kernel) ⟨Nat.le_of_ble_eq_true rfl, Nat.le_of_ble_eq_true rfl⟩) hP [4, 5] rfl hK hN (ci := 3) (q0 := 4) rfl rfl rfl hl.1 rfl (Nat.le_of_ble_eq_true rfl) dX3_differFor_20 ⟨Nat.zero_le _, Nat.zero_le _⟩ (fun r20 e20 => ?_)
    subst e20
    refine lv_icmp_eq (tgt := 30) hx hb dX3_differFor_23 (by decide) (fun c23 => ?_) (fun c23 => ?_)
    · skip
      have c23 := b2_inj.mp c23
      refine lv_iconst (v := 0) hx hb dX3_differFor_30 (by decide) ?_
      exact W.zret (v := 0) (ty := .boolean) hx hb hr rfl (fun t ht hW => ⟨_, rfl, by simp [c10, c23, b2, difB], ht⟩) (fun _ h => absurd h List.not_mem_nil) dX3_differFor_31
    · skip
      have c23 := fun z => c23 (b2_inj.mpr z)
      refine lv_iconst (v := 1) hx hb dX3_differFor_26 (by decide) ?_
      refine lv_goto (tgt := 31) hx hb dX3_differFor_27 (by decide) ?_
      exact W.zret (v := 1) (ty := .boolean) hx hb hr rfl (fun t ht hW => ⟨_, rfl, by simp [c10, c23, b2, difB], ht⟩) (fun _ h => absurd h List.not_mem_nil) dX3_differFor_31

set_option maxHeartbeats 4000000 in
set_option maxRecDepth 100000 in
theorem c_X3_countMayBeRuled (l : Launch) (D : va_G) (cI cZ : ClassId) (zB : Nat) (zL : Nat) (zK : Nat) (zW : Nat) (zU : Nat) (zV : Nat) (zR : Nat) (zE : Nat) (zLo : Nat) (σ : ST) (kI : Nat → Int32) (lo : Nat → Int32) (rp : Int32) (so : Int32) (ns : Int32) (r : Int32) (hok : Ok σ) (hkI : ∀ k, k < 2 ^ sF σ → kI k = b2 (kok σ k)) (hlo : ∀ k, k < 2 ^ sF σ → lo k = lawI σ rp k) : Met l yX3_countMayBeRuled wsX3_countMayBeRuled ({ frames := 2, cells := 0, slots := 0, locals := 42 }) (va_Pc [.ref zL, .int so, .int ns, .int r] (XP D cI cZ [(zL, .inr (3, [.ref zB, .ref zLo])), (zLo, .inl (cI, 128, .inl lo)), (zB, .inr (0, [.int (nI (sF σ)), .int (nI (2 ^ sF σ)), .ref zK, .ref zW, .int (nI (sN σ)), .int (sR σ), .int (orE σ (sN σ)), .ref zU, .ref zV, .ref zR, .ref zE])), (zK, .inl (cZ, 128, .inl kI)), (zR, .inl (cI, 12, .inl (rRu σ)))])) (vp_Si (fun r => r = nI (cmr σ rp so ns r))) 0 0 (fun _ => False) := by
  refine Met.ofW (cc := cX3_countMayBeRuled) (maxL := 6) (ret := (some .int)) (by decide) rfl ?_
  intro p e s m args below meth c s₁ B hml hv
  obtain ⟨rfl, hP, hK, hN⟩ := hv
  have hx := B.exec
  have hb := B.bytes
  have hr := B.returns
  have hts := atoms_spec (ws := wsX3_countMayBeRuled) B.pre
  have hown : s.vm.findClass RX3 = some m.cls := findClass_of_methodNamed B.named
  have hlocks := B.notSynchronized
  have ho := hok.1
  have hk2 := hok.k
  have hf15 := hts (.fieldLink RX3 15 "BallCourt$Laws" "book" "LBallCourt$Book;") (List.mem_of_getElem? (i := 1) (by decide +kernel))
  have hiX3 : ∀ w ∈ wsX30, w ∈ wsX3_countMayBeRuled := fun w h => List.mem_cons_of_mem _ (List.mem_append_left _ (List.mem_append_right _ h))
  have hiX0 : ∀ w ∈ wsX00, w ∈ wsX3_countMayBeRuled := fun w h => List.mem_cons_of_mem _ (List.mem_append_right _ h)
  have hl := lv_entry ([.ref zL, .int so, .int ns, .int r]) (n := 6) (Nat.le_of_ble_eq_true rfl)
  rw [lg_entry_eq]
  generalize (lg_sl ([.ref zL, .int so, .int ns, .int r]) ++ List.replicate (6 - (lg_sl ([.ref zL, .int so, .int ns, .int r])).length) Slot.unset).toArray = ls at hl ⊢
  have hl : lv_has ls 6 [(0, .ref zL), (1, .int so), (2, .int ns), (3, .int r)] := hl
  refine lv_iconst (v := nI 0) hx hb dX3_countMayBeRuled_0 (by decide) ?_
  refine lv_istore (lv' := [(4, .int (nI 0)), (0, .ref zL), (1, .int so), (2, .int ns), (3, .int r)]) hx hb dX3_countMayBeRuled_1 hl (by decide) rfl (fun ls hl => ?_)
  refine lv_iconst (v := nI 0) hx hb dX3_countMayBeRuled_3 (by decide) ?_
  refine lv_istore (lv' := [(5, .int (nI 0)), (4, .int (nI 0)), (0, .ref zL), (1, .int so), (2, .int ns), (3, .int r)]) hx hb dX3_countMayBeRuled_4 hl (by decide) rfl (fun ls hl => ?_)
  refine wloop (α := Nat) (fun v => 2 ^ sF σ - v) (fun v => [(0, .ref zL), (1, .int so), (2, .int ns), (3, .int r), (4, .int (nI (cnt (mrB σ rp so ns r) v))), (5, .int (nI v))]) (fun v => (v ≤ 2 ^ sF σ)) 6 (fun v hv ih6 ls hl => ?_) 0 (show 0 ≤ 2 ^ sF σ from Nat.zero_le _) ls (lv_sub hl [2, 3, 4, 5, 1, 0] rfl)
  obtain ⟨k, rfl⟩ : ∃ z : Nat, z = v := ⟨_, rfl⟩
  have hk : k ≤ 2 ^ sF σ := hv
  have hl : lv_has ls 6 [(0, .ref zL), (1, .int so), (2, .int ns), (3, .int r), (4, .int (nI (cnt (mrB σ rp so ns r) k))), (5, .int (nI k))] := hl
  refine lv_iload hx hb dX3_countMayBeRuled_6 (lv_at hl 5 rfl) ?_
  refine lv_aload_n hx hb dX3_countMayBeRuled_8 rfl (lv_at hl 0 rfl) ?_
  refine va_get (D := D) (ci := 3) (v := .ref zB) (C := RX3) (T := TX3) (N := 2) hx hb hts hiX3 hown hK hP 0 rfl rfl 0 (by decide) hf15 (fun _ h9 => h9) rfl dX3_countMayBeRuled_9 ?_
  refine va_getN (D := D) (ci := 0) (v := .int (nI (2 ^ sF σ))) (C := RX0) (T := TX0) (N := 11) hx hb hts hiX0 hown hK hP 2 rfl rfl 1 (by decide) (NW.f hN 18 rfl _) (fun _ h9 => h9) rfl dX3_countMayBeRuled_12 ?_
  refine lv_icmp_ge (tgt := 51) hx hb dX3_countMayBeRuled_15 (by decide) (fun c15 => ?_) (fun c15 => ?_)
  · skip
    have c15 := (nI_leI (by omega) (by omega)).mp c15
    refine lv_iload hx hb dX3_countMayBeRuled_51 (lv_at hl 4 rfl) ?_
    exact W.iret (v := nI (cnt (mrB σ rp so ns r) k)) hx hb hr (fun t ht hW => ⟨_, rfl, by rw [show k = 2 ^ sF σ by omega]; rfl, ht⟩) (fun _ h => absurd h List.not_mem_nil) dX3_countMayBeRuled_53
  · skip
    have c15 := Nat.lt_of_not_le (fun z => c15 ((nI_leI (by omega) (by omega)).mpr z))
    refine lv_aload_n hx hb dX3_countMayBeRuled_18 rfl (lv_at hl 0 rfl) ?_
    refine va_get (D := D) (ci := 3) (v := .ref zB) (C := RX3) (T := TX3) (N := 2) hx hb hts hiX3 hown hK hP 0 rfl rfl 0 (by decide) hf15 (fun _ h9 => h9) rfl dX3_countMayBeRuled_19 ?_
    refine lv_iload hx hb dX3_countMayBeRuled_22 (lv_at hl 5 rfl) ?_
    refine lv_iload_n hx hb dX3_countMayBeRuled_24 rfl (lv_at hl 1 rfl) ?_
    refine lv_iload_n hx hb dX3_countMayBeRuled_25 rfl (lv_at hl 2 rfl) ?_
    refine xpV (rest := []) ⟨hx, hb, hml, hown, hts⟩ (c_X0_mayBe l D cI cZ zB zK zW zU zV zR zE σ kI k so ns hok c15 hkI) (cwV 3 hts gX3_countMayBeRuled_X0_mayBe rfl rfl rfl (by decide +kernel) ⟨Nat.le_of_ble_eq_true rfl, Nat.le_of_ble_eq_true rfl⟩) hP [2, 3] rfl hK hN (ci := 0) (q0 := 2) rfl rfl rfl hl.1 rfl (Nat.le_of_ble_eq_true rfl) dX3_countMayBeRuled_26 ⟨Nat.zero_le _, Nat.zero_le _⟩ (fun r26 e26 => ?_)
    subst e26
    refine lv_if_eq (tgt := 45) hx hb dX3_countMayBeRuled_29 (by decide) (fun c29 => ?_) (fun c29 => ?_)
    · skip
      have c29 := b2_0 c29
      have hl : lv_has ls 6 [(0, .ref zL), (1, .int so), (2, .int ns), (3, .int r), (4, .int (nI (cnt (mrB σ rp so ns r) (k + 1)))), (5, .int (nI k))] := by rw [← (show nI (cnt (mrB σ rp so ns r) k) = nI (cnt (mrB σ rp so ns r) (k + 1)) from congrArg nI (cnt_n (by simp [mrB, c29])))]; exact hl
      refine lv_iinc (k := 5) (x := nI k) (v := nI (k + 1)) (lv' := [(5, .int (nI (k + 1))), (0, .ref zL), (1, .int so), (2, .int ns), (3, .int r), (4, .int (nI (cnt (mrB σ rp so ns r) (k + 1))))]) hx hb dX3_countMayBeRuled_45 hl rfl (show (nI k) + Int32.ofInt 1 = nI (k + 1) from nI_1 _) (by decide) rfl (fun ls hl => ?_)
      refine lv_goto (tgt := 6) hx hb dX3_countMayBeRuled_48 (by decide) ?_
      exact ih6 (k + 1) (show (k + 1) ≤ 2 ^ sF σ from (by omega)) (by show 2 ^ sF σ - (k + 1) < 2 ^ sF σ - k; omega) ls (lv_sub hl [1, 2, 3, 4, 5, 0] rfl)
    · skip
      have c29 := b2_1 c29
      refine lv_aload_n hx hb dX3_countMayBeRuled_32 rfl (lv_at hl 0 rfl) ?_
      refine lv_iload hx hb dX3_countMayBeRuled_33 (lv_at hl 5 rfl) ?_
      refine xpV (rest := []) ⟨hx, hb, hml, hown, hts⟩ (c_X3_rulingFor l D cI cZ zB zL zK zW zU zV zR zE zLo σ lo rp k hok c15 hlo) (cwV 1 hts gX3_countMayBeRuled_X3_rulingFor rfl rfl rfl (by decide +kernel) ⟨Nat.le_of_ble_eq_true rfl, Nat.le_of_ble_eq_true rfl⟩) hP [0, 1, 2, 4] rfl hK hN (ci := 3) (q0 := 0) rfl rfl rfl hl.1 rfl (Nat.le_of_ble_eq_true rfl) dX3_countMayBeRuled_35 ⟨Nat.zero_le _, Nat.zero_le _⟩ (fun r35 e35 => ?_)
      subst e35
      refine lv_iload_n hx hb dX3_countMayBeRuled_38 rfl (lv_at hl 3 rfl) ?_
      refine lv_icmp_ne (tgt := 45) hx hb dX3_countMayBeRuled_39 (by decide) (fun c39 => ?_) (fun c39 => ?_)
      · skip
        have hl : lv_has ls 6 [(0, .ref zL), (1, .int so), (2, .int ns), (3, .int r), (4, .int (nI (cnt (mrB σ rp so ns r) (k + 1)))), (5, .int (nI k))] := by rw [← (show nI (cnt (mrB σ rp so ns r) k) = nI (cnt (mrB σ rp so ns r) (k + 1)) from congrArg nI (cnt_n (by simp [mrB, c39])))]; exact hl
        refine lv_iinc (k := 5) (x := nI k) (v := nI (k + 1)) (lv' := [(5, .int (nI (k + 1))), (0, .ref zL), (1, .int so), (2, .int ns), (3, .int r), (4, .int (nI (cnt (mrB σ rp so ns r) (k + 1))))]) hx hb dX3_countMayBeRuled_45 hl rfl (show (nI k) + Int32.ofInt 1 = nI (k + 1) from nI_1 _) (by decide) rfl (fun ls hl => ?_)
        refine lv_goto (tgt := 6) hx hb dX3_countMayBeRuled_48 (by decide) ?_
        exact ih6 (k + 1) (show (k + 1) ≤ 2 ^ sF σ from (by omega)) (by show 2 ^ sF σ - (k + 1) < 2 ^ sF σ - k; omega) ls (lv_sub hl [1, 2, 3, 4, 5, 0] rfl)
      · skip
        refine lv_iinc (k := 4) (x := nI (cnt (mrB σ rp so ns r) k)) (v := nI (cnt (mrB σ rp so ns r) (k + 1))) (lv' := [(4, .int (nI (cnt (mrB σ rp so ns r) (k + 1)))), (0, .ref zL), (1, .int so), (2, .int ns), (3, .int r), (5, .int (nI k))]) hx hb dX3_countMayBeRuled_42 hl rfl (show (nI (cnt (mrB σ rp so ns r) k)) + Int32.ofInt 1 = nI (cnt (mrB σ rp so ns r) (k + 1)) from cnt_y (by simp [mrB, c29, c39])) (by decide) rfl (fun ls hl => ?_)
        refine lv_iinc (k := 5) (x := nI k) (v := nI (k + 1)) (lv' := [(5, .int (nI (k + 1))), (4, .int (nI (cnt (mrB σ rp so ns r) (k + 1)))), (0, .ref zL), (1, .int so), (2, .int ns), (3, .int r)]) hx hb dX3_countMayBeRuled_45 hl rfl (show (nI k) + Int32.ofInt 1 = nI (k + 1) from nI_1 _) (by decide) rfl (fun ls hl => ?_)
        refine lv_goto (tgt := 6) hx hb dX3_countMayBeRuled_48 (by decide) ?_
        exact ih6 (k + 1) (show (k + 1) ≤ 2 ^ sF σ from (by omega)) (by show 2 ^ sF σ - (k + 1) < 2 ^ sF σ - k; omega) ls (lv_sub hl [2, 3, 4, 5, 1, 0] rfl)

set_option maxHeartbeats 4000000 in
set_option maxRecDepth 100000 in
theorem c_X3_rulingForAll (l : Launch) (D : va_G) (cI cZ : ClassId) (zB : Nat) (zL : Nat) (zK : Nat) (zW : Nat) (zU : Nat) (zV : Nat) (zR : Nat) (zE : Nat) (zLo : Nat) (σ : ST) (kI : Nat → Int32) (lo : Nat → Int32) (rp : Int32) (so : Int32) (ns : Int32) (hok : Ok σ) (hkI : ∀ k, k < 2 ^ sF σ → kI k = b2 (kok σ k)) (hlo : ∀ k, k < 2 ^ sF σ → lo k = lawI σ rp k) : Met l yX3_rulingForAll wsX3_rulingForAll ({ frames := 2, cells := 0, slots := 0, locals := 42 }) (va_Pc [.ref zL, .int so, .int ns] (XP D cI cZ [(zL, .inr (3, [.ref zB, .ref zLo])), (zLo, .inl (cI, 128, .inl lo)), (zB, .inr (0, [.int (nI (sF σ)), .int (nI (2 ^ sF σ)), .ref zK, .ref zW, .int (nI (sN σ)), .int (sR σ), .int (orE σ (sN σ)), .ref zU, .ref zV, .ref zR, .ref zE])), (zK, .inl (cZ, 128, .inl kI)), (zR, .inl (cI, 12, .inl (rRu σ)))])) (vp_Si (fun r => r = rfaI σ rp so ns)) 0 0 (fun _ => False) := by
  refine Met.ofW (cc := cX3_rulingForAll) (maxL := 6) (ret := (some .int)) (by decide) rfl ?_
  intro p e s m args below meth c s₁ B hml hv
  obtain ⟨rfl, hP, hK, hN⟩ := hv
  have hx := B.exec
  have hb := B.bytes
  have hr := B.returns
  have hts := atoms_spec (ws := wsX3_rulingForAll) B.pre
  have hown : s.vm.findClass RX3 = some m.cls := findClass_of_methodNamed B.named
  have hlocks := B.notSynchronized
  have ho := hok.1
  have hk2 := hok.k
  have hf15 := hts (.fieldLink RX3 15 "BallCourt$Laws" "book" "LBallCourt$Book;") (List.mem_of_getElem? (i := 1) (by decide +kernel))
  have hiX3 : ∀ w ∈ wsX30, w ∈ wsX3_rulingForAll := fun w h => List.mem_cons_of_mem _ (List.mem_append_left _ (List.mem_append_right _ h))
  have hiX0 : ∀ w ∈ wsX00, w ∈ wsX3_rulingForAll := fun w h => List.mem_cons_of_mem _ (List.mem_append_right _ h)
  have hl := lv_entry ([.ref zL, .int so, .int ns]) (n := 6) (Nat.le_of_ble_eq_true rfl)
  rw [lg_entry_eq]
  generalize (lg_sl ([.ref zL, .int so, .int ns]) ++ List.replicate (6 - (lg_sl ([.ref zL, .int so, .int ns])).length) Slot.unset).toArray = ls at hl ⊢
  have hl : lv_has ls 6 [(0, .ref zL), (1, .int so), (2, .int ns)] := hl
  refine lv_iconst (v := (-1)) hx hb dX3_rulingForAll_0 (by decide) ?_
  refine lv_istore_n (lv' := [(3, .int (-1)), (0, .ref zL), (1, .int so), (2, .int ns)]) hx hb dX3_rulingForAll_1 rfl hl (by decide) rfl (fun ls hl => ?_)
  refine lv_iconst (v := nI 0) hx hb dX3_rulingForAll_2 (by decide) ?_
  refine lv_istore (lv' := [(4, .int (nI 0)), (3, .int (-1)), (0, .ref zL), (1, .int so), (2, .int ns)]) hx hb dX3_rulingForAll_3 hl (by decide) rfl (fun ls hl => ?_)
  refine wloop (α := Nat × Int32) (fun v => 2 ^ sF σ - v.1) (fun v => [(0, .ref zL), (1, .int so), (2, .int ns), (3, .int v.2), (4, .int (nI v.1))]) (fun v => (v.1 ≤ 2 ^ sF σ) ∧ (rfV σ rp so ns v.1 v.2)) 6 (fun v hv ih5 ls hl => ?_) (0, (-1)) ⟨(show 0 ≤ 2 ^ sF σ from Nat.zero_le _), (show rfV σ rp so ns 0 (-1) from Or.inl ⟨rfl, fun j hj => absurd hj (Nat.not_lt_zero _)⟩)⟩ ls (lv_sub hl [2, 3, 4, 1, 0] rfl)
  obtain ⟨k, x⟩ := v
  obtain ⟨hk, hv⟩ := hv
  have hk : k ≤ 2 ^ sF σ := hk
  have hv : rfV σ rp so ns k x := hv
  have hl : lv_has ls 6 [(0, .ref zL), (1, .int so), (2, .int ns), (3, .int x), (4, .int (nI k))] := hl
  refine lv_iload hx hb dX3_rulingForAll_5 (lv_at hl 4 rfl) ?_
  refine lv_aload_n hx hb dX3_rulingForAll_7 rfl (lv_at hl 0 rfl) ?_
  refine va_get (D := D) (ci := 3) (v := .ref zB) (C := RX3) (T := TX3) (N := 2) hx hb hts hiX3 hown hK hP 0 rfl rfl 0 (by decide) hf15 (fun _ h9 => h9) rfl dX3_rulingForAll_8 ?_
  refine va_getN (D := D) (ci := 0) (v := .int (nI (2 ^ sF σ))) (C := RX0) (T := TX0) (N := 11) hx hb hts hiX0 hown hK hP 2 rfl rfl 1 (by decide) (NW.f hN 18 rfl _) (fun _ h9 => h9) rfl dX3_rulingForAll_11 ?_
  refine lv_icmp_ge (tgt := 61) hx hb dX3_rulingForAll_14 (by decide) (fun c14 => ?_) (fun c14 => ?_)
  · skip
    have c14 := (nI_leI (by omega) (by omega)).mp c14
    refine lv_iload_n hx hb dX3_rulingForAll_61 rfl (lv_at hl 3 rfl) ?_
    refine lv_iconst (v := (-1)) hx hb dX3_rulingForAll_62 (by decide) ?_
    refine lv_icmp_ne (tgt := 70) hx hb dX3_rulingForAll_63 (by decide) (fun c63 => ?_) (fun c63 => ?_)
    · skip
      refine lv_iload_n hx hb dX3_rulingForAll_70 rfl (lv_at hl 3 rfl) ?_
      exact W.iret (v := x) hx hb hr (fun t ht hW => ⟨_, rfl, (rfa_one (show k = 2 ^ sF σ by omega) hv c63).symm, ht⟩) (fun _ h => absurd h List.not_mem_nil) dX3_rulingForAll_71
    · skip
      refine lv_iconst (v := 0) hx hb dX3_rulingForAll_66 (by decide) ?_
      refine lv_goto (tgt := 71) hx hb dX3_rulingForAll_67 (by decide) ?_
      exact W.iret (v := 0) hx hb hr (fun t ht hW => ⟨_, rfl, (rfa_none (show k = 2 ^ sF σ by omega) hv c63).symm, ht⟩) (fun _ h => absurd h List.not_mem_nil) dX3_rulingForAll_71
  · skip
    have c14 := Nat.lt_of_not_le (fun z => c14 ((nI_leI (by omega) (by omega)).mpr z))
    refine lv_aload_n hx hb dX3_rulingForAll_17 rfl (lv_at hl 0 rfl) ?_
    refine va_get (D := D) (ci := 3) (v := .ref zB) (C := RX3) (T := TX3) (N := 2) hx hb hts hiX3 hown hK hP 0 rfl rfl 0 (by decide) hf15 (fun _ h9 => h9) rfl dX3_rulingForAll_18 ?_
    refine lv_iload hx hb dX3_rulingForAll_21 (lv_at hl 4 rfl) ?_
    refine lv_iload_n hx hb dX3_rulingForAll_23 rfl (lv_at hl 1 rfl) ?_
    refine lv_iload_n hx hb dX3_rulingForAll_24 rfl (lv_at hl 2 rfl) ?_
    refine xpV (rest := []) ⟨hx, hb, hml, hown, hts⟩ (c_X0_mayBe l D cI cZ zB zK zW zU zV zR zE σ kI k so ns hok c14 hkI) (cwV 3 hts gX3_rulingForAll_X0_mayBe rfl rfl rfl (by decide +kernel) ⟨Nat.le_of_ble_eq_true rfl, Nat.le_of_ble_eq_true rfl⟩) hP [2, 3] rfl hK hN (ci := 0) (q0 := 2) rfl rfl rfl hl.1 rfl (Nat.le_of_ble_eq_true rfl) dX3_rulingForAll_25 ⟨Nat.zero_le _, Nat.zero_le _⟩ (fun r25 e25 => ?_)
    subst e25
    refine lv_if_eq (tgt := 55) hx hb dX3_rulingForAll_28 (by decide) (fun c28 => ?_) (fun c28 => ?_)
    · skip
      have c28 := b2_0 c28
      refine lv_iinc (k := 4) (x := nI k) (v := nI (k + 1)) (lv' := [(4, .int (nI (k + 1))), (0, .ref zL), (1, .int so), (2, .int ns), (3, .int x)]) hx hb dX3_rulingForAll_55 hl rfl (show (nI k) + Int32.ofInt 1 = nI (k + 1) from nI_1 _) (by decide) rfl (fun ls hl => ?_)
      refine lv_goto (tgt := 5) hx hb dX3_rulingForAll_58 (by decide) ?_
      exact ih5 (k + 1, x) ⟨(show (k + 1) ≤ 2 ^ sF σ from (by omega)), (show rfV σ rp so ns (k + 1) x from rfa_skip hv c28)⟩ (by show 2 ^ sF σ - (k + 1) < 2 ^ sF σ - k; omega) ls (lv_sub hl [1, 2, 3, 4, 0] rfl)
    · skip
      have c28 := b2_1 c28
      refine lv_aload_n hx hb dX3_rulingForAll_31 rfl (lv_at hl 0 rfl) ?_
      refine lv_iload hx hb dX3_rulingForAll_32 (lv_at hl 4 rfl) ?_
      refine xpV (rest := []) ⟨hx, hb, hml, hown, hts⟩ (c_X3_rulingFor l D cI cZ zB zL zK zW zU zV zR zE zLo σ lo rp k hok c14 hlo) (cwV 1 hts gX3_rulingForAll_X3_rulingFor rfl rfl rfl (by decide +kernel) ⟨Nat.le_of_ble_eq_true rfl, Nat.le_of_ble_eq_true rfl⟩) hP [0, 1, 2, 4] rfl hK hN (ci := 3) (q0 := 0) rfl rfl rfl hl.1 rfl (Nat.le_of_ble_eq_true rfl) dX3_rulingForAll_34 ⟨Nat.zero_le _, Nat.zero_le _⟩ (fun r34 e34 => ?_)
      subst e34
      refine lv_istore (lv' := [(5, .int (rulI σ rp k)), (0, .ref zL), (1, .int so), (2, .int ns), (3, .int x), (4, .int (nI k))]) hx hb dX3_rulingForAll_37 hl (by decide) rfl (fun ls hl => ?_)
      refine lv_iload_n hx hb dX3_rulingForAll_39 rfl (lv_at hl 4 rfl) ?_
      refine lv_iconst (v := (-1)) hx hb dX3_rulingForAll_40 (by decide) ?_
      refine lv_icmp_eq (tgt := 52) hx hb dX3_rulingForAll_41 (by decide) (fun c41 => ?_) (fun c41 => ?_)
      · skip
        refine lv_iload hx hb dX3_rulingForAll_52 (lv_at hl 0 rfl) ?_
        refine lv_istore_n (lv' := [(3, .int (rulI σ rp k)), (5, .int (rulI σ rp k)), (0, .ref zL), (1, .int so), (2, .int ns), (4, .int (nI k))]) hx hb dX3_rulingForAll_54 rfl hl (by decide) rfl (fun ls hl => ?_)
        refine lv_iinc (k := 5) (x := nI k) (v := nI (k + 1)) (lv' := [(4, .int (nI (k + 1))), (3, .int (rulI σ rp k)), (5, .int (rulI σ rp k)), (0, .ref zL), (1, .int so), (2, .int ns)]) hx hb dX3_rulingForAll_55 hl rfl (show (nI k) + Int32.ofInt 1 = nI (k + 1) from nI_1 _) (by decide) rfl (fun ls hl => ?_)
        refine lv_goto (tgt := 5) hx hb dX3_rulingForAll_58 (by decide) ?_
        exact ih5 (k + 1, rulI σ rp k) ⟨(show (k + 1) ≤ 2 ^ sF σ from (by omega)), (show rfV σ rp so ns (k + 1) (rulI σ rp k) from rfa_step hok c14 hv c28 (Or.inl c41))⟩ (by show 2 ^ sF σ - (k + 1) < 2 ^ sF σ - k; omega) ls (lv_sub hl [3, 4, 5, 1, 0] rfl)
      · skip
        refine lv_iload_n hx hb dX3_rulingForAll_44 rfl (lv_at hl 4 rfl) ?_
        refine lv_iload hx hb dX3_rulingForAll_45 (lv_at hl 0 rfl) ?_
        refine lv_icmp_eq (tgt := 52) hx hb dX3_rulingForAll_47 (by decide) (fun c47 => ?_) (fun c47 => ?_)
        · skip
          refine lv_iload hx hb dX3_rulingForAll_52 (lv_at hl 0 rfl) ?_
          refine lv_istore_n (lv' := [(3, .int (rulI σ rp k)), (5, .int (rulI σ rp k)), (0, .ref zL), (1, .int so), (2, .int ns), (4, .int (nI k))]) hx hb dX3_rulingForAll_54 rfl hl (by decide) rfl (fun ls hl => ?_)
          refine lv_iinc (k := 5) (x := nI k) (v := nI (k + 1)) (lv' := [(4, .int (nI (k + 1))), (3, .int (rulI σ rp k)), (5, .int (rulI σ rp k)), (0, .ref zL), (1, .int so), (2, .int ns)]) hx hb dX3_rulingForAll_55 hl rfl (show (nI k) + Int32.ofInt 1 = nI (k + 1) from nI_1 _) (by decide) rfl (fun ls hl => ?_)
          refine lv_goto (tgt := 5) hx hb dX3_rulingForAll_58 (by decide) ?_
          exact ih5 (k + 1, rulI σ rp k) ⟨(show (k + 1) ≤ 2 ^ sF σ from (by omega)), (show rfV σ rp so ns (k + 1) (rulI σ rp k) from rfa_step hok c14 hv c28 (Or.inr c47))⟩ (by show 2 ^ sF σ - (k + 1) < 2 ^ sF σ - k; omega) ls (lv_sub hl [3, 4, 5, 1, 0] rfl)
        · skip
          refine lv_iconst (v := 0) hx hb dX3_rulingForAll_50 (by decide) ?_
          exact W.iret (v := 0) hx hb hr (fun t ht hW => ⟨_, rfl, (rfa_two c14 hv c28 c41 c47).symm, ht⟩) (fun _ h => absurd h List.not_mem_nil) dX3_rulingForAll_51

set_option maxHeartbeats 4000000 in
set_option maxRecDepth 100000 in
theorem c_X4_ofAll (l : Launch) (D : va_G) (cI cZ : ClassId) (zS : Nat) (tr : Nat → Int32) (k : Nat) (hk : k < 30) : Met l yX4_ofAll wsX4_ofAll ({ frames := 0, cells := 0, slots := 0, locals := 0 }) (va_Pc [.ref zS, .int (nI k)] (XP D cI cZ [(zS, .inl (cI, 90, .inl tr))])) (vp_Si (fun r => r = yesI tr k)) 0 0 (fun _ => False) := by
  refine Met.ofW (cc := cX4_ofAll) (maxL := 4) (ret := (some .int)) (by decide) rfl ?_
  intro p e s m args below meth c s₁ B hml hv
  obtain ⟨rfl, hP, hK, hN⟩ := hv
  have hx := B.exec
  have hb := B.bytes
  have hr := B.returns
  have hts := atoms_spec (ws := wsX4_ofAll) B.pre
  have hown : s.vm.findClass RX4 = some m.cls := findClass_of_methodNamed B.named
  have hlocks := B.notSynchronized
  have hl := lv_entry ([.ref zS, .int (nI k)]) (n := 4) (Nat.le_of_ble_eq_true rfl)
  rw [lg_entry_eq]
  generalize (lg_sl ([.ref zS, .int (nI k)]) ++ List.replicate (4 - (lg_sl ([.ref zS, .int (nI k)])).length) Slot.unset).toArray = ls at hl ⊢
  have hl : lv_has ls 4 [(0, .ref zS), (1, .int (nI k))] := hl
  refine lv_iconst (v := 0) hx hb dX4_ofAll_0 (by decide) ?_
  refine lv_istore_n (lv' := [(2, .int 0), (0, .ref zS), (1, .int (nI k))]) hx hb dX4_ofAll_1 rfl hl (by decide) rfl (fun ls hl => ?_)
  refine lv_iconst (v := nI 0) hx hb dX4_ofAll_2 (by decide) ?_
  refine lv_istore_n (lv' := [(3, .int (nI 0)), (2, .int 0), (0, .ref zS), (1, .int (nI k))]) hx hb dX4_ofAll_3 rfl hl (by decide) rfl (fun ls hl => ?_)
  refine lv_iload_n hx hb dX4_ofAll_4 rfl (lv_at hl 0 rfl) ?_
  refine lv_iconst (v := nI 3) hx hb dX4_ofAll_5 (by decide) ?_
  refine lv_icmp_ge (tgt := 25) hx hb dX4_ofAll_6 (by decide) (fun c6 => ?_) (fun c6 => ?_)
  · skip
    exact absurd c6 (by decide)
  · skip
    refine lv_iload_n hx hb dX4_ofAll_9 rfl (lv_at hl 1 rfl) ?_
    refine lv_aload_n hx hb dX4_ofAll_10 rfl (lv_at hl 2 rfl) ?_
    refine lv_iload_n hx hb dX4_ofAll_11 rfl (lv_at hl 3 rfl) ?_
    refine lv_iconst (v := nI 3) hx hb dX4_ofAll_12 (by decide) ?_
    refine lv_imul hx hb dX4_ofAll_13 ?_
    refine lv_asi (show (nI k) * (nI 3) = nI (3 * k) from by rw [pk_mul, Nat.mul_comm]) ?_
    refine lv_iload_n hx hb dX4_ofAll_14 rfl (lv_at hl 0 rfl) ?_
    refine lv_iadd hx hb dX4_ofAll_15 ?_
    refine lv_asi (show (nI (3 * k)) + (nI 0) = nI (3 * k + 0) from nI_add _ _) ?_
    refine xald (k := (3 * k + 0)) hx hb hK hP 0 rfl (by omega) (by decide) dX4_ofAll_16 ?_
    refine lv_ior hx hb dX4_ofAll_17 ?_
    refine lv_istore_n (lv' := [(2, .int (0 ||| (tr (3 * k + 0)))), (3, .int (nI 0)), (0, .ref zS), (1, .int (nI k))]) hx hb dX4_ofAll_18 rfl hl (by decide) rfl (fun ls hl => ?_)
    refine lv_iinc (k := 1) (x := nI 0) (v := nI 1) (lv' := [(3, .int (nI 1)), (2, .int (0 ||| (tr (3 * k + 0)))), (0, .ref zS), (1, .int (nI k))]) hx hb dX4_ofAll_19 hl rfl (show (nI 0) + Int32.ofInt 1 = nI 1 from (by decide)) (by decide) rfl (fun ls hl => ?_)
    refine lv_goto (tgt := 4) hx hb dX4_ofAll_22 (by decide) ?_
    refine lv_iload_n hx hb dX4_ofAll_4 rfl (lv_at hl 0 rfl) ?_
    refine lv_iconst (v := nI 3) hx hb dX4_ofAll_5 (by decide) ?_
    refine lv_icmp_ge (tgt := 25) hx hb dX4_ofAll_6 (by decide) (fun c6 => ?_) (fun c6 => ?_)
    · skip
      exact absurd c6 (by decide)
    · skip
      refine lv_iload_n hx hb dX4_ofAll_9 rfl (lv_at hl 1 rfl) ?_
      refine lv_aload_n hx hb dX4_ofAll_10 rfl (lv_at hl 2 rfl) ?_
      refine lv_iload_n hx hb dX4_ofAll_11 rfl (lv_at hl 3 rfl) ?_
      refine lv_iconst (v := nI 3) hx hb dX4_ofAll_12 (by decide) ?_
      refine lv_imul hx hb dX4_ofAll_13 ?_
      refine lv_asi (show (nI k) * (nI 3) = nI (3 * k) from by rw [pk_mul, Nat.mul_comm]) ?_
      refine lv_iload_n hx hb dX4_ofAll_14 rfl (lv_at hl 0 rfl) ?_
      refine lv_iadd hx hb dX4_ofAll_15 ?_
      refine lv_asi (show (nI (3 * k)) + (nI 1) = nI (3 * k + 1) from nI_add _ _) ?_
      refine xald (k := (3 * k + 1)) hx hb hK hP 0 rfl (by omega) (by decide) dX4_ofAll_16 ?_
      refine lv_ior hx hb dX4_ofAll_17 ?_
      refine lv_istore_n (lv' := [(2, .int ((0 ||| (tr (3 * k + 0))) ||| (tr (3 * k + 1)))), (3, .int (nI 1)), (0, .ref zS), (1, .int (nI k))]) hx hb dX4_ofAll_18 rfl hl (by decide) rfl (fun ls hl => ?_)
      refine lv_iinc (k := 1) (x := nI 1) (v := nI 2) (lv' := [(3, .int (nI 2)), (2, .int ((0 ||| (tr (3 * k + 0))) ||| (tr (3 * k + 1)))), (0, .ref zS), (1, .int (nI k))]) hx hb dX4_ofAll_19 hl rfl (show (nI 1) + Int32.ofInt 1 = nI 2 from (by decide)) (by decide) rfl (fun ls hl => ?_)
      refine lv_goto (tgt := 4) hx hb dX4_ofAll_22 (by decide) ?_
      refine lv_iload_n hx hb dX4_ofAll_4 rfl (lv_at hl 0 rfl) ?_
      refine lv_iconst (v := nI 3) hx hb dX4_ofAll_5 (by decide) ?_
      refine lv_icmp_ge (tgt := 25) hx hb dX4_ofAll_6 (by decide) (fun c6 => ?_) (fun c6 => ?_)
      · skip
        exact absurd c6 (by decide)
      · skip
        refine lv_iload_n hx hb dX4_ofAll_9 rfl (lv_at hl 1 rfl) ?_
        refine lv_aload_n hx hb dX4_ofAll_10 rfl (lv_at hl 2 rfl) ?_
        refine lv_iload_n hx hb dX4_ofAll_11 rfl (lv_at hl 3 rfl) ?_
        refine lv_iconst (v := nI 3) hx hb dX4_ofAll_12 (by decide) ?_
        refine lv_imul hx hb dX4_ofAll_13 ?_
        refine lv_asi (show (nI k) * (nI 3) = nI (3 * k) from by rw [pk_mul, Nat.mul_comm]) ?_
        refine lv_iload_n hx hb dX4_ofAll_14 rfl (lv_at hl 0 rfl) ?_
        refine lv_iadd hx hb dX4_ofAll_15 ?_
        refine lv_asi (show (nI (3 * k)) + (nI 2) = nI (3 * k + 2) from nI_add _ _) ?_
        refine xald (k := (3 * k + 2)) hx hb hK hP 0 rfl (by omega) (by decide) dX4_ofAll_16 ?_
        refine lv_ior hx hb dX4_ofAll_17 ?_
        refine lv_istore_n (lv' := [(2, .int (((0 ||| (tr (3 * k + 0))) ||| (tr (3 * k + 1))) ||| (tr (3 * k + 2)))), (3, .int (nI 2)), (0, .ref zS), (1, .int (nI k))]) hx hb dX4_ofAll_18 rfl hl (by decide) rfl (fun ls hl => ?_)
        refine lv_iinc (k := 1) (x := nI 2) (v := nI 3) (lv' := [(3, .int (nI 3)), (2, .int (((0 ||| (tr (3 * k + 0))) ||| (tr (3 * k + 1))) ||| (tr (3 * k + 2)))), (0, .ref zS), (1, .int (nI k))]) hx hb dX4_ofAll_19 hl rfl (show (nI 2) + Int32.ofInt 1 = nI 3 from (by decide)) (by decide) rfl (fun ls hl => ?_)
        refine lv_goto (tgt := 4) hx hb dX4_ofAll_22 (by decide) ?_
        refine lv_iload_n hx hb dX4_ofAll_4 rfl (lv_at hl 0 rfl) ?_
        refine lv_iconst (v := nI 3) hx hb dX4_ofAll_5 (by decide) ?_
        refine lv_icmp_ge (tgt := 25) hx hb dX4_ofAll_6 (by decide) (fun c6 => ?_) (fun c6 => ?_)
        · skip
          refine lv_iload_n hx hb dX4_ofAll_25 rfl (lv_at hl 1 rfl) ?_
          exact W.iret (v := ((0 ||| (tr (3 * k + 0))) ||| (tr (3 * k + 1))) ||| (tr (3 * k + 2))) hx hb hr (fun t ht hW => ⟨_, rfl, by rw [or_0']; rfl, ht⟩) (fun _ h => absurd h List.not_mem_nil) dX4_ofAll_26
        · skip
          exact absurd (by decide) c6

set_option maxHeartbeats 4000000 in
set_option maxRecDepth 100000 in
theorem c_X4_knownSo (l : Launch) (D : va_G) (cI cZ : ClassId) (zM : Nat) (zS : Nat) (zT : Nat) (zD : Nat) (σ : ST) (k : Nat) (hk : k < 30) : Met l yX4_knownSo wsX4_knownSo ({ frames := 1, cells := 0, slots := 0, locals := 23 }) (va_Pc [.ref zM, .int (nI k)] (XP D cI cZ [(zM, .inr (4, [.int (nI (sM σ)), .ref zS, .ref zT, .ref zD])), (zS, .inl (cI, 90, .inl (rTs σ))), (zT, .inl (cI, 90, .inl (rTn σ)))])) (vp_Si (fun r => r = soI σ k)) 0 0 (fun _ => False) := by
  refine Met.ofW (cc := cX4_knownSo) (maxL := 2) (ret := (some .int)) (by decide) rfl ?_
  intro p e s m args below meth c s₁ B hml hv
  obtain ⟨rfl, hP, hK, hN⟩ := hv
  have hx := B.exec
  have hb := B.bytes
  have hr := B.returns
  have hts := atoms_spec (ws := wsX4_knownSo) B.pre
  have hown : s.vm.findClass RX4 = some m.cls := findClass_of_methodNamed B.named
  have hlocks := B.notSynchronized
  have hf9 := hts (.fieldLink RX4 9 "BallCourt$Moments" "toldSo" "[I") (List.mem_of_getElem? (i := 1) (by decide +kernel))
  have hiX4 : ∀ w ∈ wsX40, w ∈ wsX4_knownSo := fun w h => List.mem_cons_of_mem _ (List.mem_append_right _ h)
  have hf15 := hts (.fieldLink RX4 15 "BallCourt$Moments" "toldNotSo" "[I") (List.mem_of_getElem? (i := 2) (by decide +kernel))
  have hl := lv_entry ([.ref zM, .int (nI k)]) (n := 2) (Nat.le_of_ble_eq_true rfl)
  rw [lg_entry_eq]
  generalize (lg_sl ([.ref zM, .int (nI k)]) ++ List.replicate (2 - (lg_sl ([.ref zM, .int (nI k)])).length) Slot.unset).toArray = ls at hl ⊢
  have hl : lv_has ls 2 [(0, .ref zM), (1, .int (nI k))] := hl
  refine lv_aload_n hx hb dX4_knownSo_0 rfl (lv_at hl 0 rfl) ?_
  refine va_get (D := D) (ci := 4) (v := .ref zS) (C := RX4) (T := TX4) (N := 4) hx hb hts hiX4 hown hK hP 0 rfl rfl 1 (by decide) hf9 (fun _ h9 => h9) rfl dX4_knownSo_1 ?_
  refine lv_iload_n hx hb dX4_knownSo_4 rfl (lv_at hl 1 rfl) ?_
  refine xpS (rest := []) ⟨hx, hb, hml, hown, hts⟩ (c_X4_ofAll l D cI cZ zS (rTs σ) k hk) (va_cwS 2 hts gX4_knownSo_X4_ofAll rfl rfl rfl (by decide +kernel) ⟨Nat.le_of_ble_eq_true rfl, Nat.le_of_ble_eq_true rfl⟩) hP [1] rfl hK hN rfl hl.1 rfl (Nat.le_of_ble_eq_true rfl) dX4_knownSo_5 ⟨Nat.zero_le _, Nat.zero_le _⟩ (fun r5 e5 => ?_)
  subst e5
  refine lv_aload_n hx hb dX4_knownSo_8 rfl (lv_at hl 0 rfl) ?_
  refine va_get (D := D) (ci := 4) (v := .ref zT) (C := RX4) (T := TX4) (N := 4) hx hb hts hiX4 hown hK hP 0 rfl rfl 2 (by decide) hf15 (fun _ h9 => h9) rfl dX4_knownSo_9 ?_
  refine lv_iload_n hx hb dX4_knownSo_12 rfl (lv_at hl 1 rfl) ?_
  refine xpS (rest := [.int (yesI (rTs σ) k)]) ⟨hx, hb, hml, hown, hts⟩ (c_X4_ofAll l D cI cZ zT (rTn σ) k hk) (va_cwS 2 hts gX4_knownSo_X4_ofAll rfl rfl rfl (by decide +kernel) ⟨Nat.le_of_ble_eq_true rfl, Nat.le_of_ble_eq_true rfl⟩) hP [2] rfl hK hN rfl hl.1 rfl (Nat.le_of_ble_eq_true rfl) dX4_knownSo_13 ⟨Nat.zero_le _, Nat.zero_le _⟩ (fun r13 e13 => ?_)
  subst e13
  refine lv_iconst (v := (-1)) hx hb dX4_knownSo_16 (by decide) ?_
  refine lv_ixor hx hb dX4_knownSo_17 ?_
  refine lv_iand hx hb dX4_knownSo_18 ?_
  exact W.iret (v := (yesI (rTs σ) k) &&& ((yesI (rTn σ) k) ^^^ (-1))) hx hb hr (fun t ht hW => ⟨_, rfl, rfl, ht⟩) (fun _ h => absurd h List.not_mem_nil) dX4_knownSo_19

set_option maxHeartbeats 4000000 in
set_option maxRecDepth 100000 in
theorem c_X4_knownNotSo (l : Launch) (D : va_G) (cI cZ : ClassId) (zM : Nat) (zS : Nat) (zT : Nat) (zD : Nat) (σ : ST) (k : Nat) (hk : k < 30) : Met l yX4_knownNotSo wsX4_knownNotSo ({ frames := 1, cells := 0, slots := 0, locals := 23 }) (va_Pc [.ref zM, .int (nI k)] (XP D cI cZ [(zM, .inr (4, [.int (nI (sM σ)), .ref zS, .ref zT, .ref zD])), (zS, .inl (cI, 90, .inl (rTs σ))), (zT, .inl (cI, 90, .inl (rTn σ)))])) (vp_Si (fun r => r = nsI σ k)) 0 0 (fun _ => False) := by
  refine Met.ofW (cc := cX4_knownNotSo) (maxL := 2) (ret := (some .int)) (by decide) rfl ?_
  intro p e s m args below meth c s₁ B hml hv
  obtain ⟨rfl, hP, hK, hN⟩ := hv
  have hx := B.exec
  have hb := B.bytes
  have hr := B.returns
  have hts := atoms_spec (ws := wsX4_knownNotSo) B.pre
  have hown : s.vm.findClass RX4 = some m.cls := findClass_of_methodNamed B.named
  have hlocks := B.notSynchronized
  have hf15 := hts (.fieldLink RX4 15 "BallCourt$Moments" "toldNotSo" "[I") (List.mem_of_getElem? (i := 1) (by decide +kernel))
  have hiX4 : ∀ w ∈ wsX40, w ∈ wsX4_knownNotSo := fun w h => List.mem_cons_of_mem _ (List.mem_append_right _ h)
  have hf9 := hts (.fieldLink RX4 9 "BallCourt$Moments" "toldSo" "[I") (List.mem_of_getElem? (i := 2) (by decide +kernel))
  have hl := lv_entry ([.ref zM, .int (nI k)]) (n := 2) (Nat.le_of_ble_eq_true rfl)
  rw [lg_entry_eq]
  generalize (lg_sl ([.ref zM, .int (nI k)]) ++ List.replicate (2 - (lg_sl ([.ref zM, .int (nI k)])).length) Slot.unset).toArray = ls at hl ⊢
  have hl : lv_has ls 2 [(0, .ref zM), (1, .int (nI k))] := hl
  refine lv_aload_n hx hb dX4_knownNotSo_0 rfl (lv_at hl 0 rfl) ?_
  refine va_get (D := D) (ci := 4) (v := .ref zT) (C := RX4) (T := TX4) (N := 4) hx hb hts hiX4 hown hK hP 0 rfl rfl 2 (by decide) hf15 (fun _ h9 => h9) rfl dX4_knownNotSo_1 ?_
  refine lv_iload_n hx hb dX4_knownNotSo_4 rfl (lv_at hl 1 rfl) ?_
  refine xpS (rest := []) ⟨hx, hb, hml, hown, hts⟩ (c_X4_ofAll l D cI cZ zT (rTn σ) k hk) (va_cwS 2 hts gX4_knownNotSo_X4_ofAll rfl rfl rfl (by decide +kernel) ⟨Nat.le_of_ble_eq_true rfl, Nat.le_of_ble_eq_true rfl⟩) hP [2] rfl hK hN rfl hl.1 rfl (Nat.le_of_ble_eq_true rfl) dX4_knownNotSo_5 ⟨Nat.zero_le _, Nat.zero_le _⟩ (fun r5 e5 => ?_)
  subst e5
  refine lv_aload_n hx hb dX4_knownNotSo_8 rfl (lv_at hl 0 rfl) ?_
  refine va_get (D := D) (ci := 4) (v := .ref zS) (C := RX4) (T := TX4) (N := 4) hx hb hts hiX4 hown hK hP 0 rfl rfl 1 (by decide) hf9 (fun _ h9 => h9) rfl dX4_knownNotSo_9 ?_
  refine lv_iload_n hx hb dX4_knownNotSo_12 rfl (lv_at hl 1 rfl) ?_
  refine xpS (rest := [.int (yesI (rTn σ) k)]) ⟨hx, hb, hml, hown, hts⟩ (c_X4_ofAll l D cI cZ zS (rTs σ) k hk) (va_cwS 2 hts gX4_knownNotSo_X4_ofAll rfl rfl rfl (by decide +kernel) ⟨Nat.le_of_ble_eq_true rfl, Nat.le_of_ble_eq_true rfl⟩) hP [1] rfl hK hN rfl hl.1 rfl (Nat.le_of_ble_eq_true rfl) dX4_knownNotSo_13 ⟨Nat.zero_le _, Nat.zero_le _⟩ (fun r13 e13 => ?_)
  subst e13
  refine lv_iconst (v := (-1)) hx hb dX4_knownNotSo_16 (by decide) ?_
  refine lv_ixor hx hb dX4_knownNotSo_17 ?_
  refine lv_iand hx hb dX4_knownNotSo_18 ?_
  exact W.iret (v := (yesI (rTn σ) k) &&& ((yesI (rTs σ) k) ^^^ (-1))) hx hb hr (fun t ht hW => ⟨_, rfl, rfl, ht⟩) (fun _ h => absurd h List.not_mem_nil) dX4_knownNotSo_19

set_option maxHeartbeats 4000000 in
set_option maxRecDepth 100000 in
theorem c_X1_firstThatBinds (l : Launch) (D : va_G) (cI cZ : ClassId) (zC : Nat) (zQ : Nat) (zP : Nat) (zN : Nat) (σ : ST) (so : Int32) (ns : Int32) (hok : Ok σ) : Met l yX1_firstThatBinds wsX1_firstThatBinds ({ frames := 0, cells := 0, slots := 0, locals := 0 }) (va_Pc [.ref zC, .int so, .int ns] (XP D cI cZ [(zC, .inr (1, [.int (nI (sC σ)), .ref zQ, .ref zP, .ref zN])), (zQ, .inl (cI, 12, .inl (rCk σ))), (zN, .inl (cI, 12, .inl (rCn σ)))])) (vp_Si (fun r => r = bnI σ so ns)) 0 0 (fun _ => False) := by
  refine Met.ofW (cc := cX1_firstThatBinds) (maxL := 6) (ret := (some .int)) (by decide) rfl ?_
  intro p e s m args below meth c s₁ B hml hv
  obtain ⟨rfl, hP, hK, hN⟩ := hv
  have hx := B.exec
  have hb := B.bytes
  have hr := B.returns
  have hts := atoms_spec (ws := wsX1_firstThatBinds) B.pre
  have hown : s.vm.findClass RX1 = some m.cls := findClass_of_methodNamed B.named
  have hlocks := B.notSynchronized
  have ho := hok.1
  have hk2 := hok.k
  have hf21 := hts (.fieldLink RX1 21 "BallCourt$Cases" "count" "I") (List.mem_of_getElem? (i := 1) (by decide +kernel))
  have hiX1 : ∀ w ∈ wsX10, w ∈ wsX1_firstThatBinds := fun w h => List.mem_cons_of_mem _ (List.mem_append_right _ h)
  have hf18 := hts (.fieldLink RX1 18 "BallCourt$Cases" "names" "[I") (List.mem_of_getElem? (i := 2) (by decide +kernel))
  have hf9 := hts (.fieldLink RX1 9 "BallCourt$Cases" "kind" "[I") (List.mem_of_getElem? (i := 3) (by decide +kernel))
  have hl := lv_entry ([.ref zC, .int so, .int ns]) (n := 6) (Nat.le_of_ble_eq_true rfl)
  rw [lg_entry_eq]
  generalize (lg_sl ([.ref zC, .int so, .int ns]) ++ List.replicate (6 - (lg_sl ([.ref zC, .int so, .int ns])).length) Slot.unset).toArray = ls at hl ⊢
  have hl : lv_has ls 6 [(0, .ref zC), (1, .int so), (2, .int ns)] := hl
  refine lv_iconst (v := nI 0) hx hb dX1_firstThatBinds_0 (by decide) ?_
  refine lv_istore_n (lv' := [(3, .int (nI 0)), (0, .ref zC), (1, .int so), (2, .int ns)]) hx hb dX1_firstThatBinds_1 rfl hl (by decide) rfl (fun ls hl => ?_)
  refine wloop (α := Nat) (fun v => sC σ - v) (fun v => [(0, .ref zC), (1, .int so), (2, .int ns), (3, .int (nI v))]) (fun v => (v ≤ sC σ) ∧ (∀ j, j < v → bnB σ so ns j = false)) 6 (fun v hv ih2 ls hl => ?_) 0 ⟨(show 0 ≤ sC σ from Nat.zero_le _), (show ∀ j, j < 0 → bnB σ so ns j = false from fun j hj => absurd hj (Nat.not_lt_zero _))⟩ ls (lv_sub hl [1, 2, 3, 0] rfl)
  obtain ⟨i, rfl⟩ : ∃ z : Nat, z = v := ⟨_, rfl⟩
  obtain ⟨hi, hn⟩ := hv
  have hi : i ≤ sC σ := hi
  have hn : ∀ j, j < i → bnB σ so ns j = false := hn
  have hl : lv_has ls 6 [(0, .ref zC), (1, .int so), (2, .int ns), (3, .int (nI i))] := hl
  refine lv_iload_n hx hb dX1_firstThatBinds_2 rfl (lv_at hl 3 rfl) ?_
  refine lv_aload_n hx hb dX1_firstThatBinds_3 rfl (lv_at hl 0 rfl) ?_
  refine va_get (D := D) (ci := 1) (v := .int (nI (sC σ))) (C := RX1) (T := TX1) (N := 4) hx hb hts hiX1 hown hK hP 0 rfl rfl 0 (by decide) hf21 (fun _ h9 => h9) rfl dX1_firstThatBinds_4 ?_
  refine lv_icmp_ge (tgt := 68) hx hb dX1_firstThatBinds_7 (by decide) (fun c7 => ?_) (fun c7 => ?_)
  · skip
    have c7 := (nI_leI (by omega) (by omega)).mp c7
    refine lv_bipush (v := (-6)) hx hb dX1_firstThatBinds_68 (by decide) ?_
    exact W.iret (v := (-6)) hx hb hr (fun t ht hW => ⟨_, rfl, by rw [bnI, bnN, fst_no (fun j hj => hn j (by omega)), if_neg (Nat.lt_irrefl _)], ht⟩) (fun _ h => absurd h List.not_mem_nil) dX1_firstThatBinds_70
  · skip
    have c7 := Nat.lt_of_not_le (fun z => c7 ((nI_leI (by omega) (by omega)).mpr z))
    refine lv_aload_n hx hb dX1_firstThatBinds_10 rfl (lv_at hl 0 rfl) ?_
    refine va_get (D := D) (ci := 1) (v := .ref zN) (C := RX1) (T := TX1) (N := 4) hx hb hts hiX1 hown hK hP 0 rfl rfl 3 (by decide) hf18 (fun _ h9 => h9) rfl dX1_firstThatBinds_11 ?_
    refine lv_iload_n hx hb dX1_firstThatBinds_14 rfl (lv_at hl 3 rfl) ?_
    refine xald (k := i) hx hb hK hP 2 rfl (by omega) (by decide) dX1_firstThatBinds_15 ?_
    refine lv_aload_n hx hb dX1_firstThatBinds_16 rfl (lv_at hl 0 rfl) ?_
    refine va_get (D := D) (ci := 1) (v := .ref zQ) (C := RX1) (T := TX1) (N := 4) hx hb hts hiX1 hown hK hP 0 rfl rfl 1 (by decide) hf9 (fun _ h9 => h9) rfl dX1_firstThatBinds_17 ?_
    refine lv_iload_n hx hb dX1_firstThatBinds_20 rfl (lv_at hl 3 rfl) ?_
    refine xald (k := i) hx hb hK hP 1 rfl (by omega) (by decide) dX1_firstThatBinds_21 ?_
    refine lv_iand hx hb dX1_firstThatBinds_22 ?_
    refine lv_istore (lv' := [(4, .int ((rCn σ i) &&& (rCk σ i))), (0, .ref zC), (1, .int so), (2, .int ns), (3, .int (nI i))]) hx hb dX1_firstThatBinds_23 hl (by decide) rfl (fun ls hl => ?_)
    refine lv_aload_n hx hb dX1_firstThatBinds_25 rfl (lv_at hl 1 rfl) ?_
    refine va_get (D := D) (ci := 1) (v := .ref zN) (C := RX1) (T := TX1) (N := 4) hx hb hts hiX1 hown hK hP 0 rfl rfl 3 (by decide) hf18 (fun _ h9 => h9) rfl dX1_firstThatBinds_26 ?_
    refine lv_iload_n hx hb dX1_firstThatBinds_29 rfl (lv_at hl 4 rfl) ?_
    refine xald (k := i) hx hb hK hP 2 rfl (by omega) (by decide) dX1_firstThatBinds_30 ?_
    refine lv_aload_n hx hb dX1_firstThatBinds_31 rfl (lv_at hl 1 rfl) ?_
    refine va_get (D := D) (ci := 1) (v := .ref zQ) (C := RX1) (T := TX1) (N := 4) hx hb hts hiX1 hown hK hP 0 rfl rfl 1 (by decide) hf9 (fun _ h9 => h9) rfl dX1_firstThatBinds_32 ?_
    refine lv_iload_n hx hb dX1_firstThatBinds_35 rfl (lv_at hl 4 rfl) ?_
    refine xald (k := i) hx hb hK hP 1 rfl (by omega) (by decide) dX1_firstThatBinds_36 ?_
    refine lv_iconst (v := (-1)) hx hb dX1_firstThatBinds_37 (by decide) ?_
    refine lv_ixor hx hb dX1_firstThatBinds_38 ?_
    refine lv_iand hx hb dX1_firstThatBinds_39 ?_
    refine lv_istore (lv' := [(5, .int ((rCn σ i) &&& ((rCk σ i) ^^^ (-1)))), (4, .int ((rCn σ i) &&& (rCk σ i))), (0, .ref zC), (1, .int so), (2, .int ns), (3, .int (nI i))]) hx hb dX1_firstThatBinds_40 hl (by decide) rfl (fun ls hl => ?_)
    refine lv_iload_n hx hb dX1_firstThatBinds_42 rfl (lv_at hl 3 rfl) ?_
    refine lv_iload hx hb dX1_firstThatBinds_43 (lv_at hl 1 rfl) ?_
    refine lv_iand hx hb dX1_firstThatBinds_45 ?_
    refine lv_iload hx hb dX1_firstThatBinds_46 (lv_at hl 1 rfl) ?_
    refine lv_icmp_ne (tgt := 62) hx hb dX1_firstThatBinds_48 (by decide) (fun c48 => ?_) (fun c48 => ?_)
    · skip
      refine lv_iinc (k := 5) (x := nI i) (v := nI (i + 1)) (lv' := [(3, .int (nI (i + 1))), (5, .int ((rCn σ i) &&& ((rCk σ i) ^^^ (-1)))), (4, .int ((rCn σ i) &&& (rCk σ i))), (0, .ref zC), (1, .int so), (2, .int ns)]) hx hb dX1_firstThatBinds_62 hl rfl (show (nI i) + Int32.ofInt 1 = nI (i + 1) from nI_1 _) (by decide) rfl (fun ls hl => ?_)
      refine lv_goto (tgt := 2) hx hb dX1_firstThatBinds_65 (by decide) ?_
      exact ih2 (i + 1) ⟨(show (i + 1) ≤ sC σ from (by omega)), (show ∀ j, j < (i + 1) → bnB σ so ns j = false from lt_s hn (by simp [bnB, c48]))⟩ (by show sC σ - (i + 1) < sC σ - i; omega) ls (lv_sub hl [3, 4, 5, 0] rfl)
    · skip
      refine lv_iload_n hx hb dX1_firstThatBinds_51 rfl (lv_at hl 4 rfl) ?_
      refine lv_iload hx hb dX1_firstThatBinds_52 (lv_at hl 0 rfl) ?_
      refine lv_iand hx hb dX1_firstThatBinds_54 ?_
      refine lv_iload hx hb dX1_firstThatBinds_55 (lv_at hl 0 rfl) ?_
      refine lv_icmp_ne (tgt := 62) hx hb dX1_firstThatBinds_57 (by decide) (fun c57 => ?_) (fun c57 => ?_)
      · skip
        refine lv_iinc (k := 5) (x := nI i) (v := nI (i + 1)) (lv' := [(3, .int (nI (i + 1))), (5, .int ((rCn σ i) &&& ((rCk σ i) ^^^ (-1)))), (4, .int ((rCn σ i) &&& (rCk σ i))), (0, .ref zC), (1, .int so), (2, .int ns)]) hx hb dX1_firstThatBinds_62 hl rfl (show (nI i) + Int32.ofInt 1 = nI (i + 1) from nI_1 _) (by decide) rfl (fun ls hl => ?_)
        refine lv_goto (tgt := 2) hx hb dX1_firstThatBinds_65 (by decide) ?_
        exact ih2 (i + 1) ⟨(show (i + 1) ≤ sC σ from (by omega)), (show ∀ j, j < (i + 1) → bnB σ so ns j = false from lt_s hn (by simp [bnB, c48, c57]))⟩ (by show sC σ - (i + 1) < sC σ - i; omega) ls (lv_sub hl [3, 4, 5, 0] rfl)
      · skip
        refine lv_iload_n hx hb dX1_firstThatBinds_60 rfl (lv_at hl 5 rfl) ?_
        exact W.iret (v := nI i) hx hb hr (fun t ht hW => ⟨_, rfl, by rw [bnI, bnN, fst_at (by simp [bnB, c48, c57]) hn c7, if_pos c7], ht⟩) (fun _ h => absurd h List.not_mem_nil) dX1_firstThatBinds_61
end
