section
-- ===== PART A: goes FIRST, ahead of the names: the tables' words, and 'selects' of the private methods out of them =====
/-- a private method of a class that the tables say can be made, by its rows of tables_1 -/
def lw_okq (q : MethodName × Nat) : Prop := (q.1.cls ≠ "java/lang/invoke/MethodHandle" ∧ q.1.cls ≠ "java/lang/invoke/VarHandle") ∧ Cond.instantiable q.1.cls q.2 ∈ tables_1 ∧ Cond.privateMethod q.1 ∈ tables_1 ∧ Cond.instanceMethod q.1 ∈ tables_1
theorem lw_p0 : lw_okq (⟨"BallCourt", "beginAnew", "(I)V"⟩, 8) := ⟨⟨by decide +kernel, by decide +kernel⟩, List.mem_of_getElem? (i := 10) (by decide +kernel), List.mem_of_getElem? (i := 150) (by decide +kernel), List.mem_of_getElem? (i := 151) (by decide +kernel)⟩
theorem lw_p1 : lw_okq (⟨"BallCourt$Book", "workKinds", "()V"⟩, 11) := ⟨⟨by decide +kernel, by decide +kernel⟩, List.mem_of_getElem? (i := 18) (by decide +kernel), List.mem_of_getElem? (i := 158) (by decide +kernel), List.mem_of_getElem? (i := 159) (by decide +kernel)⟩
theorem lw_p2 : lw_okq (⟨"BallCourt$Book", "hasBarredPair", "(I)Z"⟩, 11) := ⟨⟨by decide +kernel, by decide +kernel⟩, List.mem_of_getElem? (i := 18) (by decide +kernel), List.mem_of_getElem? (i := 162) (by decide +kernel), List.mem_of_getElem? (i := 163) (by decide +kernel)⟩
theorem lw_p3 : lw_okq (⟨"BallCourt", "turnedKinds", "()I"⟩, 8) := ⟨⟨by decide +kernel, by decide +kernel⟩, List.mem_of_getElem? (i := 10) (by decide +kernel), List.mem_of_getElem? (i := 317) (by decide +kernel), List.mem_of_getElem? (i := 318) (by decide +kernel)⟩
theorem lw_p4 : lw_okq (⟨"BallCourt", "verdictUnder", "(LBallCourt$Laws;I)I"⟩, 8) := ⟨⟨by decide +kernel, by decide +kernel⟩, List.mem_of_getElem? (i := 10) (by decide +kernel), List.mem_of_getElem? (i := 395) (by decide +kernel), List.mem_of_getElem? (i := 396) (by decide +kernel)⟩
theorem lw_p5 : lw_okq (⟨"BallCourt", "casesOfTurnedKinds", "()I"⟩, 8) := ⟨⟨by decide +kernel, by decide +kernel⟩, List.mem_of_getElem? (i := 10) (by decide +kernel), List.mem_of_getElem? (i := 431) (by decide +kernel), List.mem_of_getElem? (i := 432) (by decide +kernel)⟩
theorem lw_p6 : lw_okq (⟨"BallCourt", "turnedVerdicts", "()I"⟩, 8) := ⟨⟨by decide +kernel, by decide +kernel⟩, List.mem_of_getElem? (i := 10) (by decide +kernel), List.mem_of_getElem? (i := 435) (by decide +kernel), List.mem_of_getElem? (i := 436) (by decide +kernel)⟩
theorem lw_p7 : lw_okq (⟨"BallCourt$Game", "giveHoop", "(I)V"⟩, 4) := ⟨⟨by decide +kernel, by decide +kernel⟩, List.mem_of_getElem? (i := 128) (by decide +kernel), List.mem_of_getElem? (i := 459) (by decide +kernel), List.mem_of_getElem? (i := 460) (by decide +kernel)⟩
theorem lw_p8 : lw_okq (⟨"BallCourt", "coveredKinds", "()I"⟩, 8) := ⟨⟨by decide +kernel, by decide +kernel⟩, List.mem_of_getElem? (i := 10) (by decide +kernel), List.mem_of_getElem? (i := 476) (by decide +kernel), List.mem_of_getElem? (i := 477) (by decide +kernel)⟩
theorem lw_p9 : lw_okq (⟨"BallCourtModel", "isFact", "(I)Z"⟩, 21) := ⟨⟨by decide +kernel, by decide +kernel⟩, List.mem_of_getElem? (i := 480) (by decide +kernel), List.mem_of_getElem? (i := 561) (by decide +kernel), List.mem_of_getElem? (i := 562) (by decide +kernel)⟩
theorem lw_p10 : lw_okq (⟨"BallCourtModel", "allFacts", "()I"⟩, 21) := ⟨⟨by decide +kernel, by decide +kernel⟩, List.mem_of_getElem? (i := 480) (by decide +kernel), List.mem_of_getElem? (i := 569) (by decide +kernel), List.mem_of_getElem? (i := 570) (by decide +kernel)⟩
theorem lw_p11 : lw_okq (⟨"BallCourtModel", "isLine", "(I)Z"⟩, 21) := ⟨⟨by decide +kernel, by decide +kernel⟩, List.mem_of_getElem? (i := 480) (by decide +kernel), List.mem_of_getElem? (i := 580) (by decide +kernel), List.mem_of_getElem? (i := 581) (by decide +kernel)⟩
theorem lw_p12 : lw_okq (⟨"BallCourtModel", "namedBy", "(I)I"⟩, 21) := ⟨⟨by decide +kernel, by decide +kernel⟩, List.mem_of_getElem? (i := 480) (by decide +kernel), List.mem_of_getElem? (i := 595) (by decide +kernel), List.mem_of_getElem? (i := 596) (by decide +kernel)⟩
theorem lw_p13 : lw_okq (⟨"BallCourtModel", "isKind", "(I)Z"⟩, 21) := ⟨⟨by decide +kernel, by decide +kernel⟩, List.mem_of_getElem? (i := 480) (by decide +kernel), List.mem_of_getElem? (i := 603) (by decide +kernel), List.mem_of_getElem? (i := 604) (by decide +kernel)⟩
theorem lw_p14 : lw_okq (⟨"BallCourtModel", "holding", "(I)I"⟩, 21) := ⟨⟨by decide +kernel, by decide +kernel⟩, List.mem_of_getElem? (i := 480) (by decide +kernel), List.mem_of_getElem? (i := 607) (by decide +kernel), List.mem_of_getElem? (i := 608) (by decide +kernel)⟩
theorem lw_p15 : lw_okq (⟨"BallCourtModel", "lineFor", "(I)I"⟩, 21) := ⟨⟨by decide +kernel, by decide +kernel⟩, List.mem_of_getElem? (i := 480) (by decide +kernel), List.mem_of_getElem? (i := 615) (by decide +kernel), List.mem_of_getElem? (i := 616) (by decide +kernel)⟩
def lw_privs_1 : List (MethodName × Nat) := [(⟨"BallCourt", "beginAnew", "(I)V"⟩, 8), (⟨"BallCourt$Book", "workKinds", "()V"⟩, 11), (⟨"BallCourt$Book", "hasBarredPair", "(I)Z"⟩, 11), (⟨"BallCourt", "turnedKinds", "()I"⟩, 8), (⟨"BallCourt", "verdictUnder", "(LBallCourt$Laws;I)I"⟩, 8), (⟨"BallCourt", "casesOfTurnedKinds", "()I"⟩, 8), (⟨"BallCourt", "turnedVerdicts", "()I"⟩, 8), (⟨"BallCourt$Game", "giveHoop", "(I)V"⟩, 4), (⟨"BallCourt", "coveredKinds", "()I"⟩, 8), (⟨"BallCourtModel", "isFact", "(I)Z"⟩, 21), (⟨"BallCourtModel", "allFacts", "()I"⟩, 21), (⟨"BallCourtModel", "isLine", "(I)Z"⟩, 21), (⟨"BallCourtModel", "namedBy", "(I)I"⟩, 21), (⟨"BallCourtModel", "isKind", "(I)Z"⟩, 21), (⟨"BallCourtModel", "holding", "(I)I"⟩, 21), (⟨"BallCourtModel", "lineFor", "(I)I"⟩, 21)]
theorem lw_r1 : ∀ q ∈ lw_privs_1, lw_okq q := List.forall_mem_cons.mpr ⟨lw_p0, List.forall_mem_cons.mpr ⟨lw_p1, List.forall_mem_cons.mpr ⟨lw_p2, List.forall_mem_cons.mpr ⟨lw_p3, List.forall_mem_cons.mpr ⟨lw_p4, List.forall_mem_cons.mpr ⟨lw_p5, List.forall_mem_cons.mpr ⟨lw_p6, List.forall_mem_cons.mpr ⟨lw_p7, List.forall_mem_cons.mpr ⟨lw_p8, List.forall_mem_cons.mpr ⟨lw_p9, List.forall_mem_cons.mpr ⟨lw_p10, List.forall_mem_cons.mpr ⟨lw_p11, List.forall_mem_cons.mpr ⟨lw_p12, List.forall_mem_cons.mpr ⟨lw_p13, List.forall_mem_cons.mpr ⟨lw_p14, List.forall_mem_cons.mpr ⟨lw_p15, fun _ h => absurd h List.not_mem_nil⟩⟩⟩⟩⟩⟩⟩⟩⟩⟩⟩⟩⟩⟩⟩⟩
theorem lw_p16 : lw_okq (⟨"BallCourtModel", "rulingFor", "(I)I"⟩, 21) := ⟨⟨by decide +kernel, by decide +kernel⟩, List.mem_of_getElem? (i := 480) (by decide +kernel), List.mem_of_getElem? (i := 619) (by decide +kernel), List.mem_of_getElem? (i := 620) (by decide +kernel)⟩
theorem lw_p17 : lw_okq (⟨"BallCourtModel", "turnedKinds", "(I)I"⟩, 21) := ⟨⟨by decide +kernel, by decide +kernel⟩, List.mem_of_getElem? (i := 480) (by decide +kernel), List.mem_of_getElem? (i := 631) (by decide +kernel), List.mem_of_getElem? (i := 632) (by decide +kernel)⟩
theorem lw_p18 : lw_okq (⟨"BallCourtModel", "bound", "(I)I"⟩, 21) := ⟨⟨by decide +kernel, by decide +kernel⟩, List.mem_of_getElem? (i := 480) (by decide +kernel), List.mem_of_getElem? (i := 635) (by decide +kernel), List.mem_of_getElem? (i := 636) (by decide +kernel)⟩
theorem lw_p19 : lw_okq (⟨"BallCourtModel", "isMoment", "(I)Z"⟩, 21) := ⟨⟨by decide +kernel, by decide +kernel⟩, List.mem_of_getElem? (i := 480) (by decide +kernel), List.mem_of_getElem? (i := 647) (by decide +kernel), List.mem_of_getElem? (i := 648) (by decide +kernel)⟩
theorem lw_p20 : lw_okq (⟨"BallCourtModel", "so", "(I)I"⟩, 21) := ⟨⟨by decide +kernel, by decide +kernel⟩, List.mem_of_getElem? (i := 480) (by decide +kernel), List.mem_of_getElem? (i := 655) (by decide +kernel), List.mem_of_getElem? (i := 656) (by decide +kernel)⟩
theorem lw_p21 : lw_okq (⟨"BallCourtModel", "notSo", "(I)I"⟩, 21) := ⟨⟨by decide +kernel, by decide +kernel⟩, List.mem_of_getElem? (i := 480) (by decide +kernel), List.mem_of_getElem? (i := 659) (by decide +kernel), List.mem_of_getElem? (i := 660) (by decide +kernel)⟩
theorem lw_p22 : lw_okq (⟨"BallCourtModel", "doubt", "(I)I"⟩, 21) := ⟨⟨by decide +kernel, by decide +kernel⟩, List.mem_of_getElem? (i := 480) (by decide +kernel), List.mem_of_getElem? (i := 663) (by decide +kernel), List.mem_of_getElem? (i := 664) (by decide +kernel)⟩
theorem lw_p23 : lw_okq (⟨"BallCourtModel", "mayBes", "(II)I"⟩, 21) := ⟨⟨by decide +kernel, by decide +kernel⟩, List.mem_of_getElem? (i := 480) (by decide +kernel), List.mem_of_getElem? (i := 667) (by decide +kernel), List.mem_of_getElem? (i := 668) (by decide +kernel)⟩
theorem lw_p24 : lw_okq (⟨"BallCourtModel", "mayBe", "(II)Z"⟩, 21) := ⟨⟨by decide +kernel, by decide +kernel⟩, List.mem_of_getElem? (i := 480) (by decide +kernel), List.mem_of_getElem? (i := 671) (by decide +kernel), List.mem_of_getElem? (i := 672) (by decide +kernel)⟩
theorem lw_p25 : lw_okq (⟨"BallCourtModel", "bindingCase", "(I)I"⟩, 21) := ⟨⟨by decide +kernel, by decide +kernel⟩, List.mem_of_getElem? (i := 480) (by decide +kernel), List.mem_of_getElem? (i := 683) (by decide +kernel), List.mem_of_getElem? (i := 684) (by decide +kernel)⟩
theorem lw_p26 : lw_okq (⟨"BallCourtModel", "verdictOf", "(I)I"⟩, 21) := ⟨⟨by decide +kernel, by decide +kernel⟩, List.mem_of_getElem? (i := 480) (by decide +kernel), List.mem_of_getElem? (i := 691) (by decide +kernel), List.mem_of_getElem? (i := 692) (by decide +kernel)⟩
theorem lw_p27 : lw_okq (⟨"BallCourtModel", "begin", "()V"⟩, 21) := ⟨⟨by decide +kernel, by decide +kernel⟩, List.mem_of_getElem? (i := 480) (by decide +kernel), List.mem_of_getElem? (i := 723) (by decide +kernel), List.mem_of_getElem? (i := 724) (by decide +kernel)⟩
theorem lw_p28 : lw_okq (⟨"BallCourtModel", "play", "(I)V"⟩, 21) := ⟨⟨by decide +kernel, by decide +kernel⟩, List.mem_of_getElem? (i := 480) (by decide +kernel), List.mem_of_getElem? (i := 727) (by decide +kernel), List.mem_of_getElem? (i := 728) (by decide +kernel)⟩
theorem lw_p29 : lw_okq (⟨"BallCourtModel", "packed", "()I"⟩, 21) := ⟨⟨by decide +kernel, by decide +kernel⟩, List.mem_of_getElem? (i := 480) (by decide +kernel), List.mem_of_getElem? (i := 735) (by decide +kernel), List.mem_of_getElem? (i := 736) (by decide +kernel)⟩
theorem lw_p30 : lw_okq (⟨"BallCourtModel", "kinds", "(Z)I"⟩, 21) := ⟨⟨by decide +kernel, by decide +kernel⟩, List.mem_of_getElem? (i := 480) (by decide +kernel), List.mem_of_getElem? (i := 743) (by decide +kernel), List.mem_of_getElem? (i := 744) (by decide +kernel)⟩
def lw_privs_2 : List (MethodName × Nat) := [(⟨"BallCourtModel", "rulingFor", "(I)I"⟩, 21), (⟨"BallCourtModel", "turnedKinds", "(I)I"⟩, 21), (⟨"BallCourtModel", "bound", "(I)I"⟩, 21), (⟨"BallCourtModel", "isMoment", "(I)Z"⟩, 21), (⟨"BallCourtModel", "so", "(I)I"⟩, 21), (⟨"BallCourtModel", "notSo", "(I)I"⟩, 21), (⟨"BallCourtModel", "doubt", "(I)I"⟩, 21), (⟨"BallCourtModel", "mayBes", "(II)I"⟩, 21), (⟨"BallCourtModel", "mayBe", "(II)Z"⟩, 21), (⟨"BallCourtModel", "bindingCase", "(I)I"⟩, 21), (⟨"BallCourtModel", "verdictOf", "(I)I"⟩, 21), (⟨"BallCourtModel", "begin", "()V"⟩, 21), (⟨"BallCourtModel", "play", "(I)V"⟩, 21), (⟨"BallCourtModel", "packed", "()I"⟩, 21), (⟨"BallCourtModel", "kinds", "(Z)I"⟩, 21)]
theorem lw_r2 : ∀ q ∈ lw_privs_2, lw_okq q := List.forall_mem_cons.mpr ⟨lw_p16, List.forall_mem_cons.mpr ⟨lw_p17, List.forall_mem_cons.mpr ⟨lw_p18, List.forall_mem_cons.mpr ⟨lw_p19, List.forall_mem_cons.mpr ⟨lw_p20, List.forall_mem_cons.mpr ⟨lw_p21, List.forall_mem_cons.mpr ⟨lw_p22, List.forall_mem_cons.mpr ⟨lw_p23, List.forall_mem_cons.mpr ⟨lw_p24, List.forall_mem_cons.mpr ⟨lw_p25, List.forall_mem_cons.mpr ⟨lw_p26, List.forall_mem_cons.mpr ⟨lw_p27, List.forall_mem_cons.mpr ⟨lw_p28, List.forall_mem_cons.mpr ⟨lw_p29, List.forall_mem_cons.mpr ⟨lw_p30, fun _ h => absurd h List.not_mem_nil⟩⟩⟩⟩⟩⟩⟩⟩⟩⟩⟩⟩⟩⟩⟩
def lw_privs : List (MethodName × Nat) := lw_privs_1 ++ (lw_privs_2)
def lw_tbl : List Cond := k2_sels lw_privs ++ tables_1
theorem lw_privs_ok : ∀ q ∈ lw_privs, lw_okq q := by
  show ∀ q ∈ lw_privs_1 ++ (lw_privs_2), lw_okq q
  exact List.forall_mem_append.mpr ⟨lw_r1, lw_r2⟩
-- ===== end of PART A; then your names; then what follows =====
end
section
/-! ===== BEGIN words of one list among another's, by their places ===== -/
theorem goodIn_r {big : List Cond} (ws : List Cond) (ps : List Nat) (hp : ws = ps.filterMap (fun i => big[i]?)) (h : ws.all goodWord = true) : GoodIn big ws := by
  intro w hw
  have h1 := List.all_eq_true.mp h w hw
  rw [hp] at hw
  obtain ⟨i, -, hi⟩ := List.mem_filterMap.mp hw
  have hm : w ∈ big := by first | exact List.mem_of_getElem? hi | exact List.getElem?_mem hi
  exact ⟨hm, good_of_word h1⟩
theorem goodIn_app {big a b : List Cond} (ha : GoodIn big a) (hb : GoodIn big b) : GoodIn big (a ++ b) := fun w h => (List.mem_append.mp h).elim (ha w) (hb w)
theorem goodIn_ca {big a b : List Cond} {c : Cond} (ha : GoodIn big (c :: a)) (hb : GoodIn big b) : GoodIn big (c :: (a ++ b)) := fun w h => (List.mem_cons.mp h).elim (fun e => ha w (List.mem_cons.mpr (Or.inl e))) (fun h => (List.mem_append.mp h).elim (fun h => ha w (List.mem_cons.mpr (Or.inr h))) (hb w))
theorem goodIn_sub {big ws : List Cond} (hm : ∀ w ∈ ws, w ∈ big) (h : ws.all goodWord = true) : GoodIn big ws := fun w hw => ⟨hm w hw, good_of_word (List.all_eq_true.mp h w hw)⟩
/-! ===== END ===== -/

/-! ===== BEGIN printed: names, fields, word lists, decode rows ===== -/
def RX0 : String := "BallCourt$Book"
def TX0 : u_T := fun k => match k with
  | 0 => ("BallCourt$Book", "facts", "I", false)
  | 1 => ("BallCourt$Book", "numbers", "I", false)
  | 2 => ("BallCourt$Book", "isKind", "[Z", true)
  | 3 => ("BallCourt$Book", "barredWith", "[I", true)
  | 4 => ("BallCourt$Book", "lines", "I", false)
  | 5 => ("BallCourt$Book", "repealed", "I", false)
  | 6 => ("BallCourt$Book", "excepting", "I", false)
  | 7 => ("BallCourt$Book", "must", "[I", true)
  | 8 => ("BallCourt$Book", "mustNot", "[I", true)
  | 9 => ("BallCourt$Book", "ruling", "[I", true)
  | _ => ("BallCourt$Book", "excepters", "[I", true)
def tyX0 : Nat → FieldType := fun k => match k with
  | 0 => .int
  | 1 => .int
  | 2 => .array .boolean
  | 3 => .array .int
  | 4 => .int
  | 5 => .int
  | 6 => .int
  | 7 => .array .int
  | 8 => .array .int
  | 9 => .array .int
  | _ => .array .int
abbrev wsX00 : List Cond := u_ws RX0 TX0 11
theorem nmX0 : ∀ a, a < 11 → ∀ b, b < 11 → a ≠ b → (TX0 a).2.1 ≠ (TX0 b).2.1 := by decide +kernel
theorem tyX0_ok : ∀ k, k < 11 → parseFieldDescriptor (TX0 k).2.2.1 = some (tyX0 k) := by decide +kernel
abbrev cX0_init : ByteArray := prog_2_method_1_code
def yX0_init : MethodName := ⟨RX0, "<init>", "()V"⟩
abbrev cX0_begin : ByteArray := prog_2_method_2_code
def yX0_begin : MethodName := ⟨RX0, "begin", "(I)V"⟩
abbrev cX0_hasFact : ByteArray := prog_2_method_3_code
def yX0_hasFact : MethodName := ⟨RX0, "hasFact", "(I)Z"⟩
abbrev cX0_areFacts : ByteArray := prog_2_method_4_code
def yX0_areFacts : MethodName := ⟨RX0, "areFacts", "(I)Z"⟩
abbrev cX0_allFacts : ByteArray := prog_2_method_5_code
def yX0_allFacts : MethodName := ⟨RX0, "allFacts", "()I"⟩
abbrev cX0_hasKind : ByteArray := prog_2_method_6_code
def yX0_hasKind : MethodName := ⟨RX0, "hasKind", "(I)Z"⟩
abbrev cX0_hasLine : ByteArray := prog_2_method_7_code
def yX0_hasLine : MethodName := ⟨RX0, "hasLine", "(I)Z"⟩
abbrev cX0_areBarred : ByteArray := prog_2_method_8_code
def yX0_areBarred : MethodName := ⟨RX0, "areBarred", "(II)Z"⟩
abbrev cX0_bar : ByteArray := prog_2_method_9_code
def yX0_bar : MethodName := ⟨RX0, "bar", "(IIZ)V"⟩
abbrev cX0_workKinds : ByteArray := prog_2_method_10_code
def yX0_workKinds : MethodName := ⟨RX0, "workKinds", "()V"⟩
abbrev cX0_hasBarredPair : ByteArray := prog_2_method_11_code
def yX0_hasBarredPair : MethodName := ⟨RX0, "hasBarredPair", "(I)Z"⟩
abbrev cX0_mayBe : ByteArray := prog_2_method_12_code
def yX0_mayBe : MethodName := ⟨RX0, "mayBe", "(III)Z"⟩
abbrev cX0_countMayBe : ByteArray := prog_2_method_13_code
def yX0_countMayBe : MethodName := ⟨RX0, "countMayBe", "(II)I"⟩
abbrev cX0_addLine : ByteArray := prog_2_method_14_code
def yX0_addLine : MethodName := ⟨RX0, "addLine", "(III)I"⟩
abbrev cX0_excepts : ByteArray := prog_2_method_15_code
def yX0_excepts : MethodName := ⟨RX0, "excepts", "(II)Z"⟩
abbrev cX0_addException : ByteArray := prog_2_method_16_code
def yX0_addException : MethodName := ⟨RX0, "addException", "(II)V"⟩
abbrev cX0_isRepealed : ByteArray := prog_2_method_17_code
def yX0_isRepealed : MethodName := ⟨RX0, "isRepealed", "(I)Z"⟩
abbrev cX0_repealedIfMended : ByteArray := prog_2_method_18_code
def yX0_repealedIfMended : MethodName := ⟨RX0, "repealedIfMended", "(I)I"⟩
abbrev cX0_holding : ByteArray := prog_2_method_19_code
def yX0_holding : MethodName := ⟨RX0, "holding", "(II)I"⟩
abbrev cX0_lawLine : ByteArray := prog_2_method_20_code
def yX0_lawLine : MethodName := ⟨RX0, "lawLine", "(II)I"⟩
abbrev cX0_namedBy : ByteArray := prog_2_method_21_code
def yX0_namedBy : MethodName := ⟨RX0, "namedBy", "(I)I"⟩
def RX1 : String := "BallCourt$Cases"
def TX1 : u_T := fun k => match k with
  | 0 => ("BallCourt$Cases", "count", "I", false)
  | 1 => ("BallCourt$Cases", "kind", "[I", true)
  | 2 => ("BallCourt$Cases", "ruling", "[I", true)
  | _ => ("BallCourt$Cases", "names", "[I", true)
def tyX1 : Nat → FieldType := fun k => match k with
  | 0 => .int
  | 1 => .array .int
  | 2 => .array .int
  | _ => .array .int
abbrev wsX10 : List Cond := u_ws RX1 TX1 4
theorem nmX1 : ∀ a, a < 4 → ∀ b, b < 4 → a ≠ b → (TX1 a).2.1 ≠ (TX1 b).2.1 := by decide +kernel
theorem tyX1_ok : ∀ k, k < 4 → parseFieldDescriptor (TX1 k).2.2.1 = some (tyX1 k) := by decide +kernel
abbrev cX1_init : ByteArray := prog_3_method_1_code
def yX1_init : MethodName := ⟨RX1, "<init>", "()V"⟩
abbrev cX1_has : ByteArray := prog_3_method_2_code
def yX1_has : MethodName := ⟨RX1, "has", "(I)Z"⟩
abbrev cX1_add : ByteArray := prog_3_method_3_code
def yX1_add : MethodName := ⟨RX1, "add", "(III)I"⟩
abbrev cX1_firstThatBinds : ByteArray := prog_3_method_4_code
def yX1_firstThatBinds : MethodName := ⟨RX1, "firstThatBinds", "(II)I"⟩
def RX2 : String := "BallCourt$Game"
def TX2 : u_T := fun k => match k with
  | 0 => ("BallCourt$Game", "toWin", "I", false)
  | 1 => ("BallCourt$Game", "hoopsOf0", "I", false)
  | 2 => ("BallCourt$Game", "hoopsOf1", "I", false)
  | _ => ("BallCourt$Game", "striker", "I", false)
def tyX2 : Nat → FieldType := fun k => match k with
  | 0 => .int
  | 1 => .int
  | 2 => .int
  | _ => .int
abbrev wsX20 : List Cond := u_ws RX2 TX2 4
theorem nmX2 : ∀ a, a < 4 → ∀ b, b < 4 → a ≠ b → (TX2 a).2.1 ≠ (TX2 b).2.1 := by decide +kernel
theorem tyX2_ok : ∀ k, k < 4 → parseFieldDescriptor (TX2 k).2.2.1 = some (tyX2 k) := by decide +kernel
abbrev cX2_init : ByteArray := prog_4_method_1_code
def yX2_init : MethodName := ⟨RX2, "<init>", "()V"⟩
abbrev cX2_begin : ByteArray := prog_4_method_2_code
def yX2_begin : MethodName := ⟨RX2, "begin", "(I)V"⟩
abbrev cX2_play : ByteArray := prog_4_method_3_code
def yX2_play : MethodName := ⟨RX2, "play", "(I)V"⟩
abbrev cX2_giveHoop : ByteArray := prog_4_method_4_code
def yX2_giveHoop : MethodName := ⟨RX2, "giveHoop", "(I)V"⟩
abbrev cX2_winner : ByteArray := prog_4_method_5_code
def yX2_winner : MethodName := ⟨RX2, "winner", "()I"⟩
abbrev cX2_standsAs : ByteArray := prog_4_method_6_code
def yX2_standsAs : MethodName := ⟨RX2, "standsAs", "(LBallCourt$Game;)Z"⟩
def RX3 : String := "BallCourt$Laws"
def TX3 : u_T := fun k => match k with
  | 0 => ("BallCourt$Laws", "book", "LBallCourt$Book;", true)
  | _ => ("BallCourt$Laws", "lineOf", "[I", true)
def tyX3 : Nat → FieldType := fun k => match k with
  | 0 => .object "BallCourt$Book"
  | _ => .array .int
abbrev wsX30 : List Cond := u_ws RX3 TX3 2
theorem nmX3 : ∀ a, a < 2 → ∀ b, b < 2 → a ≠ b → (TX3 a).2.1 ≠ (TX3 b).2.1 := by decide +kernel
theorem tyX3_ok : ∀ k, k < 2 → parseFieldDescriptor (TX3 k).2.2.1 = some (tyX3 k) := by decide +kernel
abbrev cX3_init : ByteArray := prog_5_method_1_code
def yX3_init : MethodName := ⟨RX3, "<init>", "(LBallCourt$Book;)V"⟩
abbrev cX3_work : ByteArray := prog_5_method_2_code
def yX3_work : MethodName := ⟨RX3, "work", "(I)V"⟩
abbrev cX3_covers : ByteArray := prog_5_method_3_code
def yX3_covers : MethodName := ⟨RX3, "covers", "(I)Z"⟩
abbrev cX3_rulingFor : ByteArray := prog_5_method_4_code
def yX3_rulingFor : MethodName := ⟨RX3, "rulingFor", "(I)I"⟩
abbrev cX3_differFor : ByteArray := prog_5_method_5_code
def yX3_differFor : MethodName := ⟨RX3, "differFor", "(ILBallCourt$Laws;)Z"⟩
abbrev cX3_countMayBeRuled : ByteArray := prog_5_method_6_code
def yX3_countMayBeRuled : MethodName := ⟨RX3, "countMayBeRuled", "(III)I"⟩
abbrev cX3_rulingForAll : ByteArray := prog_5_method_7_code
def yX3_rulingForAll : MethodName := ⟨RX3, "rulingForAll", "(II)I"⟩
def RX4 : String := "BallCourt$Moments"
def TX4 : u_T := fun k => match k with
  | 0 => ("BallCourt$Moments", "count", "I", false)
  | 1 => ("BallCourt$Moments", "toldSo", "[I", true)
  | 2 => ("BallCourt$Moments", "toldNotSo", "[I", true)
  | _ => ("BallCourt$Moments", "ruled", "[I", true)
def tyX4 : Nat → FieldType := fun k => match k with
  | 0 => .int
  | 1 => .array .int
  | 2 => .array .int
  | _ => .array .int
abbrev wsX40 : List Cond := u_ws RX4 TX4 4
theorem nmX4 : ∀ a, a < 4 → ∀ b, b < 4 → a ≠ b → (TX4 a).2.1 ≠ (TX4 b).2.1 := by decide +kernel
theorem tyX4_ok : ∀ k, k < 4 → parseFieldDescriptor (TX4 k).2.2.1 = some (tyX4 k) := by decide +kernel
abbrev cX4_init : ByteArray := prog_6_method_1_code
def yX4_init : MethodName := ⟨RX4, "<init>", "()V"⟩
abbrev cX4_has : ByteArray := prog_6_method_2_code
def yX4_has : MethodName := ⟨RX4, "has", "(I)Z"⟩
abbrev cX4_add : ByteArray := prog_6_method_3_code
def yX4_add : MethodName := ⟨RX4, "add", "()I"⟩
abbrev cX4_hear : ByteArray := prog_6_method_4_code
def yX4_hear : MethodName := ⟨RX4, "hear", "(IIII)I"⟩
abbrev cX4_knownSo : ByteArray := prog_6_method_5_code
def yX4_knownSo : MethodName := ⟨RX4, "knownSo", "(I)I"⟩
abbrev cX4_knownNotSo : ByteArray := prog_6_method_6_code
def yX4_knownNotSo : MethodName := ⟨RX4, "knownNotSo", "(I)I"⟩
abbrev cX4_ofAll : ByteArray := prog_6_method_7_code
def yX4_ofAll : MethodName := ⟨RX4, "ofAll", "([II)I"⟩
def RX5 : String := "BallCourt"
def TX5 : u_T := fun k => match k with
  | 0 => ("BallCourt", "book", "LBallCourt$Book;", true)
  | 1 => ("BallCourt", "laws", "LBallCourt$Laws;", true)
  | 2 => ("BallCourt", "lawsIfMended", "LBallCourt$Laws;", true)
  | 3 => ("BallCourt", "played", "LBallCourt$Moments;", true)
  | 4 => ("BallCourt", "cases", "LBallCourt$Cases;", true)
  | 5 => ("BallCourt", "game", "LBallCourt$Game;", true)
  | 6 => ("BallCourt", "gameIfRuled", "LBallCourt$Game;", true)
  | _ => ("BallCourt", "hoopsToWin", "I", false)
def tyX5 : Nat → FieldType := fun k => match k with
  | 0 => .object "BallCourt$Book"
  | 1 => .object "BallCourt$Laws"
  | 2 => .object "BallCourt$Laws"
  | 3 => .object "BallCourt$Moments"
  | 4 => .object "BallCourt$Cases"
  | 5 => .object "BallCourt$Game"
  | 6 => .object "BallCourt$Game"
  | _ => .int
abbrev wsX50 : List Cond := u_ws RX5 TX5 8
theorem nmX5 : ∀ a, a < 8 → ∀ b, b < 8 → a ≠ b → (TX5 a).2.1 ≠ (TX5 b).2.1 := by decide +kernel
theorem tyX5_ok : ∀ k, k < 8 → parseFieldDescriptor (TX5 k).2.2.1 = some (tyX5 k) := by decide +kernel
abbrev cX5_init : ByteArray := prog_1_method_1_code
def yX5_init : MethodName := ⟨RX5, "<init>", "()V"⟩
abbrev cX5_beginAnew : ByteArray := prog_1_method_2_code
def yX5_beginAnew : MethodName := ⟨RX5, "beginAnew", "(I)V"⟩
abbrev cX5_facts : ByteArray := prog_1_method_3_code
def yX5_facts : MethodName := ⟨RX5, "facts", "(I)I"⟩
abbrev cX5_barred : ByteArray := prog_1_method_4_code
def yX5_barred : MethodName := ⟨RX5, "barred", "(IIZ)I"⟩
abbrev cX5_line : ByteArray := prog_1_method_5_code
def yX5_line : MethodName := ⟨RX5, "line", "(III)I"⟩
abbrev cX5_except : ByteArray := prog_1_method_6_code
def yX5_except : MethodName := ⟨RX5, "except", "(II)I"⟩
abbrev cX5_repeal : ByteArray := prog_1_method_7_code
def yX5_repeal : MethodName := ⟨RX5, "repeal", "(IZ)I"⟩
abbrev cX5_about : ByteArray := prog_1_method_8_code
def yX5_about : MethodName := ⟨RX5, "about", "(II)I"⟩
abbrev cX5_holds : ByteArray := prog_1_method_9_code
def yX5_holds : MethodName := ⟨RX5, "holds", "(II)I"⟩
abbrev cX5_law : ByteArray := prog_1_method_10_code
def yX5_law : MethodName := ⟨RX5, "law", "(II)I"⟩
abbrev cX5_open : ByteArray := prog_1_method_11_code
def yX5_open : MethodName := ⟨RX5, "open", "(I)I"⟩
abbrev cX5_idle : ByteArray := prog_1_method_12_code
def yX5_idle : MethodName := ⟨RX5, "idle", "(I)I"⟩
abbrev cX5_moment : ByteArray := prog_1_method_13_code
def yX5_moment : MethodName := ⟨RX5, "moment", "()I"⟩
abbrev cX5_tell : ByteArray := prog_1_method_14_code
def yX5_tell : MethodName := ⟨RX5, "tell", "(IIII)I"⟩
abbrev cX5_known : ByteArray := prog_1_method_15_code
def yX5_known : MethodName := ⟨RX5, "known", "(II)I"⟩
abbrev cX5_proof : ByteArray := prog_1_method_16_code
def yX5_proof : MethodName := ⟨RX5, "proof", "(II)I"⟩
abbrev cX5_binds : ByteArray := prog_1_method_17_code
def yX5_binds : MethodName := ⟨RX5, "binds", "(I)I"⟩
abbrev cX5_verdict : ByteArray := prog_1_method_18_code
def yX5_verdict : MethodName := ⟨RX5, "verdict", "(I)I"⟩
abbrev cX5_rule : ByteArray := prog_1_method_19_code
def yX5_rule : MethodName := ⟨RX5, "rule", "(II)I"⟩
abbrev cX5_make : ByteArray := prog_1_method_20_code
def yX5_make : MethodName := ⟨RX5, "make", "(I)I"⟩
abbrev cX5_ofCase : ByteArray := prog_1_method_21_code
def yX5_ofCase : MethodName := ⟨RX5, "ofCase", "(II)I"⟩
abbrev cX5_turned : ByteArray := prog_1_method_22_code
def yX5_turned : MethodName := ⟨RX5, "turned", "()I"⟩
abbrev cX5_mend : ByteArray := prog_1_method_23_code
def yX5_mend : MethodName := ⟨RX5, "mend", "(II)I"⟩
abbrev cX5_goal : ByteArray := prog_1_method_24_code
def yX5_goal : MethodName := ⟨RX5, "goal", "(I)I"⟩
abbrev cX5_score : ByteArray := prog_1_method_25_code
def yX5_score : MethodName := ⟨RX5, "score", "(II)I"⟩
abbrev cX5_appeal : ByteArray := prog_1_method_26_code
def yX5_appeal : MethodName := ⟨RX5, "appeal", "(II)I"⟩
abbrev cX5_told : ByteArray := prog_1_method_27_code
def yX5_told : MethodName := ⟨RX5, "told", "(I)I"⟩
abbrev cX5_oneIf : ByteArray := prog_1_method_28_code
def yX5_oneIf : MethodName := ⟨RX5, "oneIf", "(Z)I"⟩
abbrev cX5_hasBit : ByteArray := prog_1_method_29_code
def yX5_hasBit : MethodName := ⟨RX5, "hasBit", "(II)Z"⟩
abbrev cX5_isRuling : ByteArray := prog_1_method_30_code
def yX5_isRuling : MethodName := ⟨RX5, "isRuling", "(I)Z"⟩
abbrev cX5_verdictUnder : ByteArray := prog_1_method_31_code
def yX5_verdictUnder : MethodName := ⟨RX5, "verdictUnder", "(LBallCourt$Laws;I)I"⟩
abbrev cX5_coveredKinds : ByteArray := prog_1_method_32_code
def yX5_coveredKinds : MethodName := ⟨RX5, "coveredKinds", "()I"⟩
abbrev cX5_turnedKinds : ByteArray := prog_1_method_33_code
def yX5_turnedKinds : MethodName := ⟨RX5, "turnedKinds", "()I"⟩
abbrev cX5_casesOfTurnedKinds : ByteArray := prog_1_method_34_code
def yX5_casesOfTurnedKinds : MethodName := ⟨RX5, "casesOfTurnedKinds", "()I"⟩
abbrev cX5_turnedVerdicts : ByteArray := prog_1_method_35_code
def yX5_turnedVerdicts : MethodName := ⟨RX5, "turnedVerdicts", "()I"⟩
def RX6 : String := "BallCourtModel"
def TX6 : u_T := fun k => match k with
  | 0 => ("BallCourtModel", "facts", "I", false)
  | 1 => ("BallCourtModel", "bars", "[I", true)
  | 2 => ("BallCourtModel", "lines", "I", false)
  | 3 => ("BallCourtModel", "must", "[I", true)
  | 4 => ("BallCourtModel", "mustNot", "[I", true)
  | 5 => ("BallCourtModel", "ruling", "[I", true)
  | 6 => ("BallCourtModel", "isRepealed", "[Z", true)
  | 7 => ("BallCourtModel", "excepts", "[I", true)
  | 8 => ("BallCourtModel", "moments", "I", false)
  | 9 => ("BallCourtModel", "toldSo", "[I", true)
  | 10 => ("BallCourtModel", "toldNot", "[I", true)
  | 11 => ("BallCourtModel", "ruled", "[I", true)
  | 12 => ("BallCourtModel", "cases", "I", false)
  | 13 => ("BallCourtModel", "caseKind", "[I", true)
  | 14 => ("BallCourtModel", "caseRuling", "[I", true)
  | 15 => ("BallCourtModel", "caseNames", "[I", true)
  | 16 => ("BallCourtModel", "goal", "I", false)
  | 17 => ("BallCourtModel", "before", "[I", true)
  | 18 => ("BallCourtModel", "verdict", "[I", true)
  | 19 => ("BallCourtModel", "state", "[I", true)
  | _ => ("BallCourtModel", "course", "[I", true)
def tyX6 : Nat → FieldType := fun k => match k with
  | 0 => .int
  | 1 => .array .int
  | 2 => .int
  | 3 => .array .int
  | 4 => .array .int
  | 5 => .array .int
  | 6 => .array .boolean
  | 7 => .array .int
  | 8 => .int
  | 9 => .array .int
  | 10 => .array .int
  | 11 => .array .int
  | 12 => .int
  | 13 => .array .int
  | 14 => .array .int
  | 15 => .array .int
  | 16 => .int
  | 17 => .array .int
  | 18 => .array .int
  | 19 => .array .int
  | _ => .array .int
abbrev wsX60 : List Cond := u_ws RX6 TX6 21
theorem nmX6 : ∀ a, a < 21 → ∀ b, b < 21 → a ≠ b → (TX6 a).2.1 ≠ (TX6 b).2.1 := by decide +kernel
theorem tyX6_ok : ∀ k, k < 21 → parseFieldDescriptor (TX6 k).2.2.1 = some (tyX6 k) := by decide +kernel
abbrev cX6_init : ByteArray := prog_8_method_1_code
def yX6_init : MethodName := ⟨RX6, "<init>", "()V"⟩
abbrev cX6_in : ByteArray := prog_8_method_2_code
def yX6_in : MethodName := ⟨RX6, "in", "(III)Z"⟩
abbrev cX6_isFact : ByteArray := prog_8_method_3_code
def yX6_isFact : MethodName := ⟨RX6, "isFact", "(I)Z"⟩
abbrev cX6_allFacts : ByteArray := prog_8_method_4_code
def yX6_allFacts : MethodName := ⟨RX6, "allFacts", "()I"⟩
abbrev cX6_isLine : ByteArray := prog_8_method_5_code
def yX6_isLine : MethodName := ⟨RX6, "isLine", "(I)Z"⟩
abbrev cX6_isRuling : ByteArray := prog_8_method_6_code
def yX6_isRuling : MethodName := ⟨RX6, "isRuling", "(I)Z"⟩
abbrev cX6_facts : ByteArray := prog_8_method_7_code
def yX6_facts : MethodName := ⟨RX6, "facts", "(I)I"⟩
abbrev cX6_barred : ByteArray := prog_8_method_8_code
def yX6_barred : MethodName := ⟨RX6, "barred", "(IIZ)I"⟩
abbrev cX6_isKind : ByteArray := prog_8_method_9_code
def yX6_isKind : MethodName := ⟨RX6, "isKind", "(I)Z"⟩
abbrev cX6_line : ByteArray := prog_8_method_10_code
def yX6_line : MethodName := ⟨RX6, "line", "(III)I"⟩
abbrev cX6_bits : ByteArray := prog_8_method_11_code
def yX6_bits : MethodName := ⟨RX6, "bits", "(I)I"⟩
abbrev cX6_except : ByteArray := prog_8_method_12_code
def yX6_except : MethodName := ⟨RX6, "except", "(II)I"⟩
abbrev cX6_repeal : ByteArray := prog_8_method_13_code
def yX6_repeal : MethodName := ⟨RX6, "repeal", "(IZ)I"⟩
abbrev cX6_namedBy : ByteArray := prog_8_method_14_code
def yX6_namedBy : MethodName := ⟨RX6, "namedBy", "(I)I"⟩
abbrev cX6_about : ByteArray := prog_8_method_15_code
def yX6_about : MethodName := ⟨RX6, "about", "(II)I"⟩
abbrev cX6_holding : ByteArray := prog_8_method_16_code
def yX6_holding : MethodName := ⟨RX6, "holding", "(I)I"⟩
abbrev cX6_holds : ByteArray := prog_8_method_17_code
def yX6_holds : MethodName := ⟨RX6, "holds", "(II)I"⟩
abbrev cX6_lineFor : ByteArray := prog_8_method_18_code
def yX6_lineFor : MethodName := ⟨RX6, "lineFor", "(I)I"⟩
abbrev cX6_rulingFor : ByteArray := prog_8_method_19_code
def yX6_rulingFor : MethodName := ⟨RX6, "rulingFor", "(I)I"⟩
abbrev cX6_law : ByteArray := prog_8_method_20_code
def yX6_law : MethodName := ⟨RX6, "law", "(II)I"⟩
abbrev cX6_open : ByteArray := prog_8_method_21_code
def yX6_open : MethodName := ⟨RX6, "open", "(I)I"⟩
abbrev cX6_bound : ByteArray := prog_8_method_22_code
def yX6_bound : MethodName := ⟨RX6, "bound", "(I)I"⟩
abbrev cX6_turnedKinds : ByteArray := prog_8_method_23_code
def yX6_turnedKinds : MethodName := ⟨RX6, "turnedKinds", "(I)I"⟩
abbrev cX6_idle : ByteArray := prog_8_method_24_code
def yX6_idle : MethodName := ⟨RX6, "idle", "(I)I"⟩
abbrev cX6_isMoment : ByteArray := prog_8_method_25_code
def yX6_isMoment : MethodName := ⟨RX6, "isMoment", "(I)Z"⟩
abbrev cX6_moment : ByteArray := prog_8_method_26_code
def yX6_moment : MethodName := ⟨RX6, "moment", "()I"⟩
abbrev cX6_tell : ByteArray := prog_8_method_27_code
def yX6_tell : MethodName := ⟨RX6, "tell", "(IIII)I"⟩
abbrev cX6_so : ByteArray := prog_8_method_28_code
def yX6_so : MethodName := ⟨RX6, "so", "(I)I"⟩
abbrev cX6_notSo : ByteArray := prog_8_method_29_code
def yX6_notSo : MethodName := ⟨RX6, "notSo", "(I)I"⟩
abbrev cX6_doubt : ByteArray := prog_8_method_30_code
def yX6_doubt : MethodName := ⟨RX6, "doubt", "(I)I"⟩
abbrev cX6_mayBe : ByteArray := prog_8_method_31_code
def yX6_mayBe : MethodName := ⟨RX6, "mayBe", "(II)Z"⟩
abbrev cX6_mayBes : ByteArray := prog_8_method_32_code
def yX6_mayBes : MethodName := ⟨RX6, "mayBes", "(II)I"⟩
abbrev cX6_known : ByteArray := prog_8_method_33_code
def yX6_known : MethodName := ⟨RX6, "known", "(II)I"⟩
abbrev cX6_proof : ByteArray := prog_8_method_34_code
def yX6_proof : MethodName := ⟨RX6, "proof", "(II)I"⟩
abbrev cX6_bindingCase : ByteArray := prog_8_method_35_code
def yX6_bindingCase : MethodName := ⟨RX6, "bindingCase", "(I)I"⟩
abbrev cX6_binds : ByteArray := prog_8_method_36_code
def yX6_binds : MethodName := ⟨RX6, "binds", "(I)I"⟩
abbrev cX6_verdictOf : ByteArray := prog_8_method_37_code
def yX6_verdictOf : MethodName := ⟨RX6, "verdictOf", "(I)I"⟩
abbrev cX6_verdict : ByteArray := prog_8_method_38_code
def yX6_verdict : MethodName := ⟨RX6, "verdict", "(I)I"⟩
abbrev cX6_rule : ByteArray := prog_8_method_39_code
def yX6_rule : MethodName := ⟨RX6, "rule", "(II)I"⟩
abbrev cX6_make : ByteArray := prog_8_method_40_code
def yX6_make : MethodName := ⟨RX6, "make", "(I)I"⟩
abbrev cX6_ofCase : ByteArray := prog_8_method_41_code
def yX6_ofCase : MethodName := ⟨RX6, "ofCase", "(II)I"⟩
abbrev cX6_turned : ByteArray := prog_8_method_42_code
def yX6_turned : MethodName := ⟨RX6, "turned", "()I"⟩
abbrev cX6_mend : ByteArray := prog_8_method_43_code
def yX6_mend : MethodName := ⟨RX6, "mend", "(II)I"⟩
abbrev cX6_goal : ByteArray := prog_8_method_44_code
def yX6_goal : MethodName := ⟨RX6, "goal", "(I)I"⟩
abbrev cX6_begin : ByteArray := prog_8_method_45_code
def yX6_begin : MethodName := ⟨RX6, "begin", "()V"⟩
abbrev cX6_play : ByteArray := prog_8_method_46_code
def yX6_play : MethodName := ⟨RX6, "play", "(I)V"⟩
abbrev cX6_score : ByteArray := prog_8_method_47_code
def yX6_score : MethodName := ⟨RX6, "score", "(II)I"⟩
abbrev cX6_packed : ByteArray := prog_8_method_48_code
def yX6_packed : MethodName := ⟨RX6, "packed", "()I"⟩
abbrev cX6_appeal : ByteArray := prog_8_method_49_code
def yX6_appeal : MethodName := ⟨RX6, "appeal", "(II)I"⟩
abbrev cX6_kinds : ByteArray := prog_8_method_50_code
def yX6_kinds : MethodName := ⟨RX6, "kinds", "(Z)I"⟩
abbrev cX6_told : ByteArray := prog_8_method_51_code
def yX6_told : MethodName := ⟨RX6, "told", "(I)I"⟩
def RJ6 : String := "java/lang/Integer"
def TJ6 : u_T := fun k => match k with
  | _ => ("", "", "", false)
def tyJ6 : Nat → FieldType := fun k => match k with
  | _ => .int
abbrev wsJ60 : List Cond := u_ws RJ6 TJ6 0
theorem nmJ6 : ∀ a, a < 0 → ∀ b, b < 0 → a ≠ b → (TJ6 a).2.1 ≠ (TJ6 b).2.1 := by decide +kernel
theorem tyJ6_ok : ∀ k, k < 0 → parseFieldDescriptor (TJ6 k).2.2.1 = some (tyJ6 k) := by decide +kernel
abbrev cJ6_bitCount_0f7a4 : ByteArray := prog_9_method_49_code
def yJ6_bitCount_0f7a4 : MethodName := ⟨RJ6, "bitCount", "(I)I"⟩
def RL : String := "BallCourtLaw"
abbrev cL_law : ByteArray := code
def yL_law : MethodName := ⟨RL, "law", "([I)Z"⟩
def wsX0_init : List Cond := .code yX0_init cX0_init 1 none :: ([.methodLink RX0 3 objectInit, .instanceMethod objectInit, .code objectInit ⟨#[0xb1]⟩ 1 none, .arrayClass .boolean, .fieldLink RX0 9 "BallCourt$Book" "isKind" "[Z", .arrayClass .int, .fieldLink RX0 15 "BallCourt$Book" "barredWith" "[I", .fieldLink RX0 19 "BallCourt$Book" "must" "[I", .fieldLink RX0 22 "BallCourt$Book" "mustNot" "[I", .fieldLink RX0 25 "BallCourt$Book" "ruling" "[I", .fieldLink RX0 28 "BallCourt$Book" "excepters" "[I"] ++ wsX00)
def wsX5_hasBit : List Cond := .code yX5_hasBit cX5_hasBit 2 (some .boolean) :: ([])
def wsX0_hasBarredPair : List Cond := .code yX0_hasBarredPair cX0_hasBarredPair 3 (some .boolean) :: ([.fieldLink RX0 31 "BallCourt$Book" "facts" "I", .fieldLink RX0 15 "BallCourt$Book" "barredWith" "[I", .static yX5_hasBit, .initialized RX5, .code yX5_hasBit cX5_hasBit 2 (some .boolean)] ++ wsX00)
def wsX0_workKinds : List Cond := .code yX0_workKinds cX0_workKinds 2 none :: ([.fieldLink RX0 35 "BallCourt$Book" "numbers" "I", .fieldLink RX0 9 "BallCourt$Book" "isKind" "[Z", .methodLink RX0 54 yX0_hasBarredPair, .instanceMethod yX0_hasBarredPair, .selects RX0 yX0_hasBarredPair yX0_hasBarredPair, .initialized RX0, .code yX0_hasBarredPair cX0_hasBarredPair 3 (some .boolean), .fieldLink RX0 31 "BallCourt$Book" "facts" "I", .fieldLink RX0 15 "BallCourt$Book" "barredWith" "[I", .static yX5_hasBit, .initialized RX5, .code yX5_hasBit cX5_hasBit 2 (some .boolean)] ++ wsX00)
def wsX0_begin : List Cond := .code yX0_begin cX0_begin 3 none :: ([.fieldLink RX0 31 "BallCourt$Book" "facts" "I", .fieldLink RX0 35 "BallCourt$Book" "numbers" "I", .fieldLink RX0 38 "BallCourt$Book" "lines" "I", .fieldLink RX0 41 "BallCourt$Book" "repealed" "I", .fieldLink RX0 44 "BallCourt$Book" "excepting" "I", .fieldLink RX0 15 "BallCourt$Book" "barredWith" "[I", .methodLink RX0 47 yX0_workKinds, .instanceMethod yX0_workKinds, .selects RX0 yX0_workKinds yX0_workKinds, .initialized RX0, .code yX0_workKinds cX0_workKinds 2 none, .fieldLink RX0 9 "BallCourt$Book" "isKind" "[Z", .methodLink RX0 54 yX0_hasBarredPair, .instanceMethod yX0_hasBarredPair, .selects RX0 yX0_hasBarredPair yX0_hasBarredPair, .code yX0_hasBarredPair cX0_hasBarredPair 3 (some .boolean), .static yX5_hasBit, .initialized RX5, .code yX5_hasBit cX5_hasBit 2 (some .boolean)] ++ wsX00)
def wsX0_hasFact : List Cond := .code yX0_hasFact cX0_hasFact 2 (some .boolean) :: ([.fieldLink RX0 31 "BallCourt$Book" "facts" "I"] ++ wsX00)
def wsX0_areFacts : List Cond := .code yX0_areFacts cX0_areFacts 2 (some .boolean) :: ([.fieldLink RX0 35 "BallCourt$Book" "numbers" "I"] ++ wsX00)
def wsX0_allFacts : List Cond := .code yX0_allFacts cX0_allFacts 1 (some .int) :: ([.fieldLink RX0 35 "BallCourt$Book" "numbers" "I"] ++ wsX00)
def wsX0_hasKind : List Cond := .code yX0_hasKind cX0_hasKind 2 (some .boolean) :: ([.fieldLink RX0 35 "BallCourt$Book" "numbers" "I", .fieldLink RX0 9 "BallCourt$Book" "isKind" "[Z"] ++ wsX00)
def wsX0_hasLine : List Cond := .code yX0_hasLine cX0_hasLine 2 (some .boolean) :: ([.fieldLink RX0 38 "BallCourt$Book" "lines" "I"] ++ wsX00)
def wsX0_areBarred : List Cond := .code yX0_areBarred cX0_areBarred 3 (some .boolean) :: ([.fieldLink RX0 15 "BallCourt$Book" "barredWith" "[I", .static yX5_hasBit, .initialized RX5, .code yX5_hasBit cX5_hasBit 2 (some .boolean)] ++ wsX00)
def wsX0_bar : List Cond := .code yX0_bar cX0_bar 4 none :: ([.fieldLink RX0 15 "BallCourt$Book" "barredWith" "[I", .methodLink RX0 47 yX0_workKinds, .instanceMethod yX0_workKinds, .selects RX0 yX0_workKinds yX0_workKinds, .initialized RX0, .code yX0_workKinds cX0_workKinds 2 none, .fieldLink RX0 35 "BallCourt$Book" "numbers" "I", .fieldLink RX0 9 "BallCourt$Book" "isKind" "[Z", .methodLink RX0 54 yX0_hasBarredPair, .instanceMethod yX0_hasBarredPair, .selects RX0 yX0_hasBarredPair yX0_hasBarredPair, .code yX0_hasBarredPair cX0_hasBarredPair 3 (some .boolean), .fieldLink RX0 31 "BallCourt$Book" "facts" "I", .static yX5_hasBit, .initialized RX5, .code yX5_hasBit cX5_hasBit 2 (some .boolean)] ++ wsX00)
def wsX0_mayBe : List Cond := .code yX0_mayBe cX0_mayBe 4 (some .boolean) :: ([.fieldLink RX0 9 "BallCourt$Book" "isKind" "[Z"] ++ wsX00)
def wsX0_countMayBe : List Cond := .code yX0_countMayBe cX0_countMayBe 5 (some .int) :: ([.fieldLink RX0 35 "BallCourt$Book" "numbers" "I", .methodLink RX0 58 yX0_mayBe, .instanceMethod yX0_mayBe, .selects RX0 yX0_mayBe yX0_mayBe, .initialized RX0, .code yX0_mayBe cX0_mayBe 4 (some .boolean), .fieldLink RX0 9 "BallCourt$Book" "isKind" "[Z"] ++ wsX00)
def wsX0_addLine : List Cond := .code yX0_addLine cX0_addLine 5 (some .int) :: ([.fieldLink RX0 38 "BallCourt$Book" "lines" "I", .fieldLink RX0 19 "BallCourt$Book" "must" "[I", .fieldLink RX0 22 "BallCourt$Book" "mustNot" "[I", .fieldLink RX0 25 "BallCourt$Book" "ruling" "[I", .fieldLink RX0 28 "BallCourt$Book" "excepters" "[I"] ++ wsX00)
def wsX0_excepts : List Cond := .code yX0_excepts cX0_excepts 3 (some .boolean) :: ([.fieldLink RX0 28 "BallCourt$Book" "excepters" "[I", .static yX5_hasBit, .initialized RX5, .code yX5_hasBit cX5_hasBit 2 (some .boolean)] ++ wsX00)
def wsX0_addException : List Cond := .code yX0_addException cX0_addException 3 none :: ([.fieldLink RX0 28 "BallCourt$Book" "excepters" "[I", .fieldLink RX0 44 "BallCourt$Book" "excepting" "I"] ++ wsX00)
def wsX0_isRepealed : List Cond := .code yX0_isRepealed cX0_isRepealed 2 (some .boolean) :: ([.fieldLink RX0 41 "BallCourt$Book" "repealed" "I", .static yX5_hasBit, .initialized RX5, .code yX5_hasBit cX5_hasBit 2 (some .boolean)] ++ wsX00)
def wsX0_repealedIfMended : List Cond := .code yX0_repealedIfMended cX0_repealedIfMended 2 (some .int) :: ([.fieldLink RX0 41 "BallCourt$Book" "repealed" "I"] ++ wsX00)
def wsX0_holding : List Cond := .code yX0_holding cX0_holding 6 (some .int) :: ([.fieldLink RX0 38 "BallCourt$Book" "lines" "I", .fieldLink RX0 19 "BallCourt$Book" "must" "[I", .fieldLink RX0 22 "BallCourt$Book" "mustNot" "[I", .fieldLink RX0 28 "BallCourt$Book" "excepters" "[I", .static yX5_hasBit, .initialized RX5, .code yX5_hasBit cX5_hasBit 2 (some .boolean)] ++ wsX00)
def wsX0_lawLine : List Cond := .code yX0_lawLine cX0_lawLine 5 (some .int) :: ([.fieldLink RX0 44 "BallCourt$Book" "excepting" "I", .fieldLink RX0 38 "BallCourt$Book" "lines" "I", .methodLink RX0 62 yX0_holding, .instanceMethod yX0_holding, .selects RX0 yX0_holding yX0_holding, .initialized RX0, .code yX0_holding cX0_holding 6 (some .int), .fieldLink RX0 19 "BallCourt$Book" "must" "[I", .fieldLink RX0 22 "BallCourt$Book" "mustNot" "[I", .fieldLink RX0 28 "BallCourt$Book" "excepters" "[I", .static yX5_hasBit, .initialized RX5, .code yX5_hasBit cX5_hasBit 2 (some .boolean)] ++ wsX00)
def wsX0_namedBy : List Cond := .code yX0_namedBy cX0_namedBy 5 (some .int) :: ([.fieldLink RX0 38 "BallCourt$Book" "lines" "I", .fieldLink RX0 19 "BallCourt$Book" "must" "[I", .fieldLink RX0 22 "BallCourt$Book" "mustNot" "[I", .fieldLink RX0 28 "BallCourt$Book" "excepters" "[I", .fieldLink RX0 41 "BallCourt$Book" "repealed" "I", .static yX5_hasBit, .initialized RX5, .code yX5_hasBit cX5_hasBit 2 (some .boolean)] ++ wsX00)
def wsX1_init : List Cond := .code yX1_init cX1_init 1 none :: ([.methodLink RX1 3 objectInit, .instanceMethod objectInit, .code objectInit ⟨#[0xb1]⟩ 1 none, .arrayClass .int, .fieldLink RX1 9 "BallCourt$Cases" "kind" "[I", .fieldLink RX1 15 "BallCourt$Cases" "ruling" "[I", .fieldLink RX1 18 "BallCourt$Cases" "names" "[I"] ++ wsX10)
def wsX1_has : List Cond := .code yX1_has cX1_has 2 (some .boolean) :: ([.fieldLink RX1 21 "BallCourt$Cases" "count" "I"] ++ wsX10)
def wsX1_add : List Cond := .code yX1_add cX1_add 5 (some .int) :: ([.fieldLink RX1 21 "BallCourt$Cases" "count" "I", .fieldLink RX1 9 "BallCourt$Cases" "kind" "[I", .fieldLink RX1 15 "BallCourt$Cases" "ruling" "[I", .fieldLink RX1 18 "BallCourt$Cases" "names" "[I"] ++ wsX10)
def wsX1_firstThatBinds : List Cond := .code yX1_firstThatBinds cX1_firstThatBinds 6 (some .int) :: ([.fieldLink RX1 21 "BallCourt$Cases" "count" "I", .fieldLink RX1 18 "BallCourt$Cases" "names" "[I", .fieldLink RX1 9 "BallCourt$Cases" "kind" "[I"] ++ wsX10)
def wsX2_init : List Cond := .code yX2_init cX2_init 1 none :: ([.methodLink RX2 3 objectInit, .instanceMethod objectInit, .code objectInit ⟨#[0xb1]⟩ 1 none])
def wsX2_begin : List Cond := .code yX2_begin cX2_begin 2 none :: ([.fieldLink RX2 9 "BallCourt$Game" "toWin" "I", .fieldLink RX2 15 "BallCourt$Game" "hoopsOf0" "I", .fieldLink RX2 18 "BallCourt$Game" "hoopsOf1" "I", .fieldLink RX2 21 "BallCourt$Game" "striker" "I"] ++ wsX20)
def wsX2_winner : List Cond := .code yX2_winner cX2_winner 1 (some .int) :: ([.fieldLink RX2 15 "BallCourt$Game" "hoopsOf0" "I", .fieldLink RX2 9 "BallCourt$Game" "toWin" "I", .fieldLink RX2 18 "BallCourt$Game" "hoopsOf1" "I"] ++ wsX20)
def wsX2_giveHoop : List Cond := .code yX2_giveHoop cX2_giveHoop 2 none :: ([.fieldLink RX2 15 "BallCourt$Game" "hoopsOf0" "I", .fieldLink RX2 18 "BallCourt$Game" "hoopsOf1" "I"] ++ wsX20)
def wsX2_play : List Cond := .code yX2_play cX2_play 2 none :: ([.fieldLink RX2 21 "BallCourt$Game" "striker" "I", .methodLink RX2 24 yX2_winner, .instanceMethod yX2_winner, .selects RX2 yX2_winner yX2_winner, .initialized RX2, .code yX2_winner cX2_winner 1 (some .int), .fieldLink RX2 15 "BallCourt$Game" "hoopsOf0" "I", .fieldLink RX2 9 "BallCourt$Game" "toWin" "I", .fieldLink RX2 18 "BallCourt$Game" "hoopsOf1" "I", .methodLink RX2 28 yX2_giveHoop, .instanceMethod yX2_giveHoop, .selects RX2 yX2_giveHoop yX2_giveHoop, .code yX2_giveHoop cX2_giveHoop 2 none] ++ wsX20)
def wsX2_standsAs : List Cond := .code yX2_standsAs cX2_standsAs 2 (some .boolean) :: ([.fieldLink RX2 15 "BallCourt$Game" "hoopsOf0" "I", .fieldLink RX2 18 "BallCourt$Game" "hoopsOf1" "I", .fieldLink RX2 21 "BallCourt$Game" "striker" "I", .methodLink RX2 24 yX2_winner, .instanceMethod yX2_winner, .selects RX2 yX2_winner yX2_winner, .initialized RX2, .code yX2_winner cX2_winner 1 (some .int), .fieldLink RX2 9 "BallCourt$Game" "toWin" "I"] ++ wsX20)
def wsX3_init : List Cond := .code yX3_init cX3_init 2 none :: ([.methodLink RX3 3 objectInit, .instanceMethod objectInit, .code objectInit ⟨#[0xb1]⟩ 1 none, .arrayClass .int, .fieldLink RX3 9 "BallCourt$Laws" "lineOf" "[I", .fieldLink RX3 15 "BallCourt$Laws" "book" "LBallCourt$Book;"] ++ wsX30)
def wsX3_work : List Cond := .code yX3_work cX3_work 3 none :: ([.fieldLink RX3 15 "BallCourt$Laws" "book" "LBallCourt$Book;", .fieldLink RX3 9 "BallCourt$Laws" "lineOf" "[I", .methodLink RX3 25 yX0_lawLine, .instanceMethod yX0_lawLine, .selects RX0 yX0_lawLine yX0_lawLine, .initialized RX0, .code yX0_lawLine cX0_lawLine 5 (some .int), .fieldLink RX0 44 "BallCourt$Book" "excepting" "I", .fieldLink RX0 38 "BallCourt$Book" "lines" "I", .methodLink RX0 62 yX0_holding, .instanceMethod yX0_holding, .selects RX0 yX0_holding yX0_holding, .code yX0_holding cX0_holding 6 (some .int), .fieldLink RX0 19 "BallCourt$Book" "must" "[I", .fieldLink RX0 22 "BallCourt$Book" "mustNot" "[I", .fieldLink RX0 28 "BallCourt$Book" "excepters" "[I", .static yX5_hasBit, .initialized RX5, .code yX5_hasBit cX5_hasBit 2 (some .boolean)] ++ wsX30 ++ wsX00)
def wsX3_covers : List Cond := .code yX3_covers cX3_covers 2 (some .boolean) :: ([.fieldLink RX3 9 "BallCourt$Laws" "lineOf" "[I"] ++ wsX30)
def wsX3_rulingFor : List Cond := .code yX3_rulingFor cX3_rulingFor 2 (some .int) :: ([.fieldLink RX3 15 "BallCourt$Laws" "book" "LBallCourt$Book;", .fieldLink RX3 9 "BallCourt$Laws" "lineOf" "[I", .methodLink RX3 29 yX3_covers, .instanceMethod yX3_covers, .selects RX3 yX3_covers yX3_covers, .initialized RX3, .code yX3_covers cX3_covers 2 (some .boolean)] ++ wsX30 ++ wsX00)
def wsX3_differFor : List Cond := .code yX3_differFor cX3_differFor 3 (some .boolean) :: ([.methodLink RX3 36 yX3_rulingFor, .instanceMethod yX3_rulingFor, .selects RX3 yX3_rulingFor yX3_rulingFor, .initialized RX3, .code yX3_rulingFor cX3_rulingFor 2 (some .int), .fieldLink RX3 15 "BallCourt$Laws" "book" "LBallCourt$Book;", .fieldLink RX3 9 "BallCourt$Laws" "lineOf" "[I", .methodLink RX3 29 yX3_covers, .instanceMethod yX3_covers, .selects RX3 yX3_covers yX3_covers, .code yX3_covers cX3_covers 2 (some .boolean)] ++ wsX30 ++ wsX00)
def wsX3_countMayBeRuled : List Cond := .code yX3_countMayBeRuled cX3_countMayBeRuled 6 (some .int) :: ([.fieldLink RX3 15 "BallCourt$Laws" "book" "LBallCourt$Book;", .methodLink RX3 40 yX0_mayBe, .instanceMethod yX0_mayBe, .selects RX0 yX0_mayBe yX0_mayBe, .initialized RX0, .code yX0_mayBe cX0_mayBe 4 (some .boolean), .fieldLink RX0 9 "BallCourt$Book" "isKind" "[Z", .methodLink RX3 36 yX3_rulingFor, .instanceMethod yX3_rulingFor, .selects RX3 yX3_rulingFor yX3_rulingFor, .initialized RX3, .code yX3_rulingFor cX3_rulingFor 2 (some .int), .fieldLink RX3 9 "BallCourt$Laws" "lineOf" "[I", .methodLink RX3 29 yX3_covers, .instanceMethod yX3_covers, .selects RX3 yX3_covers yX3_covers, .code yX3_covers cX3_covers 2 (some .boolean)] ++ wsX30 ++ wsX00)
def wsX3_rulingForAll : List Cond := .code yX3_rulingForAll cX3_rulingForAll 6 (some .int) :: ([.fieldLink RX3 15 "BallCourt$Laws" "book" "LBallCourt$Book;", .methodLink RX3 40 yX0_mayBe, .instanceMethod yX0_mayBe, .selects RX0 yX0_mayBe yX0_mayBe, .initialized RX0, .code yX0_mayBe cX0_mayBe 4 (some .boolean), .fieldLink RX0 9 "BallCourt$Book" "isKind" "[Z", .methodLink RX3 36 yX3_rulingFor, .instanceMethod yX3_rulingFor, .selects RX3 yX3_rulingFor yX3_rulingFor, .initialized RX3, .code yX3_rulingFor cX3_rulingFor 2 (some .int), .fieldLink RX3 9 "BallCourt$Laws" "lineOf" "[I", .methodLink RX3 29 yX3_covers, .instanceMethod yX3_covers, .selects RX3 yX3_covers yX3_covers, .code yX3_covers cX3_covers 2 (some .boolean)] ++ wsX30 ++ wsX00)
def wsX4_init : List Cond := .code yX4_init cX4_init 1 none :: ([.methodLink RX4 3 objectInit, .instanceMethod objectInit, .code objectInit ⟨#[0xb1]⟩ 1 none, .arrayClass .int, .fieldLink RX4 9 "BallCourt$Moments" "toldSo" "[I", .fieldLink RX4 15 "BallCourt$Moments" "toldNotSo" "[I", .fieldLink RX4 18 "BallCourt$Moments" "ruled" "[I"] ++ wsX40)
def wsX4_has : List Cond := .code yX4_has cX4_has 2 (some .boolean) :: ([.fieldLink RX4 21 "BallCourt$Moments" "count" "I"] ++ wsX40)
def wsX4_add : List Cond := .code yX4_add cX4_add 3 (some .int) :: ([.fieldLink RX4 21 "BallCourt$Moments" "count" "I", .fieldLink RX4 9 "BallCourt$Moments" "toldSo" "[I", .fieldLink RX4 15 "BallCourt$Moments" "toldNotSo" "[I", .fieldLink RX4 18 "BallCourt$Moments" "ruled" "[I"] ++ wsX40)
def wsX4_hear : List Cond := .code yX4_hear cX4_hear 7 (some .int) :: ([.fieldLink RX4 9 "BallCourt$Moments" "toldSo" "[I", .fieldLink RX4 15 "BallCourt$Moments" "toldNotSo" "[I", .static yX5_hasBit, .initialized RX5, .code yX5_hasBit cX5_hasBit 2 (some .boolean)] ++ wsX40)
def wsX4_ofAll : List Cond := .code yX4_ofAll cX4_ofAll 4 (some .int) :: ([])
def wsX4_knownSo : List Cond := .code yX4_knownSo cX4_knownSo 2 (some .int) :: ([.fieldLink RX4 9 "BallCourt$Moments" "toldSo" "[I", .fieldLink RX4 15 "BallCourt$Moments" "toldNotSo" "[I", .methodLink RX4 29 yX4_ofAll, .static yX4_ofAll, .initialized RX4, .code yX4_ofAll cX4_ofAll 4 (some .int)] ++ wsX40)
def wsX4_knownNotSo : List Cond := .code yX4_knownNotSo cX4_knownNotSo 2 (some .int) :: ([.fieldLink RX4 15 "BallCourt$Moments" "toldNotSo" "[I", .fieldLink RX4 9 "BallCourt$Moments" "toldSo" "[I", .methodLink RX4 29 yX4_ofAll, .static yX4_ofAll, .initialized RX4, .code yX4_ofAll cX4_ofAll 4 (some .int)] ++ wsX40)
def wsX5_beginAnew_r1 : List Cond := [Cond.fieldLink RX5 10 "BallCourt" "book" "LBallCourt$Book;", Cond.fieldLink RX5 31 "BallCourt" "played" "LBallCourt$Moments;", Cond.fieldLink RX5 38 "BallCourt" "cases" "LBallCourt$Cases;", Cond.fieldLink RX5 21 "BallCourt" "laws" "LBallCourt$Laws;", Cond.methodLink RX5 60 yX0_begin, Cond.instanceMethod yX0_begin, Cond.selects RX0 yX0_begin yX0_begin, Cond.initialized RX0, Cond.code yX0_begin cX0_begin 3 none, Cond.fieldLink RX0 31 "BallCourt$Book" "facts" "I", Cond.fieldLink RX0 35 "BallCourt$Book" "numbers" "I", Cond.fieldLink RX0 38 "BallCourt$Book" "lines" "I", Cond.fieldLink RX0 41 "BallCourt$Book" "repealed" "I", Cond.fieldLink RX0 44 "BallCourt$Book" "excepting" "I", Cond.fieldLink RX0 15 "BallCourt$Book" "barredWith" "[I", Cond.methodLink RX0 47 yX0_workKinds, Cond.instanceMethod yX0_workKinds, Cond.selects RX0 yX0_workKinds yX0_workKinds, Cond.code yX0_workKinds cX0_workKinds 2 none, Cond.fieldLink RX0 9 "BallCourt$Book" "isKind" "[Z", Cond.methodLink RX0 54 yX0_hasBarredPair, Cond.instanceMethod yX0_hasBarredPair, Cond.selects RX0 yX0_hasBarredPair yX0_hasBarredPair, Cond.code yX0_hasBarredPair cX0_hasBarredPair 3 (some .boolean)]
def wsX5_beginAnew_r2 : List Cond := [Cond.static yX5_hasBit, Cond.initialized RX5, Cond.code yX5_hasBit cX5_hasBit 2 (some .boolean), Cond.methodLink RX5 70 yX3_work, Cond.instanceMethod yX3_work, Cond.selects RX3 yX3_work yX3_work, Cond.initialized RX3, Cond.code yX3_work cX3_work 3 none, Cond.fieldLink RX3 15 "BallCourt$Laws" "book" "LBallCourt$Book;", Cond.fieldLink RX3 9 "BallCourt$Laws" "lineOf" "[I", Cond.methodLink RX3 25 yX0_lawLine, Cond.instanceMethod yX0_lawLine, Cond.selects RX0 yX0_lawLine yX0_lawLine, Cond.code yX0_lawLine cX0_lawLine 5 (some .int), Cond.methodLink RX0 62 yX0_holding, Cond.instanceMethod yX0_holding, Cond.selects RX0 yX0_holding yX0_holding, Cond.code yX0_holding cX0_holding 6 (some .int), Cond.fieldLink RX0 19 "BallCourt$Book" "must" "[I", Cond.fieldLink RX0 22 "BallCourt$Book" "mustNot" "[I", Cond.fieldLink RX0 28 "BallCourt$Book" "excepters" "[I"]
def wsX5_beginAnew : List Cond := .code yX5_beginAnew cX5_beginAnew 2 none :: ((wsX5_beginAnew_r1 ++ wsX5_beginAnew_r2) ++ wsX50 ++ wsX40 ++ wsX10 ++ wsX00 ++ wsX30)
def wsX5_init_r1 : List Cond := [Cond.methodLink RX5 1 objectInit, Cond.instanceMethod objectInit, Cond.code objectInit ⟨#[0xb1]⟩ 1 none, Cond.classLink RX5 7 RX0, Cond.instantiable RX0 11, Cond.initialized RX0, Cond.fieldLink RX5 10 "BallCourt" "book" "LBallCourt$Book;", Cond.classLink RX5 16 RX3, Cond.instantiable RX3 2, Cond.initialized RX3, Cond.fieldLink RX5 21 "BallCourt" "laws" "LBallCourt$Laws;", Cond.fieldLink RX5 25 "BallCourt" "lawsIfMended" "LBallCourt$Laws;", Cond.classLink RX5 28 RX4, Cond.instantiable RX4 4, Cond.initialized RX4, Cond.fieldLink RX5 31 "BallCourt" "played" "LBallCourt$Moments;", Cond.classLink RX5 35 RX1, Cond.instantiable RX1 4, Cond.initialized RX1, Cond.fieldLink RX5 38 "BallCourt" "cases" "LBallCourt$Cases;", Cond.classLink RX5 42 RX2, Cond.instantiable RX2 4, Cond.initialized RX2, Cond.fieldLink RX5 45 "BallCourt" "game" "LBallCourt$Game;"]
def wsX5_init_r2 : List Cond := [Cond.fieldLink RX5 49 "BallCourt" "gameIfRuled" "LBallCourt$Game;", Cond.fieldLink RX5 52 "BallCourt" "hoopsToWin" "I", Cond.instanceMethod yX0_init, Cond.code yX0_init cX0_init 1 none, Cond.methodLink RX0 3 objectInit, Cond.arrayClass .boolean, Cond.fieldLink RX0 9 "BallCourt$Book" "isKind" "[Z", Cond.arrayClass .int, Cond.fieldLink RX0 15 "BallCourt$Book" "barredWith" "[I", Cond.fieldLink RX0 19 "BallCourt$Book" "must" "[I", Cond.fieldLink RX0 22 "BallCourt$Book" "mustNot" "[I", Cond.fieldLink RX0 25 "BallCourt$Book" "ruling" "[I", Cond.fieldLink RX0 28 "BallCourt$Book" "excepters" "[I", Cond.methodLink RX5 18 yX3_init, Cond.instanceMethod yX3_init, Cond.code yX3_init cX3_init 2 none, Cond.methodLink RX3 3 objectInit, Cond.fieldLink RX3 9 "BallCourt$Laws" "lineOf" "[I", Cond.fieldLink RX3 15 "BallCourt$Laws" "book" "LBallCourt$Book;", Cond.instanceMethod yX4_init, Cond.code yX4_init cX4_init 1 none, Cond.methodLink RX4 3 objectInit, Cond.fieldLink RX4 9 "BallCourt$Moments" "toldSo" "[I", Cond.fieldLink RX4 15 "BallCourt$Moments" "toldNotSo" "[I"]
def wsX5_init_r3 : List Cond := [Cond.fieldLink RX4 18 "BallCourt$Moments" "ruled" "[I", Cond.instanceMethod yX1_init, Cond.code yX1_init cX1_init 1 none, Cond.methodLink RX1 3 objectInit, Cond.fieldLink RX1 9 "BallCourt$Cases" "kind" "[I", Cond.fieldLink RX1 15 "BallCourt$Cases" "ruling" "[I", Cond.fieldLink RX1 18 "BallCourt$Cases" "names" "[I", Cond.instanceMethod yX2_init, Cond.code yX2_init cX2_init 1 none, Cond.methodLink RX2 3 objectInit, Cond.methodLink RX5 56 yX5_beginAnew, Cond.instanceMethod yX5_beginAnew, Cond.selects RX5 yX5_beginAnew yX5_beginAnew, Cond.initialized RX5, Cond.code yX5_beginAnew cX5_beginAnew 2 none, Cond.methodLink RX5 60 yX0_begin, Cond.instanceMethod yX0_begin, Cond.selects RX0 yX0_begin yX0_begin, Cond.code yX0_begin cX0_begin 3 none, Cond.fieldLink RX0 31 "BallCourt$Book" "facts" "I", Cond.fieldLink RX0 35 "BallCourt$Book" "numbers" "I", Cond.fieldLink RX0 38 "BallCourt$Book" "lines" "I", Cond.fieldLink RX0 41 "BallCourt$Book" "repealed" "I", Cond.fieldLink RX0 44 "BallCourt$Book" "excepting" "I"]
def wsX5_init_r4 : List Cond := [Cond.methodLink RX0 47 yX0_workKinds, Cond.instanceMethod yX0_workKinds, Cond.selects RX0 yX0_workKinds yX0_workKinds, Cond.code yX0_workKinds cX0_workKinds 2 none, Cond.methodLink RX0 54 yX0_hasBarredPair, Cond.instanceMethod yX0_hasBarredPair, Cond.selects RX0 yX0_hasBarredPair yX0_hasBarredPair, Cond.code yX0_hasBarredPair cX0_hasBarredPair 3 (some .boolean), Cond.static yX5_hasBit, Cond.code yX5_hasBit cX5_hasBit 2 (some .boolean), Cond.methodLink RX5 70 yX3_work, Cond.instanceMethod yX3_work, Cond.selects RX3 yX3_work yX3_work, Cond.code yX3_work cX3_work 3 none, Cond.methodLink RX3 25 yX0_lawLine, Cond.instanceMethod yX0_lawLine, Cond.selects RX0 yX0_lawLine yX0_lawLine, Cond.code yX0_lawLine cX0_lawLine 5 (some .int), Cond.methodLink RX0 62 yX0_holding, Cond.instanceMethod yX0_holding, Cond.selects RX0 yX0_holding yX0_holding, Cond.code yX0_holding cX0_holding 6 (some .int)]
def wsX5_init : List Cond := .code yX5_init cX5_init 1 none :: ((wsX5_init_r1 ++ (wsX5_init_r2 ++ (wsX5_init_r3 ++ wsX5_init_r4))) ++ wsX00 ++ wsX50 ++ wsX30 ++ wsX40 ++ wsX10 ++ wsX20)
def wsX5_facts_r1 : List Cond := [Cond.fieldLink RX5 10 "BallCourt" "book" "LBallCourt$Book;", Cond.methodLink RX5 56 yX5_beginAnew, Cond.instanceMethod yX5_beginAnew, Cond.selects RX5 yX5_beginAnew yX5_beginAnew, Cond.initialized RX5, Cond.code yX5_beginAnew cX5_beginAnew 2 none, Cond.fieldLink RX5 31 "BallCourt" "played" "LBallCourt$Moments;", Cond.fieldLink RX5 38 "BallCourt" "cases" "LBallCourt$Cases;", Cond.fieldLink RX5 21 "BallCourt" "laws" "LBallCourt$Laws;", Cond.methodLink RX5 60 yX0_begin, Cond.instanceMethod yX0_begin, Cond.selects RX0 yX0_begin yX0_begin, Cond.initialized RX0, Cond.code yX0_begin cX0_begin 3 none, Cond.fieldLink RX0 31 "BallCourt$Book" "facts" "I", Cond.fieldLink RX0 35 "BallCourt$Book" "numbers" "I", Cond.fieldLink RX0 38 "BallCourt$Book" "lines" "I", Cond.fieldLink RX0 41 "BallCourt$Book" "repealed" "I", Cond.fieldLink RX0 44 "BallCourt$Book" "excepting" "I", Cond.fieldLink RX0 15 "BallCourt$Book" "barredWith" "[I", Cond.methodLink RX0 47 yX0_workKinds, Cond.instanceMethod yX0_workKinds, Cond.selects RX0 yX0_workKinds yX0_workKinds, Cond.code yX0_workKinds cX0_workKinds 2 none]
def wsX5_facts_r2 : List Cond := [Cond.fieldLink RX0 9 "BallCourt$Book" "isKind" "[Z", Cond.methodLink RX0 54 yX0_hasBarredPair, Cond.instanceMethod yX0_hasBarredPair, Cond.selects RX0 yX0_hasBarredPair yX0_hasBarredPair, Cond.code yX0_hasBarredPair cX0_hasBarredPair 3 (some .boolean), Cond.static yX5_hasBit, Cond.code yX5_hasBit cX5_hasBit 2 (some .boolean), Cond.methodLink RX5 70 yX3_work, Cond.instanceMethod yX3_work, Cond.selects RX3 yX3_work yX3_work, Cond.initialized RX3, Cond.code yX3_work cX3_work 3 none, Cond.fieldLink RX3 15 "BallCourt$Laws" "book" "LBallCourt$Book;", Cond.fieldLink RX3 9 "BallCourt$Laws" "lineOf" "[I", Cond.methodLink RX3 25 yX0_lawLine, Cond.instanceMethod yX0_lawLine, Cond.selects RX0 yX0_lawLine yX0_lawLine, Cond.code yX0_lawLine cX0_lawLine 5 (some .int), Cond.methodLink RX0 62 yX0_holding, Cond.instanceMethod yX0_holding, Cond.selects RX0 yX0_holding yX0_holding, Cond.code yX0_holding cX0_holding 6 (some .int), Cond.fieldLink RX0 19 "BallCourt$Book" "must" "[I", Cond.fieldLink RX0 22 "BallCourt$Book" "mustNot" "[I"]
def wsX5_facts_r3 : List Cond := [Cond.fieldLink RX0 28 "BallCourt$Book" "excepters" "[I"]
def wsX5_facts : List Cond := .code yX5_facts cX5_facts 3 (some .int) :: ((wsX5_facts_r1 ++ (wsX5_facts_r2 ++ wsX5_facts_r3)) ++ wsX50 ++ wsX00 ++ wsX40 ++ wsX10 ++ wsX30)
def wsX5_oneIf : List Cond := .code yX5_oneIf cX5_oneIf 1 (some .int) :: ([])
def wsX5_barred_r1 : List Cond := [Cond.fieldLink RX5 10 "BallCourt" "book" "LBallCourt$Book;", Cond.methodLink RX5 76 yX0_hasFact, Cond.instanceMethod yX0_hasFact, Cond.selects RX0 yX0_hasFact yX0_hasFact, Cond.initialized RX0, Cond.code yX0_hasFact cX0_hasFact 2 (some .boolean), Cond.fieldLink RX0 31 "BallCourt$Book" "facts" "I", Cond.methodLink RX5 80 yX0_areBarred, Cond.instanceMethod yX0_areBarred, Cond.selects RX0 yX0_areBarred yX0_areBarred, Cond.code yX0_areBarred cX0_areBarred 3 (some .boolean), Cond.fieldLink RX0 15 "BallCourt$Book" "barredWith" "[I", Cond.static yX5_hasBit, Cond.initialized RX5, Cond.code yX5_hasBit cX5_hasBit 2 (some .boolean), Cond.methodLink RX5 84 yX0_bar, Cond.instanceMethod yX0_bar, Cond.selects RX0 yX0_bar yX0_bar, Cond.code yX0_bar cX0_bar 4 none, Cond.methodLink RX0 47 yX0_workKinds, Cond.instanceMethod yX0_workKinds, Cond.selects RX0 yX0_workKinds yX0_workKinds, Cond.code yX0_workKinds cX0_workKinds 2 none, Cond.fieldLink RX0 35 "BallCourt$Book" "numbers" "I"]
def wsX5_barred_r2 : List Cond := [Cond.fieldLink RX0 9 "BallCourt$Book" "isKind" "[Z", Cond.methodLink RX0 54 yX0_hasBarredPair, Cond.instanceMethod yX0_hasBarredPair, Cond.selects RX0 yX0_hasBarredPair yX0_hasBarredPair, Cond.code yX0_hasBarredPair cX0_hasBarredPair 3 (some .boolean), Cond.methodLink RX5 88 yX5_oneIf, Cond.static yX5_oneIf, Cond.code yX5_oneIf cX5_oneIf 1 (some .int)]
def wsX5_barred : List Cond := .code yX5_barred cX5_barred 5 (some .int) :: ((wsX5_barred_r1 ++ wsX5_barred_r2) ++ wsX50 ++ wsX00)
def wsX5_isRuling : List Cond := .code yX5_isRuling cX5_isRuling 1 (some .boolean) :: ([])
def wsX5_line_r1 : List Cond := [Cond.fieldLink RX5 10 "BallCourt" "book" "LBallCourt$Book;", Cond.fieldLink RX5 21 "BallCourt" "laws" "LBallCourt$Laws;", Cond.methodLink RX5 92 yX0_areFacts, Cond.instanceMethod yX0_areFacts, Cond.selects RX0 yX0_areFacts yX0_areFacts, Cond.initialized RX0, Cond.code yX0_areFacts cX0_areFacts 2 (some .boolean), Cond.fieldLink RX0 35 "BallCourt$Book" "numbers" "I", Cond.methodLink RX5 95 yX5_isRuling, Cond.static yX5_isRuling, Cond.initialized RX5, Cond.code yX5_isRuling cX5_isRuling 1 (some .boolean), Cond.methodLink RX5 101 yX0_addLine, Cond.instanceMethod yX0_addLine, Cond.selects RX0 yX0_addLine yX0_addLine, Cond.code yX0_addLine cX0_addLine 5 (some .int), Cond.fieldLink RX0 38 "BallCourt$Book" "lines" "I", Cond.fieldLink RX0 19 "BallCourt$Book" "must" "[I", Cond.fieldLink RX0 22 "BallCourt$Book" "mustNot" "[I", Cond.fieldLink RX0 25 "BallCourt$Book" "ruling" "[I", Cond.fieldLink RX0 28 "BallCourt$Book" "excepters" "[I", Cond.methodLink RX5 70 yX3_work, Cond.instanceMethod yX3_work, Cond.selects RX3 yX3_work yX3_work]
def wsX5_line_r2 : List Cond := [Cond.initialized RX3, Cond.code yX3_work cX3_work 3 none, Cond.fieldLink RX3 15 "BallCourt$Laws" "book" "LBallCourt$Book;", Cond.fieldLink RX3 9 "BallCourt$Laws" "lineOf" "[I", Cond.methodLink RX3 25 yX0_lawLine, Cond.instanceMethod yX0_lawLine, Cond.selects RX0 yX0_lawLine yX0_lawLine, Cond.code yX0_lawLine cX0_lawLine 5 (some .int), Cond.fieldLink RX0 44 "BallCourt$Book" "excepting" "I", Cond.methodLink RX0 62 yX0_holding, Cond.instanceMethod yX0_holding, Cond.selects RX0 yX0_holding yX0_holding, Cond.code yX0_holding cX0_holding 6 (some .int), Cond.static yX5_hasBit, Cond.code yX5_hasBit cX5_hasBit 2 (some .boolean)]
def wsX5_line : List Cond := .code yX5_line cX5_line 5 (some .int) :: ((wsX5_line_r1 ++ wsX5_line_r2) ++ wsX50 ++ wsX00 ++ wsX30)
def wsJ6_bitCount_0f7a4 : List Cond := .code yJ6_bitCount_0f7a4 cJ6_bitCount_0f7a4 1 (some .int) :: ([.constant RJ6 265 (1431655765), .constant RJ6 266 (858993459), .constant RJ6 267 (252645135)])
def wsX5_except_r1 : List Cond := [Cond.fieldLink RX5 10 "BallCourt" "book" "LBallCourt$Book;", Cond.fieldLink RX5 21 "BallCourt" "laws" "LBallCourt$Laws;", Cond.methodLink RX5 105 yX0_hasLine, Cond.instanceMethod yX0_hasLine, Cond.selects RX0 yX0_hasLine yX0_hasLine, Cond.initialized RX0, Cond.code yX0_hasLine cX0_hasLine 2 (some .boolean), Cond.fieldLink RX0 38 "BallCourt$Book" "lines" "I", Cond.methodLink RX5 108 yX0_excepts, Cond.instanceMethod yX0_excepts, Cond.selects RX0 yX0_excepts yX0_excepts, Cond.code yX0_excepts cX0_excepts 3 (some .boolean), Cond.fieldLink RX0 28 "BallCourt$Book" "excepters" "[I", Cond.static yX5_hasBit, Cond.initialized RX5, Cond.code yX5_hasBit cX5_hasBit 2 (some .boolean), Cond.methodLink RX5 111 yX0_addException, Cond.instanceMethod yX0_addException, Cond.selects RX0 yX0_addException yX0_addException, Cond.code yX0_addException cX0_addException 3 none, Cond.fieldLink RX0 44 "BallCourt$Book" "excepting" "I", Cond.methodLink RX5 70 yX3_work, Cond.instanceMethod yX3_work, Cond.selects RX3 yX3_work yX3_work]
def wsX5_except_r2 : List Cond := [Cond.initialized RX3, Cond.code yX3_work cX3_work 3 none, Cond.fieldLink RX3 15 "BallCourt$Laws" "book" "LBallCourt$Book;", Cond.fieldLink RX3 9 "BallCourt$Laws" "lineOf" "[I", Cond.methodLink RX3 25 yX0_lawLine, Cond.instanceMethod yX0_lawLine, Cond.selects RX0 yX0_lawLine yX0_lawLine, Cond.code yX0_lawLine cX0_lawLine 5 (some .int), Cond.methodLink RX0 62 yX0_holding, Cond.instanceMethod yX0_holding, Cond.selects RX0 yX0_holding yX0_holding, Cond.code yX0_holding cX0_holding 6 (some .int), Cond.fieldLink RX0 19 "BallCourt$Book" "must" "[I", Cond.fieldLink RX0 22 "BallCourt$Book" "mustNot" "[I", Cond.methodLink RX5 119 yJ6_bitCount_0f7a4, Cond.static yJ6_bitCount_0f7a4, Cond.initialized RJ6, Cond.code yJ6_bitCount_0f7a4 cJ6_bitCount_0f7a4 1 (some .int), Cond.constant RJ6 265 (1431655765), Cond.constant RJ6 266 (858993459), Cond.constant RJ6 267 (252645135)]
def wsX5_except : List Cond := .code yX5_except cX5_except 3 (some .int) :: ((wsX5_except_r1 ++ wsX5_except_r2) ++ wsX50 ++ wsX00 ++ wsX30)
def wsX5_repeal_r1 : List Cond := [Cond.fieldLink RX5 10 "BallCourt" "book" "LBallCourt$Book;", Cond.fieldLink RX5 21 "BallCourt" "laws" "LBallCourt$Laws;", Cond.methodLink RX5 105 yX0_hasLine, Cond.instanceMethod yX0_hasLine, Cond.selects RX0 yX0_hasLine yX0_hasLine, Cond.initialized RX0, Cond.code yX0_hasLine cX0_hasLine 2 (some .boolean), Cond.fieldLink RX0 38 "BallCourt$Book" "lines" "I", Cond.methodLink RX5 125 yX0_isRepealed, Cond.instanceMethod yX0_isRepealed, Cond.selects RX0 yX0_isRepealed yX0_isRepealed, Cond.code yX0_isRepealed cX0_isRepealed 2 (some .boolean), Cond.fieldLink RX0 41 "BallCourt$Book" "repealed" "I", Cond.static yX5_hasBit, Cond.initialized RX5, Cond.code yX5_hasBit cX5_hasBit 2 (some .boolean), Cond.methodLink RX5 128 yX0_repealedIfMended, Cond.instanceMethod yX0_repealedIfMended, Cond.selects RX0 yX0_repealedIfMended yX0_repealedIfMended, Cond.code yX0_repealedIfMended cX0_repealedIfMended 2 (some .int), Cond.methodLink RX5 70 yX3_work, Cond.instanceMethod yX3_work, Cond.selects RX3 yX3_work yX3_work, Cond.initialized RX3]
def wsX5_repeal_r2 : List Cond := [Cond.code yX3_work cX3_work 3 none, Cond.fieldLink RX3 15 "BallCourt$Laws" "book" "LBallCourt$Book;", Cond.fieldLink RX3 9 "BallCourt$Laws" "lineOf" "[I", Cond.methodLink RX3 25 yX0_lawLine, Cond.instanceMethod yX0_lawLine, Cond.selects RX0 yX0_lawLine yX0_lawLine, Cond.code yX0_lawLine cX0_lawLine 5 (some .int), Cond.fieldLink RX0 44 "BallCourt$Book" "excepting" "I", Cond.methodLink RX0 62 yX0_holding, Cond.instanceMethod yX0_holding, Cond.selects RX0 yX0_holding yX0_holding, Cond.code yX0_holding cX0_holding 6 (some .int), Cond.fieldLink RX0 19 "BallCourt$Book" "must" "[I", Cond.fieldLink RX0 22 "BallCourt$Book" "mustNot" "[I", Cond.fieldLink RX0 28 "BallCourt$Book" "excepters" "[I", Cond.methodLink RX5 88 yX5_oneIf, Cond.static yX5_oneIf, Cond.code yX5_oneIf cX5_oneIf 1 (some .int)]
def wsX5_repeal : List Cond := .code yX5_repeal cX5_repeal 4 (some .int) :: ((wsX5_repeal_r1 ++ wsX5_repeal_r2) ++ wsX50 ++ wsX00 ++ wsX30)
def wsX5_about_r1 : List Cond := [Cond.fieldLink RX5 10 "BallCourt" "book" "LBallCourt$Book;", Cond.methodLink RX5 105 yX0_hasLine, Cond.instanceMethod yX0_hasLine, Cond.selects RX0 yX0_hasLine yX0_hasLine, Cond.initialized RX0, Cond.code yX0_hasLine cX0_hasLine 2 (some .boolean), Cond.fieldLink RX0 38 "BallCourt$Book" "lines" "I", Cond.methodLink RX5 125 yX0_isRepealed, Cond.instanceMethod yX0_isRepealed, Cond.selects RX0 yX0_isRepealed yX0_isRepealed, Cond.code yX0_isRepealed cX0_isRepealed 2 (some .boolean), Cond.fieldLink RX0 41 "BallCourt$Book" "repealed" "I", Cond.static yX5_hasBit, Cond.initialized RX5, Cond.code yX5_hasBit cX5_hasBit 2 (some .boolean), Cond.methodLink RX5 88 yX5_oneIf, Cond.static yX5_oneIf, Cond.code yX5_oneIf cX5_oneIf 1 (some .int), Cond.methodLink RX5 140 yX0_namedBy, Cond.instanceMethod yX0_namedBy, Cond.selects RX0 yX0_namedBy yX0_namedBy, Cond.code yX0_namedBy cX0_namedBy 5 (some .int), Cond.fieldLink RX0 19 "BallCourt$Book" "must" "[I", Cond.fieldLink RX0 22 "BallCourt$Book" "mustNot" "[I"]
def wsX5_about_r2 : List Cond := [Cond.fieldLink RX0 28 "BallCourt$Book" "excepters" "[I"]
def wsX5_about : List Cond := .code yX5_about cX5_about 3 (some .int) :: ((wsX5_about_r1 ++ wsX5_about_r2) ++ wsX50 ++ wsX00)
def wsX5_holds_r1 : List Cond := [Cond.fieldLink RX5 10 "BallCourt" "book" "LBallCourt$Book;", Cond.methodLink RX5 105 yX0_hasLine, Cond.instanceMethod yX0_hasLine, Cond.selects RX0 yX0_hasLine yX0_hasLine, Cond.initialized RX0, Cond.code yX0_hasLine cX0_hasLine 2 (some .boolean), Cond.fieldLink RX0 38 "BallCourt$Book" "lines" "I", Cond.methodLink RX5 143 yX0_hasKind, Cond.instanceMethod yX0_hasKind, Cond.selects RX0 yX0_hasKind yX0_hasKind, Cond.code yX0_hasKind cX0_hasKind 2 (some .boolean), Cond.fieldLink RX0 35 "BallCourt$Book" "numbers" "I", Cond.fieldLink RX0 9 "BallCourt$Book" "isKind" "[Z", Cond.methodLink RX5 146 yX0_holding, Cond.instanceMethod yX0_holding, Cond.selects RX0 yX0_holding yX0_holding, Cond.code yX0_holding cX0_holding 6 (some .int), Cond.fieldLink RX0 19 "BallCourt$Book" "must" "[I", Cond.fieldLink RX0 22 "BallCourt$Book" "mustNot" "[I", Cond.fieldLink RX0 28 "BallCourt$Book" "excepters" "[I", Cond.static yX5_hasBit, Cond.initialized RX5, Cond.code yX5_hasBit cX5_hasBit 2 (some .boolean), Cond.methodLink RX5 150 yX5_hasBit]
def wsX5_holds_r2 : List Cond := [Cond.methodLink RX5 88 yX5_oneIf, Cond.static yX5_oneIf, Cond.code yX5_oneIf cX5_oneIf 1 (some .int)]
def wsX5_holds : List Cond := .code yX5_holds cX5_holds 3 (some .int) :: ((wsX5_holds_r1 ++ wsX5_holds_r2) ++ wsX50 ++ wsX00)
def wsX5_law : List Cond := .code yX5_law cX5_law 3 (some .int) :: ([.fieldLink RX5 10 "BallCourt" "book" "LBallCourt$Book;", .fieldLink RX5 21 "BallCourt" "laws" "LBallCourt$Laws;", .methodLink RX5 143 yX0_hasKind, .instanceMethod yX0_hasKind, .selects RX0 yX0_hasKind yX0_hasKind, .initialized RX0, .code yX0_hasKind cX0_hasKind 2 (some .boolean), .fieldLink RX0 35 "BallCourt$Book" "numbers" "I", .fieldLink RX0 9 "BallCourt$Book" "isKind" "[Z", .methodLink RX5 156 yX3_rulingFor, .instanceMethod yX3_rulingFor, .selects RX3 yX3_rulingFor yX3_rulingFor, .initialized RX3, .code yX3_rulingFor cX3_rulingFor 2 (some .int), .fieldLink RX3 15 "BallCourt$Laws" "book" "LBallCourt$Book;", .fieldLink RX3 9 "BallCourt$Laws" "lineOf" "[I", .methodLink RX3 29 yX3_covers, .instanceMethod yX3_covers, .selects RX3 yX3_covers yX3_covers, .code yX3_covers cX3_covers 2 (some .boolean)] ++ wsX50 ++ wsX30 ++ wsX00)
def wsX5_open : List Cond := .code yX5_open cX5_open 4 (some .int) :: ([.fieldLink RX5 10 "BallCourt" "book" "LBallCourt$Book;", .fieldLink RX5 21 "BallCourt" "laws" "LBallCourt$Laws;", .methodLink RX5 143 yX0_hasKind, .instanceMethod yX0_hasKind, .selects RX0 yX0_hasKind yX0_hasKind, .initialized RX0, .code yX0_hasKind cX0_hasKind 2 (some .boolean), .fieldLink RX0 35 "BallCourt$Book" "numbers" "I", .fieldLink RX0 9 "BallCourt$Book" "isKind" "[Z", .methodLink RX5 162 yX3_covers, .instanceMethod yX3_covers, .selects RX3 yX3_covers yX3_covers, .initialized RX3, .code yX3_covers cX3_covers 2 (some .boolean), .fieldLink RX3 9 "BallCourt$Laws" "lineOf" "[I"] ++ wsX50 ++ wsX00 ++ wsX30)
def wsX5_turnedKinds_r1 : List Cond := [Cond.fieldLink RX5 10 "BallCourt" "book" "LBallCourt$Book;", Cond.fieldLink RX5 21 "BallCourt" "laws" "LBallCourt$Laws;", Cond.fieldLink RX5 25 "BallCourt" "lawsIfMended" "LBallCourt$Laws;", Cond.methodLink RX5 143 yX0_hasKind, Cond.instanceMethod yX0_hasKind, Cond.selects RX0 yX0_hasKind yX0_hasKind, Cond.initialized RX0, Cond.code yX0_hasKind cX0_hasKind 2 (some .boolean), Cond.fieldLink RX0 35 "BallCourt$Book" "numbers" "I", Cond.fieldLink RX0 9 "BallCourt$Book" "isKind" "[Z", Cond.methodLink RX5 246 yX3_differFor, Cond.instanceMethod yX3_differFor, Cond.selects RX3 yX3_differFor yX3_differFor, Cond.initialized RX3, Cond.code yX3_differFor cX3_differFor 3 (some .boolean), Cond.methodLink RX3 36 yX3_rulingFor, Cond.instanceMethod yX3_rulingFor, Cond.selects RX3 yX3_rulingFor yX3_rulingFor, Cond.code yX3_rulingFor cX3_rulingFor 2 (some .int), Cond.fieldLink RX3 15 "BallCourt$Laws" "book" "LBallCourt$Book;", Cond.fieldLink RX3 9 "BallCourt$Laws" "lineOf" "[I", Cond.methodLink RX3 29 yX3_covers, Cond.instanceMethod yX3_covers, Cond.selects RX3 yX3_covers yX3_covers]
def wsX5_turnedKinds_r2 : List Cond := [Cond.code yX3_covers cX3_covers 2 (some .boolean)]
def wsX5_turnedKinds : List Cond := .code yX5_turnedKinds cX5_turnedKinds 3 (some .int) :: ((wsX5_turnedKinds_r1 ++ wsX5_turnedKinds_r2) ++ wsX50 ++ wsX00 ++ wsX30)
def wsX5_idle_r1 : List Cond := [Cond.fieldLink RX5 10 "BallCourt" "book" "LBallCourt$Book;", Cond.fieldLink RX5 25 "BallCourt" "lawsIfMended" "LBallCourt$Laws;", Cond.methodLink RX5 105 yX0_hasLine, Cond.instanceMethod yX0_hasLine, Cond.selects RX0 yX0_hasLine yX0_hasLine, Cond.initialized RX0, Cond.code yX0_hasLine cX0_hasLine 2 (some .boolean), Cond.fieldLink RX0 38 "BallCourt$Book" "lines" "I", Cond.methodLink RX5 128 yX0_repealedIfMended, Cond.instanceMethod yX0_repealedIfMended, Cond.selects RX0 yX0_repealedIfMended yX0_repealedIfMended, Cond.code yX0_repealedIfMended cX0_repealedIfMended 2 (some .int), Cond.fieldLink RX0 41 "BallCourt$Book" "repealed" "I", Cond.methodLink RX5 70 yX3_work, Cond.instanceMethod yX3_work, Cond.selects RX3 yX3_work yX3_work, Cond.initialized RX3, Cond.code yX3_work cX3_work 3 none, Cond.fieldLink RX3 15 "BallCourt$Laws" "book" "LBallCourt$Book;", Cond.fieldLink RX3 9 "BallCourt$Laws" "lineOf" "[I", Cond.methodLink RX3 25 yX0_lawLine, Cond.instanceMethod yX0_lawLine, Cond.selects RX0 yX0_lawLine yX0_lawLine, Cond.code yX0_lawLine cX0_lawLine 5 (some .int)]
def wsX5_idle_r2 : List Cond := [Cond.fieldLink RX0 44 "BallCourt$Book" "excepting" "I", Cond.methodLink RX0 62 yX0_holding, Cond.instanceMethod yX0_holding, Cond.selects RX0 yX0_holding yX0_holding, Cond.code yX0_holding cX0_holding 6 (some .int), Cond.fieldLink RX0 19 "BallCourt$Book" "must" "[I", Cond.fieldLink RX0 22 "BallCourt$Book" "mustNot" "[I", Cond.fieldLink RX0 28 "BallCourt$Book" "excepters" "[I", Cond.static yX5_hasBit, Cond.initialized RX5, Cond.code yX5_hasBit cX5_hasBit 2 (some .boolean), Cond.methodLink RX5 165 yX5_turnedKinds, Cond.instanceMethod yX5_turnedKinds, Cond.selects RX5 yX5_turnedKinds yX5_turnedKinds, Cond.code yX5_turnedKinds cX5_turnedKinds 3 (some .int), Cond.fieldLink RX5 21 "BallCourt" "laws" "LBallCourt$Laws;", Cond.methodLink RX5 143 yX0_hasKind, Cond.instanceMethod yX0_hasKind, Cond.selects RX0 yX0_hasKind yX0_hasKind, Cond.code yX0_hasKind cX0_hasKind 2 (some .boolean), Cond.fieldLink RX0 35 "BallCourt$Book" "numbers" "I", Cond.fieldLink RX0 9 "BallCourt$Book" "isKind" "[Z", Cond.methodLink RX5 246 yX3_differFor, Cond.instanceMethod yX3_differFor]
def wsX5_idle_r3 : List Cond := [Cond.selects RX3 yX3_differFor yX3_differFor, Cond.code yX3_differFor cX3_differFor 3 (some .boolean), Cond.methodLink RX3 36 yX3_rulingFor, Cond.instanceMethod yX3_rulingFor, Cond.selects RX3 yX3_rulingFor yX3_rulingFor, Cond.code yX3_rulingFor cX3_rulingFor 2 (some .int), Cond.methodLink RX3 29 yX3_covers, Cond.instanceMethod yX3_covers, Cond.selects RX3 yX3_covers yX3_covers, Cond.code yX3_covers cX3_covers 2 (some .boolean), Cond.methodLink RX5 88 yX5_oneIf, Cond.static yX5_oneIf, Cond.code yX5_oneIf cX5_oneIf 1 (some .int)]
def wsX5_idle : List Cond := .code yX5_idle cX5_idle 2 (some .int) :: ((wsX5_idle_r1 ++ (wsX5_idle_r2 ++ wsX5_idle_r3)) ++ wsX50 ++ wsX00 ++ wsX30)
def wsX5_moment : List Cond := .code yX5_moment cX5_moment 1 (some .int) :: ([.fieldLink RX5 31 "BallCourt" "played" "LBallCourt$Moments;", .methodLink RX5 169 yX4_add, .instanceMethod yX4_add, .selects RX4 yX4_add yX4_add, .initialized RX4, .code yX4_add cX4_add 3 (some .int), .fieldLink RX4 21 "BallCourt$Moments" "count" "I", .fieldLink RX4 9 "BallCourt$Moments" "toldSo" "[I", .fieldLink RX4 15 "BallCourt$Moments" "toldNotSo" "[I", .fieldLink RX4 18 "BallCourt$Moments" "ruled" "[I"] ++ wsX50 ++ wsX40)
def wsX5_tell : List Cond := .code yX5_tell cX5_tell 5 (some .int) :: ([.fieldLink RX5 31 "BallCourt" "played" "LBallCourt$Moments;", .fieldLink RX5 10 "BallCourt" "book" "LBallCourt$Book;", .methodLink RX5 172 yX4_has, .instanceMethod yX4_has, .selects RX4 yX4_has yX4_has, .initialized RX4, .code yX4_has cX4_has 2 (some .boolean), .fieldLink RX4 21 "BallCourt$Moments" "count" "I", .methodLink RX5 76 yX0_hasFact, .instanceMethod yX0_hasFact, .selects RX0 yX0_hasFact yX0_hasFact, .initialized RX0, .code yX0_hasFact cX0_hasFact 2 (some .boolean), .fieldLink RX0 31 "BallCourt$Book" "facts" "I", .methodLink RX5 175 yX4_hear, .instanceMethod yX4_hear, .selects RX4 yX4_hear yX4_hear, .code yX4_hear cX4_hear 7 (some .int), .fieldLink RX4 9 "BallCourt$Moments" "toldSo" "[I", .fieldLink RX4 15 "BallCourt$Moments" "toldNotSo" "[I", .static yX5_hasBit, .initialized RX5, .code yX5_hasBit cX5_hasBit 2 (some .boolean)] ++ wsX50 ++ wsX40 ++ wsX00)
def wsX5_known_r1 : List Cond := [Cond.fieldLink RX5 31 "BallCourt" "played" "LBallCourt$Moments;", Cond.fieldLink RX5 10 "BallCourt" "book" "LBallCourt$Book;", Cond.methodLink RX5 172 yX4_has, Cond.instanceMethod yX4_has, Cond.selects RX4 yX4_has yX4_has, Cond.initialized RX4, Cond.code yX4_has cX4_has 2 (some .boolean), Cond.fieldLink RX4 21 "BallCourt$Moments" "count" "I", Cond.methodLink RX5 179 yX4_knownSo, Cond.instanceMethod yX4_knownSo, Cond.selects RX4 yX4_knownSo yX4_knownSo, Cond.code yX4_knownSo cX4_knownSo 2 (some .int), Cond.fieldLink RX4 9 "BallCourt$Moments" "toldSo" "[I", Cond.fieldLink RX4 15 "BallCourt$Moments" "toldNotSo" "[I", Cond.methodLink RX4 29 yX4_ofAll, Cond.static yX4_ofAll, Cond.code yX4_ofAll cX4_ofAll 4 (some .int), Cond.methodLink RX5 182 yX4_knownNotSo, Cond.instanceMethod yX4_knownNotSo, Cond.selects RX4 yX4_knownNotSo yX4_knownNotSo, Cond.code yX4_knownNotSo cX4_knownNotSo 2 (some .int), Cond.methodLink RX5 185 yX0_allFacts, Cond.instanceMethod yX0_allFacts, Cond.selects RX0 yX0_allFacts yX0_allFacts]
def wsX5_known_r2 : List Cond := [Cond.initialized RX0, Cond.code yX0_allFacts cX0_allFacts 1 (some .int), Cond.fieldLink RX0 35 "BallCourt$Book" "numbers" "I", Cond.methodLink RX5 188 yX0_countMayBe, Cond.instanceMethod yX0_countMayBe, Cond.selects RX0 yX0_countMayBe yX0_countMayBe, Cond.code yX0_countMayBe cX0_countMayBe 5 (some .int), Cond.methodLink RX0 58 yX0_mayBe, Cond.instanceMethod yX0_mayBe, Cond.selects RX0 yX0_mayBe yX0_mayBe, Cond.code yX0_mayBe cX0_mayBe 4 (some .boolean), Cond.fieldLink RX0 9 "BallCourt$Book" "isKind" "[Z"]
def wsX5_known : List Cond := .code yX5_known cX5_known 5 (some .int) :: ((wsX5_known_r1 ++ wsX5_known_r2) ++ wsX50 ++ wsX40 ++ wsX00)
def wsX5_proof_r1 : List Cond := [Cond.fieldLink RX5 31 "BallCourt" "played" "LBallCourt$Moments;", Cond.fieldLink RX5 21 "BallCourt" "laws" "LBallCourt$Laws;", Cond.fieldLink RX5 10 "BallCourt" "book" "LBallCourt$Book;", Cond.methodLink RX5 172 yX4_has, Cond.instanceMethod yX4_has, Cond.selects RX4 yX4_has yX4_has, Cond.initialized RX4, Cond.code yX4_has cX4_has 2 (some .boolean), Cond.fieldLink RX4 21 "BallCourt$Moments" "count" "I", Cond.methodLink RX5 95 yX5_isRuling, Cond.static yX5_isRuling, Cond.initialized RX5, Cond.code yX5_isRuling cX5_isRuling 1 (some .boolean), Cond.methodLink RX5 179 yX4_knownSo, Cond.instanceMethod yX4_knownSo, Cond.selects RX4 yX4_knownSo yX4_knownSo, Cond.code yX4_knownSo cX4_knownSo 2 (some .int), Cond.fieldLink RX4 9 "BallCourt$Moments" "toldSo" "[I", Cond.fieldLink RX4 15 "BallCourt$Moments" "toldNotSo" "[I", Cond.methodLink RX4 29 yX4_ofAll, Cond.static yX4_ofAll, Cond.code yX4_ofAll cX4_ofAll 4 (some .int), Cond.methodLink RX5 182 yX4_knownNotSo, Cond.instanceMethod yX4_knownNotSo]
def wsX5_proof_r2 : List Cond := [Cond.selects RX4 yX4_knownNotSo yX4_knownNotSo, Cond.code yX4_knownNotSo cX4_knownNotSo 2 (some .int), Cond.methodLink RX5 191 yX3_countMayBeRuled, Cond.instanceMethod yX3_countMayBeRuled, Cond.selects RX3 yX3_countMayBeRuled yX3_countMayBeRuled, Cond.initialized RX3, Cond.code yX3_countMayBeRuled cX3_countMayBeRuled 6 (some .int), Cond.fieldLink RX3 15 "BallCourt$Laws" "book" "LBallCourt$Book;", Cond.methodLink RX3 40 yX0_mayBe, Cond.instanceMethod yX0_mayBe, Cond.selects RX0 yX0_mayBe yX0_mayBe, Cond.initialized RX0, Cond.code yX0_mayBe cX0_mayBe 4 (some .boolean), Cond.fieldLink RX0 9 "BallCourt$Book" "isKind" "[Z", Cond.methodLink RX3 36 yX3_rulingFor, Cond.instanceMethod yX3_rulingFor, Cond.selects RX3 yX3_rulingFor yX3_rulingFor, Cond.code yX3_rulingFor cX3_rulingFor 2 (some .int), Cond.fieldLink RX3 9 "BallCourt$Laws" "lineOf" "[I", Cond.methodLink RX3 29 yX3_covers, Cond.instanceMethod yX3_covers, Cond.selects RX3 yX3_covers yX3_covers, Cond.code yX3_covers cX3_covers 2 (some .boolean), Cond.methodLink RX5 188 yX0_countMayBe]
def wsX5_proof_r3 : List Cond := [Cond.instanceMethod yX0_countMayBe, Cond.selects RX0 yX0_countMayBe yX0_countMayBe, Cond.code yX0_countMayBe cX0_countMayBe 5 (some .int), Cond.fieldLink RX0 35 "BallCourt$Book" "numbers" "I", Cond.methodLink RX0 58 yX0_mayBe]
def wsX5_proof : List Cond := .code yX5_proof cX5_proof 6 (some .int) :: ((wsX5_proof_r1 ++ (wsX5_proof_r2 ++ wsX5_proof_r3)) ++ wsX50 ++ wsX40 ++ wsX30 ++ wsX00)
def wsX5_binds_r1 : List Cond := [Cond.fieldLink RX5 31 "BallCourt" "played" "LBallCourt$Moments;", Cond.fieldLink RX5 38 "BallCourt" "cases" "LBallCourt$Cases;", Cond.methodLink RX5 172 yX4_has, Cond.instanceMethod yX4_has, Cond.selects RX4 yX4_has yX4_has, Cond.initialized RX4, Cond.code yX4_has cX4_has 2 (some .boolean), Cond.fieldLink RX4 21 "BallCourt$Moments" "count" "I", Cond.methodLink RX5 179 yX4_knownSo, Cond.instanceMethod yX4_knownSo, Cond.selects RX4 yX4_knownSo yX4_knownSo, Cond.code yX4_knownSo cX4_knownSo 2 (some .int), Cond.fieldLink RX4 9 "BallCourt$Moments" "toldSo" "[I", Cond.fieldLink RX4 15 "BallCourt$Moments" "toldNotSo" "[I", Cond.methodLink RX4 29 yX4_ofAll, Cond.static yX4_ofAll, Cond.code yX4_ofAll cX4_ofAll 4 (some .int), Cond.methodLink RX5 182 yX4_knownNotSo, Cond.instanceMethod yX4_knownNotSo, Cond.selects RX4 yX4_knownNotSo yX4_knownNotSo, Cond.code yX4_knownNotSo cX4_knownNotSo 2 (some .int), Cond.methodLink RX5 194 yX1_firstThatBinds, Cond.instanceMethod yX1_firstThatBinds, Cond.selects RX1 yX1_firstThatBinds yX1_firstThatBinds]
def wsX5_binds_r2 : List Cond := [Cond.initialized RX1, Cond.code yX1_firstThatBinds cX1_firstThatBinds 6 (some .int), Cond.fieldLink RX1 21 "BallCourt$Cases" "count" "I", Cond.fieldLink RX1 18 "BallCourt$Cases" "names" "[I", Cond.fieldLink RX1 9 "BallCourt$Cases" "kind" "[I"]
def wsX5_binds : List Cond := .code yX5_binds cX5_binds 2 (some .int) :: ((wsX5_binds_r1 ++ wsX5_binds_r2) ++ wsX50 ++ wsX40 ++ wsX10)
def wsX5_verdictUnder_r1 : List Cond := [Cond.fieldLink RX5 31 "BallCourt" "played" "LBallCourt$Moments;", Cond.fieldLink RX5 10 "BallCourt" "book" "LBallCourt$Book;", Cond.fieldLink RX5 38 "BallCourt" "cases" "LBallCourt$Cases;", Cond.methodLink RX5 179 yX4_knownSo, Cond.instanceMethod yX4_knownSo, Cond.selects RX4 yX4_knownSo yX4_knownSo, Cond.initialized RX4, Cond.code yX4_knownSo cX4_knownSo 2 (some .int), Cond.fieldLink RX4 9 "BallCourt$Moments" "toldSo" "[I", Cond.fieldLink RX4 15 "BallCourt$Moments" "toldNotSo" "[I", Cond.methodLink RX4 29 yX4_ofAll, Cond.static yX4_ofAll, Cond.code yX4_ofAll cX4_ofAll 4 (some .int), Cond.methodLink RX5 182 yX4_knownNotSo, Cond.instanceMethod yX4_knownNotSo, Cond.selects RX4 yX4_knownNotSo yX4_knownNotSo, Cond.code yX4_knownNotSo cX4_knownNotSo 2 (some .int), Cond.methodLink RX5 188 yX0_countMayBe, Cond.instanceMethod yX0_countMayBe, Cond.selects RX0 yX0_countMayBe yX0_countMayBe, Cond.initialized RX0, Cond.code yX0_countMayBe cX0_countMayBe 5 (some .int), Cond.fieldLink RX0 35 "BallCourt$Book" "numbers" "I", Cond.methodLink RX0 58 yX0_mayBe]
def wsX5_verdictUnder_r2 : List Cond := [Cond.instanceMethod yX0_mayBe, Cond.selects RX0 yX0_mayBe yX0_mayBe, Cond.code yX0_mayBe cX0_mayBe 4 (some .boolean), Cond.fieldLink RX0 9 "BallCourt$Book" "isKind" "[Z", Cond.methodLink RX5 194 yX1_firstThatBinds, Cond.instanceMethod yX1_firstThatBinds, Cond.selects RX1 yX1_firstThatBinds yX1_firstThatBinds, Cond.initialized RX1, Cond.code yX1_firstThatBinds cX1_firstThatBinds 6 (some .int), Cond.fieldLink RX1 21 "BallCourt$Cases" "count" "I", Cond.fieldLink RX1 18 "BallCourt$Cases" "names" "[I", Cond.fieldLink RX1 9 "BallCourt$Cases" "kind" "[I", Cond.methodLink RX5 243 yX3_rulingForAll, Cond.instanceMethod yX3_rulingForAll, Cond.selects RX3 yX3_rulingForAll yX3_rulingForAll, Cond.initialized RX3, Cond.code yX3_rulingForAll cX3_rulingForAll 6 (some .int), Cond.fieldLink RX3 15 "BallCourt$Laws" "book" "LBallCourt$Book;", Cond.methodLink RX3 40 yX0_mayBe, Cond.methodLink RX3 36 yX3_rulingFor, Cond.instanceMethod yX3_rulingFor, Cond.selects RX3 yX3_rulingFor yX3_rulingFor, Cond.code yX3_rulingFor cX3_rulingFor 2 (some .int), Cond.fieldLink RX3 9 "BallCourt$Laws" "lineOf" "[I"]
def wsX5_verdictUnder_r3 : List Cond := [Cond.methodLink RX3 29 yX3_covers, Cond.instanceMethod yX3_covers, Cond.selects RX3 yX3_covers yX3_covers, Cond.code yX3_covers cX3_covers 2 (some .boolean)]
def wsX5_verdictUnder : List Cond := .code yX5_verdictUnder cX5_verdictUnder 6 (some .int) :: ((wsX5_verdictUnder_r1 ++ (wsX5_verdictUnder_r2 ++ wsX5_verdictUnder_r3)) ++ wsX50 ++ wsX40 ++ wsX10 ++ wsX00 ++ wsX30)
def wsX5_verdict_r1 : List Cond := [Cond.fieldLink RX5 31 "BallCourt" "played" "LBallCourt$Moments;", Cond.fieldLink RX5 21 "BallCourt" "laws" "LBallCourt$Laws;", Cond.methodLink RX5 172 yX4_has, Cond.instanceMethod yX4_has, Cond.selects RX4 yX4_has yX4_has, Cond.initialized RX4, Cond.code yX4_has cX4_has 2 (some .boolean), Cond.fieldLink RX4 21 "BallCourt$Moments" "count" "I", Cond.methodLink RX5 197 yX5_verdictUnder, Cond.instanceMethod yX5_verdictUnder, Cond.selects RX5 yX5_verdictUnder yX5_verdictUnder, Cond.initialized RX5, Cond.code yX5_verdictUnder cX5_verdictUnder 6 (some .int), Cond.fieldLink RX5 10 "BallCourt" "book" "LBallCourt$Book;", Cond.fieldLink RX5 38 "BallCourt" "cases" "LBallCourt$Cases;", Cond.methodLink RX5 179 yX4_knownSo, Cond.instanceMethod yX4_knownSo, Cond.selects RX4 yX4_knownSo yX4_knownSo, Cond.code yX4_knownSo cX4_knownSo 2 (some .int), Cond.fieldLink RX4 9 "BallCourt$Moments" "toldSo" "[I", Cond.fieldLink RX4 15 "BallCourt$Moments" "toldNotSo" "[I", Cond.methodLink RX4 29 yX4_ofAll, Cond.static yX4_ofAll, Cond.code yX4_ofAll cX4_ofAll 4 (some .int)]
def wsX5_verdict_r2 : List Cond := [Cond.methodLink RX5 182 yX4_knownNotSo, Cond.instanceMethod yX4_knownNotSo, Cond.selects RX4 yX4_knownNotSo yX4_knownNotSo, Cond.code yX4_knownNotSo cX4_knownNotSo 2 (some .int), Cond.methodLink RX5 188 yX0_countMayBe, Cond.instanceMethod yX0_countMayBe, Cond.selects RX0 yX0_countMayBe yX0_countMayBe, Cond.initialized RX0, Cond.code yX0_countMayBe cX0_countMayBe 5 (some .int), Cond.fieldLink RX0 35 "BallCourt$Book" "numbers" "I", Cond.methodLink RX0 58 yX0_mayBe, Cond.instanceMethod yX0_mayBe, Cond.selects RX0 yX0_mayBe yX0_mayBe, Cond.code yX0_mayBe cX0_mayBe 4 (some .boolean), Cond.fieldLink RX0 9 "BallCourt$Book" "isKind" "[Z", Cond.methodLink RX5 194 yX1_firstThatBinds, Cond.instanceMethod yX1_firstThatBinds, Cond.selects RX1 yX1_firstThatBinds yX1_firstThatBinds, Cond.initialized RX1, Cond.code yX1_firstThatBinds cX1_firstThatBinds 6 (some .int), Cond.fieldLink RX1 21 "BallCourt$Cases" "count" "I", Cond.fieldLink RX1 18 "BallCourt$Cases" "names" "[I", Cond.fieldLink RX1 9 "BallCourt$Cases" "kind" "[I", Cond.methodLink RX5 243 yX3_rulingForAll]
def wsX5_verdict_r3 : List Cond := [Cond.instanceMethod yX3_rulingForAll, Cond.selects RX3 yX3_rulingForAll yX3_rulingForAll, Cond.initialized RX3, Cond.code yX3_rulingForAll cX3_rulingForAll 6 (some .int), Cond.fieldLink RX3 15 "BallCourt$Laws" "book" "LBallCourt$Book;", Cond.methodLink RX3 40 yX0_mayBe, Cond.methodLink RX3 36 yX3_rulingFor, Cond.instanceMethod yX3_rulingFor, Cond.selects RX3 yX3_rulingFor yX3_rulingFor, Cond.code yX3_rulingFor cX3_rulingFor 2 (some .int), Cond.fieldLink RX3 9 "BallCourt$Laws" "lineOf" "[I", Cond.methodLink RX3 29 yX3_covers, Cond.instanceMethod yX3_covers, Cond.selects RX3 yX3_covers yX3_covers, Cond.code yX3_covers cX3_covers 2 (some .boolean)]
def wsX5_verdict : List Cond := .code yX5_verdict cX5_verdict 2 (some .int) :: ((wsX5_verdict_r1 ++ (wsX5_verdict_r2 ++ wsX5_verdict_r3)) ++ wsX50 ++ wsX40 ++ wsX10 ++ wsX00 ++ wsX30)
def wsX5_rule_r1 : List Cond := [Cond.fieldLink RX5 31 "BallCourt" "played" "LBallCourt$Moments;", Cond.fieldLink RX5 21 "BallCourt" "laws" "LBallCourt$Laws;", Cond.methodLink RX5 172 yX4_has, Cond.instanceMethod yX4_has, Cond.selects RX4 yX4_has yX4_has, Cond.initialized RX4, Cond.code yX4_has cX4_has 2 (some .boolean), Cond.fieldLink RX4 21 "BallCourt$Moments" "count" "I", Cond.methodLink RX5 95 yX5_isRuling, Cond.static yX5_isRuling, Cond.initialized RX5, Cond.code yX5_isRuling cX5_isRuling 1 (some .boolean), Cond.methodLink RX5 197 yX5_verdictUnder, Cond.instanceMethod yX5_verdictUnder, Cond.selects RX5 yX5_verdictUnder yX5_verdictUnder, Cond.code yX5_verdictUnder cX5_verdictUnder 6 (some .int), Cond.fieldLink RX5 10 "BallCourt" "book" "LBallCourt$Book;", Cond.fieldLink RX5 38 "BallCourt" "cases" "LBallCourt$Cases;", Cond.methodLink RX5 179 yX4_knownSo, Cond.instanceMethod yX4_knownSo, Cond.selects RX4 yX4_knownSo yX4_knownSo, Cond.code yX4_knownSo cX4_knownSo 2 (some .int), Cond.fieldLink RX4 9 "BallCourt$Moments" "toldSo" "[I", Cond.fieldLink RX4 15 "BallCourt$Moments" "toldNotSo" "[I"]
def wsX5_rule_r2 : List Cond := [Cond.methodLink RX4 29 yX4_ofAll, Cond.static yX4_ofAll, Cond.code yX4_ofAll cX4_ofAll 4 (some .int), Cond.methodLink RX5 182 yX4_knownNotSo, Cond.instanceMethod yX4_knownNotSo, Cond.selects RX4 yX4_knownNotSo yX4_knownNotSo, Cond.code yX4_knownNotSo cX4_knownNotSo 2 (some .int), Cond.methodLink RX5 188 yX0_countMayBe, Cond.instanceMethod yX0_countMayBe, Cond.selects RX0 yX0_countMayBe yX0_countMayBe, Cond.initialized RX0, Cond.code yX0_countMayBe cX0_countMayBe 5 (some .int), Cond.fieldLink RX0 35 "BallCourt$Book" "numbers" "I", Cond.methodLink RX0 58 yX0_mayBe, Cond.instanceMethod yX0_mayBe, Cond.selects RX0 yX0_mayBe yX0_mayBe, Cond.code yX0_mayBe cX0_mayBe 4 (some .boolean), Cond.fieldLink RX0 9 "BallCourt$Book" "isKind" "[Z", Cond.methodLink RX5 194 yX1_firstThatBinds, Cond.instanceMethod yX1_firstThatBinds, Cond.selects RX1 yX1_firstThatBinds yX1_firstThatBinds, Cond.initialized RX1, Cond.code yX1_firstThatBinds cX1_firstThatBinds 6 (some .int), Cond.fieldLink RX1 21 "BallCourt$Cases" "count" "I"]
def wsX5_rule_r3 : List Cond := [Cond.fieldLink RX1 18 "BallCourt$Cases" "names" "[I", Cond.fieldLink RX1 9 "BallCourt$Cases" "kind" "[I", Cond.methodLink RX5 243 yX3_rulingForAll, Cond.instanceMethod yX3_rulingForAll, Cond.selects RX3 yX3_rulingForAll yX3_rulingForAll, Cond.initialized RX3, Cond.code yX3_rulingForAll cX3_rulingForAll 6 (some .int), Cond.fieldLink RX3 15 "BallCourt$Laws" "book" "LBallCourt$Book;", Cond.methodLink RX3 40 yX0_mayBe, Cond.methodLink RX3 36 yX3_rulingFor, Cond.instanceMethod yX3_rulingFor, Cond.selects RX3 yX3_rulingFor yX3_rulingFor, Cond.code yX3_rulingFor cX3_rulingFor 2 (some .int), Cond.fieldLink RX3 9 "BallCourt$Laws" "lineOf" "[I", Cond.methodLink RX3 29 yX3_covers, Cond.instanceMethod yX3_covers, Cond.selects RX3 yX3_covers yX3_covers, Cond.code yX3_covers cX3_covers 2 (some .boolean)]
def wsX5_rule : List Cond := .code yX5_rule cX5_rule 4 (some .int) :: ((wsX5_rule_r1 ++ (wsX5_rule_r2 ++ wsX5_rule_r3)) ++ wsX50 ++ wsX40 ++ wsX10 ++ wsX00 ++ wsX30)
def wsX5_make_r1 : List Cond := [Cond.fieldLink RX5 31 "BallCourt" "played" "LBallCourt$Moments;", Cond.fieldLink RX5 10 "BallCourt" "book" "LBallCourt$Book;", Cond.fieldLink RX5 38 "BallCourt" "cases" "LBallCourt$Cases;", Cond.fieldLink RX5 21 "BallCourt" "laws" "LBallCourt$Laws;", Cond.methodLink RX5 172 yX4_has, Cond.instanceMethod yX4_has, Cond.selects RX4 yX4_has yX4_has, Cond.initialized RX4, Cond.code yX4_has cX4_has 2 (some .boolean), Cond.fieldLink RX4 21 "BallCourt$Moments" "count" "I", Cond.methodLink RX5 179 yX4_knownSo, Cond.instanceMethod yX4_knownSo, Cond.selects RX4 yX4_knownSo yX4_knownSo, Cond.code yX4_knownSo cX4_knownSo 2 (some .int), Cond.fieldLink RX4 9 "BallCourt$Moments" "toldSo" "[I", Cond.fieldLink RX4 15 "BallCourt$Moments" "toldNotSo" "[I", Cond.methodLink RX4 29 yX4_ofAll, Cond.static yX4_ofAll, Cond.code yX4_ofAll cX4_ofAll 4 (some .int), Cond.methodLink RX5 182 yX4_knownNotSo, Cond.instanceMethod yX4_knownNotSo, Cond.selects RX4 yX4_knownNotSo yX4_knownNotSo, Cond.code yX4_knownNotSo cX4_knownNotSo 2 (some .int), Cond.methodLink RX5 185 yX0_allFacts]
def wsX5_make_r2 : List Cond := [Cond.instanceMethod yX0_allFacts, Cond.selects RX0 yX0_allFacts yX0_allFacts, Cond.initialized RX0, Cond.code yX0_allFacts cX0_allFacts 1 (some .int), Cond.fieldLink RX0 35 "BallCourt$Book" "numbers" "I", Cond.methodLink RX5 143 yX0_hasKind, Cond.instanceMethod yX0_hasKind, Cond.selects RX0 yX0_hasKind yX0_hasKind, Cond.code yX0_hasKind cX0_hasKind 2 (some .boolean), Cond.fieldLink RX0 9 "BallCourt$Book" "isKind" "[Z", Cond.methodLink RX5 162 yX3_covers, Cond.instanceMethod yX3_covers, Cond.selects RX3 yX3_covers yX3_covers, Cond.initialized RX3, Cond.code yX3_covers cX3_covers 2 (some .boolean), Cond.fieldLink RX3 9 "BallCourt$Laws" "lineOf" "[I", Cond.methodLink RX5 140 yX0_namedBy, Cond.instanceMethod yX0_namedBy, Cond.selects RX0 yX0_namedBy yX0_namedBy, Cond.code yX0_namedBy cX0_namedBy 5 (some .int), Cond.fieldLink RX0 38 "BallCourt$Book" "lines" "I", Cond.fieldLink RX0 19 "BallCourt$Book" "must" "[I", Cond.fieldLink RX0 22 "BallCourt$Book" "mustNot" "[I", Cond.fieldLink RX0 28 "BallCourt$Book" "excepters" "[I"]
def wsX5_make_r3 : List Cond := [Cond.fieldLink RX0 41 "BallCourt$Book" "repealed" "I", Cond.static yX5_hasBit, Cond.initialized RX5, Cond.code yX5_hasBit cX5_hasBit 2 (some .boolean), Cond.methodLink RX5 197 yX5_verdictUnder, Cond.instanceMethod yX5_verdictUnder, Cond.selects RX5 yX5_verdictUnder yX5_verdictUnder, Cond.code yX5_verdictUnder cX5_verdictUnder 6 (some .int), Cond.methodLink RX5 188 yX0_countMayBe, Cond.instanceMethod yX0_countMayBe, Cond.selects RX0 yX0_countMayBe yX0_countMayBe, Cond.code yX0_countMayBe cX0_countMayBe 5 (some .int), Cond.methodLink RX0 58 yX0_mayBe, Cond.instanceMethod yX0_mayBe, Cond.selects RX0 yX0_mayBe yX0_mayBe, Cond.code yX0_mayBe cX0_mayBe 4 (some .boolean), Cond.methodLink RX5 194 yX1_firstThatBinds, Cond.instanceMethod yX1_firstThatBinds, Cond.selects RX1 yX1_firstThatBinds yX1_firstThatBinds, Cond.initialized RX1, Cond.code yX1_firstThatBinds cX1_firstThatBinds 6 (some .int), Cond.fieldLink RX1 21 "BallCourt$Cases" "count" "I", Cond.fieldLink RX1 18 "BallCourt$Cases" "names" "[I", Cond.fieldLink RX1 9 "BallCourt$Cases" "kind" "[I"]
def wsX5_make_r4 : List Cond := [Cond.methodLink RX5 243 yX3_rulingForAll, Cond.instanceMethod yX3_rulingForAll, Cond.selects RX3 yX3_rulingForAll yX3_rulingForAll, Cond.code yX3_rulingForAll cX3_rulingForAll 6 (some .int), Cond.fieldLink RX3 15 "BallCourt$Laws" "book" "LBallCourt$Book;", Cond.methodLink RX3 40 yX0_mayBe, Cond.methodLink RX3 36 yX3_rulingFor, Cond.instanceMethod yX3_rulingFor, Cond.selects RX3 yX3_rulingFor yX3_rulingFor, Cond.code yX3_rulingFor cX3_rulingFor 2 (some .int), Cond.methodLink RX3 29 yX3_covers, Cond.methodLink RX5 204 yX1_add, Cond.instanceMethod yX1_add, Cond.selects RX1 yX1_add yX1_add, Cond.code yX1_add cX1_add 5 (some .int), Cond.fieldLink RX1 15 "BallCourt$Cases" "ruling" "[I"]
def wsX5_make : List Cond := .code yX5_make cX5_make 5 (some .int) :: ((wsX5_make_r1 ++ (wsX5_make_r2 ++ (wsX5_make_r3 ++ wsX5_make_r4))) ++ wsX50 ++ wsX10 ++ wsX30 ++ wsX40 ++ wsX00)
def wsX5_ofCase : List Cond := .code yX5_ofCase cX5_ofCase 3 (some .int) :: ([.fieldLink RX5 38 "BallCourt" "cases" "LBallCourt$Cases;", .methodLink RX5 206 yX1_has, .instanceMethod yX1_has, .selects RX1 yX1_has yX1_has, .initialized RX1, .code yX1_has cX1_has 2 (some .boolean), .fieldLink RX1 21 "BallCourt$Cases" "count" "I"] ++ wsX50 ++ wsX10)
def wsX5_turned : List Cond := .code yX5_turned cX5_turned 3 (some .int) :: ([.fieldLink RX5 38 "BallCourt" "cases" "LBallCourt$Cases;", .fieldLink RX5 21 "BallCourt" "laws" "LBallCourt$Laws;", .methodLink RX5 156 yX3_rulingFor, .instanceMethod yX3_rulingFor, .selects RX3 yX3_rulingFor yX3_rulingFor, .initialized RX3, .code yX3_rulingFor cX3_rulingFor 2 (some .int), .fieldLink RX3 15 "BallCourt$Laws" "book" "LBallCourt$Book;", .fieldLink RX3 9 "BallCourt$Laws" "lineOf" "[I", .methodLink RX3 29 yX3_covers, .instanceMethod yX3_covers, .selects RX3 yX3_covers yX3_covers, .code yX3_covers cX3_covers 2 (some .boolean)] ++ wsX50 ++ wsX10 ++ wsX30 ++ wsX00)
def wsX5_casesOfTurnedKinds : List Cond := .code yX5_casesOfTurnedKinds cX5_casesOfTurnedKinds 3 (some .int) :: ([.fieldLink RX5 38 "BallCourt" "cases" "LBallCourt$Cases;", .fieldLink RX5 21 "BallCourt" "laws" "LBallCourt$Laws;", .fieldLink RX5 25 "BallCourt" "lawsIfMended" "LBallCourt$Laws;", .methodLink RX5 246 yX3_differFor, .instanceMethod yX3_differFor, .selects RX3 yX3_differFor yX3_differFor, .initialized RX3, .code yX3_differFor cX3_differFor 3 (some .boolean), .methodLink RX3 36 yX3_rulingFor, .instanceMethod yX3_rulingFor, .selects RX3 yX3_rulingFor yX3_rulingFor, .code yX3_rulingFor cX3_rulingFor 2 (some .int), .fieldLink RX3 15 "BallCourt$Laws" "book" "LBallCourt$Book;", .fieldLink RX3 9 "BallCourt$Laws" "lineOf" "[I", .methodLink RX3 29 yX3_covers, .instanceMethod yX3_covers, .selects RX3 yX3_covers yX3_covers, .code yX3_covers cX3_covers 2 (some .boolean)] ++ wsX50 ++ wsX10 ++ wsX30 ++ wsX00)
def wsX5_turnedVerdicts_r1 : List Cond := [Cond.fieldLink RX5 31 "BallCourt" "played" "LBallCourt$Moments;", Cond.fieldLink RX5 21 "BallCourt" "laws" "LBallCourt$Laws;", Cond.fieldLink RX5 25 "BallCourt" "lawsIfMended" "LBallCourt$Laws;", Cond.methodLink RX5 197 yX5_verdictUnder, Cond.instanceMethod yX5_verdictUnder, Cond.selects RX5 yX5_verdictUnder yX5_verdictUnder, Cond.initialized RX5, Cond.code yX5_verdictUnder cX5_verdictUnder 6 (some .int), Cond.fieldLink RX5 10 "BallCourt" "book" "LBallCourt$Book;", Cond.fieldLink RX5 38 "BallCourt" "cases" "LBallCourt$Cases;", Cond.methodLink RX5 179 yX4_knownSo, Cond.instanceMethod yX4_knownSo, Cond.selects RX4 yX4_knownSo yX4_knownSo, Cond.initialized RX4, Cond.code yX4_knownSo cX4_knownSo 2 (some .int), Cond.fieldLink RX4 9 "BallCourt$Moments" "toldSo" "[I", Cond.fieldLink RX4 15 "BallCourt$Moments" "toldNotSo" "[I", Cond.methodLink RX4 29 yX4_ofAll, Cond.static yX4_ofAll, Cond.code yX4_ofAll cX4_ofAll 4 (some .int), Cond.methodLink RX5 182 yX4_knownNotSo, Cond.instanceMethod yX4_knownNotSo, Cond.selects RX4 yX4_knownNotSo yX4_knownNotSo, Cond.code yX4_knownNotSo cX4_knownNotSo 2 (some .int)]
def wsX5_turnedVerdicts_r2 : List Cond := [Cond.methodLink RX5 188 yX0_countMayBe, Cond.instanceMethod yX0_countMayBe, Cond.selects RX0 yX0_countMayBe yX0_countMayBe, Cond.initialized RX0, Cond.code yX0_countMayBe cX0_countMayBe 5 (some .int), Cond.fieldLink RX0 35 "BallCourt$Book" "numbers" "I", Cond.methodLink RX0 58 yX0_mayBe, Cond.instanceMethod yX0_mayBe, Cond.selects RX0 yX0_mayBe yX0_mayBe, Cond.code yX0_mayBe cX0_mayBe 4 (some .boolean), Cond.fieldLink RX0 9 "BallCourt$Book" "isKind" "[Z", Cond.methodLink RX5 194 yX1_firstThatBinds, Cond.instanceMethod yX1_firstThatBinds, Cond.selects RX1 yX1_firstThatBinds yX1_firstThatBinds, Cond.initialized RX1, Cond.code yX1_firstThatBinds cX1_firstThatBinds 6 (some .int), Cond.fieldLink RX1 21 "BallCourt$Cases" "count" "I", Cond.fieldLink RX1 18 "BallCourt$Cases" "names" "[I", Cond.fieldLink RX1 9 "BallCourt$Cases" "kind" "[I", Cond.methodLink RX5 243 yX3_rulingForAll, Cond.instanceMethod yX3_rulingForAll, Cond.selects RX3 yX3_rulingForAll yX3_rulingForAll, Cond.initialized RX3, Cond.code yX3_rulingForAll cX3_rulingForAll 6 (some .int)]
def wsX5_turnedVerdicts_r3 : List Cond := [Cond.fieldLink RX3 15 "BallCourt$Laws" "book" "LBallCourt$Book;", Cond.methodLink RX3 40 yX0_mayBe, Cond.methodLink RX3 36 yX3_rulingFor, Cond.instanceMethod yX3_rulingFor, Cond.selects RX3 yX3_rulingFor yX3_rulingFor, Cond.code yX3_rulingFor cX3_rulingFor 2 (some .int), Cond.fieldLink RX3 9 "BallCourt$Laws" "lineOf" "[I", Cond.methodLink RX3 29 yX3_covers, Cond.instanceMethod yX3_covers, Cond.selects RX3 yX3_covers yX3_covers, Cond.code yX3_covers cX3_covers 2 (some .boolean)]
def wsX5_turnedVerdicts : List Cond := .code yX5_turnedVerdicts cX5_turnedVerdicts 3 (some .int) :: ((wsX5_turnedVerdicts_r1 ++ (wsX5_turnedVerdicts_r2 ++ wsX5_turnedVerdicts_r3)) ++ wsX50 ++ wsX40 ++ wsX10 ++ wsX00 ++ wsX30)
def wsX5_mend_r1 : List Cond := [Cond.fieldLink RX5 10 "BallCourt" "book" "LBallCourt$Book;", Cond.fieldLink RX5 25 "BallCourt" "lawsIfMended" "LBallCourt$Laws;", Cond.methodLink RX5 105 yX0_hasLine, Cond.instanceMethod yX0_hasLine, Cond.selects RX0 yX0_hasLine yX0_hasLine, Cond.initialized RX0, Cond.code yX0_hasLine cX0_hasLine 2 (some .boolean), Cond.fieldLink RX0 38 "BallCourt$Book" "lines" "I", Cond.methodLink RX5 128 yX0_repealedIfMended, Cond.instanceMethod yX0_repealedIfMended, Cond.selects RX0 yX0_repealedIfMended yX0_repealedIfMended, Cond.code yX0_repealedIfMended cX0_repealedIfMended 2 (some .int), Cond.fieldLink RX0 41 "BallCourt$Book" "repealed" "I", Cond.methodLink RX5 70 yX3_work, Cond.instanceMethod yX3_work, Cond.selects RX3 yX3_work yX3_work, Cond.initialized RX3, Cond.code yX3_work cX3_work 3 none, Cond.fieldLink RX3 15 "BallCourt$Laws" "book" "LBallCourt$Book;", Cond.fieldLink RX3 9 "BallCourt$Laws" "lineOf" "[I", Cond.methodLink RX3 25 yX0_lawLine, Cond.instanceMethod yX0_lawLine, Cond.selects RX0 yX0_lawLine yX0_lawLine, Cond.code yX0_lawLine cX0_lawLine 5 (some .int)]
def wsX5_mend_r2 : List Cond := [Cond.fieldLink RX0 44 "BallCourt$Book" "excepting" "I", Cond.methodLink RX0 62 yX0_holding, Cond.instanceMethod yX0_holding, Cond.selects RX0 yX0_holding yX0_holding, Cond.code yX0_holding cX0_holding 6 (some .int), Cond.fieldLink RX0 19 "BallCourt$Book" "must" "[I", Cond.fieldLink RX0 22 "BallCourt$Book" "mustNot" "[I", Cond.fieldLink RX0 28 "BallCourt$Book" "excepters" "[I", Cond.static yX5_hasBit, Cond.initialized RX5, Cond.code yX5_hasBit cX5_hasBit 2 (some .boolean), Cond.methodLink RX5 165 yX5_turnedKinds, Cond.instanceMethod yX5_turnedKinds, Cond.selects RX5 yX5_turnedKinds yX5_turnedKinds, Cond.code yX5_turnedKinds cX5_turnedKinds 3 (some .int), Cond.fieldLink RX5 21 "BallCourt" "laws" "LBallCourt$Laws;", Cond.methodLink RX5 143 yX0_hasKind, Cond.instanceMethod yX0_hasKind, Cond.selects RX0 yX0_hasKind yX0_hasKind, Cond.code yX0_hasKind cX0_hasKind 2 (some .boolean), Cond.fieldLink RX0 35 "BallCourt$Book" "numbers" "I", Cond.fieldLink RX0 9 "BallCourt$Book" "isKind" "[Z", Cond.methodLink RX5 246 yX3_differFor, Cond.instanceMethod yX3_differFor]
def wsX5_mend_r3 : List Cond := [Cond.selects RX3 yX3_differFor yX3_differFor, Cond.code yX3_differFor cX3_differFor 3 (some .boolean), Cond.methodLink RX3 36 yX3_rulingFor, Cond.instanceMethod yX3_rulingFor, Cond.selects RX3 yX3_rulingFor yX3_rulingFor, Cond.code yX3_rulingFor cX3_rulingFor 2 (some .int), Cond.methodLink RX3 29 yX3_covers, Cond.instanceMethod yX3_covers, Cond.selects RX3 yX3_covers yX3_covers, Cond.code yX3_covers cX3_covers 2 (some .boolean), Cond.methodLink RX5 214 yX5_casesOfTurnedKinds, Cond.instanceMethod yX5_casesOfTurnedKinds, Cond.selects RX5 yX5_casesOfTurnedKinds yX5_casesOfTurnedKinds, Cond.code yX5_casesOfTurnedKinds cX5_casesOfTurnedKinds 3 (some .int), Cond.fieldLink RX5 38 "BallCourt" "cases" "LBallCourt$Cases;", Cond.methodLink RX5 217 yX5_turnedVerdicts, Cond.instanceMethod yX5_turnedVerdicts, Cond.selects RX5 yX5_turnedVerdicts yX5_turnedVerdicts, Cond.code yX5_turnedVerdicts cX5_turnedVerdicts 3 (some .int), Cond.fieldLink RX5 31 "BallCourt" "played" "LBallCourt$Moments;", Cond.methodLink RX5 197 yX5_verdictUnder, Cond.instanceMethod yX5_verdictUnder, Cond.selects RX5 yX5_verdictUnder yX5_verdictUnder, Cond.code yX5_verdictUnder cX5_verdictUnder 6 (some .int)]
def wsX5_mend_r4 : List Cond := [Cond.methodLink RX5 179 yX4_knownSo, Cond.instanceMethod yX4_knownSo, Cond.selects RX4 yX4_knownSo yX4_knownSo, Cond.initialized RX4, Cond.code yX4_knownSo cX4_knownSo 2 (some .int), Cond.fieldLink RX4 9 "BallCourt$Moments" "toldSo" "[I", Cond.fieldLink RX4 15 "BallCourt$Moments" "toldNotSo" "[I", Cond.methodLink RX4 29 yX4_ofAll, Cond.static yX4_ofAll, Cond.code yX4_ofAll cX4_ofAll 4 (some .int), Cond.methodLink RX5 182 yX4_knownNotSo, Cond.instanceMethod yX4_knownNotSo, Cond.selects RX4 yX4_knownNotSo yX4_knownNotSo, Cond.code yX4_knownNotSo cX4_knownNotSo 2 (some .int), Cond.methodLink RX5 188 yX0_countMayBe, Cond.instanceMethod yX0_countMayBe, Cond.selects RX0 yX0_countMayBe yX0_countMayBe, Cond.code yX0_countMayBe cX0_countMayBe 5 (some .int), Cond.methodLink RX0 58 yX0_mayBe, Cond.instanceMethod yX0_mayBe, Cond.selects RX0 yX0_mayBe yX0_mayBe, Cond.code yX0_mayBe cX0_mayBe 4 (some .boolean), Cond.methodLink RX5 194 yX1_firstThatBinds, Cond.instanceMethod yX1_firstThatBinds]
def wsX5_mend_r5 : List Cond := [Cond.selects RX1 yX1_firstThatBinds yX1_firstThatBinds, Cond.initialized RX1, Cond.code yX1_firstThatBinds cX1_firstThatBinds 6 (some .int), Cond.fieldLink RX1 21 "BallCourt$Cases" "count" "I", Cond.fieldLink RX1 18 "BallCourt$Cases" "names" "[I", Cond.fieldLink RX1 9 "BallCourt$Cases" "kind" "[I", Cond.methodLink RX5 243 yX3_rulingForAll, Cond.instanceMethod yX3_rulingForAll, Cond.selects RX3 yX3_rulingForAll yX3_rulingForAll, Cond.code yX3_rulingForAll cX3_rulingForAll 6 (some .int), Cond.methodLink RX3 40 yX0_mayBe]
def wsX5_mend : List Cond := .code yX5_mend cX5_mend 3 (some .int) :: ((wsX5_mend_r1 ++ (wsX5_mend_r2 ++ (wsX5_mend_r3 ++ (wsX5_mend_r4 ++ wsX5_mend_r5)))) ++ wsX50 ++ wsX00 ++ wsX30 ++ wsX10 ++ wsX40)
def wsX5_goal : List Cond := .code yX5_goal cX5_goal 3 (some .int) :: ([.fieldLink RX5 52 "BallCourt" "hoopsToWin" "I"] ++ wsX50)
def wsX5_score_r1 : List Cond := [Cond.fieldLink RX5 31 "BallCourt" "played" "LBallCourt$Moments;", Cond.fieldLink RX5 45 "BallCourt" "game" "LBallCourt$Game;", Cond.fieldLink RX5 52 "BallCourt" "hoopsToWin" "I", Cond.fieldLink RX5 21 "BallCourt" "laws" "LBallCourt$Laws;", Cond.methodLink RX5 220 yX2_begin, Cond.instanceMethod yX2_begin, Cond.selects RX2 yX2_begin yX2_begin, Cond.initialized RX2, Cond.code yX2_begin cX2_begin 2 none, Cond.fieldLink RX2 9 "BallCourt$Game" "toWin" "I", Cond.fieldLink RX2 15 "BallCourt$Game" "hoopsOf0" "I", Cond.fieldLink RX2 18 "BallCourt$Game" "hoopsOf1" "I", Cond.fieldLink RX2 21 "BallCourt$Game" "striker" "I", Cond.methodLink RX5 197 yX5_verdictUnder, Cond.instanceMethod yX5_verdictUnder, Cond.selects RX5 yX5_verdictUnder yX5_verdictUnder, Cond.initialized RX5, Cond.code yX5_verdictUnder cX5_verdictUnder 6 (some .int), Cond.fieldLink RX5 10 "BallCourt" "book" "LBallCourt$Book;", Cond.fieldLink RX5 38 "BallCourt" "cases" "LBallCourt$Cases;", Cond.methodLink RX5 179 yX4_knownSo, Cond.instanceMethod yX4_knownSo, Cond.selects RX4 yX4_knownSo yX4_knownSo, Cond.initialized RX4]
def wsX5_score_r2 : List Cond := [Cond.code yX4_knownSo cX4_knownSo 2 (some .int), Cond.fieldLink RX4 9 "BallCourt$Moments" "toldSo" "[I", Cond.fieldLink RX4 15 "BallCourt$Moments" "toldNotSo" "[I", Cond.methodLink RX4 29 yX4_ofAll, Cond.static yX4_ofAll, Cond.code yX4_ofAll cX4_ofAll 4 (some .int), Cond.methodLink RX5 182 yX4_knownNotSo, Cond.instanceMethod yX4_knownNotSo, Cond.selects RX4 yX4_knownNotSo yX4_knownNotSo, Cond.code yX4_knownNotSo cX4_knownNotSo 2 (some .int), Cond.methodLink RX5 188 yX0_countMayBe, Cond.instanceMethod yX0_countMayBe, Cond.selects RX0 yX0_countMayBe yX0_countMayBe, Cond.initialized RX0, Cond.code yX0_countMayBe cX0_countMayBe 5 (some .int), Cond.fieldLink RX0 35 "BallCourt$Book" "numbers" "I", Cond.methodLink RX0 58 yX0_mayBe, Cond.instanceMethod yX0_mayBe, Cond.selects RX0 yX0_mayBe yX0_mayBe, Cond.code yX0_mayBe cX0_mayBe 4 (some .boolean), Cond.fieldLink RX0 9 "BallCourt$Book" "isKind" "[Z", Cond.methodLink RX5 194 yX1_firstThatBinds, Cond.instanceMethod yX1_firstThatBinds, Cond.selects RX1 yX1_firstThatBinds yX1_firstThatBinds]
def wsX5_score_r3 : List Cond := [Cond.initialized RX1, Cond.code yX1_firstThatBinds cX1_firstThatBinds 6 (some .int), Cond.fieldLink RX1 21 "BallCourt$Cases" "count" "I", Cond.fieldLink RX1 18 "BallCourt$Cases" "names" "[I", Cond.fieldLink RX1 9 "BallCourt$Cases" "kind" "[I", Cond.methodLink RX5 243 yX3_rulingForAll, Cond.instanceMethod yX3_rulingForAll, Cond.selects RX3 yX3_rulingForAll yX3_rulingForAll, Cond.initialized RX3, Cond.code yX3_rulingForAll cX3_rulingForAll 6 (some .int), Cond.fieldLink RX3 15 "BallCourt$Laws" "book" "LBallCourt$Book;", Cond.methodLink RX3 40 yX0_mayBe, Cond.methodLink RX3 36 yX3_rulingFor, Cond.instanceMethod yX3_rulingFor, Cond.selects RX3 yX3_rulingFor yX3_rulingFor, Cond.code yX3_rulingFor cX3_rulingFor 2 (some .int), Cond.fieldLink RX3 9 "BallCourt$Laws" "lineOf" "[I", Cond.methodLink RX3 29 yX3_covers, Cond.instanceMethod yX3_covers, Cond.selects RX3 yX3_covers yX3_covers, Cond.code yX3_covers cX3_covers 2 (some .boolean), Cond.methodLink RX5 221 yX2_play, Cond.instanceMethod yX2_play, Cond.selects RX2 yX2_play yX2_play]
def wsX5_score_r4 : List Cond := [Cond.code yX2_play cX2_play 2 none, Cond.methodLink RX2 24 yX2_winner, Cond.instanceMethod yX2_winner, Cond.selects RX2 yX2_winner yX2_winner, Cond.code yX2_winner cX2_winner 1 (some .int), Cond.methodLink RX2 28 yX2_giveHoop, Cond.instanceMethod yX2_giveHoop, Cond.selects RX2 yX2_giveHoop yX2_giveHoop, Cond.code yX2_giveHoop cX2_giveHoop 2 none, Cond.methodLink RX5 233 yX2_winner]
def wsX5_score : List Cond := .code yX5_score cX5_score 4 (some .int) :: ((wsX5_score_r1 ++ (wsX5_score_r2 ++ (wsX5_score_r3 ++ wsX5_score_r4))) ++ wsX50 ++ wsX40 ++ wsX20 ++ wsX10 ++ wsX00 ++ wsX30)
def wsX5_appeal_r1 : List Cond := [Cond.fieldLink RX5 31 "BallCourt" "played" "LBallCourt$Moments;", Cond.fieldLink RX5 45 "BallCourt" "game" "LBallCourt$Game;", Cond.fieldLink RX5 52 "BallCourt" "hoopsToWin" "I", Cond.fieldLink RX5 49 "BallCourt" "gameIfRuled" "LBallCourt$Game;", Cond.fieldLink RX5 21 "BallCourt" "laws" "LBallCourt$Laws;", Cond.methodLink RX5 172 yX4_has, Cond.instanceMethod yX4_has, Cond.selects RX4 yX4_has yX4_has, Cond.initialized RX4, Cond.code yX4_has cX4_has 2 (some .boolean), Cond.fieldLink RX4 21 "BallCourt$Moments" "count" "I", Cond.methodLink RX5 95 yX5_isRuling, Cond.static yX5_isRuling, Cond.initialized RX5, Cond.code yX5_isRuling cX5_isRuling 1 (some .boolean), Cond.methodLink RX5 220 yX2_begin, Cond.instanceMethod yX2_begin, Cond.selects RX2 yX2_begin yX2_begin, Cond.initialized RX2, Cond.code yX2_begin cX2_begin 2 none, Cond.fieldLink RX2 9 "BallCourt$Game" "toWin" "I", Cond.fieldLink RX2 15 "BallCourt$Game" "hoopsOf0" "I", Cond.fieldLink RX2 18 "BallCourt$Game" "hoopsOf1" "I", Cond.fieldLink RX2 21 "BallCourt$Game" "striker" "I"]
def wsX5_appeal_r2 : List Cond := [Cond.methodLink RX5 197 yX5_verdictUnder, Cond.instanceMethod yX5_verdictUnder, Cond.selects RX5 yX5_verdictUnder yX5_verdictUnder, Cond.code yX5_verdictUnder cX5_verdictUnder 6 (some .int), Cond.fieldLink RX5 10 "BallCourt" "book" "LBallCourt$Book;", Cond.fieldLink RX5 38 "BallCourt" "cases" "LBallCourt$Cases;", Cond.methodLink RX5 179 yX4_knownSo, Cond.instanceMethod yX4_knownSo, Cond.selects RX4 yX4_knownSo yX4_knownSo, Cond.code yX4_knownSo cX4_knownSo 2 (some .int), Cond.fieldLink RX4 9 "BallCourt$Moments" "toldSo" "[I", Cond.fieldLink RX4 15 "BallCourt$Moments" "toldNotSo" "[I", Cond.methodLink RX4 29 yX4_ofAll, Cond.static yX4_ofAll, Cond.code yX4_ofAll cX4_ofAll 4 (some .int), Cond.methodLink RX5 182 yX4_knownNotSo, Cond.instanceMethod yX4_knownNotSo, Cond.selects RX4 yX4_knownNotSo yX4_knownNotSo, Cond.code yX4_knownNotSo cX4_knownNotSo 2 (some .int), Cond.methodLink RX5 188 yX0_countMayBe, Cond.instanceMethod yX0_countMayBe, Cond.selects RX0 yX0_countMayBe yX0_countMayBe, Cond.initialized RX0, Cond.code yX0_countMayBe cX0_countMayBe 5 (some .int)]
def wsX5_appeal_r3 : List Cond := [Cond.fieldLink RX0 35 "BallCourt$Book" "numbers" "I", Cond.methodLink RX0 58 yX0_mayBe, Cond.instanceMethod yX0_mayBe, Cond.selects RX0 yX0_mayBe yX0_mayBe, Cond.code yX0_mayBe cX0_mayBe 4 (some .boolean), Cond.fieldLink RX0 9 "BallCourt$Book" "isKind" "[Z", Cond.methodLink RX5 194 yX1_firstThatBinds, Cond.instanceMethod yX1_firstThatBinds, Cond.selects RX1 yX1_firstThatBinds yX1_firstThatBinds, Cond.initialized RX1, Cond.code yX1_firstThatBinds cX1_firstThatBinds 6 (some .int), Cond.fieldLink RX1 21 "BallCourt$Cases" "count" "I", Cond.fieldLink RX1 18 "BallCourt$Cases" "names" "[I", Cond.fieldLink RX1 9 "BallCourt$Cases" "kind" "[I", Cond.methodLink RX5 243 yX3_rulingForAll, Cond.instanceMethod yX3_rulingForAll, Cond.selects RX3 yX3_rulingForAll yX3_rulingForAll, Cond.initialized RX3, Cond.code yX3_rulingForAll cX3_rulingForAll 6 (some .int), Cond.fieldLink RX3 15 "BallCourt$Laws" "book" "LBallCourt$Book;", Cond.methodLink RX3 40 yX0_mayBe, Cond.methodLink RX3 36 yX3_rulingFor, Cond.instanceMethod yX3_rulingFor, Cond.selects RX3 yX3_rulingFor yX3_rulingFor]
def wsX5_appeal_r4 : List Cond := [Cond.code yX3_rulingFor cX3_rulingFor 2 (some .int), Cond.fieldLink RX3 9 "BallCourt$Laws" "lineOf" "[I", Cond.methodLink RX3 29 yX3_covers, Cond.instanceMethod yX3_covers, Cond.selects RX3 yX3_covers yX3_covers, Cond.code yX3_covers cX3_covers 2 (some .boolean), Cond.methodLink RX5 221 yX2_play, Cond.instanceMethod yX2_play, Cond.selects RX2 yX2_play yX2_play, Cond.code yX2_play cX2_play 2 none, Cond.methodLink RX2 24 yX2_winner, Cond.instanceMethod yX2_winner, Cond.selects RX2 yX2_winner yX2_winner, Cond.code yX2_winner cX2_winner 1 (some .int), Cond.methodLink RX2 28 yX2_giveHoop, Cond.instanceMethod yX2_giveHoop, Cond.selects RX2 yX2_giveHoop yX2_giveHoop, Cond.code yX2_giveHoop cX2_giveHoop 2 none, Cond.methodLink RX5 236 yX2_standsAs, Cond.instanceMethod yX2_standsAs, Cond.selects RX2 yX2_standsAs yX2_standsAs, Cond.code yX2_standsAs cX2_standsAs 2 (some .boolean)]
def wsX5_appeal : List Cond := .code yX5_appeal cX5_appeal 5 (some .int) :: ((wsX5_appeal_r1 ++ (wsX5_appeal_r2 ++ (wsX5_appeal_r3 ++ wsX5_appeal_r4))) ++ wsX50 ++ wsX40 ++ wsX20 ++ wsX10 ++ wsX00 ++ wsX30)
def wsX5_coveredKinds : List Cond := .code yX5_coveredKinds cX5_coveredKinds 3 (some .int) :: ([.fieldLink RX5 10 "BallCourt" "book" "LBallCourt$Book;", .fieldLink RX5 21 "BallCourt" "laws" "LBallCourt$Laws;", .methodLink RX5 143 yX0_hasKind, .instanceMethod yX0_hasKind, .selects RX0 yX0_hasKind yX0_hasKind, .initialized RX0, .code yX0_hasKind cX0_hasKind 2 (some .boolean), .fieldLink RX0 35 "BallCourt$Book" "numbers" "I", .fieldLink RX0 9 "BallCourt$Book" "isKind" "[Z", .methodLink RX5 162 yX3_covers, .instanceMethod yX3_covers, .selects RX3 yX3_covers yX3_covers, .initialized RX3, .code yX3_covers cX3_covers 2 (some .boolean), .fieldLink RX3 9 "BallCourt$Laws" "lineOf" "[I"] ++ wsX50 ++ wsX00 ++ wsX30)
def wsX5_told_r1 : List Cond := [Cond.fieldLink RX5 10 "BallCourt" "book" "LBallCourt$Book;", Cond.fieldLink RX5 31 "BallCourt" "played" "LBallCourt$Moments;", Cond.fieldLink RX5 38 "BallCourt" "cases" "LBallCourt$Cases;", Cond.fieldLink RX5 52 "BallCourt" "hoopsToWin" "I", Cond.methodLink RX5 188 yX0_countMayBe, Cond.instanceMethod yX0_countMayBe, Cond.selects RX0 yX0_countMayBe yX0_countMayBe, Cond.initialized RX0, Cond.code yX0_countMayBe cX0_countMayBe 5 (some .int), Cond.fieldLink RX0 35 "BallCourt$Book" "numbers" "I", Cond.methodLink RX0 58 yX0_mayBe, Cond.instanceMethod yX0_mayBe, Cond.selects RX0 yX0_mayBe yX0_mayBe, Cond.code yX0_mayBe cX0_mayBe 4 (some .boolean), Cond.fieldLink RX0 9 "BallCourt$Book" "isKind" "[Z", Cond.methodLink RX5 240 yX5_coveredKinds, Cond.instanceMethod yX5_coveredKinds, Cond.selects RX5 yX5_coveredKinds yX5_coveredKinds, Cond.initialized RX5, Cond.code yX5_coveredKinds cX5_coveredKinds 3 (some .int), Cond.fieldLink RX5 21 "BallCourt" "laws" "LBallCourt$Laws;", Cond.methodLink RX5 143 yX0_hasKind, Cond.instanceMethod yX0_hasKind, Cond.selects RX0 yX0_hasKind yX0_hasKind]
def wsX5_told_r2 : List Cond := [Cond.code yX0_hasKind cX0_hasKind 2 (some .boolean), Cond.methodLink RX5 162 yX3_covers, Cond.instanceMethod yX3_covers, Cond.selects RX3 yX3_covers yX3_covers, Cond.initialized RX3, Cond.code yX3_covers cX3_covers 2 (some .boolean), Cond.fieldLink RX3 9 "BallCourt$Laws" "lineOf" "[I"]
def wsX5_told : List Cond := .code yX5_told cX5_told 2 (some .int) :: ((wsX5_told_r1 ++ wsX5_told_r2) ++ wsX50 ++ wsX00 ++ wsX40 ++ wsX10 ++ wsX30)
def wsX6_init : List Cond := .code yX6_init cX6_init 1 none :: ([.methodLink RX6 1 objectInit, .instanceMethod objectInit, .code objectInit ⟨#[0xb1]⟩ 1 none, .fieldLink RX6 7 "BallCourtModel" "facts" "I", .arrayClass .int, .fieldLink RX6 13 "BallCourtModel" "bars" "[I", .fieldLink RX6 17 "BallCourtModel" "must" "[I", .fieldLink RX6 20 "BallCourtModel" "mustNot" "[I", .fieldLink RX6 23 "BallCourtModel" "ruling" "[I", .arrayClass .boolean, .fieldLink RX6 26 "BallCourtModel" "isRepealed" "[Z", .fieldLink RX6 30 "BallCourtModel" "excepts" "[I", .fieldLink RX6 33 "BallCourtModel" "toldSo" "[I", .fieldLink RX6 36 "BallCourtModel" "toldNot" "[I", .fieldLink RX6 39 "BallCourtModel" "ruled" "[I", .fieldLink RX6 42 "BallCourtModel" "caseKind" "[I", .fieldLink RX6 45 "BallCourtModel" "caseRuling" "[I", .fieldLink RX6 48 "BallCourtModel" "caseNames" "[I", .fieldLink RX6 51 "BallCourtModel" "goal" "I", .fieldLink RX6 54 "BallCourtModel" "before" "[I", .fieldLink RX6 57 "BallCourtModel" "verdict" "[I", .fieldLink RX6 60 "BallCourtModel" "state" "[I", .fieldLink RX6 63 "BallCourtModel" "course" "[I"] ++ wsX60)
def wsX6_in : List Cond := .code yX6_in cX6_in 3 (some .boolean) :: ([])
def wsX6_isFact : List Cond := .code yX6_isFact cX6_isFact 2 (some .boolean) :: ([.fieldLink RX6 7 "BallCourtModel" "facts" "I", .methodLink RX6 66 yX6_in, .static yX6_in, .initialized RX6, .code yX6_in cX6_in 3 (some .boolean)] ++ wsX60)
def wsX6_allFacts : List Cond := .code yX6_allFacts cX6_allFacts 1 (some .int) :: ([.fieldLink RX6 7 "BallCourtModel" "facts" "I"] ++ wsX60)
def wsX6_isLine : List Cond := .code yX6_isLine cX6_isLine 2 (some .boolean) :: ([.fieldLink RX6 70 "BallCourtModel" "lines" "I", .methodLink RX6 66 yX6_in, .static yX6_in, .initialized RX6, .code yX6_in cX6_in 3 (some .boolean)] ++ wsX60)
def wsX6_isRuling : List Cond := .code yX6_isRuling cX6_isRuling 1 (some .boolean) :: ([.methodLink RX6 66 yX6_in, .static yX6_in, .initialized RX6, .code yX6_in cX6_in 3 (some .boolean)])
def wsX6_facts : List Cond := .code yX6_facts cX6_facts 4 (some .int) :: ([.fieldLink RX6 7 "BallCourtModel" "facts" "I", .fieldLink RX6 13 "BallCourtModel" "bars" "[I", .fieldLink RX6 70 "BallCourtModel" "lines" "I", .fieldLink RX6 73 "BallCourtModel" "moments" "I", .fieldLink RX6 76 "BallCourtModel" "cases" "I", .methodLink RX6 66 yX6_in, .static yX6_in, .initialized RX6, .code yX6_in cX6_in 3 (some .boolean)] ++ wsX60)
def wsX6_barred : List Cond := .code yX6_barred cX6_barred 5 (some .int) :: ([.fieldLink RX6 13 "BallCourtModel" "bars" "[I", .methodLink RX6 79 yX6_isFact, .instanceMethod yX6_isFact, .selects RX6 yX6_isFact yX6_isFact, .initialized RX6, .code yX6_isFact cX6_isFact 2 (some .boolean), .fieldLink RX6 7 "BallCourtModel" "facts" "I", .methodLink RX6 66 yX6_in, .static yX6_in, .code yX6_in cX6_in 3 (some .boolean)] ++ wsX60)
def wsX6_isKind : List Cond := .code yX6_isKind cX6_isKind 4 (some .boolean) :: ([.fieldLink RX6 7 "BallCourtModel" "facts" "I", .fieldLink RX6 13 "BallCourtModel" "bars" "[I", .methodLink RX6 83 yX6_allFacts, .instanceMethod yX6_allFacts, .selects RX6 yX6_allFacts yX6_allFacts, .initialized RX6, .code yX6_allFacts cX6_allFacts 1 (some .int), .methodLink RX6 66 yX6_in, .static yX6_in, .code yX6_in cX6_in 3 (some .boolean)] ++ wsX60)
def wsX6_line : List Cond := .code yX6_line cX6_line 4 (some .int) :: ([.fieldLink RX6 70 "BallCourtModel" "lines" "I", .fieldLink RX6 17 "BallCourtModel" "must" "[I", .fieldLink RX6 20 "BallCourtModel" "mustNot" "[I", .fieldLink RX6 23 "BallCourtModel" "ruling" "[I", .fieldLink RX6 26 "BallCourtModel" "isRepealed" "[Z", .fieldLink RX6 30 "BallCourtModel" "excepts" "[I", .methodLink RX6 83 yX6_allFacts, .instanceMethod yX6_allFacts, .selects RX6 yX6_allFacts yX6_allFacts, .initialized RX6, .code yX6_allFacts cX6_allFacts 1 (some .int), .fieldLink RX6 7 "BallCourtModel" "facts" "I", .methodLink RX6 66 yX6_in, .static yX6_in, .code yX6_in cX6_in 3 (some .boolean), .methodLink RX6 87 yX6_isRuling, .static yX6_isRuling, .code yX6_isRuling cX6_isRuling 1 (some .boolean)] ++ wsX60)
def wsX6_bits : List Cond := .code yX6_bits cX6_bits 3 (some .int) :: ([])
def wsX6_except : List Cond := .code yX6_except cX6_except 3 (some .int) :: ([.fieldLink RX6 30 "BallCourtModel" "excepts" "[I", .methodLink RX6 90 yX6_isLine, .instanceMethod yX6_isLine, .selects RX6 yX6_isLine yX6_isLine, .initialized RX6, .code yX6_isLine cX6_isLine 2 (some .boolean), .fieldLink RX6 70 "BallCourtModel" "lines" "I", .methodLink RX6 66 yX6_in, .static yX6_in, .code yX6_in cX6_in 3 (some .boolean), .methodLink RX6 93 yX6_bits, .static yX6_bits, .code yX6_bits cX6_bits 3 (some .int)] ++ wsX60)
def wsX6_repeal : List Cond := .code yX6_repeal cX6_repeal 4 (some .int) :: ([.fieldLink RX6 26 "BallCourtModel" "isRepealed" "[Z", .methodLink RX6 90 yX6_isLine, .instanceMethod yX6_isLine, .selects RX6 yX6_isLine yX6_isLine, .initialized RX6, .code yX6_isLine cX6_isLine 2 (some .boolean), .fieldLink RX6 70 "BallCourtModel" "lines" "I", .methodLink RX6 66 yX6_in, .static yX6_in, .code yX6_in cX6_in 3 (some .boolean)] ++ wsX60)
def wsX6_namedBy : List Cond := .code yX6_namedBy cX6_namedBy 5 (some .int) :: ([.fieldLink RX6 70 "BallCourtModel" "lines" "I", .fieldLink RX6 26 "BallCourtModel" "isRepealed" "[Z", .fieldLink RX6 17 "BallCourtModel" "must" "[I", .fieldLink RX6 20 "BallCourtModel" "mustNot" "[I", .fieldLink RX6 30 "BallCourtModel" "excepts" "[I"] ++ wsX60)
def wsX6_about : List Cond := .code yX6_about cX6_about 3 (some .int) :: ([.fieldLink RX6 17 "BallCourtModel" "must" "[I", .fieldLink RX6 20 "BallCourtModel" "mustNot" "[I", .fieldLink RX6 23 "BallCourtModel" "ruling" "[I", .fieldLink RX6 26 "BallCourtModel" "isRepealed" "[Z", .fieldLink RX6 30 "BallCourtModel" "excepts" "[I", .methodLink RX6 90 yX6_isLine, .instanceMethod yX6_isLine, .selects RX6 yX6_isLine yX6_isLine, .initialized RX6, .code yX6_isLine cX6_isLine 2 (some .boolean), .fieldLink RX6 70 "BallCourtModel" "lines" "I", .methodLink RX6 66 yX6_in, .static yX6_in, .code yX6_in cX6_in 3 (some .boolean), .methodLink RX6 97 yX6_namedBy, .instanceMethod yX6_namedBy, .selects RX6 yX6_namedBy yX6_namedBy, .code yX6_namedBy cX6_namedBy 5 (some .int)] ++ wsX60)
def wsX6_holding : List Cond := .code yX6_holding cX6_holding 5 (some .int) :: ([.fieldLink RX6 70 "BallCourtModel" "lines" "I", .fieldLink RX6 26 "BallCourtModel" "isRepealed" "[Z", .fieldLink RX6 17 "BallCourtModel" "must" "[I", .fieldLink RX6 20 "BallCourtModel" "mustNot" "[I", .fieldLink RX6 30 "BallCourtModel" "excepts" "[I"] ++ wsX60)
def wsX6_holds_r1 : List Cond := [Cond.methodLink RX6 90 yX6_isLine, Cond.instanceMethod yX6_isLine, Cond.selects RX6 yX6_isLine yX6_isLine, Cond.initialized RX6, Cond.code yX6_isLine cX6_isLine 2 (some .boolean), Cond.fieldLink RX6 70 "BallCourtModel" "lines" "I", Cond.methodLink RX6 66 yX6_in, Cond.static yX6_in, Cond.code yX6_in cX6_in 3 (some .boolean), Cond.methodLink RX6 100 yX6_isKind, Cond.instanceMethod yX6_isKind, Cond.selects RX6 yX6_isKind yX6_isKind, Cond.code yX6_isKind cX6_isKind 4 (some .boolean), Cond.fieldLink RX6 7 "BallCourtModel" "facts" "I", Cond.fieldLink RX6 13 "BallCourtModel" "bars" "[I", Cond.methodLink RX6 83 yX6_allFacts, Cond.instanceMethod yX6_allFacts, Cond.selects RX6 yX6_allFacts yX6_allFacts, Cond.code yX6_allFacts cX6_allFacts 1 (some .int), Cond.methodLink RX6 103 yX6_holding, Cond.instanceMethod yX6_holding, Cond.selects RX6 yX6_holding yX6_holding, Cond.code yX6_holding cX6_holding 5 (some .int), Cond.fieldLink RX6 26 "BallCourtModel" "isRepealed" "[Z"]
def wsX6_holds_r2 : List Cond := [Cond.fieldLink RX6 17 "BallCourtModel" "must" "[I", Cond.fieldLink RX6 20 "BallCourtModel" "mustNot" "[I", Cond.fieldLink RX6 30 "BallCourtModel" "excepts" "[I"]
def wsX6_holds : List Cond := .code yX6_holds cX6_holds 3 (some .int) :: ((wsX6_holds_r1 ++ wsX6_holds_r2) ++ wsX60)
def wsX6_lineFor : List Cond := .code yX6_lineFor cX6_lineFor 5 (some .int) :: ([.fieldLink RX6 70 "BallCourtModel" "lines" "I", .fieldLink RX6 30 "BallCourtModel" "excepts" "[I", .methodLink RX6 103 yX6_holding, .instanceMethod yX6_holding, .selects RX6 yX6_holding yX6_holding, .initialized RX6, .code yX6_holding cX6_holding 5 (some .int), .fieldLink RX6 26 "BallCourtModel" "isRepealed" "[Z", .fieldLink RX6 17 "BallCourtModel" "must" "[I", .fieldLink RX6 20 "BallCourtModel" "mustNot" "[I"] ++ wsX60)
def wsX6_rulingFor : List Cond := .code yX6_rulingFor cX6_rulingFor 3 (some .int) :: ([.fieldLink RX6 23 "BallCourtModel" "ruling" "[I", .methodLink RX6 106 yX6_lineFor, .instanceMethod yX6_lineFor, .selects RX6 yX6_lineFor yX6_lineFor, .initialized RX6, .code yX6_lineFor cX6_lineFor 5 (some .int), .fieldLink RX6 70 "BallCourtModel" "lines" "I", .fieldLink RX6 30 "BallCourtModel" "excepts" "[I", .methodLink RX6 103 yX6_holding, .instanceMethod yX6_holding, .selects RX6 yX6_holding yX6_holding, .code yX6_holding cX6_holding 5 (some .int), .fieldLink RX6 26 "BallCourtModel" "isRepealed" "[Z", .fieldLink RX6 17 "BallCourtModel" "must" "[I", .fieldLink RX6 20 "BallCourtModel" "mustNot" "[I"] ++ wsX60)
def wsX6_law_r1 : List Cond := [Cond.methodLink RX6 100 yX6_isKind, Cond.instanceMethod yX6_isKind, Cond.selects RX6 yX6_isKind yX6_isKind, Cond.initialized RX6, Cond.code yX6_isKind cX6_isKind 4 (some .boolean), Cond.fieldLink RX6 7 "BallCourtModel" "facts" "I", Cond.fieldLink RX6 13 "BallCourtModel" "bars" "[I", Cond.methodLink RX6 83 yX6_allFacts, Cond.instanceMethod yX6_allFacts, Cond.selects RX6 yX6_allFacts yX6_allFacts, Cond.code yX6_allFacts cX6_allFacts 1 (some .int), Cond.methodLink RX6 66 yX6_in, Cond.static yX6_in, Cond.code yX6_in cX6_in 3 (some .boolean), Cond.methodLink RX6 106 yX6_lineFor, Cond.instanceMethod yX6_lineFor, Cond.selects RX6 yX6_lineFor yX6_lineFor, Cond.code yX6_lineFor cX6_lineFor 5 (some .int), Cond.fieldLink RX6 70 "BallCourtModel" "lines" "I", Cond.fieldLink RX6 30 "BallCourtModel" "excepts" "[I", Cond.methodLink RX6 103 yX6_holding, Cond.instanceMethod yX6_holding, Cond.selects RX6 yX6_holding yX6_holding, Cond.code yX6_holding cX6_holding 5 (some .int)]
def wsX6_law_r2 : List Cond := [Cond.fieldLink RX6 26 "BallCourtModel" "isRepealed" "[Z", Cond.fieldLink RX6 17 "BallCourtModel" "must" "[I", Cond.fieldLink RX6 20 "BallCourtModel" "mustNot" "[I", Cond.methodLink RX6 109 yX6_rulingFor, Cond.instanceMethod yX6_rulingFor, Cond.selects RX6 yX6_rulingFor yX6_rulingFor, Cond.code yX6_rulingFor cX6_rulingFor 3 (some .int), Cond.fieldLink RX6 23 "BallCourtModel" "ruling" "[I"]
def wsX6_law : List Cond := .code yX6_law cX6_law 3 (some .int) :: ((wsX6_law_r1 ++ wsX6_law_r2) ++ wsX60)
def wsX6_open_r1 : List Cond := [Cond.methodLink RX6 83 yX6_allFacts, Cond.instanceMethod yX6_allFacts, Cond.selects RX6 yX6_allFacts yX6_allFacts, Cond.initialized RX6, Cond.code yX6_allFacts cX6_allFacts 1 (some .int), Cond.fieldLink RX6 7 "BallCourtModel" "facts" "I", Cond.methodLink RX6 100 yX6_isKind, Cond.instanceMethod yX6_isKind, Cond.selects RX6 yX6_isKind yX6_isKind, Cond.code yX6_isKind cX6_isKind 4 (some .boolean), Cond.fieldLink RX6 13 "BallCourtModel" "bars" "[I", Cond.methodLink RX6 66 yX6_in, Cond.static yX6_in, Cond.code yX6_in cX6_in 3 (some .boolean), Cond.methodLink RX6 106 yX6_lineFor, Cond.instanceMethod yX6_lineFor, Cond.selects RX6 yX6_lineFor yX6_lineFor, Cond.code yX6_lineFor cX6_lineFor 5 (some .int), Cond.fieldLink RX6 70 "BallCourtModel" "lines" "I", Cond.fieldLink RX6 30 "BallCourtModel" "excepts" "[I", Cond.methodLink RX6 103 yX6_holding, Cond.instanceMethod yX6_holding, Cond.selects RX6 yX6_holding yX6_holding, Cond.code yX6_holding cX6_holding 5 (some .int)]
def wsX6_open_r2 : List Cond := [Cond.fieldLink RX6 26 "BallCourtModel" "isRepealed" "[Z", Cond.fieldLink RX6 17 "BallCourtModel" "must" "[I", Cond.fieldLink RX6 20 "BallCourtModel" "mustNot" "[I"]
def wsX6_open : List Cond := .code yX6_open cX6_open 4 (some .int) :: ((wsX6_open_r1 ++ wsX6_open_r2) ++ wsX60)
def wsX6_bound : List Cond := .code yX6_bound cX6_bound 2 (some .int) :: ([.methodLink RX6 109 yX6_rulingFor, .instanceMethod yX6_rulingFor, .selects RX6 yX6_rulingFor yX6_rulingFor, .initialized RX6, .code yX6_rulingFor cX6_rulingFor 3 (some .int), .fieldLink RX6 23 "BallCourtModel" "ruling" "[I", .methodLink RX6 106 yX6_lineFor, .instanceMethod yX6_lineFor, .selects RX6 yX6_lineFor yX6_lineFor, .code yX6_lineFor cX6_lineFor 5 (some .int), .fieldLink RX6 70 "BallCourtModel" "lines" "I", .fieldLink RX6 30 "BallCourtModel" "excepts" "[I", .methodLink RX6 103 yX6_holding, .instanceMethod yX6_holding, .selects RX6 yX6_holding yX6_holding, .code yX6_holding cX6_holding 5 (some .int), .fieldLink RX6 26 "BallCourtModel" "isRepealed" "[Z", .fieldLink RX6 17 "BallCourtModel" "must" "[I", .fieldLink RX6 20 "BallCourtModel" "mustNot" "[I"] ++ wsX60)
def wsX6_turnedKinds_r1 : List Cond := [Cond.fieldLink RX6 54 "BallCourtModel" "before" "[I", Cond.fieldLink RX6 26 "BallCourtModel" "isRepealed" "[Z", Cond.methodLink RX6 83 yX6_allFacts, Cond.instanceMethod yX6_allFacts, Cond.selects RX6 yX6_allFacts yX6_allFacts, Cond.initialized RX6, Cond.code yX6_allFacts cX6_allFacts 1 (some .int), Cond.fieldLink RX6 7 "BallCourtModel" "facts" "I", Cond.methodLink RX6 112 yX6_bound, Cond.instanceMethod yX6_bound, Cond.selects RX6 yX6_bound yX6_bound, Cond.code yX6_bound cX6_bound 2 (some .int), Cond.methodLink RX6 109 yX6_rulingFor, Cond.instanceMethod yX6_rulingFor, Cond.selects RX6 yX6_rulingFor yX6_rulingFor, Cond.code yX6_rulingFor cX6_rulingFor 3 (some .int), Cond.fieldLink RX6 23 "BallCourtModel" "ruling" "[I", Cond.methodLink RX6 106 yX6_lineFor, Cond.instanceMethod yX6_lineFor, Cond.selects RX6 yX6_lineFor yX6_lineFor, Cond.code yX6_lineFor cX6_lineFor 5 (some .int), Cond.fieldLink RX6 70 "BallCourtModel" "lines" "I", Cond.fieldLink RX6 30 "BallCourtModel" "excepts" "[I", Cond.methodLink RX6 103 yX6_holding]
def wsX6_turnedKinds_r2 : List Cond := [Cond.instanceMethod yX6_holding, Cond.selects RX6 yX6_holding yX6_holding, Cond.code yX6_holding cX6_holding 5 (some .int), Cond.fieldLink RX6 17 "BallCourtModel" "must" "[I", Cond.fieldLink RX6 20 "BallCourtModel" "mustNot" "[I", Cond.methodLink RX6 100 yX6_isKind, Cond.instanceMethod yX6_isKind, Cond.selects RX6 yX6_isKind yX6_isKind, Cond.code yX6_isKind cX6_isKind 4 (some .boolean), Cond.fieldLink RX6 13 "BallCourtModel" "bars" "[I", Cond.methodLink RX6 66 yX6_in, Cond.static yX6_in, Cond.code yX6_in cX6_in 3 (some .boolean)]
def wsX6_turnedKinds : List Cond := .code yX6_turnedKinds cX6_turnedKinds 4 (some .int) :: ((wsX6_turnedKinds_r1 ++ wsX6_turnedKinds_r2) ++ wsX60)
def wsX6_idle_r1 : List Cond := [Cond.methodLink RX6 90 yX6_isLine, Cond.instanceMethod yX6_isLine, Cond.selects RX6 yX6_isLine yX6_isLine, Cond.initialized RX6, Cond.code yX6_isLine cX6_isLine 2 (some .boolean), Cond.fieldLink RX6 70 "BallCourtModel" "lines" "I", Cond.methodLink RX6 66 yX6_in, Cond.static yX6_in, Cond.code yX6_in cX6_in 3 (some .boolean), Cond.methodLink RX6 115 yX6_turnedKinds, Cond.instanceMethod yX6_turnedKinds, Cond.selects RX6 yX6_turnedKinds yX6_turnedKinds, Cond.code yX6_turnedKinds cX6_turnedKinds 4 (some .int), Cond.fieldLink RX6 54 "BallCourtModel" "before" "[I", Cond.fieldLink RX6 26 "BallCourtModel" "isRepealed" "[Z", Cond.methodLink RX6 83 yX6_allFacts, Cond.instanceMethod yX6_allFacts, Cond.selects RX6 yX6_allFacts yX6_allFacts, Cond.code yX6_allFacts cX6_allFacts 1 (some .int), Cond.fieldLink RX6 7 "BallCourtModel" "facts" "I", Cond.methodLink RX6 112 yX6_bound, Cond.instanceMethod yX6_bound, Cond.selects RX6 yX6_bound yX6_bound, Cond.code yX6_bound cX6_bound 2 (some .int)]
def wsX6_idle_r2 : List Cond := [Cond.methodLink RX6 109 yX6_rulingFor, Cond.instanceMethod yX6_rulingFor, Cond.selects RX6 yX6_rulingFor yX6_rulingFor, Cond.code yX6_rulingFor cX6_rulingFor 3 (some .int), Cond.fieldLink RX6 23 "BallCourtModel" "ruling" "[I", Cond.methodLink RX6 106 yX6_lineFor, Cond.instanceMethod yX6_lineFor, Cond.selects RX6 yX6_lineFor yX6_lineFor, Cond.code yX6_lineFor cX6_lineFor 5 (some .int), Cond.fieldLink RX6 30 "BallCourtModel" "excepts" "[I", Cond.methodLink RX6 103 yX6_holding, Cond.instanceMethod yX6_holding, Cond.selects RX6 yX6_holding yX6_holding, Cond.code yX6_holding cX6_holding 5 (some .int), Cond.fieldLink RX6 17 "BallCourtModel" "must" "[I", Cond.fieldLink RX6 20 "BallCourtModel" "mustNot" "[I", Cond.methodLink RX6 100 yX6_isKind, Cond.instanceMethod yX6_isKind, Cond.selects RX6 yX6_isKind yX6_isKind, Cond.code yX6_isKind cX6_isKind 4 (some .boolean), Cond.fieldLink RX6 13 "BallCourtModel" "bars" "[I"]
def wsX6_idle : List Cond := .code yX6_idle cX6_idle 2 (some .int) :: ((wsX6_idle_r1 ++ wsX6_idle_r2) ++ wsX60)
def wsX6_isMoment : List Cond := .code yX6_isMoment cX6_isMoment 2 (some .boolean) :: ([.fieldLink RX6 73 "BallCourtModel" "moments" "I", .methodLink RX6 66 yX6_in, .static yX6_in, .initialized RX6, .code yX6_in cX6_in 3 (some .boolean)] ++ wsX60)
def wsX6_moment : List Cond := .code yX6_moment cX6_moment 2 (some .int) :: ([.fieldLink RX6 73 "BallCourtModel" "moments" "I", .fieldLink RX6 33 "BallCourtModel" "toldSo" "[I", .fieldLink RX6 36 "BallCourtModel" "toldNot" "[I", .fieldLink RX6 39 "BallCourtModel" "ruled" "[I"] ++ wsX60)
def wsX6_tell : List Cond := .code yX6_tell cX6_tell 7 (some .int) :: ([.fieldLink RX6 33 "BallCourtModel" "toldSo" "[I", .fieldLink RX6 36 "BallCourtModel" "toldNot" "[I", .methodLink RX6 118 yX6_isMoment, .instanceMethod yX6_isMoment, .selects RX6 yX6_isMoment yX6_isMoment, .initialized RX6, .code yX6_isMoment cX6_isMoment 2 (some .boolean), .fieldLink RX6 73 "BallCourtModel" "moments" "I", .methodLink RX6 66 yX6_in, .static yX6_in, .code yX6_in cX6_in 3 (some .boolean), .methodLink RX6 79 yX6_isFact, .instanceMethod yX6_isFact, .selects RX6 yX6_isFact yX6_isFact, .code yX6_isFact cX6_isFact 2 (some .boolean), .fieldLink RX6 7 "BallCourtModel" "facts" "I"] ++ wsX60)
def wsX6_so : List Cond := .code yX6_so cX6_so 4 (some .int) :: ([.fieldLink RX6 33 "BallCourtModel" "toldSo" "[I", .fieldLink RX6 36 "BallCourtModel" "toldNot" "[I"] ++ wsX60)
def wsX6_notSo : List Cond := .code yX6_notSo cX6_notSo 4 (some .int) :: ([.fieldLink RX6 33 "BallCourtModel" "toldSo" "[I", .fieldLink RX6 36 "BallCourtModel" "toldNot" "[I"] ++ wsX60)
def wsX6_doubt : List Cond := .code yX6_doubt cX6_doubt 2 (some .int) :: ([.methodLink RX6 83 yX6_allFacts, .instanceMethod yX6_allFacts, .selects RX6 yX6_allFacts yX6_allFacts, .initialized RX6, .code yX6_allFacts cX6_allFacts 1 (some .int), .fieldLink RX6 7 "BallCourtModel" "facts" "I", .methodLink RX6 121 yX6_so, .instanceMethod yX6_so, .selects RX6 yX6_so yX6_so, .code yX6_so cX6_so 4 (some .int), .fieldLink RX6 33 "BallCourtModel" "toldSo" "[I", .fieldLink RX6 36 "BallCourtModel" "toldNot" "[I", .methodLink RX6 124 yX6_notSo, .instanceMethod yX6_notSo, .selects RX6 yX6_notSo yX6_notSo, .code yX6_notSo cX6_notSo 4 (some .int)] ++ wsX60)
def wsX6_mayBe : List Cond := .code yX6_mayBe cX6_mayBe 3 (some .boolean) :: ([.methodLink RX6 100 yX6_isKind, .instanceMethod yX6_isKind, .selects RX6 yX6_isKind yX6_isKind, .initialized RX6, .code yX6_isKind cX6_isKind 4 (some .boolean), .fieldLink RX6 7 "BallCourtModel" "facts" "I", .fieldLink RX6 13 "BallCourtModel" "bars" "[I", .methodLink RX6 83 yX6_allFacts, .instanceMethod yX6_allFacts, .selects RX6 yX6_allFacts yX6_allFacts, .code yX6_allFacts cX6_allFacts 1 (some .int), .methodLink RX6 66 yX6_in, .static yX6_in, .code yX6_in cX6_in 3 (some .boolean), .methodLink RX6 121 yX6_so, .instanceMethod yX6_so, .selects RX6 yX6_so yX6_so, .code yX6_so cX6_so 4 (some .int), .fieldLink RX6 33 "BallCourtModel" "toldSo" "[I", .fieldLink RX6 36 "BallCourtModel" "toldNot" "[I", .methodLink RX6 124 yX6_notSo, .instanceMethod yX6_notSo, .selects RX6 yX6_notSo yX6_notSo, .code yX6_notSo cX6_notSo 4 (some .int)] ++ wsX60)
def wsX6_mayBes_r1 : List Cond := [Cond.methodLink RX6 83 yX6_allFacts, Cond.instanceMethod yX6_allFacts, Cond.selects RX6 yX6_allFacts yX6_allFacts, Cond.initialized RX6, Cond.code yX6_allFacts cX6_allFacts 1 (some .int), Cond.fieldLink RX6 7 "BallCourtModel" "facts" "I", Cond.methodLink RX6 127 yX6_mayBe, Cond.instanceMethod yX6_mayBe, Cond.selects RX6 yX6_mayBe yX6_mayBe, Cond.code yX6_mayBe cX6_mayBe 3 (some .boolean), Cond.methodLink RX6 100 yX6_isKind, Cond.instanceMethod yX6_isKind, Cond.selects RX6 yX6_isKind yX6_isKind, Cond.code yX6_isKind cX6_isKind 4 (some .boolean), Cond.fieldLink RX6 13 "BallCourtModel" "bars" "[I", Cond.methodLink RX6 66 yX6_in, Cond.static yX6_in, Cond.code yX6_in cX6_in 3 (some .boolean), Cond.methodLink RX6 121 yX6_so, Cond.instanceMethod yX6_so, Cond.selects RX6 yX6_so yX6_so, Cond.code yX6_so cX6_so 4 (some .int), Cond.fieldLink RX6 33 "BallCourtModel" "toldSo" "[I", Cond.fieldLink RX6 36 "BallCourtModel" "toldNot" "[I"]
def wsX6_mayBes_r2 : List Cond := [Cond.methodLink RX6 124 yX6_notSo, Cond.instanceMethod yX6_notSo, Cond.selects RX6 yX6_notSo yX6_notSo, Cond.code yX6_notSo cX6_notSo 4 (some .int), Cond.methodLink RX6 109 yX6_rulingFor, Cond.instanceMethod yX6_rulingFor, Cond.selects RX6 yX6_rulingFor yX6_rulingFor, Cond.code yX6_rulingFor cX6_rulingFor 3 (some .int), Cond.fieldLink RX6 23 "BallCourtModel" "ruling" "[I", Cond.methodLink RX6 106 yX6_lineFor, Cond.instanceMethod yX6_lineFor, Cond.selects RX6 yX6_lineFor yX6_lineFor, Cond.code yX6_lineFor cX6_lineFor 5 (some .int), Cond.fieldLink RX6 70 "BallCourtModel" "lines" "I", Cond.fieldLink RX6 30 "BallCourtModel" "excepts" "[I", Cond.methodLink RX6 103 yX6_holding, Cond.instanceMethod yX6_holding, Cond.selects RX6 yX6_holding yX6_holding, Cond.code yX6_holding cX6_holding 5 (some .int), Cond.fieldLink RX6 26 "BallCourtModel" "isRepealed" "[Z", Cond.fieldLink RX6 17 "BallCourtModel" "must" "[I", Cond.fieldLink RX6 20 "BallCourtModel" "mustNot" "[I"]
def wsX6_mayBes : List Cond := .code yX6_mayBes cX6_mayBes 5 (some .int) :: ((wsX6_mayBes_r1 ++ wsX6_mayBes_r2) ++ wsX60)
def wsX6_known_r1 : List Cond := [Cond.methodLink RX6 118 yX6_isMoment, Cond.instanceMethod yX6_isMoment, Cond.selects RX6 yX6_isMoment yX6_isMoment, Cond.initialized RX6, Cond.code yX6_isMoment cX6_isMoment 2 (some .boolean), Cond.fieldLink RX6 73 "BallCourtModel" "moments" "I", Cond.methodLink RX6 66 yX6_in, Cond.static yX6_in, Cond.code yX6_in cX6_in 3 (some .boolean), Cond.methodLink RX6 121 yX6_so, Cond.instanceMethod yX6_so, Cond.selects RX6 yX6_so yX6_so, Cond.code yX6_so cX6_so 4 (some .int), Cond.fieldLink RX6 33 "BallCourtModel" "toldSo" "[I", Cond.fieldLink RX6 36 "BallCourtModel" "toldNot" "[I", Cond.methodLink RX6 124 yX6_notSo, Cond.instanceMethod yX6_notSo, Cond.selects RX6 yX6_notSo yX6_notSo, Cond.code yX6_notSo cX6_notSo 4 (some .int), Cond.methodLink RX6 131 yX6_doubt, Cond.instanceMethod yX6_doubt, Cond.selects RX6 yX6_doubt yX6_doubt, Cond.code yX6_doubt cX6_doubt 2 (some .int), Cond.methodLink RX6 83 yX6_allFacts]
def wsX6_known_r2 : List Cond := [Cond.instanceMethod yX6_allFacts, Cond.selects RX6 yX6_allFacts yX6_allFacts, Cond.code yX6_allFacts cX6_allFacts 1 (some .int), Cond.fieldLink RX6 7 "BallCourtModel" "facts" "I", Cond.methodLink RX6 134 yX6_mayBes, Cond.instanceMethod yX6_mayBes, Cond.selects RX6 yX6_mayBes yX6_mayBes, Cond.code yX6_mayBes cX6_mayBes 5 (some .int), Cond.methodLink RX6 127 yX6_mayBe, Cond.instanceMethod yX6_mayBe, Cond.selects RX6 yX6_mayBe yX6_mayBe, Cond.code yX6_mayBe cX6_mayBe 3 (some .boolean), Cond.methodLink RX6 100 yX6_isKind, Cond.instanceMethod yX6_isKind, Cond.selects RX6 yX6_isKind yX6_isKind, Cond.code yX6_isKind cX6_isKind 4 (some .boolean), Cond.fieldLink RX6 13 "BallCourtModel" "bars" "[I", Cond.methodLink RX6 109 yX6_rulingFor, Cond.instanceMethod yX6_rulingFor, Cond.selects RX6 yX6_rulingFor yX6_rulingFor, Cond.code yX6_rulingFor cX6_rulingFor 3 (some .int), Cond.fieldLink RX6 23 "BallCourtModel" "ruling" "[I", Cond.methodLink RX6 106 yX6_lineFor, Cond.instanceMethod yX6_lineFor]
def wsX6_known_r3 : List Cond := [Cond.selects RX6 yX6_lineFor yX6_lineFor, Cond.code yX6_lineFor cX6_lineFor 5 (some .int), Cond.fieldLink RX6 70 "BallCourtModel" "lines" "I", Cond.fieldLink RX6 30 "BallCourtModel" "excepts" "[I", Cond.methodLink RX6 103 yX6_holding, Cond.instanceMethod yX6_holding, Cond.selects RX6 yX6_holding yX6_holding, Cond.code yX6_holding cX6_holding 5 (some .int), Cond.fieldLink RX6 26 "BallCourtModel" "isRepealed" "[Z", Cond.fieldLink RX6 17 "BallCourtModel" "must" "[I", Cond.fieldLink RX6 20 "BallCourtModel" "mustNot" "[I"]
def wsX6_known : List Cond := .code yX6_known cX6_known 3 (some .int) :: ((wsX6_known_r1 ++ (wsX6_known_r2 ++ wsX6_known_r3)) ++ wsX60)
def wsX6_proof_r1 : List Cond := [Cond.methodLink RX6 118 yX6_isMoment, Cond.instanceMethod yX6_isMoment, Cond.selects RX6 yX6_isMoment yX6_isMoment, Cond.initialized RX6, Cond.code yX6_isMoment cX6_isMoment 2 (some .boolean), Cond.fieldLink RX6 73 "BallCourtModel" "moments" "I", Cond.methodLink RX6 66 yX6_in, Cond.static yX6_in, Cond.code yX6_in cX6_in 3 (some .boolean), Cond.methodLink RX6 87 yX6_isRuling, Cond.static yX6_isRuling, Cond.code yX6_isRuling cX6_isRuling 1 (some .boolean), Cond.methodLink RX6 134 yX6_mayBes, Cond.instanceMethod yX6_mayBes, Cond.selects RX6 yX6_mayBes yX6_mayBes, Cond.code yX6_mayBes cX6_mayBes 5 (some .int), Cond.methodLink RX6 83 yX6_allFacts, Cond.instanceMethod yX6_allFacts, Cond.selects RX6 yX6_allFacts yX6_allFacts, Cond.code yX6_allFacts cX6_allFacts 1 (some .int), Cond.fieldLink RX6 7 "BallCourtModel" "facts" "I", Cond.methodLink RX6 127 yX6_mayBe, Cond.instanceMethod yX6_mayBe, Cond.selects RX6 yX6_mayBe yX6_mayBe]
def wsX6_proof_r2 : List Cond := [Cond.code yX6_mayBe cX6_mayBe 3 (some .boolean), Cond.methodLink RX6 100 yX6_isKind, Cond.instanceMethod yX6_isKind, Cond.selects RX6 yX6_isKind yX6_isKind, Cond.code yX6_isKind cX6_isKind 4 (some .boolean), Cond.fieldLink RX6 13 "BallCourtModel" "bars" "[I", Cond.methodLink RX6 121 yX6_so, Cond.instanceMethod yX6_so, Cond.selects RX6 yX6_so yX6_so, Cond.code yX6_so cX6_so 4 (some .int), Cond.fieldLink RX6 33 "BallCourtModel" "toldSo" "[I", Cond.fieldLink RX6 36 "BallCourtModel" "toldNot" "[I", Cond.methodLink RX6 124 yX6_notSo, Cond.instanceMethod yX6_notSo, Cond.selects RX6 yX6_notSo yX6_notSo, Cond.code yX6_notSo cX6_notSo 4 (some .int), Cond.methodLink RX6 109 yX6_rulingFor, Cond.instanceMethod yX6_rulingFor, Cond.selects RX6 yX6_rulingFor yX6_rulingFor, Cond.code yX6_rulingFor cX6_rulingFor 3 (some .int), Cond.fieldLink RX6 23 "BallCourtModel" "ruling" "[I", Cond.methodLink RX6 106 yX6_lineFor, Cond.instanceMethod yX6_lineFor, Cond.selects RX6 yX6_lineFor yX6_lineFor]
def wsX6_proof_r3 : List Cond := [Cond.code yX6_lineFor cX6_lineFor 5 (some .int), Cond.fieldLink RX6 70 "BallCourtModel" "lines" "I", Cond.fieldLink RX6 30 "BallCourtModel" "excepts" "[I", Cond.methodLink RX6 103 yX6_holding, Cond.instanceMethod yX6_holding, Cond.selects RX6 yX6_holding yX6_holding, Cond.code yX6_holding cX6_holding 5 (some .int), Cond.fieldLink RX6 26 "BallCourtModel" "isRepealed" "[Z", Cond.fieldLink RX6 17 "BallCourtModel" "must" "[I", Cond.fieldLink RX6 20 "BallCourtModel" "mustNot" "[I"]
def wsX6_proof : List Cond := .code yX6_proof cX6_proof 4 (some .int) :: ((wsX6_proof_r1 ++ (wsX6_proof_r2 ++ wsX6_proof_r3)) ++ wsX60)
def wsX6_bindingCase : List Cond := .code yX6_bindingCase cX6_bindingCase 4 (some .int) :: ([.fieldLink RX6 76 "BallCourtModel" "cases" "I", .fieldLink RX6 48 "BallCourtModel" "caseNames" "[I", .fieldLink RX6 42 "BallCourtModel" "caseKind" "[I", .methodLink RX6 131 yX6_doubt, .instanceMethod yX6_doubt, .selects RX6 yX6_doubt yX6_doubt, .initialized RX6, .code yX6_doubt cX6_doubt 2 (some .int), .methodLink RX6 83 yX6_allFacts, .instanceMethod yX6_allFacts, .selects RX6 yX6_allFacts yX6_allFacts, .code yX6_allFacts cX6_allFacts 1 (some .int), .fieldLink RX6 7 "BallCourtModel" "facts" "I", .methodLink RX6 121 yX6_so, .instanceMethod yX6_so, .selects RX6 yX6_so yX6_so, .code yX6_so cX6_so 4 (some .int), .fieldLink RX6 33 "BallCourtModel" "toldSo" "[I", .fieldLink RX6 36 "BallCourtModel" "toldNot" "[I", .methodLink RX6 124 yX6_notSo, .instanceMethod yX6_notSo, .selects RX6 yX6_notSo yX6_notSo, .code yX6_notSo cX6_notSo 4 (some .int)] ++ wsX60)
def wsX6_binds_r1 : List Cond := [Cond.methodLink RX6 118 yX6_isMoment, Cond.instanceMethod yX6_isMoment, Cond.selects RX6 yX6_isMoment yX6_isMoment, Cond.initialized RX6, Cond.code yX6_isMoment cX6_isMoment 2 (some .boolean), Cond.fieldLink RX6 73 "BallCourtModel" "moments" "I", Cond.methodLink RX6 66 yX6_in, Cond.static yX6_in, Cond.code yX6_in cX6_in 3 (some .boolean), Cond.methodLink RX6 138 yX6_bindingCase, Cond.instanceMethod yX6_bindingCase, Cond.selects RX6 yX6_bindingCase yX6_bindingCase, Cond.code yX6_bindingCase cX6_bindingCase 4 (some .int), Cond.fieldLink RX6 76 "BallCourtModel" "cases" "I", Cond.fieldLink RX6 48 "BallCourtModel" "caseNames" "[I", Cond.fieldLink RX6 42 "BallCourtModel" "caseKind" "[I", Cond.methodLink RX6 131 yX6_doubt, Cond.instanceMethod yX6_doubt, Cond.selects RX6 yX6_doubt yX6_doubt, Cond.code yX6_doubt cX6_doubt 2 (some .int), Cond.methodLink RX6 83 yX6_allFacts, Cond.instanceMethod yX6_allFacts, Cond.selects RX6 yX6_allFacts yX6_allFacts, Cond.code yX6_allFacts cX6_allFacts 1 (some .int)]
def wsX6_binds_r2 : List Cond := [Cond.fieldLink RX6 7 "BallCourtModel" "facts" "I", Cond.methodLink RX6 121 yX6_so, Cond.instanceMethod yX6_so, Cond.selects RX6 yX6_so yX6_so, Cond.code yX6_so cX6_so 4 (some .int), Cond.fieldLink RX6 33 "BallCourtModel" "toldSo" "[I", Cond.fieldLink RX6 36 "BallCourtModel" "toldNot" "[I", Cond.methodLink RX6 124 yX6_notSo, Cond.instanceMethod yX6_notSo, Cond.selects RX6 yX6_notSo yX6_notSo, Cond.code yX6_notSo cX6_notSo 4 (some .int)]
def wsX6_binds : List Cond := .code yX6_binds cX6_binds 2 (some .int) :: ((wsX6_binds_r1 ++ wsX6_binds_r2) ++ wsX60)
def wsX6_verdictOf_r1 : List Cond := [Cond.fieldLink RX6 39 "BallCourtModel" "ruled" "[I", Cond.fieldLink RX6 45 "BallCourtModel" "caseRuling" "[I", Cond.methodLink RX6 134 yX6_mayBes, Cond.instanceMethod yX6_mayBes, Cond.selects RX6 yX6_mayBes yX6_mayBes, Cond.initialized RX6, Cond.code yX6_mayBes cX6_mayBes 5 (some .int), Cond.methodLink RX6 83 yX6_allFacts, Cond.instanceMethod yX6_allFacts, Cond.selects RX6 yX6_allFacts yX6_allFacts, Cond.code yX6_allFacts cX6_allFacts 1 (some .int), Cond.fieldLink RX6 7 "BallCourtModel" "facts" "I", Cond.methodLink RX6 127 yX6_mayBe, Cond.instanceMethod yX6_mayBe, Cond.selects RX6 yX6_mayBe yX6_mayBe, Cond.code yX6_mayBe cX6_mayBe 3 (some .boolean), Cond.methodLink RX6 100 yX6_isKind, Cond.instanceMethod yX6_isKind, Cond.selects RX6 yX6_isKind yX6_isKind, Cond.code yX6_isKind cX6_isKind 4 (some .boolean), Cond.fieldLink RX6 13 "BallCourtModel" "bars" "[I", Cond.methodLink RX6 66 yX6_in, Cond.static yX6_in, Cond.code yX6_in cX6_in 3 (some .boolean)]
def wsX6_verdictOf_r2 : List Cond := [Cond.methodLink RX6 121 yX6_so, Cond.instanceMethod yX6_so, Cond.selects RX6 yX6_so yX6_so, Cond.code yX6_so cX6_so 4 (some .int), Cond.fieldLink RX6 33 "BallCourtModel" "toldSo" "[I", Cond.fieldLink RX6 36 "BallCourtModel" "toldNot" "[I", Cond.methodLink RX6 124 yX6_notSo, Cond.instanceMethod yX6_notSo, Cond.selects RX6 yX6_notSo yX6_notSo, Cond.code yX6_notSo cX6_notSo 4 (some .int), Cond.methodLink RX6 109 yX6_rulingFor, Cond.instanceMethod yX6_rulingFor, Cond.selects RX6 yX6_rulingFor yX6_rulingFor, Cond.code yX6_rulingFor cX6_rulingFor 3 (some .int), Cond.fieldLink RX6 23 "BallCourtModel" "ruling" "[I", Cond.methodLink RX6 106 yX6_lineFor, Cond.instanceMethod yX6_lineFor, Cond.selects RX6 yX6_lineFor yX6_lineFor, Cond.code yX6_lineFor cX6_lineFor 5 (some .int), Cond.fieldLink RX6 70 "BallCourtModel" "lines" "I", Cond.fieldLink RX6 30 "BallCourtModel" "excepts" "[I", Cond.methodLink RX6 103 yX6_holding, Cond.instanceMethod yX6_holding, Cond.selects RX6 yX6_holding yX6_holding]
def wsX6_verdictOf_r3 : List Cond := [Cond.code yX6_holding cX6_holding 5 (some .int), Cond.fieldLink RX6 26 "BallCourtModel" "isRepealed" "[Z", Cond.fieldLink RX6 17 "BallCourtModel" "must" "[I", Cond.fieldLink RX6 20 "BallCourtModel" "mustNot" "[I", Cond.methodLink RX6 138 yX6_bindingCase, Cond.instanceMethod yX6_bindingCase, Cond.selects RX6 yX6_bindingCase yX6_bindingCase, Cond.code yX6_bindingCase cX6_bindingCase 4 (some .int), Cond.fieldLink RX6 76 "BallCourtModel" "cases" "I", Cond.fieldLink RX6 48 "BallCourtModel" "caseNames" "[I", Cond.fieldLink RX6 42 "BallCourtModel" "caseKind" "[I", Cond.methodLink RX6 131 yX6_doubt, Cond.instanceMethod yX6_doubt, Cond.selects RX6 yX6_doubt yX6_doubt, Cond.code yX6_doubt cX6_doubt 2 (some .int)]
def wsX6_verdictOf : List Cond := .code yX6_verdictOf cX6_verdictOf 5 (some .int) :: ((wsX6_verdictOf_r1 ++ (wsX6_verdictOf_r2 ++ wsX6_verdictOf_r3)) ++ wsX60)
def wsX6_verdict_r1 : List Cond := [Cond.methodLink RX6 118 yX6_isMoment, Cond.instanceMethod yX6_isMoment, Cond.selects RX6 yX6_isMoment yX6_isMoment, Cond.initialized RX6, Cond.code yX6_isMoment cX6_isMoment 2 (some .boolean), Cond.fieldLink RX6 73 "BallCourtModel" "moments" "I", Cond.methodLink RX6 66 yX6_in, Cond.static yX6_in, Cond.code yX6_in cX6_in 3 (some .boolean), Cond.methodLink RX6 141 yX6_verdictOf, Cond.instanceMethod yX6_verdictOf, Cond.selects RX6 yX6_verdictOf yX6_verdictOf, Cond.code yX6_verdictOf cX6_verdictOf 5 (some .int), Cond.fieldLink RX6 39 "BallCourtModel" "ruled" "[I", Cond.fieldLink RX6 45 "BallCourtModel" "caseRuling" "[I", Cond.methodLink RX6 134 yX6_mayBes, Cond.instanceMethod yX6_mayBes, Cond.selects RX6 yX6_mayBes yX6_mayBes, Cond.code yX6_mayBes cX6_mayBes 5 (some .int), Cond.methodLink RX6 83 yX6_allFacts, Cond.instanceMethod yX6_allFacts, Cond.selects RX6 yX6_allFacts yX6_allFacts, Cond.code yX6_allFacts cX6_allFacts 1 (some .int), Cond.fieldLink RX6 7 "BallCourtModel" "facts" "I"]
def wsX6_verdict_r2 : List Cond := [Cond.methodLink RX6 127 yX6_mayBe, Cond.instanceMethod yX6_mayBe, Cond.selects RX6 yX6_mayBe yX6_mayBe, Cond.code yX6_mayBe cX6_mayBe 3 (some .boolean), Cond.methodLink RX6 100 yX6_isKind, Cond.instanceMethod yX6_isKind, Cond.selects RX6 yX6_isKind yX6_isKind, Cond.code yX6_isKind cX6_isKind 4 (some .boolean), Cond.fieldLink RX6 13 "BallCourtModel" "bars" "[I", Cond.methodLink RX6 121 yX6_so, Cond.instanceMethod yX6_so, Cond.selects RX6 yX6_so yX6_so, Cond.code yX6_so cX6_so 4 (some .int), Cond.fieldLink RX6 33 "BallCourtModel" "toldSo" "[I", Cond.fieldLink RX6 36 "BallCourtModel" "toldNot" "[I", Cond.methodLink RX6 124 yX6_notSo, Cond.instanceMethod yX6_notSo, Cond.selects RX6 yX6_notSo yX6_notSo, Cond.code yX6_notSo cX6_notSo 4 (some .int), Cond.methodLink RX6 109 yX6_rulingFor, Cond.instanceMethod yX6_rulingFor, Cond.selects RX6 yX6_rulingFor yX6_rulingFor, Cond.code yX6_rulingFor cX6_rulingFor 3 (some .int), Cond.fieldLink RX6 23 "BallCourtModel" "ruling" "[I"]
def wsX6_verdict_r3 : List Cond := [Cond.methodLink RX6 106 yX6_lineFor, Cond.instanceMethod yX6_lineFor, Cond.selects RX6 yX6_lineFor yX6_lineFor, Cond.code yX6_lineFor cX6_lineFor 5 (some .int), Cond.fieldLink RX6 70 "BallCourtModel" "lines" "I", Cond.fieldLink RX6 30 "BallCourtModel" "excepts" "[I", Cond.methodLink RX6 103 yX6_holding, Cond.instanceMethod yX6_holding, Cond.selects RX6 yX6_holding yX6_holding, Cond.code yX6_holding cX6_holding 5 (some .int), Cond.fieldLink RX6 26 "BallCourtModel" "isRepealed" "[Z", Cond.fieldLink RX6 17 "BallCourtModel" "must" "[I", Cond.fieldLink RX6 20 "BallCourtModel" "mustNot" "[I", Cond.methodLink RX6 138 yX6_bindingCase, Cond.instanceMethod yX6_bindingCase, Cond.selects RX6 yX6_bindingCase yX6_bindingCase, Cond.code yX6_bindingCase cX6_bindingCase 4 (some .int), Cond.fieldLink RX6 76 "BallCourtModel" "cases" "I", Cond.fieldLink RX6 48 "BallCourtModel" "caseNames" "[I", Cond.fieldLink RX6 42 "BallCourtModel" "caseKind" "[I", Cond.methodLink RX6 131 yX6_doubt, Cond.instanceMethod yX6_doubt, Cond.selects RX6 yX6_doubt yX6_doubt, Cond.code yX6_doubt cX6_doubt 2 (some .int)]
def wsX6_verdict : List Cond := .code yX6_verdict cX6_verdict 2 (some .int) :: ((wsX6_verdict_r1 ++ (wsX6_verdict_r2 ++ wsX6_verdict_r3)) ++ wsX60)
def wsX6_rule_r1 : List Cond := [Cond.fieldLink RX6 39 "BallCourtModel" "ruled" "[I", Cond.methodLink RX6 118 yX6_isMoment, Cond.instanceMethod yX6_isMoment, Cond.selects RX6 yX6_isMoment yX6_isMoment, Cond.initialized RX6, Cond.code yX6_isMoment cX6_isMoment 2 (some .boolean), Cond.fieldLink RX6 73 "BallCourtModel" "moments" "I", Cond.methodLink RX6 66 yX6_in, Cond.static yX6_in, Cond.code yX6_in cX6_in 3 (some .boolean), Cond.methodLink RX6 87 yX6_isRuling, Cond.static yX6_isRuling, Cond.code yX6_isRuling cX6_isRuling 1 (some .boolean), Cond.methodLink RX6 141 yX6_verdictOf, Cond.instanceMethod yX6_verdictOf, Cond.selects RX6 yX6_verdictOf yX6_verdictOf, Cond.code yX6_verdictOf cX6_verdictOf 5 (some .int), Cond.fieldLink RX6 45 "BallCourtModel" "caseRuling" "[I", Cond.methodLink RX6 134 yX6_mayBes, Cond.instanceMethod yX6_mayBes, Cond.selects RX6 yX6_mayBes yX6_mayBes, Cond.code yX6_mayBes cX6_mayBes 5 (some .int), Cond.methodLink RX6 83 yX6_allFacts, Cond.instanceMethod yX6_allFacts]
def wsX6_rule_r2 : List Cond := [Cond.selects RX6 yX6_allFacts yX6_allFacts, Cond.code yX6_allFacts cX6_allFacts 1 (some .int), Cond.fieldLink RX6 7 "BallCourtModel" "facts" "I", Cond.methodLink RX6 127 yX6_mayBe, Cond.instanceMethod yX6_mayBe, Cond.selects RX6 yX6_mayBe yX6_mayBe, Cond.code yX6_mayBe cX6_mayBe 3 (some .boolean), Cond.methodLink RX6 100 yX6_isKind, Cond.instanceMethod yX6_isKind, Cond.selects RX6 yX6_isKind yX6_isKind, Cond.code yX6_isKind cX6_isKind 4 (some .boolean), Cond.fieldLink RX6 13 "BallCourtModel" "bars" "[I", Cond.methodLink RX6 121 yX6_so, Cond.instanceMethod yX6_so, Cond.selects RX6 yX6_so yX6_so, Cond.code yX6_so cX6_so 4 (some .int), Cond.fieldLink RX6 33 "BallCourtModel" "toldSo" "[I", Cond.fieldLink RX6 36 "BallCourtModel" "toldNot" "[I", Cond.methodLink RX6 124 yX6_notSo, Cond.instanceMethod yX6_notSo, Cond.selects RX6 yX6_notSo yX6_notSo, Cond.code yX6_notSo cX6_notSo 4 (some .int), Cond.methodLink RX6 109 yX6_rulingFor, Cond.instanceMethod yX6_rulingFor]
def wsX6_rule_r3 : List Cond := [Cond.selects RX6 yX6_rulingFor yX6_rulingFor, Cond.code yX6_rulingFor cX6_rulingFor 3 (some .int), Cond.fieldLink RX6 23 "BallCourtModel" "ruling" "[I", Cond.methodLink RX6 106 yX6_lineFor, Cond.instanceMethod yX6_lineFor, Cond.selects RX6 yX6_lineFor yX6_lineFor, Cond.code yX6_lineFor cX6_lineFor 5 (some .int), Cond.fieldLink RX6 70 "BallCourtModel" "lines" "I", Cond.fieldLink RX6 30 "BallCourtModel" "excepts" "[I", Cond.methodLink RX6 103 yX6_holding, Cond.instanceMethod yX6_holding, Cond.selects RX6 yX6_holding yX6_holding, Cond.code yX6_holding cX6_holding 5 (some .int), Cond.fieldLink RX6 26 "BallCourtModel" "isRepealed" "[Z", Cond.fieldLink RX6 17 "BallCourtModel" "must" "[I", Cond.fieldLink RX6 20 "BallCourtModel" "mustNot" "[I", Cond.methodLink RX6 138 yX6_bindingCase, Cond.instanceMethod yX6_bindingCase, Cond.selects RX6 yX6_bindingCase yX6_bindingCase, Cond.code yX6_bindingCase cX6_bindingCase 4 (some .int), Cond.fieldLink RX6 76 "BallCourtModel" "cases" "I", Cond.fieldLink RX6 48 "BallCourtModel" "caseNames" "[I", Cond.fieldLink RX6 42 "BallCourtModel" "caseKind" "[I", Cond.methodLink RX6 131 yX6_doubt]
def wsX6_rule_r4 : List Cond := [Cond.instanceMethod yX6_doubt, Cond.selects RX6 yX6_doubt yX6_doubt, Cond.code yX6_doubt cX6_doubt 2 (some .int)]
def wsX6_rule : List Cond := .code yX6_rule cX6_rule 4 (some .int) :: ((wsX6_rule_r1 ++ (wsX6_rule_r2 ++ (wsX6_rule_r3 ++ wsX6_rule_r4))) ++ wsX60)
def wsX6_make_r1 : List Cond := [Cond.fieldLink RX6 76 "BallCourtModel" "cases" "I", Cond.fieldLink RX6 45 "BallCourtModel" "caseRuling" "[I", Cond.fieldLink RX6 42 "BallCourtModel" "caseKind" "[I", Cond.fieldLink RX6 48 "BallCourtModel" "caseNames" "[I", Cond.methodLink RX6 118 yX6_isMoment, Cond.instanceMethod yX6_isMoment, Cond.selects RX6 yX6_isMoment yX6_isMoment, Cond.initialized RX6, Cond.code yX6_isMoment cX6_isMoment 2 (some .boolean), Cond.fieldLink RX6 73 "BallCourtModel" "moments" "I", Cond.methodLink RX6 66 yX6_in, Cond.static yX6_in, Cond.code yX6_in cX6_in 3 (some .boolean), Cond.methodLink RX6 131 yX6_doubt, Cond.instanceMethod yX6_doubt, Cond.selects RX6 yX6_doubt yX6_doubt, Cond.code yX6_doubt cX6_doubt 2 (some .int), Cond.methodLink RX6 83 yX6_allFacts, Cond.instanceMethod yX6_allFacts, Cond.selects RX6 yX6_allFacts yX6_allFacts, Cond.code yX6_allFacts cX6_allFacts 1 (some .int), Cond.fieldLink RX6 7 "BallCourtModel" "facts" "I", Cond.methodLink RX6 121 yX6_so, Cond.instanceMethod yX6_so]
def wsX6_make_r2 : List Cond := [Cond.selects RX6 yX6_so yX6_so, Cond.code yX6_so cX6_so 4 (some .int), Cond.fieldLink RX6 33 "BallCourtModel" "toldSo" "[I", Cond.fieldLink RX6 36 "BallCourtModel" "toldNot" "[I", Cond.methodLink RX6 124 yX6_notSo, Cond.instanceMethod yX6_notSo, Cond.selects RX6 yX6_notSo yX6_notSo, Cond.code yX6_notSo cX6_notSo 4 (some .int), Cond.methodLink RX6 134 yX6_mayBes, Cond.instanceMethod yX6_mayBes, Cond.selects RX6 yX6_mayBes yX6_mayBes, Cond.code yX6_mayBes cX6_mayBes 5 (some .int), Cond.methodLink RX6 127 yX6_mayBe, Cond.instanceMethod yX6_mayBe, Cond.selects RX6 yX6_mayBe yX6_mayBe, Cond.code yX6_mayBe cX6_mayBe 3 (some .boolean), Cond.methodLink RX6 100 yX6_isKind, Cond.instanceMethod yX6_isKind, Cond.selects RX6 yX6_isKind yX6_isKind, Cond.code yX6_isKind cX6_isKind 4 (some .boolean), Cond.fieldLink RX6 13 "BallCourtModel" "bars" "[I", Cond.methodLink RX6 109 yX6_rulingFor, Cond.instanceMethod yX6_rulingFor, Cond.selects RX6 yX6_rulingFor yX6_rulingFor]
def wsX6_make_r3 : List Cond := [Cond.code yX6_rulingFor cX6_rulingFor 3 (some .int), Cond.fieldLink RX6 23 "BallCourtModel" "ruling" "[I", Cond.methodLink RX6 106 yX6_lineFor, Cond.instanceMethod yX6_lineFor, Cond.selects RX6 yX6_lineFor yX6_lineFor, Cond.code yX6_lineFor cX6_lineFor 5 (some .int), Cond.fieldLink RX6 70 "BallCourtModel" "lines" "I", Cond.fieldLink RX6 30 "BallCourtModel" "excepts" "[I", Cond.methodLink RX6 103 yX6_holding, Cond.instanceMethod yX6_holding, Cond.selects RX6 yX6_holding yX6_holding, Cond.code yX6_holding cX6_holding 5 (some .int), Cond.fieldLink RX6 26 "BallCourtModel" "isRepealed" "[Z", Cond.fieldLink RX6 17 "BallCourtModel" "must" "[I", Cond.fieldLink RX6 20 "BallCourtModel" "mustNot" "[I", Cond.methodLink RX6 141 yX6_verdictOf, Cond.instanceMethod yX6_verdictOf, Cond.selects RX6 yX6_verdictOf yX6_verdictOf, Cond.code yX6_verdictOf cX6_verdictOf 5 (some .int), Cond.fieldLink RX6 39 "BallCourtModel" "ruled" "[I", Cond.methodLink RX6 138 yX6_bindingCase, Cond.instanceMethod yX6_bindingCase, Cond.selects RX6 yX6_bindingCase yX6_bindingCase, Cond.code yX6_bindingCase cX6_bindingCase 4 (some .int)]
def wsX6_make_r4 : List Cond := [Cond.methodLink RX6 97 yX6_namedBy, Cond.instanceMethod yX6_namedBy, Cond.selects RX6 yX6_namedBy yX6_namedBy, Cond.code yX6_namedBy cX6_namedBy 5 (some .int)]
def wsX6_make : List Cond := .code yX6_make cX6_make 4 (some .int) :: ((wsX6_make_r1 ++ (wsX6_make_r2 ++ (wsX6_make_r3 ++ wsX6_make_r4))) ++ wsX60)
def wsX6_ofCase : List Cond := .code yX6_ofCase cX6_ofCase 3 (some .int) :: ([.fieldLink RX6 76 "BallCourtModel" "cases" "I", .fieldLink RX6 42 "BallCourtModel" "caseKind" "[I", .fieldLink RX6 45 "BallCourtModel" "caseRuling" "[I", .fieldLink RX6 48 "BallCourtModel" "caseNames" "[I", .methodLink RX6 66 yX6_in, .static yX6_in, .initialized RX6, .code yX6_in cX6_in 3 (some .boolean)] ++ wsX60)
def wsX6_turned : List Cond := .code yX6_turned cX6_turned 3 (some .int) :: ([.fieldLink RX6 76 "BallCourtModel" "cases" "I", .fieldLink RX6 45 "BallCourtModel" "caseRuling" "[I", .fieldLink RX6 42 "BallCourtModel" "caseKind" "[I", .methodLink RX6 109 yX6_rulingFor, .instanceMethod yX6_rulingFor, .selects RX6 yX6_rulingFor yX6_rulingFor, .initialized RX6, .code yX6_rulingFor cX6_rulingFor 3 (some .int), .fieldLink RX6 23 "BallCourtModel" "ruling" "[I", .methodLink RX6 106 yX6_lineFor, .instanceMethod yX6_lineFor, .selects RX6 yX6_lineFor yX6_lineFor, .code yX6_lineFor cX6_lineFor 5 (some .int), .fieldLink RX6 70 "BallCourtModel" "lines" "I", .fieldLink RX6 30 "BallCourtModel" "excepts" "[I", .methodLink RX6 103 yX6_holding, .instanceMethod yX6_holding, .selects RX6 yX6_holding yX6_holding, .code yX6_holding cX6_holding 5 (some .int), .fieldLink RX6 26 "BallCourtModel" "isRepealed" "[Z", .fieldLink RX6 17 "BallCourtModel" "must" "[I", .fieldLink RX6 20 "BallCourtModel" "mustNot" "[I"] ++ wsX60)
def wsX6_mend_r1 : List Cond := [Cond.fieldLink RX6 76 "BallCourtModel" "cases" "I", Cond.fieldLink RX6 54 "BallCourtModel" "before" "[I", Cond.fieldLink RX6 42 "BallCourtModel" "caseKind" "[I", Cond.fieldLink RX6 73 "BallCourtModel" "moments" "I", Cond.fieldLink RX6 57 "BallCourtModel" "verdict" "[I", Cond.fieldLink RX6 26 "BallCourtModel" "isRepealed" "[Z", Cond.methodLink RX6 90 yX6_isLine, Cond.instanceMethod yX6_isLine, Cond.selects RX6 yX6_isLine yX6_isLine, Cond.initialized RX6, Cond.code yX6_isLine cX6_isLine 2 (some .boolean), Cond.fieldLink RX6 70 "BallCourtModel" "lines" "I", Cond.methodLink RX6 66 yX6_in, Cond.static yX6_in, Cond.code yX6_in cX6_in 3 (some .boolean), Cond.methodLink RX6 115 yX6_turnedKinds, Cond.instanceMethod yX6_turnedKinds, Cond.selects RX6 yX6_turnedKinds yX6_turnedKinds, Cond.code yX6_turnedKinds cX6_turnedKinds 4 (some .int), Cond.methodLink RX6 83 yX6_allFacts, Cond.instanceMethod yX6_allFacts, Cond.selects RX6 yX6_allFacts yX6_allFacts, Cond.code yX6_allFacts cX6_allFacts 1 (some .int), Cond.fieldLink RX6 7 "BallCourtModel" "facts" "I"]
def wsX6_mend_r2 : List Cond := [Cond.methodLink RX6 112 yX6_bound, Cond.instanceMethod yX6_bound, Cond.selects RX6 yX6_bound yX6_bound, Cond.code yX6_bound cX6_bound 2 (some .int), Cond.methodLink RX6 109 yX6_rulingFor, Cond.instanceMethod yX6_rulingFor, Cond.selects RX6 yX6_rulingFor yX6_rulingFor, Cond.code yX6_rulingFor cX6_rulingFor 3 (some .int), Cond.fieldLink RX6 23 "BallCourtModel" "ruling" "[I", Cond.methodLink RX6 106 yX6_lineFor, Cond.instanceMethod yX6_lineFor, Cond.selects RX6 yX6_lineFor yX6_lineFor, Cond.code yX6_lineFor cX6_lineFor 5 (some .int), Cond.fieldLink RX6 30 "BallCourtModel" "excepts" "[I", Cond.methodLink RX6 103 yX6_holding, Cond.instanceMethod yX6_holding, Cond.selects RX6 yX6_holding yX6_holding, Cond.code yX6_holding cX6_holding 5 (some .int), Cond.fieldLink RX6 17 "BallCourtModel" "must" "[I", Cond.fieldLink RX6 20 "BallCourtModel" "mustNot" "[I", Cond.methodLink RX6 100 yX6_isKind, Cond.instanceMethod yX6_isKind, Cond.selects RX6 yX6_isKind yX6_isKind, Cond.code yX6_isKind cX6_isKind 4 (some .boolean)]
def wsX6_mend_r3 : List Cond := [Cond.fieldLink RX6 13 "BallCourtModel" "bars" "[I", Cond.methodLink RX6 141 yX6_verdictOf, Cond.instanceMethod yX6_verdictOf, Cond.selects RX6 yX6_verdictOf yX6_verdictOf, Cond.code yX6_verdictOf cX6_verdictOf 5 (some .int), Cond.fieldLink RX6 39 "BallCourtModel" "ruled" "[I", Cond.fieldLink RX6 45 "BallCourtModel" "caseRuling" "[I", Cond.methodLink RX6 134 yX6_mayBes, Cond.instanceMethod yX6_mayBes, Cond.selects RX6 yX6_mayBes yX6_mayBes, Cond.code yX6_mayBes cX6_mayBes 5 (some .int), Cond.methodLink RX6 127 yX6_mayBe, Cond.instanceMethod yX6_mayBe, Cond.selects RX6 yX6_mayBe yX6_mayBe, Cond.code yX6_mayBe cX6_mayBe 3 (some .boolean), Cond.methodLink RX6 121 yX6_so, Cond.instanceMethod yX6_so, Cond.selects RX6 yX6_so yX6_so, Cond.code yX6_so cX6_so 4 (some .int), Cond.fieldLink RX6 33 "BallCourtModel" "toldSo" "[I", Cond.fieldLink RX6 36 "BallCourtModel" "toldNot" "[I", Cond.methodLink RX6 124 yX6_notSo, Cond.instanceMethod yX6_notSo, Cond.selects RX6 yX6_notSo yX6_notSo]
def wsX6_mend_r4 : List Cond := [Cond.code yX6_notSo cX6_notSo 4 (some .int), Cond.methodLink RX6 138 yX6_bindingCase, Cond.instanceMethod yX6_bindingCase, Cond.selects RX6 yX6_bindingCase yX6_bindingCase, Cond.code yX6_bindingCase cX6_bindingCase 4 (some .int), Cond.fieldLink RX6 48 "BallCourtModel" "caseNames" "[I", Cond.methodLink RX6 131 yX6_doubt, Cond.instanceMethod yX6_doubt, Cond.selects RX6 yX6_doubt yX6_doubt, Cond.code yX6_doubt cX6_doubt 2 (some .int)]
def wsX6_mend : List Cond := .code yX6_mend cX6_mend 6 (some .int) :: ((wsX6_mend_r1 ++ (wsX6_mend_r2 ++ (wsX6_mend_r3 ++ wsX6_mend_r4))) ++ wsX60)
def wsX6_goal : List Cond := .code yX6_goal cX6_goal 3 (some .int) :: ([.fieldLink RX6 51 "BallCourtModel" "goal" "I", .methodLink RX6 66 yX6_in, .static yX6_in, .initialized RX6, .code yX6_in cX6_in 3 (some .boolean)] ++ wsX60)
def wsX6_begin : List Cond := .code yX6_begin cX6_begin 1 none :: ([.fieldLink RX6 60 "BallCourtModel" "state" "[I"] ++ wsX60)
def wsX6_play : List Cond := .code yX6_play cX6_play 3 none :: ([.fieldLink RX6 60 "BallCourtModel" "state" "[I", .fieldLink RX6 51 "BallCourtModel" "goal" "I"] ++ wsX60)
def wsX6_score_r1 : List Cond := [Cond.fieldLink RX6 73 "BallCourtModel" "moments" "I", Cond.fieldLink RX6 60 "BallCourtModel" "state" "[I", Cond.methodLink RX6 66 yX6_in, Cond.static yX6_in, Cond.initialized RX6, Cond.code yX6_in cX6_in 3 (some .boolean), Cond.methodLink RX6 144 yX6_begin, Cond.instanceMethod yX6_begin, Cond.selects RX6 yX6_begin yX6_begin, Cond.code yX6_begin cX6_begin 1 none, Cond.methodLink RX6 141 yX6_verdictOf, Cond.instanceMethod yX6_verdictOf, Cond.selects RX6 yX6_verdictOf yX6_verdictOf, Cond.code yX6_verdictOf cX6_verdictOf 5 (some .int), Cond.fieldLink RX6 39 "BallCourtModel" "ruled" "[I", Cond.fieldLink RX6 45 "BallCourtModel" "caseRuling" "[I", Cond.methodLink RX6 134 yX6_mayBes, Cond.instanceMethod yX6_mayBes, Cond.selects RX6 yX6_mayBes yX6_mayBes, Cond.code yX6_mayBes cX6_mayBes 5 (some .int), Cond.methodLink RX6 83 yX6_allFacts, Cond.instanceMethod yX6_allFacts, Cond.selects RX6 yX6_allFacts yX6_allFacts, Cond.code yX6_allFacts cX6_allFacts 1 (some .int)]
def wsX6_score_r2 : List Cond := [Cond.fieldLink RX6 7 "BallCourtModel" "facts" "I", Cond.methodLink RX6 127 yX6_mayBe, Cond.instanceMethod yX6_mayBe, Cond.selects RX6 yX6_mayBe yX6_mayBe, Cond.code yX6_mayBe cX6_mayBe 3 (some .boolean), Cond.methodLink RX6 100 yX6_isKind, Cond.instanceMethod yX6_isKind, Cond.selects RX6 yX6_isKind yX6_isKind, Cond.code yX6_isKind cX6_isKind 4 (some .boolean), Cond.fieldLink RX6 13 "BallCourtModel" "bars" "[I", Cond.methodLink RX6 121 yX6_so, Cond.instanceMethod yX6_so, Cond.selects RX6 yX6_so yX6_so, Cond.code yX6_so cX6_so 4 (some .int), Cond.fieldLink RX6 33 "BallCourtModel" "toldSo" "[I", Cond.fieldLink RX6 36 "BallCourtModel" "toldNot" "[I", Cond.methodLink RX6 124 yX6_notSo, Cond.instanceMethod yX6_notSo, Cond.selects RX6 yX6_notSo yX6_notSo, Cond.code yX6_notSo cX6_notSo 4 (some .int), Cond.methodLink RX6 109 yX6_rulingFor, Cond.instanceMethod yX6_rulingFor, Cond.selects RX6 yX6_rulingFor yX6_rulingFor, Cond.code yX6_rulingFor cX6_rulingFor 3 (some .int)]
def wsX6_score_r3 : List Cond := [Cond.fieldLink RX6 23 "BallCourtModel" "ruling" "[I", Cond.methodLink RX6 106 yX6_lineFor, Cond.instanceMethod yX6_lineFor, Cond.selects RX6 yX6_lineFor yX6_lineFor, Cond.code yX6_lineFor cX6_lineFor 5 (some .int), Cond.fieldLink RX6 70 "BallCourtModel" "lines" "I", Cond.fieldLink RX6 30 "BallCourtModel" "excepts" "[I", Cond.methodLink RX6 103 yX6_holding, Cond.instanceMethod yX6_holding, Cond.selects RX6 yX6_holding yX6_holding, Cond.code yX6_holding cX6_holding 5 (some .int), Cond.fieldLink RX6 26 "BallCourtModel" "isRepealed" "[Z", Cond.fieldLink RX6 17 "BallCourtModel" "must" "[I", Cond.fieldLink RX6 20 "BallCourtModel" "mustNot" "[I", Cond.methodLink RX6 138 yX6_bindingCase, Cond.instanceMethod yX6_bindingCase, Cond.selects RX6 yX6_bindingCase yX6_bindingCase, Cond.code yX6_bindingCase cX6_bindingCase 4 (some .int), Cond.fieldLink RX6 76 "BallCourtModel" "cases" "I", Cond.fieldLink RX6 48 "BallCourtModel" "caseNames" "[I", Cond.fieldLink RX6 42 "BallCourtModel" "caseKind" "[I", Cond.methodLink RX6 131 yX6_doubt, Cond.instanceMethod yX6_doubt, Cond.selects RX6 yX6_doubt yX6_doubt]
def wsX6_score_r4 : List Cond := [Cond.code yX6_doubt cX6_doubt 2 (some .int), Cond.methodLink RX6 147 yX6_play, Cond.instanceMethod yX6_play, Cond.selects RX6 yX6_play yX6_play, Cond.code yX6_play cX6_play 3 none, Cond.fieldLink RX6 51 "BallCourtModel" "goal" "I"]
def wsX6_score : List Cond := .code yX6_score cX6_score 4 (some .int) :: ((wsX6_score_r1 ++ (wsX6_score_r2 ++ (wsX6_score_r3 ++ wsX6_score_r4))) ++ wsX60)
def wsX6_packed : List Cond := .code yX6_packed cX6_packed 1 (some .int) :: ([.fieldLink RX6 60 "BallCourtModel" "state" "[I"] ++ wsX60)
def wsX6_appeal_r1 : List Cond := [Cond.fieldLink RX6 73 "BallCourtModel" "moments" "I", Cond.fieldLink RX6 57 "BallCourtModel" "verdict" "[I", Cond.fieldLink RX6 63 "BallCourtModel" "course" "[I", Cond.methodLink RX6 118 yX6_isMoment, Cond.instanceMethod yX6_isMoment, Cond.selects RX6 yX6_isMoment yX6_isMoment, Cond.initialized RX6, Cond.code yX6_isMoment cX6_isMoment 2 (some .boolean), Cond.methodLink RX6 66 yX6_in, Cond.static yX6_in, Cond.code yX6_in cX6_in 3 (some .boolean), Cond.methodLink RX6 87 yX6_isRuling, Cond.static yX6_isRuling, Cond.code yX6_isRuling cX6_isRuling 1 (some .boolean), Cond.methodLink RX6 144 yX6_begin, Cond.instanceMethod yX6_begin, Cond.selects RX6 yX6_begin yX6_begin, Cond.code yX6_begin cX6_begin 1 none, Cond.fieldLink RX6 60 "BallCourtModel" "state" "[I", Cond.methodLink RX6 141 yX6_verdictOf, Cond.instanceMethod yX6_verdictOf, Cond.selects RX6 yX6_verdictOf yX6_verdictOf, Cond.code yX6_verdictOf cX6_verdictOf 5 (some .int), Cond.fieldLink RX6 39 "BallCourtModel" "ruled" "[I"]
def wsX6_appeal_r2 : List Cond := [Cond.fieldLink RX6 45 "BallCourtModel" "caseRuling" "[I", Cond.methodLink RX6 134 yX6_mayBes, Cond.instanceMethod yX6_mayBes, Cond.selects RX6 yX6_mayBes yX6_mayBes, Cond.code yX6_mayBes cX6_mayBes 5 (some .int), Cond.methodLink RX6 83 yX6_allFacts, Cond.instanceMethod yX6_allFacts, Cond.selects RX6 yX6_allFacts yX6_allFacts, Cond.code yX6_allFacts cX6_allFacts 1 (some .int), Cond.fieldLink RX6 7 "BallCourtModel" "facts" "I", Cond.methodLink RX6 127 yX6_mayBe, Cond.instanceMethod yX6_mayBe, Cond.selects RX6 yX6_mayBe yX6_mayBe, Cond.code yX6_mayBe cX6_mayBe 3 (some .boolean), Cond.methodLink RX6 100 yX6_isKind, Cond.instanceMethod yX6_isKind, Cond.selects RX6 yX6_isKind yX6_isKind, Cond.code yX6_isKind cX6_isKind 4 (some .boolean), Cond.fieldLink RX6 13 "BallCourtModel" "bars" "[I", Cond.methodLink RX6 121 yX6_so, Cond.instanceMethod yX6_so, Cond.selects RX6 yX6_so yX6_so, Cond.code yX6_so cX6_so 4 (some .int), Cond.fieldLink RX6 33 "BallCourtModel" "toldSo" "[I"]
def wsX6_appeal_r3 : List Cond := [Cond.fieldLink RX6 36 "BallCourtModel" "toldNot" "[I", Cond.methodLink RX6 124 yX6_notSo, Cond.instanceMethod yX6_notSo, Cond.selects RX6 yX6_notSo yX6_notSo, Cond.code yX6_notSo cX6_notSo 4 (some .int), Cond.methodLink RX6 109 yX6_rulingFor, Cond.instanceMethod yX6_rulingFor, Cond.selects RX6 yX6_rulingFor yX6_rulingFor, Cond.code yX6_rulingFor cX6_rulingFor 3 (some .int), Cond.fieldLink RX6 23 "BallCourtModel" "ruling" "[I", Cond.methodLink RX6 106 yX6_lineFor, Cond.instanceMethod yX6_lineFor, Cond.selects RX6 yX6_lineFor yX6_lineFor, Cond.code yX6_lineFor cX6_lineFor 5 (some .int), Cond.fieldLink RX6 70 "BallCourtModel" "lines" "I", Cond.fieldLink RX6 30 "BallCourtModel" "excepts" "[I", Cond.methodLink RX6 103 yX6_holding, Cond.instanceMethod yX6_holding, Cond.selects RX6 yX6_holding yX6_holding, Cond.code yX6_holding cX6_holding 5 (some .int), Cond.fieldLink RX6 26 "BallCourtModel" "isRepealed" "[Z", Cond.fieldLink RX6 17 "BallCourtModel" "must" "[I", Cond.fieldLink RX6 20 "BallCourtModel" "mustNot" "[I", Cond.methodLink RX6 138 yX6_bindingCase]
def wsX6_appeal_r4 : List Cond := [Cond.instanceMethod yX6_bindingCase, Cond.selects RX6 yX6_bindingCase yX6_bindingCase, Cond.code yX6_bindingCase cX6_bindingCase 4 (some .int), Cond.fieldLink RX6 76 "BallCourtModel" "cases" "I", Cond.fieldLink RX6 48 "BallCourtModel" "caseNames" "[I", Cond.fieldLink RX6 42 "BallCourtModel" "caseKind" "[I", Cond.methodLink RX6 131 yX6_doubt, Cond.instanceMethod yX6_doubt, Cond.selects RX6 yX6_doubt yX6_doubt, Cond.code yX6_doubt cX6_doubt 2 (some .int), Cond.methodLink RX6 147 yX6_play, Cond.instanceMethod yX6_play, Cond.selects RX6 yX6_play yX6_play, Cond.code yX6_play cX6_play 3 none, Cond.fieldLink RX6 51 "BallCourtModel" "goal" "I", Cond.methodLink RX6 151 yX6_packed, Cond.instanceMethod yX6_packed, Cond.selects RX6 yX6_packed yX6_packed, Cond.code yX6_packed cX6_packed 1 (some .int)]
def wsX6_appeal : List Cond := .code yX6_appeal cX6_appeal 4 (some .int) :: ((wsX6_appeal_r1 ++ (wsX6_appeal_r2 ++ (wsX6_appeal_r3 ++ wsX6_appeal_r4))) ++ wsX60)
def wsX6_kinds_r1 : List Cond := [Cond.methodLink RX6 83 yX6_allFacts, Cond.instanceMethod yX6_allFacts, Cond.selects RX6 yX6_allFacts yX6_allFacts, Cond.initialized RX6, Cond.code yX6_allFacts cX6_allFacts 1 (some .int), Cond.fieldLink RX6 7 "BallCourtModel" "facts" "I", Cond.methodLink RX6 100 yX6_isKind, Cond.instanceMethod yX6_isKind, Cond.selects RX6 yX6_isKind yX6_isKind, Cond.code yX6_isKind cX6_isKind 4 (some .boolean), Cond.fieldLink RX6 13 "BallCourtModel" "bars" "[I", Cond.methodLink RX6 66 yX6_in, Cond.static yX6_in, Cond.code yX6_in cX6_in 3 (some .boolean), Cond.methodLink RX6 106 yX6_lineFor, Cond.instanceMethod yX6_lineFor, Cond.selects RX6 yX6_lineFor yX6_lineFor, Cond.code yX6_lineFor cX6_lineFor 5 (some .int), Cond.fieldLink RX6 70 "BallCourtModel" "lines" "I", Cond.fieldLink RX6 30 "BallCourtModel" "excepts" "[I", Cond.methodLink RX6 103 yX6_holding, Cond.instanceMethod yX6_holding, Cond.selects RX6 yX6_holding yX6_holding, Cond.code yX6_holding cX6_holding 5 (some .int)]
def wsX6_kinds_r2 : List Cond := [Cond.fieldLink RX6 26 "BallCourtModel" "isRepealed" "[Z", Cond.fieldLink RX6 17 "BallCourtModel" "must" "[I", Cond.fieldLink RX6 20 "BallCourtModel" "mustNot" "[I"]
def wsX6_kinds : List Cond := .code yX6_kinds cX6_kinds 4 (some .int) :: ((wsX6_kinds_r1 ++ wsX6_kinds_r2) ++ wsX60)
def wsX6_told_r1 : List Cond := [Cond.fieldLink RX6 7 "BallCourtModel" "facts" "I", Cond.fieldLink RX6 70 "BallCourtModel" "lines" "I", Cond.fieldLink RX6 73 "BallCourtModel" "moments" "I", Cond.fieldLink RX6 76 "BallCourtModel" "cases" "I", Cond.fieldLink RX6 51 "BallCourtModel" "goal" "I", Cond.methodLink RX6 154 yX6_kinds, Cond.instanceMethod yX6_kinds, Cond.selects RX6 yX6_kinds yX6_kinds, Cond.initialized RX6, Cond.code yX6_kinds cX6_kinds 4 (some .int), Cond.methodLink RX6 83 yX6_allFacts, Cond.instanceMethod yX6_allFacts, Cond.selects RX6 yX6_allFacts yX6_allFacts, Cond.code yX6_allFacts cX6_allFacts 1 (some .int), Cond.methodLink RX6 100 yX6_isKind, Cond.instanceMethod yX6_isKind, Cond.selects RX6 yX6_isKind yX6_isKind, Cond.code yX6_isKind cX6_isKind 4 (some .boolean), Cond.fieldLink RX6 13 "BallCourtModel" "bars" "[I", Cond.methodLink RX6 66 yX6_in, Cond.static yX6_in, Cond.code yX6_in cX6_in 3 (some .boolean), Cond.methodLink RX6 106 yX6_lineFor, Cond.instanceMethod yX6_lineFor]
def wsX6_told_r2 : List Cond := [Cond.selects RX6 yX6_lineFor yX6_lineFor, Cond.code yX6_lineFor cX6_lineFor 5 (some .int), Cond.fieldLink RX6 30 "BallCourtModel" "excepts" "[I", Cond.methodLink RX6 103 yX6_holding, Cond.instanceMethod yX6_holding, Cond.selects RX6 yX6_holding yX6_holding, Cond.code yX6_holding cX6_holding 5 (some .int), Cond.fieldLink RX6 26 "BallCourtModel" "isRepealed" "[Z", Cond.fieldLink RX6 17 "BallCourtModel" "must" "[I", Cond.fieldLink RX6 20 "BallCourtModel" "mustNot" "[I"]
def wsX6_told : List Cond := .code yX6_told cX6_told 2 (some .int) :: ((wsX6_told_r1 ++ wsX6_told_r2) ++ wsX60)
theorem inJ6 : ∀ w ∈ wsJ60, w ∈ lw_tbl := by decide +kernel
abbrev vwCl : List vw_C := [(RX0, TX0, 11), (RX1, TX1, 4), (RX2, TX2, 4), (RX3, TX3, 2), (RX4, TX4, 4), (RX5, TX5, 8), (RX6, TX6, 21)]
end
section
theorem dX0_init_0 : decode cX0_init 0 = .ok (.aload_n 0, 1) := by decide +kernel
theorem dX0_init_1 : decode cX0_init 1 = .ok (.invokespecial 3, 3) := by decide +kernel
theorem dX0_init_4 : decode cX0_init 4 = .ok (.aload_n 0, 1) := by decide +kernel
theorem dX0_init_5 : decode cX0_init 5 = .ok (.sipush 128, 3) := by decide +kernel
theorem dX0_init_8 : decode cX0_init 8 = .ok (.newarray .boolean, 2) := by decide +kernel
theorem dX0_init_10 : decode cX0_init 10 = .ok (.putfield 9, 3) := by decide +kernel
theorem dX0_init_13 : decode cX0_init 13 = .ok (.aload_n 0, 1) := by decide +kernel
theorem dX0_init_14 : decode cX0_init 14 = .ok (.bipush 7, 2) := by decide +kernel
theorem dX0_init_16 : decode cX0_init 16 = .ok (.newarray .int, 2) := by decide +kernel
theorem dX0_init_18 : decode cX0_init 18 = .ok (.putfield 15, 3) := by decide +kernel
theorem dX0_init_21 : decode cX0_init 21 = .ok (.aload_n 0, 1) := by decide +kernel
theorem dX0_init_22 : decode cX0_init 22 = .ok (.bipush 12, 2) := by decide +kernel
theorem dX0_init_24 : decode cX0_init 24 = .ok (.newarray .int, 2) := by decide +kernel
theorem dX0_init_26 : decode cX0_init 26 = .ok (.putfield 19, 3) := by decide +kernel
theorem dX0_init_29 : decode cX0_init 29 = .ok (.aload_n 0, 1) := by decide +kernel
theorem dX0_init_30 : decode cX0_init 30 = .ok (.bipush 12, 2) := by decide +kernel
theorem dX0_init_32 : decode cX0_init 32 = .ok (.newarray .int, 2) := by decide +kernel
theorem dX0_init_34 : decode cX0_init 34 = .ok (.putfield 22, 3) := by decide +kernel
theorem dX0_init_37 : decode cX0_init 37 = .ok (.aload_n 0, 1) := by decide +kernel
theorem dX0_init_38 : decode cX0_init 38 = .ok (.bipush 12, 2) := by decide +kernel
theorem dX0_init_40 : decode cX0_init 40 = .ok (.newarray .int, 2) := by decide +kernel
theorem dX0_init_42 : decode cX0_init 42 = .ok (.putfield 25, 3) := by decide +kernel
theorem dX0_init_45 : decode cX0_init 45 = .ok (.aload_n 0, 1) := by decide +kernel
theorem dX0_init_46 : decode cX0_init 46 = .ok (.bipush 12, 2) := by decide +kernel
theorem dX0_init_48 : decode cX0_init 48 = .ok (.newarray .int, 2) := by decide +kernel
theorem dX0_init_50 : decode cX0_init 50 = .ok (.putfield 28, 3) := by decide +kernel
theorem dX0_init_53 : decode cX0_init 53 = .ok (.return_, 1) := by decide +kernel
set_option maxRecDepth 20000 in
theorem ggX0_begin_X0_workKinds : GoodIn wsX0_begin wsX0_workKinds := goodIn_r _ [11, 2, 12, 13, 14, 15, 10, 16, 1, 6, 17, 18, 19, 20, 21, 22, 23, 24, 25, 26, 27, 28, 29, 30] (by decide +kernel) (by decide +kernel)
set_option maxRecDepth 20000 in
theorem gX0_begin_X0_workKinds : GoodIn wsX0_begin (wsV RX0 47 RX0 yX0_workKinds wsX0_workKinds) := goodIn_app (goodIn_of _ (by decide +kernel)) ggX0_begin_X0_workKinds
theorem dX0_begin_0 : decode cX0_begin 0 = .ok (.aload_n 0, 1) := by decide +kernel
theorem dX0_begin_1 : decode cX0_begin 1 = .ok (.iload_n 1, 1) := by decide +kernel
theorem dX0_begin_2 : decode cX0_begin 2 = .ok (.putfield 31, 3) := by decide +kernel
theorem dX0_begin_5 : decode cX0_begin 5 = .ok (.aload_n 0, 1) := by decide +kernel
theorem dX0_begin_6 : decode cX0_begin 6 = .ok (.iconst 1, 1) := by decide +kernel
theorem dX0_begin_7 : decode cX0_begin 7 = .ok (.iload_n 1, 1) := by decide +kernel
theorem dX0_begin_8 : decode cX0_begin 8 = .ok (.ishl, 1) := by decide +kernel
theorem dX0_begin_9 : decode cX0_begin 9 = .ok (.putfield 35, 3) := by decide +kernel
theorem dX0_begin_12 : decode cX0_begin 12 = .ok (.aload_n 0, 1) := by decide +kernel
theorem dX0_begin_13 : decode cX0_begin 13 = .ok (.iconst 0, 1) := by decide +kernel
theorem dX0_begin_14 : decode cX0_begin 14 = .ok (.putfield 38, 3) := by decide +kernel
theorem dX0_begin_17 : decode cX0_begin 17 = .ok (.aload_n 0, 1) := by decide +kernel
theorem dX0_begin_18 : decode cX0_begin 18 = .ok (.iconst 0, 1) := by decide +kernel
theorem dX0_begin_19 : decode cX0_begin 19 = .ok (.putfield 41, 3) := by decide +kernel
theorem dX0_begin_22 : decode cX0_begin 22 = .ok (.aload_n 0, 1) := by decide +kernel
theorem dX0_begin_23 : decode cX0_begin 23 = .ok (.iconst 0, 1) := by decide +kernel
theorem dX0_begin_24 : decode cX0_begin 24 = .ok (.putfield 44, 3) := by decide +kernel
theorem dX0_begin_27 : decode cX0_begin 27 = .ok (.iconst 0, 1) := by decide +kernel
theorem dX0_begin_28 : decode cX0_begin 28 = .ok (.istore_n 2, 1) := by decide +kernel
theorem dX0_begin_29 : decode cX0_begin 29 = .ok (.iload_n 2, 1) := by decide +kernel
theorem dX0_begin_30 : decode cX0_begin 30 = .ok (.bipush 7, 2) := by decide +kernel
theorem dX0_begin_32 : decode cX0_begin 32 = .ok (.if_icmp .ge 16, 3) := by decide +kernel
theorem dX0_begin_35 : decode cX0_begin 35 = .ok (.aload_n 0, 1) := by decide +kernel
theorem dX0_begin_36 : decode cX0_begin 36 = .ok (.getfield 15, 3) := by decide +kernel
theorem dX0_begin_39 : decode cX0_begin 39 = .ok (.iload_n 2, 1) := by decide +kernel
theorem dX0_begin_40 : decode cX0_begin 40 = .ok (.iconst 0, 1) := by decide +kernel
theorem dX0_begin_41 : decode cX0_begin 41 = .ok (.iastore, 1) := by decide +kernel
theorem dX0_begin_42 : decode cX0_begin 42 = .ok (.iinc 2 1, 3) := by decide +kernel
theorem dX0_begin_45 : decode cX0_begin 45 = .ok (.goto (-16), 3) := by decide +kernel
theorem dX0_begin_48 : decode cX0_begin 48 = .ok (.aload_n 0, 1) := by decide +kernel
theorem dX0_begin_49 : decode cX0_begin 49 = .ok (.invokevirtual 47, 3) := by decide +kernel
theorem dX0_begin_52 : decode cX0_begin 52 = .ok (.return_, 1) := by decide +kernel
theorem dX0_hasFact_0 : decode cX0_hasFact 0 = .ok (.iload_n 1, 1) := by decide +kernel
theorem dX0_hasFact_1 : decode cX0_hasFact 1 = .ok (.ifCond .lt 15, 3) := by decide +kernel
theorem dX0_hasFact_4 : decode cX0_hasFact 4 = .ok (.iload_n 1, 1) := by decide +kernel
theorem dX0_hasFact_5 : decode cX0_hasFact 5 = .ok (.aload_n 0, 1) := by decide +kernel
theorem dX0_hasFact_6 : decode cX0_hasFact 6 = .ok (.getfield 31, 3) := by decide +kernel
theorem dX0_hasFact_9 : decode cX0_hasFact 9 = .ok (.if_icmp .ge 7, 3) := by decide +kernel
theorem dX0_hasFact_12 : decode cX0_hasFact 12 = .ok (.iconst 1, 1) := by decide +kernel
theorem dX0_hasFact_13 : decode cX0_hasFact 13 = .ok (.goto 4, 3) := by decide +kernel
theorem dX0_hasFact_16 : decode cX0_hasFact 16 = .ok (.iconst 0, 1) := by decide +kernel
theorem dX0_hasFact_17 : decode cX0_hasFact 17 = .ok (.ireturn, 1) := by decide +kernel
theorem dX0_areFacts_0 : decode cX0_areFacts 0 = .ok (.iload_n 1, 1) := by decide +kernel
theorem dX0_areFacts_1 : decode cX0_areFacts 1 = .ok (.ifCond .lt 15, 3) := by decide +kernel
theorem dX0_areFacts_4 : decode cX0_areFacts 4 = .ok (.iload_n 1, 1) := by decide +kernel
theorem dX0_areFacts_5 : decode cX0_areFacts 5 = .ok (.aload_n 0, 1) := by decide +kernel
theorem dX0_areFacts_6 : decode cX0_areFacts 6 = .ok (.getfield 35, 3) := by decide +kernel
theorem dX0_areFacts_9 : decode cX0_areFacts 9 = .ok (.if_icmp .ge 7, 3) := by decide +kernel
theorem dX0_areFacts_12 : decode cX0_areFacts 12 = .ok (.iconst 1, 1) := by decide +kernel
theorem dX0_areFacts_13 : decode cX0_areFacts 13 = .ok (.goto 4, 3) := by decide +kernel
theorem dX0_areFacts_16 : decode cX0_areFacts 16 = .ok (.iconst 0, 1) := by decide +kernel
theorem dX0_areFacts_17 : decode cX0_areFacts 17 = .ok (.ireturn, 1) := by decide +kernel
theorem dX0_allFacts_0 : decode cX0_allFacts 0 = .ok (.aload_n 0, 1) := by decide +kernel
theorem dX0_allFacts_1 : decode cX0_allFacts 1 = .ok (.getfield 35, 3) := by decide +kernel
theorem dX0_allFacts_4 : decode cX0_allFacts 4 = .ok (.iconst 1, 1) := by decide +kernel
theorem dX0_allFacts_5 : decode cX0_allFacts 5 = .ok (.isub, 1) := by decide +kernel
theorem dX0_allFacts_6 : decode cX0_allFacts 6 = .ok (.ireturn, 1) := by decide +kernel
theorem dX0_hasKind_0 : decode cX0_hasKind 0 = .ok (.iload_n 1, 1) := by decide +kernel
theorem dX0_hasKind_1 : decode cX0_hasKind 1 = .ok (.ifCond .lt 24, 3) := by decide +kernel
theorem dX0_hasKind_4 : decode cX0_hasKind 4 = .ok (.iload_n 1, 1) := by decide +kernel
theorem dX0_hasKind_5 : decode cX0_hasKind 5 = .ok (.aload_n 0, 1) := by decide +kernel
theorem dX0_hasKind_6 : decode cX0_hasKind 6 = .ok (.getfield 35, 3) := by decide +kernel
theorem dX0_hasKind_9 : decode cX0_hasKind 9 = .ok (.if_icmp .ge 16, 3) := by decide +kernel
theorem dX0_hasKind_12 : decode cX0_hasKind 12 = .ok (.aload_n 0, 1) := by decide +kernel
theorem dX0_hasKind_13 : decode cX0_hasKind 13 = .ok (.getfield 9, 3) := by decide +kernel
theorem dX0_hasKind_16 : decode cX0_hasKind 16 = .ok (.iload_n 1, 1) := by decide +kernel
theorem dX0_hasKind_17 : decode cX0_hasKind 17 = .ok (.baload, 1) := by decide +kernel
theorem dX0_hasKind_18 : decode cX0_hasKind 18 = .ok (.ifCond .eq 7, 3) := by decide +kernel
theorem dX0_hasKind_21 : decode cX0_hasKind 21 = .ok (.iconst 1, 1) := by decide +kernel
theorem dX0_hasKind_22 : decode cX0_hasKind 22 = .ok (.goto 4, 3) := by decide +kernel
theorem dX0_hasKind_25 : decode cX0_hasKind 25 = .ok (.iconst 0, 1) := by decide +kernel
theorem dX0_hasKind_26 : decode cX0_hasKind 26 = .ok (.ireturn, 1) := by decide +kernel
theorem dX0_hasLine_0 : decode cX0_hasLine 0 = .ok (.iload_n 1, 1) := by decide +kernel
theorem dX0_hasLine_1 : decode cX0_hasLine 1 = .ok (.ifCond .lt 15, 3) := by decide +kernel
theorem dX0_hasLine_4 : decode cX0_hasLine 4 = .ok (.iload_n 1, 1) := by decide +kernel
theorem dX0_hasLine_5 : decode cX0_hasLine 5 = .ok (.aload_n 0, 1) := by decide +kernel
theorem dX0_hasLine_6 : decode cX0_hasLine 6 = .ok (.getfield 38, 3) := by decide +kernel
theorem dX0_hasLine_9 : decode cX0_hasLine 9 = .ok (.if_icmp .ge 7, 3) := by decide +kernel
theorem dX0_hasLine_12 : decode cX0_hasLine 12 = .ok (.iconst 1, 1) := by decide +kernel
theorem dX0_hasLine_13 : decode cX0_hasLine 13 = .ok (.goto 4, 3) := by decide +kernel
theorem dX0_hasLine_16 : decode cX0_hasLine 16 = .ok (.iconst 0, 1) := by decide +kernel
theorem dX0_hasLine_17 : decode cX0_hasLine 17 = .ok (.ireturn, 1) := by decide +kernel
set_option maxRecDepth 20000 in
theorem ggX0_areBarred_X5_hasBit : GoodIn wsX0_areBarred wsX5_hasBit := goodIn_r _ [4] (by decide +kernel) (by decide +kernel)
set_option maxRecDepth 20000 in
theorem gX0_areBarred_X5_hasBit_n50 : GoodIn wsX0_areBarred (wsX5_hasBit) := ggX0_areBarred_X5_hasBit
theorem dX0_areBarred_0 : decode cX0_areBarred 0 = .ok (.aload_n 0, 1) := by decide +kernel
theorem dX0_areBarred_1 : decode cX0_areBarred 1 = .ok (.getfield 15, 3) := by decide +kernel
theorem dX0_areBarred_4 : decode cX0_areBarred 4 = .ok (.iload_n 1, 1) := by decide +kernel
theorem dX0_areBarred_5 : decode cX0_areBarred 5 = .ok (.iaload, 1) := by decide +kernel
theorem dX0_areBarred_6 : decode cX0_areBarred 6 = .ok (.iload_n 2, 1) := by decide +kernel
theorem dX0_areBarred_7 : decode cX0_areBarred 7 = .ok (.invokestatic 50, 3) := by decide +kernel
theorem dX0_areBarred_10 : decode cX0_areBarred 10 = .ok (.ireturn, 1) := by decide +kernel
set_option maxRecDepth 20000 in
theorem ggX0_bar_X0_workKinds : GoodIn wsX0_bar wsX0_workKinds := goodIn_r _ [6, 7, 8, 9, 10, 11, 5, 12, 13, 1, 14, 15, 16, 17, 18, 19, 20, 21, 22, 23, 24, 25, 26, 27] (by decide +kernel) (by decide +kernel)
set_option maxRecDepth 20000 in
theorem gX0_bar_X0_workKinds : GoodIn wsX0_bar (wsV RX0 47 RX0 yX0_workKinds wsX0_workKinds) := goodIn_app (goodIn_of _ (by decide +kernel)) ggX0_bar_X0_workKinds
theorem dX0_bar_0 : decode cX0_bar 0 = .ok (.iload_n 3, 1) := by decide +kernel
theorem dX0_bar_1 : decode cX0_bar 1 = .ok (.ifCond .eq 30, 3) := by decide +kernel
theorem dX0_bar_4 : decode cX0_bar 4 = .ok (.aload_n 0, 1) := by decide +kernel
theorem dX0_bar_5 : decode cX0_bar 5 = .ok (.getfield 15, 3) := by decide +kernel
theorem dX0_bar_8 : decode cX0_bar 8 = .ok (.iload_n 1, 1) := by decide +kernel
theorem dX0_bar_9 : decode cX0_bar 9 = .ok (.dup2, 1) := by decide +kernel
theorem dX0_bar_10 : decode cX0_bar 10 = .ok (.iaload, 1) := by decide +kernel
theorem dX0_bar_11 : decode cX0_bar 11 = .ok (.iconst 1, 1) := by decide +kernel
theorem dX0_bar_12 : decode cX0_bar 12 = .ok (.iload_n 2, 1) := by decide +kernel
theorem dX0_bar_13 : decode cX0_bar 13 = .ok (.ishl, 1) := by decide +kernel
theorem dX0_bar_14 : decode cX0_bar 14 = .ok (.ior, 1) := by decide +kernel
theorem dX0_bar_15 : decode cX0_bar 15 = .ok (.iastore, 1) := by decide +kernel
theorem dX0_bar_16 : decode cX0_bar 16 = .ok (.aload_n 0, 1) := by decide +kernel
theorem dX0_bar_17 : decode cX0_bar 17 = .ok (.getfield 15, 3) := by decide +kernel
theorem dX0_bar_20 : decode cX0_bar 20 = .ok (.iload_n 2, 1) := by decide +kernel
theorem dX0_bar_21 : decode cX0_bar 21 = .ok (.dup2, 1) := by decide +kernel
theorem dX0_bar_22 : decode cX0_bar 22 = .ok (.iaload, 1) := by decide +kernel
theorem dX0_bar_23 : decode cX0_bar 23 = .ok (.iconst 1, 1) := by decide +kernel
theorem dX0_bar_24 : decode cX0_bar 24 = .ok (.iload_n 1, 1) := by decide +kernel
theorem dX0_bar_25 : decode cX0_bar 25 = .ok (.ishl, 1) := by decide +kernel
theorem dX0_bar_26 : decode cX0_bar 26 = .ok (.ior, 1) := by decide +kernel
theorem dX0_bar_27 : decode cX0_bar 27 = .ok (.iastore, 1) := by decide +kernel
theorem dX0_bar_28 : decode cX0_bar 28 = .ok (.goto 31, 3) := by decide +kernel
theorem dX0_bar_31 : decode cX0_bar 31 = .ok (.aload_n 0, 1) := by decide +kernel
theorem dX0_bar_32 : decode cX0_bar 32 = .ok (.getfield 15, 3) := by decide +kernel
theorem dX0_bar_35 : decode cX0_bar 35 = .ok (.iload_n 1, 1) := by decide +kernel
theorem dX0_bar_36 : decode cX0_bar 36 = .ok (.dup2, 1) := by decide +kernel
theorem dX0_bar_37 : decode cX0_bar 37 = .ok (.iaload, 1) := by decide +kernel
theorem dX0_bar_38 : decode cX0_bar 38 = .ok (.iconst 1, 1) := by decide +kernel
theorem dX0_bar_39 : decode cX0_bar 39 = .ok (.iload_n 2, 1) := by decide +kernel
theorem dX0_bar_40 : decode cX0_bar 40 = .ok (.ishl, 1) := by decide +kernel
theorem dX0_bar_41 : decode cX0_bar 41 = .ok (.iconst (-1), 1) := by decide +kernel
theorem dX0_bar_42 : decode cX0_bar 42 = .ok (.ixor, 1) := by decide +kernel
theorem dX0_bar_43 : decode cX0_bar 43 = .ok (.iand, 1) := by decide +kernel
theorem dX0_bar_44 : decode cX0_bar 44 = .ok (.iastore, 1) := by decide +kernel
theorem dX0_bar_45 : decode cX0_bar 45 = .ok (.aload_n 0, 1) := by decide +kernel
theorem dX0_bar_46 : decode cX0_bar 46 = .ok (.getfield 15, 3) := by decide +kernel
theorem dX0_bar_49 : decode cX0_bar 49 = .ok (.iload_n 2, 1) := by decide +kernel
theorem dX0_bar_50 : decode cX0_bar 50 = .ok (.dup2, 1) := by decide +kernel
theorem dX0_bar_51 : decode cX0_bar 51 = .ok (.iaload, 1) := by decide +kernel
theorem dX0_bar_52 : decode cX0_bar 52 = .ok (.iconst 1, 1) := by decide +kernel
theorem dX0_bar_53 : decode cX0_bar 53 = .ok (.iload_n 1, 1) := by decide +kernel
theorem dX0_bar_54 : decode cX0_bar 54 = .ok (.ishl, 1) := by decide +kernel
theorem dX0_bar_55 : decode cX0_bar 55 = .ok (.iconst (-1), 1) := by decide +kernel
theorem dX0_bar_56 : decode cX0_bar 56 = .ok (.ixor, 1) := by decide +kernel
theorem dX0_bar_57 : decode cX0_bar 57 = .ok (.iand, 1) := by decide +kernel
theorem dX0_bar_58 : decode cX0_bar 58 = .ok (.iastore, 1) := by decide +kernel
theorem dX0_bar_59 : decode cX0_bar 59 = .ok (.aload_n 0, 1) := by decide +kernel
theorem dX0_bar_60 : decode cX0_bar 60 = .ok (.invokevirtual 47, 3) := by decide +kernel
theorem dX0_bar_63 : decode cX0_bar 63 = .ok (.return_, 1) := by decide +kernel
set_option maxRecDepth 20000 in
theorem ggX0_workKinds_X0_hasBarredPair : GoodIn wsX0_workKinds wsX0_hasBarredPair := goodIn_r _ [7, 8, 9, 10, 11, 12, 13, 14, 15, 16, 17, 18, 19, 20, 21, 22, 23] (by decide +kernel) (by decide +kernel)
set_option maxRecDepth 20000 in
theorem gX0_workKinds_X0_hasBarredPair : GoodIn wsX0_workKinds (wsV RX0 54 RX0 yX0_hasBarredPair wsX0_hasBarredPair) := goodIn_app (goodIn_of _ (by decide +kernel)) ggX0_workKinds_X0_hasBarredPair
theorem dX0_workKinds_0 : decode cX0_workKinds 0 = .ok (.iconst 0, 1) := by decide +kernel
theorem dX0_workKinds_1 : decode cX0_workKinds 1 = .ok (.istore_n 1, 1) := by decide +kernel
theorem dX0_workKinds_2 : decode cX0_workKinds 2 = .ok (.iload_n 1, 1) := by decide +kernel
theorem dX0_workKinds_3 : decode cX0_workKinds 3 = .ok (.aload_n 0, 1) := by decide +kernel
theorem dX0_workKinds_4 : decode cX0_workKinds 4 = .ok (.getfield 35, 3) := by decide +kernel
theorem dX0_workKinds_7 : decode cX0_workKinds 7 = .ok (.if_icmp .ge 28, 3) := by decide +kernel
theorem dX0_workKinds_10 : decode cX0_workKinds 10 = .ok (.aload_n 0, 1) := by decide +kernel
theorem dX0_workKinds_11 : decode cX0_workKinds 11 = .ok (.getfield 9, 3) := by decide +kernel
theorem dX0_workKinds_14 : decode cX0_workKinds 14 = .ok (.iload_n 1, 1) := by decide +kernel
theorem dX0_workKinds_15 : decode cX0_workKinds 15 = .ok (.aload_n 0, 1) := by decide +kernel
theorem dX0_workKinds_16 : decode cX0_workKinds 16 = .ok (.iload_n 1, 1) := by decide +kernel
theorem dX0_workKinds_17 : decode cX0_workKinds 17 = .ok (.invokevirtual 54, 3) := by decide +kernel
theorem dX0_workKinds_20 : decode cX0_workKinds 20 = .ok (.ifCond .ne 7, 3) := by decide +kernel
theorem dX0_workKinds_23 : decode cX0_workKinds 23 = .ok (.iconst 1, 1) := by decide +kernel
theorem dX0_workKinds_24 : decode cX0_workKinds 24 = .ok (.goto 4, 3) := by decide +kernel
theorem dX0_workKinds_27 : decode cX0_workKinds 27 = .ok (.iconst 0, 1) := by decide +kernel
theorem dX0_workKinds_28 : decode cX0_workKinds 28 = .ok (.bastore, 1) := by decide +kernel
theorem dX0_workKinds_29 : decode cX0_workKinds 29 = .ok (.iinc 1 1, 3) := by decide +kernel
theorem dX0_workKinds_32 : decode cX0_workKinds 32 = .ok (.goto (-30), 3) := by decide +kernel
theorem dX0_workKinds_35 : decode cX0_workKinds 35 = .ok (.return_, 1) := by decide +kernel
set_option maxRecDepth 20000 in
theorem ggX0_hasBarredPair_X5_hasBit : GoodIn wsX0_hasBarredPair wsX5_hasBit := goodIn_r _ [5] (by decide +kernel) (by decide +kernel)
set_option maxRecDepth 20000 in
theorem gX0_hasBarredPair_X5_hasBit_n50 : GoodIn wsX0_hasBarredPair (wsX5_hasBit) := ggX0_hasBarredPair_X5_hasBit
theorem dX0_hasBarredPair_0 : decode cX0_hasBarredPair 0 = .ok (.iconst 0, 1) := by decide +kernel
theorem dX0_hasBarredPair_1 : decode cX0_hasBarredPair 1 = .ok (.istore_n 2, 1) := by decide +kernel
theorem dX0_hasBarredPair_2 : decode cX0_hasBarredPair 2 = .ok (.iload_n 2, 1) := by decide +kernel
theorem dX0_hasBarredPair_3 : decode cX0_hasBarredPair 3 = .ok (.aload_n 0, 1) := by decide +kernel
theorem dX0_hasBarredPair_4 : decode cX0_hasBarredPair 4 = .ok (.getfield 31, 3) := by decide +kernel
theorem dX0_hasBarredPair_7 : decode cX0_hasBarredPair 7 = .ok (.if_icmp .ge 30, 3) := by decide +kernel
theorem dX0_hasBarredPair_10 : decode cX0_hasBarredPair 10 = .ok (.iload_n 1, 1) := by decide +kernel
theorem dX0_hasBarredPair_11 : decode cX0_hasBarredPair 11 = .ok (.iload_n 2, 1) := by decide +kernel
theorem dX0_hasBarredPair_12 : decode cX0_hasBarredPair 12 = .ok (.invokestatic 50, 3) := by decide +kernel
theorem dX0_hasBarredPair_15 : decode cX0_hasBarredPair 15 = .ok (.ifCond .eq 16, 3) := by decide +kernel
theorem dX0_hasBarredPair_18 : decode cX0_hasBarredPair 18 = .ok (.aload_n 0, 1) := by decide +kernel
theorem dX0_hasBarredPair_19 : decode cX0_hasBarredPair 19 = .ok (.getfield 15, 3) := by decide +kernel
theorem dX0_hasBarredPair_22 : decode cX0_hasBarredPair 22 = .ok (.iload_n 2, 1) := by decide +kernel
theorem dX0_hasBarredPair_23 : decode cX0_hasBarredPair 23 = .ok (.iaload, 1) := by decide +kernel
theorem dX0_hasBarredPair_24 : decode cX0_hasBarredPair 24 = .ok (.iload_n 1, 1) := by decide +kernel
theorem dX0_hasBarredPair_25 : decode cX0_hasBarredPair 25 = .ok (.iand, 1) := by decide +kernel
theorem dX0_hasBarredPair_26 : decode cX0_hasBarredPair 26 = .ok (.ifCond .eq 5, 3) := by decide +kernel
theorem dX0_hasBarredPair_29 : decode cX0_hasBarredPair 29 = .ok (.iconst 1, 1) := by decide +kernel
theorem dX0_hasBarredPair_30 : decode cX0_hasBarredPair 30 = .ok (.ireturn, 1) := by decide +kernel
theorem dX0_hasBarredPair_31 : decode cX0_hasBarredPair 31 = .ok (.iinc 2 1, 3) := by decide +kernel
theorem dX0_hasBarredPair_34 : decode cX0_hasBarredPair 34 = .ok (.goto (-32), 3) := by decide +kernel
theorem dX0_hasBarredPair_37 : decode cX0_hasBarredPair 37 = .ok (.iconst 0, 1) := by decide +kernel
theorem dX0_hasBarredPair_38 : decode cX0_hasBarredPair 38 = .ok (.ireturn, 1) := by decide +kernel
theorem dX0_mayBe_0 : decode cX0_mayBe 0 = .ok (.aload_n 0, 1) := by decide +kernel
theorem dX0_mayBe_1 : decode cX0_mayBe 1 = .ok (.getfield 9, 3) := by decide +kernel
theorem dX0_mayBe_4 : decode cX0_mayBe 4 = .ok (.iload_n 1, 1) := by decide +kernel
theorem dX0_mayBe_5 : decode cX0_mayBe 5 = .ok (.baload, 1) := by decide +kernel
theorem dX0_mayBe_6 : decode cX0_mayBe 6 = .ok (.ifCond .eq 20, 3) := by decide +kernel
theorem dX0_mayBe_9 : decode cX0_mayBe 9 = .ok (.iload_n 1, 1) := by decide +kernel
theorem dX0_mayBe_10 : decode cX0_mayBe 10 = .ok (.iload_n 2, 1) := by decide +kernel
theorem dX0_mayBe_11 : decode cX0_mayBe 11 = .ok (.iand, 1) := by decide +kernel
theorem dX0_mayBe_12 : decode cX0_mayBe 12 = .ok (.iload_n 2, 1) := by decide +kernel
theorem dX0_mayBe_13 : decode cX0_mayBe 13 = .ok (.if_icmp .ne 13, 3) := by decide +kernel
theorem dX0_mayBe_16 : decode cX0_mayBe 16 = .ok (.iload_n 1, 1) := by decide +kernel
theorem dX0_mayBe_17 : decode cX0_mayBe 17 = .ok (.iload_n 3, 1) := by decide +kernel
theorem dX0_mayBe_18 : decode cX0_mayBe 18 = .ok (.iand, 1) := by decide +kernel
theorem dX0_mayBe_19 : decode cX0_mayBe 19 = .ok (.ifCond .ne 7, 3) := by decide +kernel
theorem dX0_mayBe_22 : decode cX0_mayBe 22 = .ok (.iconst 1, 1) := by decide +kernel
theorem dX0_mayBe_23 : decode cX0_mayBe 23 = .ok (.goto 4, 3) := by decide +kernel
theorem dX0_mayBe_26 : decode cX0_mayBe 26 = .ok (.iconst 0, 1) := by decide +kernel
theorem dX0_mayBe_27 : decode cX0_mayBe 27 = .ok (.ireturn, 1) := by decide +kernel
set_option maxRecDepth 20000 in
theorem ggX0_countMayBe_X0_mayBe : GoodIn wsX0_countMayBe wsX0_mayBe := goodIn_r _ [6, 7, 8, 9, 10, 11, 12, 13, 14, 15, 16, 17, 18] (by decide +kernel) (by decide +kernel)
set_option maxRecDepth 20000 in
theorem gX0_countMayBe_X0_mayBe : GoodIn wsX0_countMayBe (wsV RX0 58 RX0 yX0_mayBe wsX0_mayBe) := goodIn_app (goodIn_of _ (by decide +kernel)) ggX0_countMayBe_X0_mayBe
theorem dX0_countMayBe_0 : decode cX0_countMayBe 0 = .ok (.iconst 0, 1) := by decide +kernel
theorem dX0_countMayBe_1 : decode cX0_countMayBe 1 = .ok (.istore_n 3, 1) := by decide +kernel
theorem dX0_countMayBe_2 : decode cX0_countMayBe 2 = .ok (.iconst 0, 1) := by decide +kernel
theorem dX0_countMayBe_3 : decode cX0_countMayBe 3 = .ok (.istore 4, 2) := by decide +kernel
theorem dX0_countMayBe_5 : decode cX0_countMayBe 5 = .ok (.iload 4, 2) := by decide +kernel
theorem dX0_countMayBe_7 : decode cX0_countMayBe 7 = .ok (.aload_n 0, 1) := by decide +kernel
theorem dX0_countMayBe_8 : decode cX0_countMayBe 8 = .ok (.getfield 35, 3) := by decide +kernel
theorem dX0_countMayBe_11 : decode cX0_countMayBe 11 = .ok (.if_icmp .ge 23, 3) := by decide +kernel
theorem dX0_countMayBe_14 : decode cX0_countMayBe 14 = .ok (.aload_n 0, 1) := by decide +kernel
theorem dX0_countMayBe_15 : decode cX0_countMayBe 15 = .ok (.iload 4, 2) := by decide +kernel
theorem dX0_countMayBe_17 : decode cX0_countMayBe 17 = .ok (.iload_n 1, 1) := by decide +kernel
theorem dX0_countMayBe_18 : decode cX0_countMayBe 18 = .ok (.iload_n 2, 1) := by decide +kernel
theorem dX0_countMayBe_19 : decode cX0_countMayBe 19 = .ok (.invokevirtual 58, 3) := by decide +kernel
theorem dX0_countMayBe_22 : decode cX0_countMayBe 22 = .ok (.ifCond .eq 6, 3) := by decide +kernel
theorem dX0_countMayBe_25 : decode cX0_countMayBe 25 = .ok (.iinc 3 1, 3) := by decide +kernel
theorem dX0_countMayBe_28 : decode cX0_countMayBe 28 = .ok (.iinc 4 1, 3) := by decide +kernel
theorem dX0_countMayBe_31 : decode cX0_countMayBe 31 = .ok (.goto (-26), 3) := by decide +kernel
theorem dX0_countMayBe_34 : decode cX0_countMayBe 34 = .ok (.iload_n 3, 1) := by decide +kernel
theorem dX0_countMayBe_35 : decode cX0_countMayBe 35 = .ok (.ireturn, 1) := by decide +kernel
theorem dX0_addLine_0 : decode cX0_addLine 0 = .ok (.aload_n 0, 1) := by decide +kernel
theorem dX0_addLine_1 : decode cX0_addLine 1 = .ok (.getfield 38, 3) := by decide +kernel
theorem dX0_addLine_4 : decode cX0_addLine 4 = .ok (.istore 4, 2) := by decide +kernel
theorem dX0_addLine_6 : decode cX0_addLine 6 = .ok (.aload_n 0, 1) := by decide +kernel
theorem dX0_addLine_7 : decode cX0_addLine 7 = .ok (.getfield 19, 3) := by decide +kernel
theorem dX0_addLine_10 : decode cX0_addLine 10 = .ok (.iload 4, 2) := by decide +kernel
theorem dX0_addLine_12 : decode cX0_addLine 12 = .ok (.iload_n 1, 1) := by decide +kernel
theorem dX0_addLine_13 : decode cX0_addLine 13 = .ok (.iastore, 1) := by decide +kernel
theorem dX0_addLine_14 : decode cX0_addLine 14 = .ok (.aload_n 0, 1) := by decide +kernel
theorem dX0_addLine_15 : decode cX0_addLine 15 = .ok (.getfield 22, 3) := by decide +kernel
theorem dX0_addLine_18 : decode cX0_addLine 18 = .ok (.iload 4, 2) := by decide +kernel
theorem dX0_addLine_20 : decode cX0_addLine 20 = .ok (.iload_n 2, 1) := by decide +kernel
theorem dX0_addLine_21 : decode cX0_addLine 21 = .ok (.iastore, 1) := by decide +kernel
theorem dX0_addLine_22 : decode cX0_addLine 22 = .ok (.aload_n 0, 1) := by decide +kernel
theorem dX0_addLine_23 : decode cX0_addLine 23 = .ok (.getfield 25, 3) := by decide +kernel
theorem dX0_addLine_26 : decode cX0_addLine 26 = .ok (.iload 4, 2) := by decide +kernel
theorem dX0_addLine_28 : decode cX0_addLine 28 = .ok (.iload_n 3, 1) := by decide +kernel
theorem dX0_addLine_29 : decode cX0_addLine 29 = .ok (.iastore, 1) := by decide +kernel
theorem dX0_addLine_30 : decode cX0_addLine 30 = .ok (.aload_n 0, 1) := by decide +kernel
theorem dX0_addLine_31 : decode cX0_addLine 31 = .ok (.getfield 28, 3) := by decide +kernel
theorem dX0_addLine_34 : decode cX0_addLine 34 = .ok (.iload 4, 2) := by decide +kernel
theorem dX0_addLine_36 : decode cX0_addLine 36 = .ok (.iconst 0, 1) := by decide +kernel
theorem dX0_addLine_37 : decode cX0_addLine 37 = .ok (.iastore, 1) := by decide +kernel
theorem dX0_addLine_38 : decode cX0_addLine 38 = .ok (.aload_n 0, 1) := by decide +kernel
theorem dX0_addLine_39 : decode cX0_addLine 39 = .ok (.dup, 1) := by decide +kernel
theorem dX0_addLine_40 : decode cX0_addLine 40 = .ok (.getfield 38, 3) := by decide +kernel
theorem dX0_addLine_43 : decode cX0_addLine 43 = .ok (.iconst 1, 1) := by decide +kernel
theorem dX0_addLine_44 : decode cX0_addLine 44 = .ok (.iadd, 1) := by decide +kernel
theorem dX0_addLine_45 : decode cX0_addLine 45 = .ok (.putfield 38, 3) := by decide +kernel
theorem dX0_addLine_48 : decode cX0_addLine 48 = .ok (.iload 4, 2) := by decide +kernel
theorem dX0_addLine_50 : decode cX0_addLine 50 = .ok (.ireturn, 1) := by decide +kernel
set_option maxRecDepth 20000 in
theorem ggX0_excepts_X5_hasBit : GoodIn wsX0_excepts wsX5_hasBit := goodIn_r _ [4] (by decide +kernel) (by decide +kernel)
set_option maxRecDepth 20000 in
theorem gX0_excepts_X5_hasBit_n50 : GoodIn wsX0_excepts (wsX5_hasBit) := ggX0_excepts_X5_hasBit
theorem dX0_excepts_0 : decode cX0_excepts 0 = .ok (.aload_n 0, 1) := by decide +kernel
theorem dX0_excepts_1 : decode cX0_excepts 1 = .ok (.getfield 28, 3) := by decide +kernel
theorem dX0_excepts_4 : decode cX0_excepts 4 = .ok (.iload_n 2, 1) := by decide +kernel
theorem dX0_excepts_5 : decode cX0_excepts 5 = .ok (.iaload, 1) := by decide +kernel
theorem dX0_excepts_6 : decode cX0_excepts 6 = .ok (.iload_n 1, 1) := by decide +kernel
theorem dX0_excepts_7 : decode cX0_excepts 7 = .ok (.invokestatic 50, 3) := by decide +kernel
theorem dX0_excepts_10 : decode cX0_excepts 10 = .ok (.ireturn, 1) := by decide +kernel
theorem dX0_addException_0 : decode cX0_addException 0 = .ok (.aload_n 0, 1) := by decide +kernel
theorem dX0_addException_1 : decode cX0_addException 1 = .ok (.getfield 28, 3) := by decide +kernel
theorem dX0_addException_4 : decode cX0_addException 4 = .ok (.iload_n 2, 1) := by decide +kernel
theorem dX0_addException_5 : decode cX0_addException 5 = .ok (.dup2, 1) := by decide +kernel
theorem dX0_addException_6 : decode cX0_addException 6 = .ok (.iaload, 1) := by decide +kernel
theorem dX0_addException_7 : decode cX0_addException 7 = .ok (.iconst 1, 1) := by decide +kernel
theorem dX0_addException_8 : decode cX0_addException 8 = .ok (.iload_n 1, 1) := by decide +kernel
theorem dX0_addException_9 : decode cX0_addException 9 = .ok (.ishl, 1) := by decide +kernel
theorem dX0_addException_10 : decode cX0_addException 10 = .ok (.ior, 1) := by decide +kernel
theorem dX0_addException_11 : decode cX0_addException 11 = .ok (.iastore, 1) := by decide +kernel
theorem dX0_addException_12 : decode cX0_addException 12 = .ok (.aload_n 0, 1) := by decide +kernel
theorem dX0_addException_13 : decode cX0_addException 13 = .ok (.dup, 1) := by decide +kernel
theorem dX0_addException_14 : decode cX0_addException 14 = .ok (.getfield 44, 3) := by decide +kernel
theorem dX0_addException_17 : decode cX0_addException 17 = .ok (.iconst 1, 1) := by decide +kernel
theorem dX0_addException_18 : decode cX0_addException 18 = .ok (.iload_n 1, 1) := by decide +kernel
theorem dX0_addException_19 : decode cX0_addException 19 = .ok (.ishl, 1) := by decide +kernel
theorem dX0_addException_20 : decode cX0_addException 20 = .ok (.ior, 1) := by decide +kernel
theorem dX0_addException_21 : decode cX0_addException 21 = .ok (.putfield 44, 3) := by decide +kernel
theorem dX0_addException_24 : decode cX0_addException 24 = .ok (.return_, 1) := by decide +kernel
set_option maxRecDepth 20000 in
theorem ggX0_isRepealed_X5_hasBit : GoodIn wsX0_isRepealed wsX5_hasBit := goodIn_r _ [4] (by decide +kernel) (by decide +kernel)
set_option maxRecDepth 20000 in
theorem gX0_isRepealed_X5_hasBit_n50 : GoodIn wsX0_isRepealed (wsX5_hasBit) := ggX0_isRepealed_X5_hasBit
theorem dX0_isRepealed_0 : decode cX0_isRepealed 0 = .ok (.aload_n 0, 1) := by decide +kernel
theorem dX0_isRepealed_1 : decode cX0_isRepealed 1 = .ok (.getfield 41, 3) := by decide +kernel
theorem dX0_isRepealed_4 : decode cX0_isRepealed 4 = .ok (.iload_n 1, 1) := by decide +kernel
theorem dX0_isRepealed_5 : decode cX0_isRepealed 5 = .ok (.invokestatic 50, 3) := by decide +kernel
theorem dX0_isRepealed_8 : decode cX0_isRepealed 8 = .ok (.ireturn, 1) := by decide +kernel
theorem dX0_repealedIfMended_0 : decode cX0_repealedIfMended 0 = .ok (.aload_n 0, 1) := by decide +kernel
theorem dX0_repealedIfMended_1 : decode cX0_repealedIfMended 1 = .ok (.getfield 41, 3) := by decide +kernel
theorem dX0_repealedIfMended_4 : decode cX0_repealedIfMended 4 = .ok (.iconst 1, 1) := by decide +kernel
theorem dX0_repealedIfMended_5 : decode cX0_repealedIfMended 5 = .ok (.iload_n 1, 1) := by decide +kernel
theorem dX0_repealedIfMended_6 : decode cX0_repealedIfMended 6 = .ok (.ishl, 1) := by decide +kernel
theorem dX0_repealedIfMended_7 : decode cX0_repealedIfMended 7 = .ok (.ixor, 1) := by decide +kernel
theorem dX0_repealedIfMended_8 : decode cX0_repealedIfMended 8 = .ok (.ireturn, 1) := by decide +kernel
set_option maxRecDepth 20000 in
theorem ggX0_holding_X5_hasBit : GoodIn wsX0_holding wsX5_hasBit := goodIn_r _ [7] (by decide +kernel) (by decide +kernel)
set_option maxRecDepth 20000 in
theorem gX0_holding_X5_hasBit_n50 : GoodIn wsX0_holding (wsX5_hasBit) := ggX0_holding_X5_hasBit
theorem dX0_holding_0 : decode cX0_holding 0 = .ok (.iconst 0, 1) := by decide +kernel
theorem dX0_holding_1 : decode cX0_holding 1 = .ok (.istore_n 3, 1) := by decide +kernel
theorem dX0_holding_2 : decode cX0_holding 2 = .ok (.aload_n 0, 1) := by decide +kernel
theorem dX0_holding_3 : decode cX0_holding 3 = .ok (.getfield 38, 3) := by decide +kernel
theorem dX0_holding_6 : decode cX0_holding 6 = .ok (.iconst 1, 1) := by decide +kernel
theorem dX0_holding_7 : decode cX0_holding 7 = .ok (.isub, 1) := by decide +kernel
theorem dX0_holding_8 : decode cX0_holding 8 = .ok (.istore 4, 2) := by decide +kernel
theorem dX0_holding_10 : decode cX0_holding 10 = .ok (.iload 4, 2) := by decide +kernel
theorem dX0_holding_12 : decode cX0_holding 12 = .ok (.ifCond .lt 80, 3) := by decide +kernel
theorem dX0_holding_15 : decode cX0_holding 15 = .ok (.iload_n 1, 1) := by decide +kernel
theorem dX0_holding_16 : decode cX0_holding 16 = .ok (.aload_n 0, 1) := by decide +kernel
theorem dX0_holding_17 : decode cX0_holding 17 = .ok (.getfield 19, 3) := by decide +kernel
theorem dX0_holding_20 : decode cX0_holding 20 = .ok (.iload 4, 2) := by decide +kernel
theorem dX0_holding_22 : decode cX0_holding 22 = .ok (.iaload, 1) := by decide +kernel
theorem dX0_holding_23 : decode cX0_holding 23 = .ok (.iand, 1) := by decide +kernel
theorem dX0_holding_24 : decode cX0_holding 24 = .ok (.aload_n 0, 1) := by decide +kernel
theorem dX0_holding_25 : decode cX0_holding 25 = .ok (.getfield 19, 3) := by decide +kernel
theorem dX0_holding_28 : decode cX0_holding 28 = .ok (.iload 4, 2) := by decide +kernel
theorem dX0_holding_30 : decode cX0_holding 30 = .ok (.iaload, 1) := by decide +kernel
theorem dX0_holding_31 : decode cX0_holding 31 = .ok (.if_icmp .ne 19, 3) := by decide +kernel
theorem dX0_holding_34 : decode cX0_holding 34 = .ok (.iload_n 1, 1) := by decide +kernel
theorem dX0_holding_35 : decode cX0_holding 35 = .ok (.aload_n 0, 1) := by decide +kernel
theorem dX0_holding_36 : decode cX0_holding 36 = .ok (.getfield 22, 3) := by decide +kernel
theorem dX0_holding_39 : decode cX0_holding 39 = .ok (.iload 4, 2) := by decide +kernel
theorem dX0_holding_41 : decode cX0_holding 41 = .ok (.iaload, 1) := by decide +kernel
theorem dX0_holding_42 : decode cX0_holding 42 = .ok (.iand, 1) := by decide +kernel
theorem dX0_holding_43 : decode cX0_holding 43 = .ok (.ifCond .ne 7, 3) := by decide +kernel
theorem dX0_holding_46 : decode cX0_holding 46 = .ok (.iconst 1, 1) := by decide +kernel
theorem dX0_holding_47 : decode cX0_holding 47 = .ok (.goto 4, 3) := by decide +kernel
theorem dX0_holding_50 : decode cX0_holding 50 = .ok (.iconst 0, 1) := by decide +kernel
theorem dX0_holding_51 : decode cX0_holding 51 = .ok (.istore 5, 2) := by decide +kernel
theorem dX0_holding_53 : decode cX0_holding 53 = .ok (.iload 5, 2) := by decide +kernel
theorem dX0_holding_55 : decode cX0_holding 55 = .ok (.ifCond .eq 31, 3) := by decide +kernel
theorem dX0_holding_58 : decode cX0_holding 58 = .ok (.iload_n 2, 1) := by decide +kernel
theorem dX0_holding_59 : decode cX0_holding 59 = .ok (.iload 4, 2) := by decide +kernel
theorem dX0_holding_61 : decode cX0_holding 61 = .ok (.invokestatic 50, 3) := by decide +kernel
theorem dX0_holding_64 : decode cX0_holding 64 = .ok (.ifCond .ne 22, 3) := by decide +kernel
theorem dX0_holding_67 : decode cX0_holding 67 = .ok (.aload_n 0, 1) := by decide +kernel
theorem dX0_holding_68 : decode cX0_holding 68 = .ok (.getfield 28, 3) := by decide +kernel
theorem dX0_holding_71 : decode cX0_holding 71 = .ok (.iload 4, 2) := by decide +kernel
theorem dX0_holding_73 : decode cX0_holding 73 = .ok (.iaload, 1) := by decide +kernel
theorem dX0_holding_74 : decode cX0_holding 74 = .ok (.iload_n 3, 1) := by decide +kernel
theorem dX0_holding_75 : decode cX0_holding 75 = .ok (.iand, 1) := by decide +kernel
theorem dX0_holding_76 : decode cX0_holding 76 = .ok (.ifCond .ne 10, 3) := by decide +kernel
theorem dX0_holding_79 : decode cX0_holding 79 = .ok (.iload_n 3, 1) := by decide +kernel
theorem dX0_holding_80 : decode cX0_holding 80 = .ok (.iconst 1, 1) := by decide +kernel
theorem dX0_holding_81 : decode cX0_holding 81 = .ok (.iload 4, 2) := by decide +kernel
theorem dX0_holding_83 : decode cX0_holding 83 = .ok (.ishl, 1) := by decide +kernel
theorem dX0_holding_84 : decode cX0_holding 84 = .ok (.ior, 1) := by decide +kernel
theorem dX0_holding_85 : decode cX0_holding 85 = .ok (.istore_n 3, 1) := by decide +kernel
theorem dX0_holding_86 : decode cX0_holding 86 = .ok (.iinc 4 (-1), 3) := by decide +kernel
theorem dX0_holding_89 : decode cX0_holding 89 = .ok (.goto (-79), 3) := by decide +kernel
theorem dX0_holding_92 : decode cX0_holding 92 = .ok (.iload_n 3, 1) := by decide +kernel
theorem dX0_holding_93 : decode cX0_holding 93 = .ok (.ireturn, 1) := by decide +kernel
set_option maxRecDepth 20000 in
theorem ggX0_lawLine_X0_holding : GoodIn wsX0_lawLine wsX0_holding := goodIn_r _ [7, 2, 8, 9, 10, 11, 12, 13, 14, 15, 16, 17, 18, 19, 20, 21, 22, 23, 24] (by decide +kernel) (by decide +kernel)
set_option maxRecDepth 20000 in
theorem gX0_lawLine_X0_holding : GoodIn wsX0_lawLine (wsV RX0 62 RX0 yX0_holding wsX0_holding) := goodIn_app (goodIn_of _ (by decide +kernel)) ggX0_lawLine_X0_holding
set_option maxRecDepth 20000 in
theorem ggX0_lawLine_X5_hasBit : GoodIn wsX0_lawLine wsX5_hasBit := goodIn_r _ [13] (by decide +kernel) (by decide +kernel)
set_option maxRecDepth 20000 in
theorem gX0_lawLine_X5_hasBit_n50 : GoodIn wsX0_lawLine (wsX5_hasBit) := ggX0_lawLine_X5_hasBit
theorem dX0_lawLine_0 : decode cX0_lawLine 0 = .ok (.aload_n 0, 1) := by decide +kernel
theorem dX0_lawLine_1 : decode cX0_lawLine 1 = .ok (.iload_n 1, 1) := by decide +kernel
theorem dX0_lawLine_2 : decode cX0_lawLine 2 = .ok (.iload_n 2, 1) := by decide +kernel
theorem dX0_lawLine_3 : decode cX0_lawLine 3 = .ok (.invokevirtual 62, 3) := by decide +kernel
theorem dX0_lawLine_6 : decode cX0_lawLine 6 = .ok (.aload_n 0, 1) := by decide +kernel
theorem dX0_lawLine_7 : decode cX0_lawLine 7 = .ok (.getfield 44, 3) := by decide +kernel
theorem dX0_lawLine_10 : decode cX0_lawLine 10 = .ok (.iconst (-1), 1) := by decide +kernel
theorem dX0_lawLine_11 : decode cX0_lawLine 11 = .ok (.ixor, 1) := by decide +kernel
theorem dX0_lawLine_12 : decode cX0_lawLine 12 = .ok (.iand, 1) := by decide +kernel
theorem dX0_lawLine_13 : decode cX0_lawLine 13 = .ok (.istore_n 3, 1) := by decide +kernel
theorem dX0_lawLine_14 : decode cX0_lawLine 14 = .ok (.iconst 0, 1) := by decide +kernel
theorem dX0_lawLine_15 : decode cX0_lawLine 15 = .ok (.istore 4, 2) := by decide +kernel
theorem dX0_lawLine_17 : decode cX0_lawLine 17 = .ok (.iload 4, 2) := by decide +kernel
theorem dX0_lawLine_19 : decode cX0_lawLine 19 = .ok (.aload_n 0, 1) := by decide +kernel
theorem dX0_lawLine_20 : decode cX0_lawLine 20 = .ok (.getfield 38, 3) := by decide +kernel
theorem dX0_lawLine_23 : decode cX0_lawLine 23 = .ok (.if_icmp .ge 21, 3) := by decide +kernel
theorem dX0_lawLine_26 : decode cX0_lawLine 26 = .ok (.iload_n 3, 1) := by decide +kernel
theorem dX0_lawLine_27 : decode cX0_lawLine 27 = .ok (.iload 4, 2) := by decide +kernel
theorem dX0_lawLine_29 : decode cX0_lawLine 29 = .ok (.invokestatic 50, 3) := by decide +kernel
theorem dX0_lawLine_32 : decode cX0_lawLine 32 = .ok (.ifCond .eq 6, 3) := by decide +kernel
theorem dX0_lawLine_35 : decode cX0_lawLine 35 = .ok (.iload 4, 2) := by decide +kernel
theorem dX0_lawLine_37 : decode cX0_lawLine 37 = .ok (.ireturn, 1) := by decide +kernel
theorem dX0_lawLine_38 : decode cX0_lawLine 38 = .ok (.iinc 4 1, 3) := by decide +kernel
theorem dX0_lawLine_41 : decode cX0_lawLine 41 = .ok (.goto (-24), 3) := by decide +kernel
theorem dX0_lawLine_44 : decode cX0_lawLine 44 = .ok (.bipush (-6), 2) := by decide +kernel
theorem dX0_lawLine_46 : decode cX0_lawLine 46 = .ok (.ireturn, 1) := by decide +kernel
set_option maxRecDepth 20000 in
theorem ggX0_namedBy_X5_hasBit : GoodIn wsX0_namedBy wsX5_hasBit := goodIn_r _ [8] (by decide +kernel) (by decide +kernel)
set_option maxRecDepth 20000 in
theorem gX0_namedBy_X5_hasBit_n50 : GoodIn wsX0_namedBy (wsX5_hasBit) := ggX0_namedBy_X5_hasBit
theorem dX0_namedBy_0 : decode cX0_namedBy 0 = .ok (.iconst 0, 1) := by decide +kernel
theorem dX0_namedBy_1 : decode cX0_namedBy 1 = .ok (.istore_n 2, 1) := by decide +kernel
theorem dX0_namedBy_2 : decode cX0_namedBy 2 = .ok (.iconst 1, 1) := by decide +kernel
theorem dX0_namedBy_3 : decode cX0_namedBy 3 = .ok (.iload_n 1, 1) := by decide +kernel
theorem dX0_namedBy_4 : decode cX0_namedBy 4 = .ok (.ishl, 1) := by decide +kernel
theorem dX0_namedBy_5 : decode cX0_namedBy 5 = .ok (.istore_n 3, 1) := by decide +kernel
theorem dX0_namedBy_6 : decode cX0_namedBy 6 = .ok (.iload_n 1, 1) := by decide +kernel
theorem dX0_namedBy_7 : decode cX0_namedBy 7 = .ok (.istore 4, 2) := by decide +kernel
theorem dX0_namedBy_9 : decode cX0_namedBy 9 = .ok (.iload 4, 2) := by decide +kernel
theorem dX0_namedBy_11 : decode cX0_namedBy 11 = .ok (.aload_n 0, 1) := by decide +kernel
theorem dX0_namedBy_12 : decode cX0_namedBy 12 = .ok (.getfield 38, 3) := by decide +kernel
theorem dX0_namedBy_15 : decode cX0_namedBy 15 = .ok (.if_icmp .ge 53, 3) := by decide +kernel
theorem dX0_namedBy_18 : decode cX0_namedBy 18 = .ok (.iload_n 3, 1) := by decide +kernel
theorem dX0_namedBy_19 : decode cX0_namedBy 19 = .ok (.iload 4, 2) := by decide +kernel
theorem dX0_namedBy_21 : decode cX0_namedBy 21 = .ok (.invokestatic 50, 3) := by decide +kernel
theorem dX0_namedBy_24 : decode cX0_namedBy 24 = .ok (.ifCond .eq 38, 3) := by decide +kernel
theorem dX0_namedBy_27 : decode cX0_namedBy 27 = .ok (.iload_n 2, 1) := by decide +kernel
theorem dX0_namedBy_28 : decode cX0_namedBy 28 = .ok (.aload_n 0, 1) := by decide +kernel
theorem dX0_namedBy_29 : decode cX0_namedBy 29 = .ok (.getfield 19, 3) := by decide +kernel
theorem dX0_namedBy_32 : decode cX0_namedBy 32 = .ok (.iload 4, 2) := by decide +kernel
theorem dX0_namedBy_34 : decode cX0_namedBy 34 = .ok (.iaload, 1) := by decide +kernel
theorem dX0_namedBy_35 : decode cX0_namedBy 35 = .ok (.aload_n 0, 1) := by decide +kernel
theorem dX0_namedBy_36 : decode cX0_namedBy 36 = .ok (.getfield 22, 3) := by decide +kernel
theorem dX0_namedBy_39 : decode cX0_namedBy 39 = .ok (.iload 4, 2) := by decide +kernel
theorem dX0_namedBy_41 : decode cX0_namedBy 41 = .ok (.iaload, 1) := by decide +kernel
theorem dX0_namedBy_42 : decode cX0_namedBy 42 = .ok (.ior, 1) := by decide +kernel
theorem dX0_namedBy_43 : decode cX0_namedBy 43 = .ok (.ior, 1) := by decide +kernel
theorem dX0_namedBy_44 : decode cX0_namedBy 44 = .ok (.istore_n 2, 1) := by decide +kernel
theorem dX0_namedBy_45 : decode cX0_namedBy 45 = .ok (.iload_n 3, 1) := by decide +kernel
theorem dX0_namedBy_46 : decode cX0_namedBy 46 = .ok (.aload_n 0, 1) := by decide +kernel
theorem dX0_namedBy_47 : decode cX0_namedBy 47 = .ok (.getfield 28, 3) := by decide +kernel
theorem dX0_namedBy_50 : decode cX0_namedBy 50 = .ok (.iload 4, 2) := by decide +kernel
theorem dX0_namedBy_52 : decode cX0_namedBy 52 = .ok (.iaload, 1) := by decide +kernel
theorem dX0_namedBy_53 : decode cX0_namedBy 53 = .ok (.aload_n 0, 1) := by decide +kernel
theorem dX0_namedBy_54 : decode cX0_namedBy 54 = .ok (.getfield 41, 3) := by decide +kernel
theorem dX0_namedBy_57 : decode cX0_namedBy 57 = .ok (.iconst (-1), 1) := by decide +kernel
theorem dX0_namedBy_58 : decode cX0_namedBy 58 = .ok (.ixor, 1) := by decide +kernel
theorem dX0_namedBy_59 : decode cX0_namedBy 59 = .ok (.iand, 1) := by decide +kernel
theorem dX0_namedBy_60 : decode cX0_namedBy 60 = .ok (.ior, 1) := by decide +kernel
theorem dX0_namedBy_61 : decode cX0_namedBy 61 = .ok (.istore_n 3, 1) := by decide +kernel
theorem dX0_namedBy_62 : decode cX0_namedBy 62 = .ok (.iinc 4 1, 3) := by decide +kernel
theorem dX0_namedBy_65 : decode cX0_namedBy 65 = .ok (.goto (-56), 3) := by decide +kernel
theorem dX0_namedBy_68 : decode cX0_namedBy 68 = .ok (.iload_n 2, 1) := by decide +kernel
theorem dX0_namedBy_69 : decode cX0_namedBy 69 = .ok (.ireturn, 1) := by decide +kernel
theorem dX1_init_0 : decode cX1_init 0 = .ok (.aload_n 0, 1) := by decide +kernel
theorem dX1_init_1 : decode cX1_init 1 = .ok (.invokespecial 3, 3) := by decide +kernel
theorem dX1_init_4 : decode cX1_init 4 = .ok (.aload_n 0, 1) := by decide +kernel
theorem dX1_init_5 : decode cX1_init 5 = .ok (.bipush 12, 2) := by decide +kernel
theorem dX1_init_7 : decode cX1_init 7 = .ok (.newarray .int, 2) := by decide +kernel
theorem dX1_init_9 : decode cX1_init 9 = .ok (.putfield 9, 3) := by decide +kernel
theorem dX1_init_12 : decode cX1_init 12 = .ok (.aload_n 0, 1) := by decide +kernel
theorem dX1_init_13 : decode cX1_init 13 = .ok (.bipush 12, 2) := by decide +kernel
theorem dX1_init_15 : decode cX1_init 15 = .ok (.newarray .int, 2) := by decide +kernel
theorem dX1_init_17 : decode cX1_init 17 = .ok (.putfield 15, 3) := by decide +kernel
theorem dX1_init_20 : decode cX1_init 20 = .ok (.aload_n 0, 1) := by decide +kernel
theorem dX1_init_21 : decode cX1_init 21 = .ok (.bipush 12, 2) := by decide +kernel
theorem dX1_init_23 : decode cX1_init 23 = .ok (.newarray .int, 2) := by decide +kernel
theorem dX1_init_25 : decode cX1_init 25 = .ok (.putfield 18, 3) := by decide +kernel
theorem dX1_init_28 : decode cX1_init 28 = .ok (.return_, 1) := by decide +kernel
theorem dX1_has_0 : decode cX1_has 0 = .ok (.iload_n 1, 1) := by decide +kernel
theorem dX1_has_1 : decode cX1_has 1 = .ok (.ifCond .lt 15, 3) := by decide +kernel
theorem dX1_has_4 : decode cX1_has 4 = .ok (.iload_n 1, 1) := by decide +kernel
theorem dX1_has_5 : decode cX1_has 5 = .ok (.aload_n 0, 1) := by decide +kernel
theorem dX1_has_6 : decode cX1_has 6 = .ok (.getfield 21, 3) := by decide +kernel
theorem dX1_has_9 : decode cX1_has 9 = .ok (.if_icmp .ge 7, 3) := by decide +kernel
theorem dX1_has_12 : decode cX1_has 12 = .ok (.iconst 1, 1) := by decide +kernel
theorem dX1_has_13 : decode cX1_has 13 = .ok (.goto 4, 3) := by decide +kernel
theorem dX1_has_16 : decode cX1_has 16 = .ok (.iconst 0, 1) := by decide +kernel
theorem dX1_has_17 : decode cX1_has 17 = .ok (.ireturn, 1) := by decide +kernel
theorem dX1_add_0 : decode cX1_add 0 = .ok (.aload_n 0, 1) := by decide +kernel
theorem dX1_add_1 : decode cX1_add 1 = .ok (.getfield 21, 3) := by decide +kernel
theorem dX1_add_4 : decode cX1_add 4 = .ok (.istore 4, 2) := by decide +kernel
theorem dX1_add_6 : decode cX1_add 6 = .ok (.aload_n 0, 1) := by decide +kernel
theorem dX1_add_7 : decode cX1_add 7 = .ok (.getfield 9, 3) := by decide +kernel
theorem dX1_add_10 : decode cX1_add 10 = .ok (.iload 4, 2) := by decide +kernel
theorem dX1_add_12 : decode cX1_add 12 = .ok (.iload_n 1, 1) := by decide +kernel
theorem dX1_add_13 : decode cX1_add 13 = .ok (.iastore, 1) := by decide +kernel
theorem dX1_add_14 : decode cX1_add 14 = .ok (.aload_n 0, 1) := by decide +kernel
theorem dX1_add_15 : decode cX1_add 15 = .ok (.getfield 15, 3) := by decide +kernel
theorem dX1_add_18 : decode cX1_add 18 = .ok (.iload 4, 2) := by decide +kernel
theorem dX1_add_20 : decode cX1_add 20 = .ok (.iload_n 2, 1) := by decide +kernel
theorem dX1_add_21 : decode cX1_add 21 = .ok (.iastore, 1) := by decide +kernel
theorem dX1_add_22 : decode cX1_add 22 = .ok (.aload_n 0, 1) := by decide +kernel
theorem dX1_add_23 : decode cX1_add 23 = .ok (.getfield 18, 3) := by decide +kernel
theorem dX1_add_26 : decode cX1_add 26 = .ok (.iload 4, 2) := by decide +kernel
theorem dX1_add_28 : decode cX1_add 28 = .ok (.iload_n 3, 1) := by decide +kernel
theorem dX1_add_29 : decode cX1_add 29 = .ok (.iastore, 1) := by decide +kernel
theorem dX1_add_30 : decode cX1_add 30 = .ok (.aload_n 0, 1) := by decide +kernel
theorem dX1_add_31 : decode cX1_add 31 = .ok (.dup, 1) := by decide +kernel
theorem dX1_add_32 : decode cX1_add 32 = .ok (.getfield 21, 3) := by decide +kernel
theorem dX1_add_35 : decode cX1_add 35 = .ok (.iconst 1, 1) := by decide +kernel
theorem dX1_add_36 : decode cX1_add 36 = .ok (.iadd, 1) := by decide +kernel
theorem dX1_add_37 : decode cX1_add 37 = .ok (.putfield 21, 3) := by decide +kernel
theorem dX1_add_40 : decode cX1_add 40 = .ok (.iload 4, 2) := by decide +kernel
theorem dX1_add_42 : decode cX1_add 42 = .ok (.ireturn, 1) := by decide +kernel
theorem dX1_firstThatBinds_0 : decode cX1_firstThatBinds 0 = .ok (.iconst 0, 1) := by decide +kernel
theorem dX1_firstThatBinds_1 : decode cX1_firstThatBinds 1 = .ok (.istore_n 3, 1) := by decide +kernel
theorem dX1_firstThatBinds_2 : decode cX1_firstThatBinds 2 = .ok (.iload_n 3, 1) := by decide +kernel
theorem dX1_firstThatBinds_3 : decode cX1_firstThatBinds 3 = .ok (.aload_n 0, 1) := by decide +kernel
theorem dX1_firstThatBinds_4 : decode cX1_firstThatBinds 4 = .ok (.getfield 21, 3) := by decide +kernel
theorem dX1_firstThatBinds_7 : decode cX1_firstThatBinds 7 = .ok (.if_icmp .ge 61, 3) := by decide +kernel
theorem dX1_firstThatBinds_10 : decode cX1_firstThatBinds 10 = .ok (.aload_n 0, 1) := by decide +kernel
theorem dX1_firstThatBinds_11 : decode cX1_firstThatBinds 11 = .ok (.getfield 18, 3) := by decide +kernel
theorem dX1_firstThatBinds_14 : decode cX1_firstThatBinds 14 = .ok (.iload_n 3, 1) := by decide +kernel
theorem dX1_firstThatBinds_15 : decode cX1_firstThatBinds 15 = .ok (.iaload, 1) := by decide +kernel
theorem dX1_firstThatBinds_16 : decode cX1_firstThatBinds 16 = .ok (.aload_n 0, 1) := by decide +kernel
theorem dX1_firstThatBinds_17 : decode cX1_firstThatBinds 17 = .ok (.getfield 9, 3) := by decide +kernel
theorem dX1_firstThatBinds_20 : decode cX1_firstThatBinds 20 = .ok (.iload_n 3, 1) := by decide +kernel
theorem dX1_firstThatBinds_21 : decode cX1_firstThatBinds 21 = .ok (.iaload, 1) := by decide +kernel
theorem dX1_firstThatBinds_22 : decode cX1_firstThatBinds 22 = .ok (.iand, 1) := by decide +kernel
theorem dX1_firstThatBinds_23 : decode cX1_firstThatBinds 23 = .ok (.istore 4, 2) := by decide +kernel
theorem dX1_firstThatBinds_25 : decode cX1_firstThatBinds 25 = .ok (.aload_n 0, 1) := by decide +kernel
theorem dX1_firstThatBinds_26 : decode cX1_firstThatBinds 26 = .ok (.getfield 18, 3) := by decide +kernel
theorem dX1_firstThatBinds_29 : decode cX1_firstThatBinds 29 = .ok (.iload_n 3, 1) := by decide +kernel
theorem dX1_firstThatBinds_30 : decode cX1_firstThatBinds 30 = .ok (.iaload, 1) := by decide +kernel
theorem dX1_firstThatBinds_31 : decode cX1_firstThatBinds 31 = .ok (.aload_n 0, 1) := by decide +kernel
theorem dX1_firstThatBinds_32 : decode cX1_firstThatBinds 32 = .ok (.getfield 9, 3) := by decide +kernel
theorem dX1_firstThatBinds_35 : decode cX1_firstThatBinds 35 = .ok (.iload_n 3, 1) := by decide +kernel
theorem dX1_firstThatBinds_36 : decode cX1_firstThatBinds 36 = .ok (.iaload, 1) := by decide +kernel
theorem dX1_firstThatBinds_37 : decode cX1_firstThatBinds 37 = .ok (.iconst (-1), 1) := by decide +kernel
theorem dX1_firstThatBinds_38 : decode cX1_firstThatBinds 38 = .ok (.ixor, 1) := by decide +kernel
theorem dX1_firstThatBinds_39 : decode cX1_firstThatBinds 39 = .ok (.iand, 1) := by decide +kernel
theorem dX1_firstThatBinds_40 : decode cX1_firstThatBinds 40 = .ok (.istore 5, 2) := by decide +kernel
theorem dX1_firstThatBinds_42 : decode cX1_firstThatBinds 42 = .ok (.iload_n 1, 1) := by decide +kernel
theorem dX1_firstThatBinds_43 : decode cX1_firstThatBinds 43 = .ok (.iload 4, 2) := by decide +kernel
theorem dX1_firstThatBinds_45 : decode cX1_firstThatBinds 45 = .ok (.iand, 1) := by decide +kernel
theorem dX1_firstThatBinds_46 : decode cX1_firstThatBinds 46 = .ok (.iload 4, 2) := by decide +kernel
theorem dX1_firstThatBinds_48 : decode cX1_firstThatBinds 48 = .ok (.if_icmp .ne 14, 3) := by decide +kernel
theorem dX1_firstThatBinds_51 : decode cX1_firstThatBinds 51 = .ok (.iload_n 2, 1) := by decide +kernel
theorem dX1_firstThatBinds_52 : decode cX1_firstThatBinds 52 = .ok (.iload 5, 2) := by decide +kernel
theorem dX1_firstThatBinds_54 : decode cX1_firstThatBinds 54 = .ok (.iand, 1) := by decide +kernel
theorem dX1_firstThatBinds_55 : decode cX1_firstThatBinds 55 = .ok (.iload 5, 2) := by decide +kernel
theorem dX1_firstThatBinds_57 : decode cX1_firstThatBinds 57 = .ok (.if_icmp .ne 5, 3) := by decide +kernel
theorem dX1_firstThatBinds_60 : decode cX1_firstThatBinds 60 = .ok (.iload_n 3, 1) := by decide +kernel
theorem dX1_firstThatBinds_61 : decode cX1_firstThatBinds 61 = .ok (.ireturn, 1) := by decide +kernel
theorem dX1_firstThatBinds_62 : decode cX1_firstThatBinds 62 = .ok (.iinc 3 1, 3) := by decide +kernel
theorem dX1_firstThatBinds_65 : decode cX1_firstThatBinds 65 = .ok (.goto (-63), 3) := by decide +kernel
theorem dX1_firstThatBinds_68 : decode cX1_firstThatBinds 68 = .ok (.bipush (-6), 2) := by decide +kernel
theorem dX1_firstThatBinds_70 : decode cX1_firstThatBinds 70 = .ok (.ireturn, 1) := by decide +kernel
theorem dX2_init_0 : decode cX2_init 0 = .ok (.aload_n 0, 1) := by decide +kernel
theorem dX2_init_1 : decode cX2_init 1 = .ok (.invokespecial 3, 3) := by decide +kernel
theorem dX2_init_4 : decode cX2_init 4 = .ok (.return_, 1) := by decide +kernel
theorem dX2_begin_0 : decode cX2_begin 0 = .ok (.aload_n 0, 1) := by decide +kernel
theorem dX2_begin_1 : decode cX2_begin 1 = .ok (.iload_n 1, 1) := by decide +kernel
theorem dX2_begin_2 : decode cX2_begin 2 = .ok (.putfield 9, 3) := by decide +kernel
theorem dX2_begin_5 : decode cX2_begin 5 = .ok (.aload_n 0, 1) := by decide +kernel
theorem dX2_begin_6 : decode cX2_begin 6 = .ok (.iconst 0, 1) := by decide +kernel
theorem dX2_begin_7 : decode cX2_begin 7 = .ok (.putfield 15, 3) := by decide +kernel
theorem dX2_begin_10 : decode cX2_begin 10 = .ok (.aload_n 0, 1) := by decide +kernel
theorem dX2_begin_11 : decode cX2_begin 11 = .ok (.iconst 0, 1) := by decide +kernel
theorem dX2_begin_12 : decode cX2_begin 12 = .ok (.putfield 18, 3) := by decide +kernel
theorem dX2_begin_15 : decode cX2_begin 15 = .ok (.aload_n 0, 1) := by decide +kernel
theorem dX2_begin_16 : decode cX2_begin 16 = .ok (.iconst 0, 1) := by decide +kernel
theorem dX2_begin_17 : decode cX2_begin 17 = .ok (.putfield 21, 3) := by decide +kernel
theorem dX2_begin_20 : decode cX2_begin 20 = .ok (.return_, 1) := by decide +kernel
set_option maxRecDepth 20000 in
theorem ggX2_play_X2_winner : GoodIn wsX2_play wsX2_winner := goodIn_r _ [6, 7, 8, 9, 14, 15, 16, 17] (by decide +kernel) (by decide +kernel)
set_option maxRecDepth 20000 in
theorem gX2_play_X2_winner : GoodIn wsX2_play (wsV RX2 24 RX2 yX2_winner wsX2_winner) := goodIn_app (goodIn_of _ (by decide +kernel)) ggX2_play_X2_winner
set_option maxRecDepth 20000 in
theorem ggX2_play_X2_giveHoop : GoodIn wsX2_play wsX2_giveHoop := goodIn_r _ [13, 7, 9, 14, 15, 16, 17] (by decide +kernel) (by decide +kernel)
set_option maxRecDepth 20000 in
theorem gX2_play_X2_giveHoop : GoodIn wsX2_play (wsV RX2 28 RX2 yX2_giveHoop wsX2_giveHoop) := goodIn_app (goodIn_of _ (by decide +kernel)) ggX2_play_X2_giveHoop
theorem dX2_play_0 : decode cX2_play 0 = .ok (.aload_n 0, 1) := by decide +kernel
theorem dX2_play_1 : decode cX2_play 1 = .ok (.invokevirtual 24, 3) := by decide +kernel
theorem dX2_play_4 : decode cX2_play 4 = .ok (.bipush (-6), 2) := by decide +kernel
theorem dX2_play_6 : decode cX2_play 6 = .ok (.if_icmp .eq 4, 3) := by decide +kernel
theorem dX2_play_9 : decode cX2_play 9 = .ok (.return_, 1) := by decide +kernel
theorem dX2_play_10 : decode cX2_play 10 = .ok (.iload_n 1, 1) := by decide +kernel
theorem dX2_play_11 : decode cX2_play 11 = .ok (.iconst 1, 1) := by decide +kernel
theorem dX2_play_12 : decode cX2_play 12 = .ok (.if_icmp .ne 11, 3) := by decide +kernel
theorem dX2_play_15 : decode cX2_play 15 = .ok (.aload_n 0, 1) := by decide +kernel
theorem dX2_play_16 : decode cX2_play 16 = .ok (.aload_n 0, 1) := by decide +kernel
theorem dX2_play_17 : decode cX2_play 17 = .ok (.getfield 21, 3) := by decide +kernel
theorem dX2_play_20 : decode cX2_play 20 = .ok (.invokevirtual 28, 3) := by decide +kernel
theorem dX2_play_23 : decode cX2_play 23 = .ok (.iload_n 1, 1) := by decide +kernel
theorem dX2_play_24 : decode cX2_play 24 = .ok (.iconst 3, 1) := by decide +kernel
theorem dX2_play_25 : decode cX2_play 25 = .ok (.if_icmp .ne 13, 3) := by decide +kernel
theorem dX2_play_28 : decode cX2_play 28 = .ok (.aload_n 0, 1) := by decide +kernel
theorem dX2_play_29 : decode cX2_play 29 = .ok (.iconst 1, 1) := by decide +kernel
theorem dX2_play_30 : decode cX2_play 30 = .ok (.aload_n 0, 1) := by decide +kernel
theorem dX2_play_31 : decode cX2_play 31 = .ok (.getfield 21, 3) := by decide +kernel
theorem dX2_play_34 : decode cX2_play 34 = .ok (.isub, 1) := by decide +kernel
theorem dX2_play_35 : decode cX2_play 35 = .ok (.invokevirtual 28, 3) := by decide +kernel
theorem dX2_play_38 : decode cX2_play 38 = .ok (.iload_n 1, 1) := by decide +kernel
theorem dX2_play_39 : decode cX2_play 39 = .ok (.iconst 2, 1) := by decide +kernel
theorem dX2_play_40 : decode cX2_play 40 = .ok (.if_icmp .eq 8, 3) := by decide +kernel
theorem dX2_play_43 : decode cX2_play 43 = .ok (.iload_n 1, 1) := by decide +kernel
theorem dX2_play_44 : decode cX2_play 44 = .ok (.iconst 3, 1) := by decide +kernel
theorem dX2_play_45 : decode cX2_play 45 = .ok (.if_icmp .ne 13, 3) := by decide +kernel
theorem dX2_play_48 : decode cX2_play 48 = .ok (.aload_n 0, 1) := by decide +kernel
theorem dX2_play_49 : decode cX2_play 49 = .ok (.iconst 1, 1) := by decide +kernel
theorem dX2_play_50 : decode cX2_play 50 = .ok (.aload_n 0, 1) := by decide +kernel
theorem dX2_play_51 : decode cX2_play 51 = .ok (.getfield 21, 3) := by decide +kernel
theorem dX2_play_54 : decode cX2_play 54 = .ok (.isub, 1) := by decide +kernel
theorem dX2_play_55 : decode cX2_play 55 = .ok (.putfield 21, 3) := by decide +kernel
theorem dX2_play_58 : decode cX2_play 58 = .ok (.return_, 1) := by decide +kernel
theorem dX2_giveHoop_0 : decode cX2_giveHoop 0 = .ok (.iload_n 1, 1) := by decide +kernel
theorem dX2_giveHoop_1 : decode cX2_giveHoop 1 = .ok (.ifCond .ne 16, 3) := by decide +kernel
theorem dX2_giveHoop_4 : decode cX2_giveHoop 4 = .ok (.aload_n 0, 1) := by decide +kernel
theorem dX2_giveHoop_5 : decode cX2_giveHoop 5 = .ok (.dup, 1) := by decide +kernel
theorem dX2_giveHoop_6 : decode cX2_giveHoop 6 = .ok (.getfield 15, 3) := by decide +kernel
theorem dX2_giveHoop_9 : decode cX2_giveHoop 9 = .ok (.iconst 1, 1) := by decide +kernel
theorem dX2_giveHoop_10 : decode cX2_giveHoop 10 = .ok (.iadd, 1) := by decide +kernel
theorem dX2_giveHoop_11 : decode cX2_giveHoop 11 = .ok (.putfield 15, 3) := by decide +kernel
theorem dX2_giveHoop_14 : decode cX2_giveHoop 14 = .ok (.goto 13, 3) := by decide +kernel
theorem dX2_giveHoop_17 : decode cX2_giveHoop 17 = .ok (.aload_n 0, 1) := by decide +kernel
theorem dX2_giveHoop_18 : decode cX2_giveHoop 18 = .ok (.dup, 1) := by decide +kernel
theorem dX2_giveHoop_19 : decode cX2_giveHoop 19 = .ok (.getfield 18, 3) := by decide +kernel
theorem dX2_giveHoop_22 : decode cX2_giveHoop 22 = .ok (.iconst 1, 1) := by decide +kernel
theorem dX2_giveHoop_23 : decode cX2_giveHoop 23 = .ok (.iadd, 1) := by decide +kernel
theorem dX2_giveHoop_24 : decode cX2_giveHoop 24 = .ok (.putfield 18, 3) := by decide +kernel
theorem dX2_giveHoop_27 : decode cX2_giveHoop 27 = .ok (.return_, 1) := by decide +kernel
theorem dX2_winner_0 : decode cX2_winner 0 = .ok (.aload_n 0, 1) := by decide +kernel
theorem dX2_winner_1 : decode cX2_winner 1 = .ok (.getfield 15, 3) := by decide +kernel
theorem dX2_winner_4 : decode cX2_winner 4 = .ok (.aload_n 0, 1) := by decide +kernel
theorem dX2_winner_5 : decode cX2_winner 5 = .ok (.getfield 9, 3) := by decide +kernel
theorem dX2_winner_8 : decode cX2_winner 8 = .ok (.if_icmp .lt 5, 3) := by decide +kernel
theorem dX2_winner_11 : decode cX2_winner 11 = .ok (.iconst 0, 1) := by decide +kernel
theorem dX2_winner_12 : decode cX2_winner 12 = .ok (.ireturn, 1) := by decide +kernel
theorem dX2_winner_13 : decode cX2_winner 13 = .ok (.aload_n 0, 1) := by decide +kernel
theorem dX2_winner_14 : decode cX2_winner 14 = .ok (.getfield 18, 3) := by decide +kernel
theorem dX2_winner_17 : decode cX2_winner 17 = .ok (.aload_n 0, 1) := by decide +kernel
theorem dX2_winner_18 : decode cX2_winner 18 = .ok (.getfield 9, 3) := by decide +kernel
theorem dX2_winner_21 : decode cX2_winner 21 = .ok (.if_icmp .lt 7, 3) := by decide +kernel
theorem dX2_winner_24 : decode cX2_winner 24 = .ok (.iconst 1, 1) := by decide +kernel
theorem dX2_winner_25 : decode cX2_winner 25 = .ok (.goto 5, 3) := by decide +kernel
theorem dX2_winner_28 : decode cX2_winner 28 = .ok (.bipush (-6), 2) := by decide +kernel
theorem dX2_winner_30 : decode cX2_winner 30 = .ok (.ireturn, 1) := by decide +kernel
set_option maxRecDepth 20000 in
theorem ggX2_standsAs_X2_winner : GoodIn wsX2_standsAs wsX2_winner := goodIn_r _ [8, 1, 9, 2, 10, 11, 12, 13] (by decide +kernel) (by decide +kernel)
set_option maxRecDepth 20000 in
theorem gX2_standsAs_X2_winner : GoodIn wsX2_standsAs (wsV RX2 24 RX2 yX2_winner wsX2_winner) := goodIn_app (goodIn_of _ (by decide +kernel)) ggX2_standsAs_X2_winner
theorem dX2_standsAs_0 : decode cX2_standsAs 0 = .ok (.aload_n 0, 1) := by decide +kernel
theorem dX2_standsAs_1 : decode cX2_standsAs 1 = .ok (.getfield 15, 3) := by decide +kernel
theorem dX2_standsAs_4 : decode cX2_standsAs 4 = .ok (.aload_n 1, 1) := by decide +kernel
theorem dX2_standsAs_5 : decode cX2_standsAs 5 = .ok (.getfield 15, 3) := by decide +kernel
theorem dX2_standsAs_8 : decode cX2_standsAs 8 = .ok (.if_icmp .ne 40, 3) := by decide +kernel
theorem dX2_standsAs_11 : decode cX2_standsAs 11 = .ok (.aload_n 0, 1) := by decide +kernel
theorem dX2_standsAs_12 : decode cX2_standsAs 12 = .ok (.getfield 18, 3) := by decide +kernel
theorem dX2_standsAs_15 : decode cX2_standsAs 15 = .ok (.aload_n 1, 1) := by decide +kernel
theorem dX2_standsAs_16 : decode cX2_standsAs 16 = .ok (.getfield 18, 3) := by decide +kernel
theorem dX2_standsAs_19 : decode cX2_standsAs 19 = .ok (.if_icmp .ne 29, 3) := by decide +kernel
theorem dX2_standsAs_22 : decode cX2_standsAs 22 = .ok (.aload_n 0, 1) := by decide +kernel
theorem dX2_standsAs_23 : decode cX2_standsAs 23 = .ok (.getfield 21, 3) := by decide +kernel
theorem dX2_standsAs_26 : decode cX2_standsAs 26 = .ok (.aload_n 1, 1) := by decide +kernel
theorem dX2_standsAs_27 : decode cX2_standsAs 27 = .ok (.getfield 21, 3) := by decide +kernel
theorem dX2_standsAs_30 : decode cX2_standsAs 30 = .ok (.if_icmp .ne 18, 3) := by decide +kernel
theorem dX2_standsAs_33 : decode cX2_standsAs 33 = .ok (.aload_n 0, 1) := by decide +kernel
theorem dX2_standsAs_34 : decode cX2_standsAs 34 = .ok (.invokevirtual 24, 3) := by decide +kernel
theorem dX2_standsAs_37 : decode cX2_standsAs 37 = .ok (.aload_n 1, 1) := by decide +kernel
theorem dX2_standsAs_38 : decode cX2_standsAs 38 = .ok (.invokevirtual 24, 3) := by decide +kernel
theorem dX2_standsAs_41 : decode cX2_standsAs 41 = .ok (.if_icmp .ne 7, 3) := by decide +kernel
theorem dX2_standsAs_44 : decode cX2_standsAs 44 = .ok (.iconst 1, 1) := by decide +kernel
theorem dX2_standsAs_45 : decode cX2_standsAs 45 = .ok (.goto 4, 3) := by decide +kernel
theorem dX2_standsAs_48 : decode cX2_standsAs 48 = .ok (.iconst 0, 1) := by decide +kernel
theorem dX2_standsAs_49 : decode cX2_standsAs 49 = .ok (.ireturn, 1) := by decide +kernel
theorem dX3_init_0 : decode cX3_init 0 = .ok (.aload_n 0, 1) := by decide +kernel
theorem dX3_init_1 : decode cX3_init 1 = .ok (.invokespecial 3, 3) := by decide +kernel
theorem dX3_init_4 : decode cX3_init 4 = .ok (.aload_n 0, 1) := by decide +kernel
theorem dX3_init_5 : decode cX3_init 5 = .ok (.sipush 128, 3) := by decide +kernel
theorem dX3_init_8 : decode cX3_init 8 = .ok (.newarray .int, 2) := by decide +kernel
theorem dX3_init_10 : decode cX3_init 10 = .ok (.putfield 9, 3) := by decide +kernel
theorem dX3_init_13 : decode cX3_init 13 = .ok (.aload_n 0, 1) := by decide +kernel
theorem dX3_init_14 : decode cX3_init 14 = .ok (.aload_n 1, 1) := by decide +kernel
theorem dX3_init_15 : decode cX3_init 15 = .ok (.putfield 15, 3) := by decide +kernel
theorem dX3_init_18 : decode cX3_init 18 = .ok (.return_, 1) := by decide +kernel
set_option maxRecDepth 20000 in
theorem ggX3_work_X0_lawLine : GoodIn wsX3_work wsX0_lawLine := goodIn_r _ [7, 8, 9, 10, 11, 12, 6, 13, 14, 15, 16, 17, 18, 19, 22, 23, 24, 25, 26, 27, 28, 29, 30, 31, 32] (by decide +kernel) (by decide +kernel)
set_option maxRecDepth 20000 in
theorem gX3_work_X0_lawLine : GoodIn wsX3_work (wsV RX3 25 RX0 yX0_lawLine wsX0_lawLine) := goodIn_app (goodIn_of _ (by decide +kernel)) ggX3_work_X0_lawLine
theorem dX3_work_0 : decode cX3_work 0 = .ok (.iconst 0, 1) := by decide +kernel
theorem dX3_work_1 : decode cX3_work 1 = .ok (.istore_n 2, 1) := by decide +kernel
theorem dX3_work_2 : decode cX3_work 2 = .ok (.iload_n 2, 1) := by decide +kernel
theorem dX3_work_3 : decode cX3_work 3 = .ok (.aload_n 0, 1) := by decide +kernel
theorem dX3_work_4 : decode cX3_work 4 = .ok (.getfield 15, 3) := by decide +kernel
theorem dX3_work_7 : decode cX3_work 7 = .ok (.getfield 19, 3) := by decide +kernel
theorem dX3_work_10 : decode cX3_work 10 = .ok (.if_icmp .ge 24, 3) := by decide +kernel
theorem dX3_work_13 : decode cX3_work 13 = .ok (.aload_n 0, 1) := by decide +kernel
theorem dX3_work_14 : decode cX3_work 14 = .ok (.getfield 9, 3) := by decide +kernel
theorem dX3_work_17 : decode cX3_work 17 = .ok (.iload_n 2, 1) := by decide +kernel
theorem dX3_work_18 : decode cX3_work 18 = .ok (.aload_n 0, 1) := by decide +kernel
theorem dX3_work_19 : decode cX3_work 19 = .ok (.getfield 15, 3) := by decide +kernel
theorem dX3_work_22 : decode cX3_work 22 = .ok (.iload_n 2, 1) := by decide +kernel
theorem dX3_work_23 : decode cX3_work 23 = .ok (.iload_n 1, 1) := by decide +kernel
theorem dX3_work_24 : decode cX3_work 24 = .ok (.invokevirtual 25, 3) := by decide +kernel
theorem dX3_work_27 : decode cX3_work 27 = .ok (.iastore, 1) := by decide +kernel
theorem dX3_work_28 : decode cX3_work 28 = .ok (.iinc 2 1, 3) := by decide +kernel
theorem dX3_work_31 : decode cX3_work 31 = .ok (.goto (-29), 3) := by decide +kernel
theorem dX3_work_34 : decode cX3_work 34 = .ok (.return_, 1) := by decide +kernel
theorem dX3_covers_0 : decode cX3_covers 0 = .ok (.aload_n 0, 1) := by decide +kernel
theorem dX3_covers_1 : decode cX3_covers 1 = .ok (.getfield 9, 3) := by decide +kernel
theorem dX3_covers_4 : decode cX3_covers 4 = .ok (.iload_n 1, 1) := by decide +kernel
theorem dX3_covers_5 : decode cX3_covers 5 = .ok (.iaload, 1) := by decide +kernel
theorem dX3_covers_6 : decode cX3_covers 6 = .ok (.bipush (-6), 2) := by decide +kernel
theorem dX3_covers_8 : decode cX3_covers 8 = .ok (.if_icmp .eq 7, 3) := by decide +kernel
theorem dX3_covers_11 : decode cX3_covers 11 = .ok (.iconst 1, 1) := by decide +kernel
theorem dX3_covers_12 : decode cX3_covers 12 = .ok (.goto 4, 3) := by decide +kernel
theorem dX3_covers_15 : decode cX3_covers 15 = .ok (.iconst 0, 1) := by decide +kernel
theorem dX3_covers_16 : decode cX3_covers 16 = .ok (.ireturn, 1) := by decide +kernel
set_option maxRecDepth 20000 in
theorem ggX3_rulingFor_X3_covers : GoodIn wsX3_rulingFor wsX3_covers := goodIn_r _ [7, 2, 8, 9] (by decide +kernel) (by decide +kernel)
set_option maxRecDepth 20000 in
theorem gX3_rulingFor_X3_covers : GoodIn wsX3_rulingFor (wsV RX3 29 RX3 yX3_covers wsX3_covers) := goodIn_app (goodIn_of _ (by decide +kernel)) ggX3_rulingFor_X3_covers
theorem dX3_rulingFor_0 : decode cX3_rulingFor 0 = .ok (.aload_n 0, 1) := by decide +kernel
theorem dX3_rulingFor_1 : decode cX3_rulingFor 1 = .ok (.iload_n 1, 1) := by decide +kernel
theorem dX3_rulingFor_2 : decode cX3_rulingFor 2 = .ok (.invokevirtual 29, 3) := by decide +kernel
theorem dX3_rulingFor_5 : decode cX3_rulingFor 5 = .ok (.ifCond .eq 20, 3) := by decide +kernel
theorem dX3_rulingFor_8 : decode cX3_rulingFor 8 = .ok (.aload_n 0, 1) := by decide +kernel
theorem dX3_rulingFor_9 : decode cX3_rulingFor 9 = .ok (.getfield 15, 3) := by decide +kernel
theorem dX3_rulingFor_12 : decode cX3_rulingFor 12 = .ok (.getfield 33, 3) := by decide +kernel
theorem dX3_rulingFor_15 : decode cX3_rulingFor 15 = .ok (.aload_n 0, 1) := by decide +kernel
theorem dX3_rulingFor_16 : decode cX3_rulingFor 16 = .ok (.getfield 9, 3) := by decide +kernel
theorem dX3_rulingFor_19 : decode cX3_rulingFor 19 = .ok (.iload_n 1, 1) := by decide +kernel
theorem dX3_rulingFor_20 : decode cX3_rulingFor 20 = .ok (.iaload, 1) := by decide +kernel
theorem dX3_rulingFor_21 : decode cX3_rulingFor 21 = .ok (.iaload, 1) := by decide +kernel
theorem dX3_rulingFor_22 : decode cX3_rulingFor 22 = .ok (.goto 4, 3) := by decide +kernel
theorem dX3_rulingFor_25 : decode cX3_rulingFor 25 = .ok (.iconst 0, 1) := by decide +kernel
theorem dX3_rulingFor_26 : decode cX3_rulingFor 26 = .ok (.ireturn, 1) := by decide +kernel
set_option maxRecDepth 20000 in
theorem ggX3_differFor_X3_rulingFor : GoodIn wsX3_differFor wsX3_rulingFor := goodIn_r _ [5, 6, 7, 8, 9, 10, 4, 11, 12, 13, 14, 15, 16, 17, 18, 19, 20, 21, 22, 23, 24] (by decide +kernel) (by decide +kernel)
set_option maxRecDepth 20000 in
theorem gX3_differFor_X3_rulingFor : GoodIn wsX3_differFor (wsV RX3 36 RX3 yX3_rulingFor wsX3_rulingFor) := goodIn_app (goodIn_of _ (by decide +kernel)) ggX3_differFor_X3_rulingFor
set_option maxRecDepth 20000 in
theorem ggX3_differFor_X3_covers : GoodIn wsX3_differFor wsX3_covers := goodIn_r _ [11, 7, 12, 13] (by decide +kernel) (by decide +kernel)
set_option maxRecDepth 20000 in
theorem gX3_differFor_X3_covers : GoodIn wsX3_differFor (wsV RX3 29 RX3 yX3_covers wsX3_covers) := goodIn_app (goodIn_of _ (by decide +kernel)) ggX3_differFor_X3_covers
theorem dX3_differFor_0 : decode cX3_differFor 0 = .ok (.aload_n 0, 1) := by decide +kernel
theorem dX3_differFor_1 : decode cX3_differFor 1 = .ok (.iload_n 1, 1) := by decide +kernel
theorem dX3_differFor_2 : decode cX3_differFor 2 = .ok (.invokevirtual 36, 3) := by decide +kernel
theorem dX3_differFor_5 : decode cX3_differFor 5 = .ok (.aload_n 2, 1) := by decide +kernel
theorem dX3_differFor_6 : decode cX3_differFor 6 = .ok (.iload_n 1, 1) := by decide +kernel
theorem dX3_differFor_7 : decode cX3_differFor 7 = .ok (.invokevirtual 36, 3) := by decide +kernel
theorem dX3_differFor_10 : decode cX3_differFor 10 = .ok (.if_icmp .ne 16, 3) := by decide +kernel
theorem dX3_differFor_13 : decode cX3_differFor 13 = .ok (.aload_n 0, 1) := by decide +kernel
theorem dX3_differFor_14 : decode cX3_differFor 14 = .ok (.iload_n 1, 1) := by decide +kernel
theorem dX3_differFor_15 : decode cX3_differFor 15 = .ok (.invokevirtual 29, 3) := by decide +kernel
theorem dX3_differFor_18 : decode cX3_differFor 18 = .ok (.aload_n 2, 1) := by decide +kernel
theorem dX3_differFor_19 : decode cX3_differFor 19 = .ok (.iload_n 1, 1) := by decide +kernel
theorem dX3_differFor_20 : decode cX3_differFor 20 = .ok (.invokevirtual 29, 3) := by decide +kernel
theorem dX3_differFor_23 : decode cX3_differFor 23 = .ok (.if_icmp .eq 7, 3) := by decide +kernel
theorem dX3_differFor_26 : decode cX3_differFor 26 = .ok (.iconst 1, 1) := by decide +kernel
theorem dX3_differFor_27 : decode cX3_differFor 27 = .ok (.goto 4, 3) := by decide +kernel
theorem dX3_differFor_30 : decode cX3_differFor 30 = .ok (.iconst 0, 1) := by decide +kernel
theorem dX3_differFor_31 : decode cX3_differFor 31 = .ok (.ireturn, 1) := by decide +kernel
set_option maxRecDepth 20000 in
theorem ggX3_countMayBeRuled_X0_mayBe : GoodIn wsX3_countMayBeRuled wsX0_mayBe := goodIn_r _ [6, 7, 20, 21, 22, 23, 24, 25, 26, 27, 28, 29, 30] (by decide +kernel) (by decide +kernel)
set_option maxRecDepth 20000 in
theorem gX3_countMayBeRuled_X0_mayBe : GoodIn wsX3_countMayBeRuled (wsV RX3 40 RX0 yX0_mayBe wsX0_mayBe) := goodIn_app (goodIn_of _ (by decide +kernel)) ggX3_countMayBeRuled_X0_mayBe
set_option maxRecDepth 20000 in
theorem ggX3_countMayBeRuled_X3_rulingFor : GoodIn wsX3_countMayBeRuled wsX3_rulingFor := goodIn_r _ [12, 1, 13, 14, 15, 16, 11, 17, 18, 19, 20, 21, 22, 23, 24, 25, 26, 27, 28, 29, 30] (by decide +kernel) (by decide +kernel)
set_option maxRecDepth 20000 in
theorem gX3_countMayBeRuled_X3_rulingFor : GoodIn wsX3_countMayBeRuled (wsV RX3 36 RX3 yX3_rulingFor wsX3_rulingFor) := goodIn_app (goodIn_of _ (by decide +kernel)) ggX3_countMayBeRuled_X3_rulingFor
theorem dX3_countMayBeRuled_0 : decode cX3_countMayBeRuled 0 = .ok (.iconst 0, 1) := by decide +kernel
theorem dX3_countMayBeRuled_1 : decode cX3_countMayBeRuled 1 = .ok (.istore 4, 2) := by decide +kernel
theorem dX3_countMayBeRuled_3 : decode cX3_countMayBeRuled 3 = .ok (.iconst 0, 1) := by decide +kernel
theorem dX3_countMayBeRuled_4 : decode cX3_countMayBeRuled 4 = .ok (.istore 5, 2) := by decide +kernel
theorem dX3_countMayBeRuled_6 : decode cX3_countMayBeRuled 6 = .ok (.iload 5, 2) := by decide +kernel
theorem dX3_countMayBeRuled_8 : decode cX3_countMayBeRuled 8 = .ok (.aload_n 0, 1) := by decide +kernel
theorem dX3_countMayBeRuled_9 : decode cX3_countMayBeRuled 9 = .ok (.getfield 15, 3) := by decide +kernel
theorem dX3_countMayBeRuled_12 : decode cX3_countMayBeRuled 12 = .ok (.getfield 19, 3) := by decide +kernel
theorem dX3_countMayBeRuled_15 : decode cX3_countMayBeRuled 15 = .ok (.if_icmp .ge 36, 3) := by decide +kernel
theorem dX3_countMayBeRuled_18 : decode cX3_countMayBeRuled 18 = .ok (.aload_n 0, 1) := by decide +kernel
theorem dX3_countMayBeRuled_19 : decode cX3_countMayBeRuled 19 = .ok (.getfield 15, 3) := by decide +kernel
theorem dX3_countMayBeRuled_22 : decode cX3_countMayBeRuled 22 = .ok (.iload 5, 2) := by decide +kernel
theorem dX3_countMayBeRuled_24 : decode cX3_countMayBeRuled 24 = .ok (.iload_n 1, 1) := by decide +kernel
theorem dX3_countMayBeRuled_25 : decode cX3_countMayBeRuled 25 = .ok (.iload_n 2, 1) := by decide +kernel
theorem dX3_countMayBeRuled_26 : decode cX3_countMayBeRuled 26 = .ok (.invokevirtual 40, 3) := by decide +kernel
theorem dX3_countMayBeRuled_29 : decode cX3_countMayBeRuled 29 = .ok (.ifCond .eq 16, 3) := by decide +kernel
theorem dX3_countMayBeRuled_32 : decode cX3_countMayBeRuled 32 = .ok (.aload_n 0, 1) := by decide +kernel
theorem dX3_countMayBeRuled_33 : decode cX3_countMayBeRuled 33 = .ok (.iload 5, 2) := by decide +kernel
theorem dX3_countMayBeRuled_35 : decode cX3_countMayBeRuled 35 = .ok (.invokevirtual 36, 3) := by decide +kernel
theorem dX3_countMayBeRuled_38 : decode cX3_countMayBeRuled 38 = .ok (.iload_n 3, 1) := by decide +kernel
theorem dX3_countMayBeRuled_39 : decode cX3_countMayBeRuled 39 = .ok (.if_icmp .ne 6, 3) := by decide +kernel
theorem dX3_countMayBeRuled_42 : decode cX3_countMayBeRuled 42 = .ok (.iinc 4 1, 3) := by decide +kernel
theorem dX3_countMayBeRuled_45 : decode cX3_countMayBeRuled 45 = .ok (.iinc 5 1, 3) := by decide +kernel
theorem dX3_countMayBeRuled_48 : decode cX3_countMayBeRuled 48 = .ok (.goto (-42), 3) := by decide +kernel
theorem dX3_countMayBeRuled_51 : decode cX3_countMayBeRuled 51 = .ok (.iload 4, 2) := by decide +kernel
theorem dX3_countMayBeRuled_53 : decode cX3_countMayBeRuled 53 = .ok (.ireturn, 1) := by decide +kernel
set_option maxRecDepth 20000 in
theorem ggX3_rulingForAll_X0_mayBe : GoodIn wsX3_rulingForAll wsX0_mayBe := goodIn_r _ [6, 7, 20, 21, 22, 23, 24, 25, 26, 27, 28, 29, 30] (by decide +kernel) (by decide +kernel)
set_option maxRecDepth 20000 in
theorem gX3_rulingForAll_X0_mayBe : GoodIn wsX3_rulingForAll (wsV RX3 40 RX0 yX0_mayBe wsX0_mayBe) := goodIn_app (goodIn_of _ (by decide +kernel)) ggX3_rulingForAll_X0_mayBe
set_option maxRecDepth 20000 in
theorem ggX3_rulingForAll_X3_rulingFor : GoodIn wsX3_rulingForAll wsX3_rulingFor := goodIn_r _ [12, 1, 13, 14, 15, 16, 11, 17, 18, 19, 20, 21, 22, 23, 24, 25, 26, 27, 28, 29, 30] (by decide +kernel) (by decide +kernel)
set_option maxRecDepth 20000 in
theorem gX3_rulingForAll_X3_rulingFor : GoodIn wsX3_rulingForAll (wsV RX3 36 RX3 yX3_rulingFor wsX3_rulingFor) := goodIn_app (goodIn_of _ (by decide +kernel)) ggX3_rulingForAll_X3_rulingFor
theorem dX3_rulingForAll_0 : decode cX3_rulingForAll 0 = .ok (.iconst (-1), 1) := by decide +kernel
theorem dX3_rulingForAll_1 : decode cX3_rulingForAll 1 = .ok (.istore_n 3, 1) := by decide +kernel
theorem dX3_rulingForAll_2 : decode cX3_rulingForAll 2 = .ok (.iconst 0, 1) := by decide +kernel
theorem dX3_rulingForAll_3 : decode cX3_rulingForAll 3 = .ok (.istore 4, 2) := by decide +kernel
theorem dX3_rulingForAll_5 : decode cX3_rulingForAll 5 = .ok (.iload 4, 2) := by decide +kernel
theorem dX3_rulingForAll_7 : decode cX3_rulingForAll 7 = .ok (.aload_n 0, 1) := by decide +kernel
theorem dX3_rulingForAll_8 : decode cX3_rulingForAll 8 = .ok (.getfield 15, 3) := by decide +kernel
theorem dX3_rulingForAll_11 : decode cX3_rulingForAll 11 = .ok (.getfield 19, 3) := by decide +kernel
theorem dX3_rulingForAll_14 : decode cX3_rulingForAll 14 = .ok (.if_icmp .ge 47, 3) := by decide +kernel
theorem dX3_rulingForAll_17 : decode cX3_rulingForAll 17 = .ok (.aload_n 0, 1) := by decide +kernel
theorem dX3_rulingForAll_18 : decode cX3_rulingForAll 18 = .ok (.getfield 15, 3) := by decide +kernel
theorem dX3_rulingForAll_21 : decode cX3_rulingForAll 21 = .ok (.iload 4, 2) := by decide +kernel
theorem dX3_rulingForAll_23 : decode cX3_rulingForAll 23 = .ok (.iload_n 1, 1) := by decide +kernel
theorem dX3_rulingForAll_24 : decode cX3_rulingForAll 24 = .ok (.iload_n 2, 1) := by decide +kernel
theorem dX3_rulingForAll_25 : decode cX3_rulingForAll 25 = .ok (.invokevirtual 40, 3) := by decide +kernel
theorem dX3_rulingForAll_28 : decode cX3_rulingForAll 28 = .ok (.ifCond .eq 27, 3) := by decide +kernel
theorem dX3_rulingForAll_31 : decode cX3_rulingForAll 31 = .ok (.aload_n 0, 1) := by decide +kernel
theorem dX3_rulingForAll_32 : decode cX3_rulingForAll 32 = .ok (.iload 4, 2) := by decide +kernel
theorem dX3_rulingForAll_34 : decode cX3_rulingForAll 34 = .ok (.invokevirtual 36, 3) := by decide +kernel
theorem dX3_rulingForAll_37 : decode cX3_rulingForAll 37 = .ok (.istore 5, 2) := by decide +kernel
theorem dX3_rulingForAll_39 : decode cX3_rulingForAll 39 = .ok (.iload_n 3, 1) := by decide +kernel
theorem dX3_rulingForAll_40 : decode cX3_rulingForAll 40 = .ok (.iconst (-1), 1) := by decide +kernel
theorem dX3_rulingForAll_41 : decode cX3_rulingForAll 41 = .ok (.if_icmp .eq 11, 3) := by decide +kernel
theorem dX3_rulingForAll_44 : decode cX3_rulingForAll 44 = .ok (.iload_n 3, 1) := by decide +kernel
theorem dX3_rulingForAll_45 : decode cX3_rulingForAll 45 = .ok (.iload 5, 2) := by decide +kernel
theorem dX3_rulingForAll_47 : decode cX3_rulingForAll 47 = .ok (.if_icmp .eq 5, 3) := by decide +kernel
theorem dX3_rulingForAll_50 : decode cX3_rulingForAll 50 = .ok (.iconst 0, 1) := by decide +kernel
theorem dX3_rulingForAll_51 : decode cX3_rulingForAll 51 = .ok (.ireturn, 1) := by decide +kernel
theorem dX3_rulingForAll_52 : decode cX3_rulingForAll 52 = .ok (.iload 5, 2) := by decide +kernel
theorem dX3_rulingForAll_54 : decode cX3_rulingForAll 54 = .ok (.istore_n 3, 1) := by decide +kernel
theorem dX3_rulingForAll_55 : decode cX3_rulingForAll 55 = .ok (.iinc 4 1, 3) := by decide +kernel
theorem dX3_rulingForAll_58 : decode cX3_rulingForAll 58 = .ok (.goto (-53), 3) := by decide +kernel
theorem dX3_rulingForAll_61 : decode cX3_rulingForAll 61 = .ok (.iload_n 3, 1) := by decide +kernel
theorem dX3_rulingForAll_62 : decode cX3_rulingForAll 62 = .ok (.iconst (-1), 1) := by decide +kernel
theorem dX3_rulingForAll_63 : decode cX3_rulingForAll 63 = .ok (.if_icmp .ne 7, 3) := by decide +kernel
theorem dX3_rulingForAll_66 : decode cX3_rulingForAll 66 = .ok (.iconst 0, 1) := by decide +kernel
theorem dX3_rulingForAll_67 : decode cX3_rulingForAll 67 = .ok (.goto 4, 3) := by decide +kernel
theorem dX3_rulingForAll_70 : decode cX3_rulingForAll 70 = .ok (.iload_n 3, 1) := by decide +kernel
theorem dX3_rulingForAll_71 : decode cX3_rulingForAll 71 = .ok (.ireturn, 1) := by decide +kernel
theorem dX4_init_0 : decode cX4_init 0 = .ok (.aload_n 0, 1) := by decide +kernel
theorem dX4_init_1 : decode cX4_init 1 = .ok (.invokespecial 3, 3) := by decide +kernel
theorem dX4_init_4 : decode cX4_init 4 = .ok (.aload_n 0, 1) := by decide +kernel
theorem dX4_init_5 : decode cX4_init 5 = .ok (.bipush 90, 2) := by decide +kernel
theorem dX4_init_7 : decode cX4_init 7 = .ok (.newarray .int, 2) := by decide +kernel
theorem dX4_init_9 : decode cX4_init 9 = .ok (.putfield 9, 3) := by decide +kernel
theorem dX4_init_12 : decode cX4_init 12 = .ok (.aload_n 0, 1) := by decide +kernel
theorem dX4_init_13 : decode cX4_init 13 = .ok (.bipush 90, 2) := by decide +kernel
theorem dX4_init_15 : decode cX4_init 15 = .ok (.newarray .int, 2) := by decide +kernel
theorem dX4_init_17 : decode cX4_init 17 = .ok (.putfield 15, 3) := by decide +kernel
theorem dX4_init_20 : decode cX4_init 20 = .ok (.aload_n 0, 1) := by decide +kernel
theorem dX4_init_21 : decode cX4_init 21 = .ok (.bipush 30, 2) := by decide +kernel
theorem dX4_init_23 : decode cX4_init 23 = .ok (.newarray .int, 2) := by decide +kernel
theorem dX4_init_25 : decode cX4_init 25 = .ok (.putfield 18, 3) := by decide +kernel
theorem dX4_init_28 : decode cX4_init 28 = .ok (.return_, 1) := by decide +kernel
theorem dX4_has_0 : decode cX4_has 0 = .ok (.iload_n 1, 1) := by decide +kernel
theorem dX4_has_1 : decode cX4_has 1 = .ok (.ifCond .lt 15, 3) := by decide +kernel
theorem dX4_has_4 : decode cX4_has 4 = .ok (.iload_n 1, 1) := by decide +kernel
theorem dX4_has_5 : decode cX4_has 5 = .ok (.aload_n 0, 1) := by decide +kernel
theorem dX4_has_6 : decode cX4_has 6 = .ok (.getfield 21, 3) := by decide +kernel
theorem dX4_has_9 : decode cX4_has 9 = .ok (.if_icmp .ge 7, 3) := by decide +kernel
theorem dX4_has_12 : decode cX4_has 12 = .ok (.iconst 1, 1) := by decide +kernel
theorem dX4_has_13 : decode cX4_has 13 = .ok (.goto 4, 3) := by decide +kernel
theorem dX4_has_16 : decode cX4_has 16 = .ok (.iconst 0, 1) := by decide +kernel
theorem dX4_has_17 : decode cX4_has 17 = .ok (.ireturn, 1) := by decide +kernel
theorem dX4_add_0 : decode cX4_add 0 = .ok (.aload_n 0, 1) := by decide +kernel
theorem dX4_add_1 : decode cX4_add 1 = .ok (.getfield 21, 3) := by decide +kernel
theorem dX4_add_4 : decode cX4_add 4 = .ok (.istore_n 1, 1) := by decide +kernel
theorem dX4_add_5 : decode cX4_add 5 = .ok (.iconst 0, 1) := by decide +kernel
theorem dX4_add_6 : decode cX4_add 6 = .ok (.istore_n 2, 1) := by decide +kernel
theorem dX4_add_7 : decode cX4_add 7 = .ok (.iload_n 2, 1) := by decide +kernel
theorem dX4_add_8 : decode cX4_add 8 = .ok (.iconst 3, 1) := by decide +kernel
theorem dX4_add_9 : decode cX4_add 9 = .ok (.if_icmp .ge 31, 3) := by decide +kernel
theorem dX4_add_12 : decode cX4_add 12 = .ok (.aload_n 0, 1) := by decide +kernel
theorem dX4_add_13 : decode cX4_add 13 = .ok (.getfield 9, 3) := by decide +kernel
theorem dX4_add_16 : decode cX4_add 16 = .ok (.iload_n 1, 1) := by decide +kernel
theorem dX4_add_17 : decode cX4_add 17 = .ok (.iconst 3, 1) := by decide +kernel
theorem dX4_add_18 : decode cX4_add 18 = .ok (.imul, 1) := by decide +kernel
theorem dX4_add_19 : decode cX4_add 19 = .ok (.iload_n 2, 1) := by decide +kernel
theorem dX4_add_20 : decode cX4_add 20 = .ok (.iadd, 1) := by decide +kernel
theorem dX4_add_21 : decode cX4_add 21 = .ok (.iconst 0, 1) := by decide +kernel
theorem dX4_add_22 : decode cX4_add 22 = .ok (.iastore, 1) := by decide +kernel
theorem dX4_add_23 : decode cX4_add 23 = .ok (.aload_n 0, 1) := by decide +kernel
theorem dX4_add_24 : decode cX4_add 24 = .ok (.getfield 15, 3) := by decide +kernel
theorem dX4_add_27 : decode cX4_add 27 = .ok (.iload_n 1, 1) := by decide +kernel
theorem dX4_add_28 : decode cX4_add 28 = .ok (.iconst 3, 1) := by decide +kernel
theorem dX4_add_29 : decode cX4_add 29 = .ok (.imul, 1) := by decide +kernel
theorem dX4_add_30 : decode cX4_add 30 = .ok (.iload_n 2, 1) := by decide +kernel
theorem dX4_add_31 : decode cX4_add 31 = .ok (.iadd, 1) := by decide +kernel
theorem dX4_add_32 : decode cX4_add 32 = .ok (.iconst 0, 1) := by decide +kernel
theorem dX4_add_33 : decode cX4_add 33 = .ok (.iastore, 1) := by decide +kernel
theorem dX4_add_34 : decode cX4_add 34 = .ok (.iinc 2 1, 3) := by decide +kernel
theorem dX4_add_37 : decode cX4_add 37 = .ok (.goto (-30), 3) := by decide +kernel
theorem dX4_add_40 : decode cX4_add 40 = .ok (.aload_n 0, 1) := by decide +kernel
theorem dX4_add_41 : decode cX4_add 41 = .ok (.getfield 18, 3) := by decide +kernel
theorem dX4_add_44 : decode cX4_add 44 = .ok (.iload_n 1, 1) := by decide +kernel
theorem dX4_add_45 : decode cX4_add 45 = .ok (.iconst (-1), 1) := by decide +kernel
theorem dX4_add_46 : decode cX4_add 46 = .ok (.iastore, 1) := by decide +kernel
theorem dX4_add_47 : decode cX4_add 47 = .ok (.aload_n 0, 1) := by decide +kernel
theorem dX4_add_48 : decode cX4_add 48 = .ok (.dup, 1) := by decide +kernel
theorem dX4_add_49 : decode cX4_add 49 = .ok (.getfield 21, 3) := by decide +kernel
theorem dX4_add_52 : decode cX4_add 52 = .ok (.iconst 1, 1) := by decide +kernel
theorem dX4_add_53 : decode cX4_add 53 = .ok (.iadd, 1) := by decide +kernel
theorem dX4_add_54 : decode cX4_add 54 = .ok (.putfield 21, 3) := by decide +kernel
theorem dX4_add_57 : decode cX4_add 57 = .ok (.iload_n 1, 1) := by decide +kernel
theorem dX4_add_58 : decode cX4_add 58 = .ok (.ireturn, 1) := by decide +kernel
set_option maxRecDepth 20000 in
theorem ggX4_hear_X5_hasBit : GoodIn wsX4_hear wsX5_hasBit := goodIn_r _ [5] (by decide +kernel) (by decide +kernel)
set_option maxRecDepth 20000 in
theorem gX4_hear_X5_hasBit_n25 : GoodIn wsX4_hear (wsX5_hasBit) := ggX4_hear_X5_hasBit
theorem dX4_hear_0 : decode cX4_hear 0 = .ok (.iload_n 1, 1) := by decide +kernel
theorem dX4_hear_1 : decode cX4_hear 1 = .ok (.iconst 3, 1) := by decide +kernel
theorem dX4_hear_2 : decode cX4_hear 2 = .ok (.imul, 1) := by decide +kernel
theorem dX4_hear_3 : decode cX4_hear 3 = .ok (.iload_n 2, 1) := by decide +kernel
theorem dX4_hear_4 : decode cX4_hear 4 = .ok (.iadd, 1) := by decide +kernel
theorem dX4_hear_5 : decode cX4_hear 5 = .ok (.istore 5, 2) := by decide +kernel
theorem dX4_hear_7 : decode cX4_hear 7 = .ok (.iconst 2, 1) := by decide +kernel
theorem dX4_hear_8 : decode cX4_hear 8 = .ok (.istore 6, 2) := by decide +kernel
theorem dX4_hear_10 : decode cX4_hear 10 = .ok (.aload_n 0, 1) := by decide +kernel
theorem dX4_hear_11 : decode cX4_hear 11 = .ok (.getfield 9, 3) := by decide +kernel
theorem dX4_hear_14 : decode cX4_hear 14 = .ok (.iload 5, 2) := by decide +kernel
theorem dX4_hear_16 : decode cX4_hear 16 = .ok (.iaload, 1) := by decide +kernel
theorem dX4_hear_17 : decode cX4_hear 17 = .ok (.iload_n 3, 1) := by decide +kernel
theorem dX4_hear_18 : decode cX4_hear 18 = .ok (.invokestatic 25, 3) := by decide +kernel
theorem dX4_hear_21 : decode cX4_hear 21 = .ok (.ifCond .eq 9, 3) := by decide +kernel
theorem dX4_hear_24 : decode cX4_hear 24 = .ok (.iconst 1, 1) := by decide +kernel
theorem dX4_hear_25 : decode cX4_hear 25 = .ok (.istore 6, 2) := by decide +kernel
theorem dX4_hear_27 : decode cX4_hear 27 = .ok (.goto 20, 3) := by decide +kernel
theorem dX4_hear_30 : decode cX4_hear 30 = .ok (.aload_n 0, 1) := by decide +kernel
theorem dX4_hear_31 : decode cX4_hear 31 = .ok (.getfield 15, 3) := by decide +kernel
theorem dX4_hear_34 : decode cX4_hear 34 = .ok (.iload 5, 2) := by decide +kernel
theorem dX4_hear_36 : decode cX4_hear 36 = .ok (.iaload, 1) := by decide +kernel
theorem dX4_hear_37 : decode cX4_hear 37 = .ok (.iload_n 3, 1) := by decide +kernel
theorem dX4_hear_38 : decode cX4_hear 38 = .ok (.invokestatic 25, 3) := by decide +kernel
theorem dX4_hear_41 : decode cX4_hear 41 = .ok (.ifCond .eq 6, 3) := by decide +kernel
theorem dX4_hear_44 : decode cX4_hear 44 = .ok (.iconst 0, 1) := by decide +kernel
theorem dX4_hear_45 : decode cX4_hear 45 = .ok (.istore 6, 2) := by decide +kernel
theorem dX4_hear_47 : decode cX4_hear 47 = .ok (.aload_n 0, 1) := by decide +kernel
theorem dX4_hear_48 : decode cX4_hear 48 = .ok (.getfield 9, 3) := by decide +kernel
theorem dX4_hear_51 : decode cX4_hear 51 = .ok (.iload 5, 2) := by decide +kernel
theorem dX4_hear_53 : decode cX4_hear 53 = .ok (.dup2, 1) := by decide +kernel
theorem dX4_hear_54 : decode cX4_hear 54 = .ok (.iaload, 1) := by decide +kernel
theorem dX4_hear_55 : decode cX4_hear 55 = .ok (.iconst 1, 1) := by decide +kernel
theorem dX4_hear_56 : decode cX4_hear 56 = .ok (.iload_n 3, 1) := by decide +kernel
theorem dX4_hear_57 : decode cX4_hear 57 = .ok (.ishl, 1) := by decide +kernel
theorem dX4_hear_58 : decode cX4_hear 58 = .ok (.iconst (-1), 1) := by decide +kernel
theorem dX4_hear_59 : decode cX4_hear 59 = .ok (.ixor, 1) := by decide +kernel
theorem dX4_hear_60 : decode cX4_hear 60 = .ok (.iand, 1) := by decide +kernel
theorem dX4_hear_61 : decode cX4_hear 61 = .ok (.iastore, 1) := by decide +kernel
theorem dX4_hear_62 : decode cX4_hear 62 = .ok (.aload_n 0, 1) := by decide +kernel
theorem dX4_hear_63 : decode cX4_hear 63 = .ok (.getfield 15, 3) := by decide +kernel
theorem dX4_hear_66 : decode cX4_hear 66 = .ok (.iload 5, 2) := by decide +kernel
theorem dX4_hear_68 : decode cX4_hear 68 = .ok (.dup2, 1) := by decide +kernel
theorem dX4_hear_69 : decode cX4_hear 69 = .ok (.iaload, 1) := by decide +kernel
theorem dX4_hear_70 : decode cX4_hear 70 = .ok (.iconst 1, 1) := by decide +kernel
theorem dX4_hear_71 : decode cX4_hear 71 = .ok (.iload_n 3, 1) := by decide +kernel
theorem dX4_hear_72 : decode cX4_hear 72 = .ok (.ishl, 1) := by decide +kernel
theorem dX4_hear_73 : decode cX4_hear 73 = .ok (.iconst (-1), 1) := by decide +kernel
theorem dX4_hear_74 : decode cX4_hear 74 = .ok (.ixor, 1) := by decide +kernel
theorem dX4_hear_75 : decode cX4_hear 75 = .ok (.iand, 1) := by decide +kernel
theorem dX4_hear_76 : decode cX4_hear 76 = .ok (.iastore, 1) := by decide +kernel
theorem dX4_hear_77 : decode cX4_hear 77 = .ok (.iload 4, 2) := by decide +kernel
theorem dX4_hear_79 : decode cX4_hear 79 = .ok (.iconst 1, 1) := by decide +kernel
theorem dX4_hear_80 : decode cX4_hear 80 = .ok (.if_icmp .ne 19, 3) := by decide +kernel
theorem dX4_hear_83 : decode cX4_hear 83 = .ok (.aload_n 0, 1) := by decide +kernel
theorem dX4_hear_84 : decode cX4_hear 84 = .ok (.getfield 9, 3) := by decide +kernel
theorem dX4_hear_87 : decode cX4_hear 87 = .ok (.iload 5, 2) := by decide +kernel
theorem dX4_hear_89 : decode cX4_hear 89 = .ok (.dup2, 1) := by decide +kernel
theorem dX4_hear_90 : decode cX4_hear 90 = .ok (.iaload, 1) := by decide +kernel
theorem dX4_hear_91 : decode cX4_hear 91 = .ok (.iconst 1, 1) := by decide +kernel
theorem dX4_hear_92 : decode cX4_hear 92 = .ok (.iload_n 3, 1) := by decide +kernel
theorem dX4_hear_93 : decode cX4_hear 93 = .ok (.ishl, 1) := by decide +kernel
theorem dX4_hear_94 : decode cX4_hear 94 = .ok (.ior, 1) := by decide +kernel
theorem dX4_hear_95 : decode cX4_hear 95 = .ok (.iastore, 1) := by decide +kernel
theorem dX4_hear_96 : decode cX4_hear 96 = .ok (.goto 21, 3) := by decide +kernel
theorem dX4_hear_99 : decode cX4_hear 99 = .ok (.iload 4, 2) := by decide +kernel
theorem dX4_hear_101 : decode cX4_hear 101 = .ok (.ifCond .ne 16, 3) := by decide +kernel
theorem dX4_hear_104 : decode cX4_hear 104 = .ok (.aload_n 0, 1) := by decide +kernel
theorem dX4_hear_105 : decode cX4_hear 105 = .ok (.getfield 15, 3) := by decide +kernel
theorem dX4_hear_108 : decode cX4_hear 108 = .ok (.iload 5, 2) := by decide +kernel
theorem dX4_hear_110 : decode cX4_hear 110 = .ok (.dup2, 1) := by decide +kernel
theorem dX4_hear_111 : decode cX4_hear 111 = .ok (.iaload, 1) := by decide +kernel
theorem dX4_hear_112 : decode cX4_hear 112 = .ok (.iconst 1, 1) := by decide +kernel
theorem dX4_hear_113 : decode cX4_hear 113 = .ok (.iload_n 3, 1) := by decide +kernel
theorem dX4_hear_114 : decode cX4_hear 114 = .ok (.ishl, 1) := by decide +kernel
theorem dX4_hear_115 : decode cX4_hear 115 = .ok (.ior, 1) := by decide +kernel
theorem dX4_hear_116 : decode cX4_hear 116 = .ok (.iastore, 1) := by decide +kernel
theorem dX4_hear_117 : decode cX4_hear 117 = .ok (.iload 6, 2) := by decide +kernel
theorem dX4_hear_119 : decode cX4_hear 119 = .ok (.ireturn, 1) := by decide +kernel
set_option maxRecDepth 20000 in
theorem ggX4_knownSo_X4_ofAll : GoodIn wsX4_knownSo wsX4_ofAll := goodIn_r _ [6] (by decide +kernel) (by decide +kernel)
set_option maxRecDepth 20000 in
theorem gX4_knownSo_X4_ofAll : GoodIn wsX4_knownSo (va_wsS RX4 29 yX4_ofAll wsX4_ofAll) := goodIn_app (goodIn_of _ (by decide +kernel)) ggX4_knownSo_X4_ofAll
theorem dX4_knownSo_0 : decode cX4_knownSo 0 = .ok (.aload_n 0, 1) := by decide +kernel
theorem dX4_knownSo_1 : decode cX4_knownSo 1 = .ok (.getfield 9, 3) := by decide +kernel
theorem dX4_knownSo_4 : decode cX4_knownSo 4 = .ok (.iload_n 1, 1) := by decide +kernel
theorem dX4_knownSo_5 : decode cX4_knownSo 5 = .ok (.invokestatic 29, 3) := by decide +kernel
theorem dX4_knownSo_8 : decode cX4_knownSo 8 = .ok (.aload_n 0, 1) := by decide +kernel
theorem dX4_knownSo_9 : decode cX4_knownSo 9 = .ok (.getfield 15, 3) := by decide +kernel
theorem dX4_knownSo_12 : decode cX4_knownSo 12 = .ok (.iload_n 1, 1) := by decide +kernel
theorem dX4_knownSo_13 : decode cX4_knownSo 13 = .ok (.invokestatic 29, 3) := by decide +kernel
theorem dX4_knownSo_16 : decode cX4_knownSo 16 = .ok (.iconst (-1), 1) := by decide +kernel
theorem dX4_knownSo_17 : decode cX4_knownSo 17 = .ok (.ixor, 1) := by decide +kernel
theorem dX4_knownSo_18 : decode cX4_knownSo 18 = .ok (.iand, 1) := by decide +kernel
theorem dX4_knownSo_19 : decode cX4_knownSo 19 = .ok (.ireturn, 1) := by decide +kernel
set_option maxRecDepth 20000 in
theorem ggX4_knownNotSo_X4_ofAll : GoodIn wsX4_knownNotSo wsX4_ofAll := goodIn_r _ [6] (by decide +kernel) (by decide +kernel)
set_option maxRecDepth 20000 in
theorem gX4_knownNotSo_X4_ofAll : GoodIn wsX4_knownNotSo (va_wsS RX4 29 yX4_ofAll wsX4_ofAll) := goodIn_app (goodIn_of _ (by decide +kernel)) ggX4_knownNotSo_X4_ofAll
theorem dX4_knownNotSo_0 : decode cX4_knownNotSo 0 = .ok (.aload_n 0, 1) := by decide +kernel
theorem dX4_knownNotSo_1 : decode cX4_knownNotSo 1 = .ok (.getfield 15, 3) := by decide +kernel
theorem dX4_knownNotSo_4 : decode cX4_knownNotSo 4 = .ok (.iload_n 1, 1) := by decide +kernel
theorem dX4_knownNotSo_5 : decode cX4_knownNotSo 5 = .ok (.invokestatic 29, 3) := by decide +kernel
theorem dX4_knownNotSo_8 : decode cX4_knownNotSo 8 = .ok (.aload_n 0, 1) := by decide +kernel
theorem dX4_knownNotSo_9 : decode cX4_knownNotSo 9 = .ok (.getfield 9, 3) := by decide +kernel
theorem dX4_knownNotSo_12 : decode cX4_knownNotSo 12 = .ok (.iload_n 1, 1) := by decide +kernel
theorem dX4_knownNotSo_13 : decode cX4_knownNotSo 13 = .ok (.invokestatic 29, 3) := by decide +kernel
theorem dX4_knownNotSo_16 : decode cX4_knownNotSo 16 = .ok (.iconst (-1), 1) := by decide +kernel
theorem dX4_knownNotSo_17 : decode cX4_knownNotSo 17 = .ok (.ixor, 1) := by decide +kernel
theorem dX4_knownNotSo_18 : decode cX4_knownNotSo 18 = .ok (.iand, 1) := by decide +kernel
theorem dX4_knownNotSo_19 : decode cX4_knownNotSo 19 = .ok (.ireturn, 1) := by decide +kernel
theorem dX4_ofAll_0 : decode cX4_ofAll 0 = .ok (.iconst 0, 1) := by decide +kernel
theorem dX4_ofAll_1 : decode cX4_ofAll 1 = .ok (.istore_n 2, 1) := by decide +kernel
theorem dX4_ofAll_2 : decode cX4_ofAll 2 = .ok (.iconst 0, 1) := by decide +kernel
theorem dX4_ofAll_3 : decode cX4_ofAll 3 = .ok (.istore_n 3, 1) := by decide +kernel
theorem dX4_ofAll_4 : decode cX4_ofAll 4 = .ok (.iload_n 3, 1) := by decide +kernel
theorem dX4_ofAll_5 : decode cX4_ofAll 5 = .ok (.iconst 3, 1) := by decide +kernel
theorem dX4_ofAll_6 : decode cX4_ofAll 6 = .ok (.if_icmp .ge 19, 3) := by decide +kernel
theorem dX4_ofAll_9 : decode cX4_ofAll 9 = .ok (.iload_n 2, 1) := by decide +kernel
theorem dX4_ofAll_10 : decode cX4_ofAll 10 = .ok (.aload_n 0, 1) := by decide +kernel
theorem dX4_ofAll_11 : decode cX4_ofAll 11 = .ok (.iload_n 1, 1) := by decide +kernel
theorem dX4_ofAll_12 : decode cX4_ofAll 12 = .ok (.iconst 3, 1) := by decide +kernel
theorem dX4_ofAll_13 : decode cX4_ofAll 13 = .ok (.imul, 1) := by decide +kernel
theorem dX4_ofAll_14 : decode cX4_ofAll 14 = .ok (.iload_n 3, 1) := by decide +kernel
theorem dX4_ofAll_15 : decode cX4_ofAll 15 = .ok (.iadd, 1) := by decide +kernel
theorem dX4_ofAll_16 : decode cX4_ofAll 16 = .ok (.iaload, 1) := by decide +kernel
theorem dX4_ofAll_17 : decode cX4_ofAll 17 = .ok (.ior, 1) := by decide +kernel
theorem dX4_ofAll_18 : decode cX4_ofAll 18 = .ok (.istore_n 2, 1) := by decide +kernel
theorem dX4_ofAll_19 : decode cX4_ofAll 19 = .ok (.iinc 3 1, 3) := by decide +kernel
theorem dX4_ofAll_22 : decode cX4_ofAll 22 = .ok (.goto (-18), 3) := by decide +kernel
theorem dX4_ofAll_25 : decode cX4_ofAll 25 = .ok (.iload_n 2, 1) := by decide +kernel
theorem dX4_ofAll_26 : decode cX4_ofAll 26 = .ok (.ireturn, 1) := by decide +kernel
theorem dX5_oneIf_0 : decode cX5_oneIf 0 = .ok (.iload_n 0, 1) := by decide +kernel
theorem dX5_oneIf_1 : decode cX5_oneIf 1 = .ok (.ifCond .eq 7, 3) := by decide +kernel
theorem dX5_oneIf_4 : decode cX5_oneIf 4 = .ok (.iconst 1, 1) := by decide +kernel
theorem dX5_oneIf_5 : decode cX5_oneIf 5 = .ok (.goto 4, 3) := by decide +kernel
theorem dX5_oneIf_8 : decode cX5_oneIf 8 = .ok (.iconst 0, 1) := by decide +kernel
theorem dX5_oneIf_9 : decode cX5_oneIf 9 = .ok (.ireturn, 1) := by decide +kernel
theorem dX5_hasBit_0 : decode cX5_hasBit 0 = .ok (.iload_n 0, 1) := by decide +kernel
theorem dX5_hasBit_1 : decode cX5_hasBit 1 = .ok (.iload_n 1, 1) := by decide +kernel
theorem dX5_hasBit_2 : decode cX5_hasBit 2 = .ok (.ishr, 1) := by decide +kernel
theorem dX5_hasBit_3 : decode cX5_hasBit 3 = .ok (.iconst 1, 1) := by decide +kernel
theorem dX5_hasBit_4 : decode cX5_hasBit 4 = .ok (.iand, 1) := by decide +kernel
theorem dX5_hasBit_5 : decode cX5_hasBit 5 = .ok (.ifCond .eq 7, 3) := by decide +kernel
theorem dX5_hasBit_8 : decode cX5_hasBit 8 = .ok (.iconst 1, 1) := by decide +kernel
theorem dX5_hasBit_9 : decode cX5_hasBit 9 = .ok (.goto 4, 3) := by decide +kernel
theorem dX5_hasBit_12 : decode cX5_hasBit 12 = .ok (.iconst 0, 1) := by decide +kernel
theorem dX5_hasBit_13 : decode cX5_hasBit 13 = .ok (.ireturn, 1) := by decide +kernel
theorem dX5_isRuling_0 : decode cX5_isRuling 0 = .ok (.iload_n 0, 1) := by decide +kernel
theorem dX5_isRuling_1 : decode cX5_isRuling 1 = .ok (.ifCond .lt 12, 3) := by decide +kernel
theorem dX5_isRuling_4 : decode cX5_isRuling 4 = .ok (.iload_n 0, 1) := by decide +kernel
theorem dX5_isRuling_5 : decode cX5_isRuling 5 = .ok (.iconst 4, 1) := by decide +kernel
theorem dX5_isRuling_6 : decode cX5_isRuling 6 = .ok (.if_icmp .gt 7, 3) := by decide +kernel
theorem dX5_isRuling_9 : decode cX5_isRuling 9 = .ok (.iconst 1, 1) := by decide +kernel
theorem dX5_isRuling_10 : decode cX5_isRuling 10 = .ok (.goto 4, 3) := by decide +kernel
theorem dX5_isRuling_13 : decode cX5_isRuling 13 = .ok (.iconst 0, 1) := by decide +kernel
theorem dX5_isRuling_14 : decode cX5_isRuling 14 = .ok (.ireturn, 1) := by decide +kernel
end
section
set_option maxRecDepth 20000 in
theorem ggX5_init_X0_init : GoodIn wsX5_init wsX0_init := goodIn_r _ [28, 29, 2, 3, 30, 31, 32, 33, 34, 35, 36, 37, 95, 96, 97, 98, 99, 100, 101, 102, 103, 104, 105] (by decide +kernel) (by decide +kernel)
set_option maxRecDepth 20000 in
theorem gX5_init_X0_init_n9 : GoodIn wsX5_init (wsX0_init) := ggX5_init_X0_init
set_option maxRecDepth 20000 in
theorem ggX5_init_X3_init : GoodIn wsX5_init wsX3_init := goodIn_r _ [40, 41, 2, 3, 32, 42, 43, 114, 115] (by decide +kernel) (by decide +kernel)
set_option maxRecDepth 20000 in
theorem gX5_init_X3_init : GoodIn wsX5_init (wsX3_init) := ggX5_init_X3_init
set_option maxRecDepth 20000 in
theorem ggX5_init_X4_init : GoodIn wsX5_init wsX4_init := goodIn_r _ [45, 46, 2, 3, 32, 47, 48, 49, 116, 117, 118, 119] (by decide +kernel) (by decide +kernel)
set_option maxRecDepth 20000 in
theorem gX5_init_X4_init_n30 : GoodIn wsX5_init (wsX4_init) := ggX5_init_X4_init
set_option maxRecDepth 20000 in
theorem ggX5_init_X1_init : GoodIn wsX5_init wsX1_init := goodIn_r _ [51, 52, 2, 3, 32, 53, 54, 55, 120, 121, 122, 123] (by decide +kernel) (by decide +kernel)
set_option maxRecDepth 20000 in
theorem gX5_init_X1_init_n37 : GoodIn wsX5_init (wsX1_init) := ggX5_init_X1_init
set_option maxRecDepth 20000 in
theorem ggX5_init_X2_init : GoodIn wsX5_init wsX2_init := goodIn_r _ [57, 58, 2, 3] (by decide +kernel) (by decide +kernel)
set_option maxRecDepth 20000 in
theorem gX5_init_X2_init_n44 : GoodIn wsX5_init (wsX2_init) := ggX5_init_X2_init
set_option maxRecDepth 20000 in
theorem ggX5_init_X5_beginAnew : GoodIn wsX5_init wsX5_beginAnew := goodIn_r _ [63, 7, 16, 20, 11, 64, 65, 66, 6, 67, 68, 69, 70, 71, 72, 33, 73, 74, 75, 76, 31, 77, 78, 79, 80, 81, 62, 82, 83, 84, 85, 10, 86, 43, 42, 87, 88, 89, 90, 91, 92, 93, 94, 34, 35, 37, 106, 107, 108, 109, 110, 111, 112, 113, 116, 117, 118, 119, 120, 121, 122, 123, 95, 96, 97, 98, 99, 100, 101, 102, 103, 104, 105, 114, 115] (by decide +kernel) (by decide +kernel)
set_option maxRecDepth 20000 in
theorem gX5_init_X5_beginAnew : GoodIn wsX5_init (wsV RX5 56 RX5 yX5_beginAnew wsX5_beginAnew) := goodIn_app (goodIn_of _ (by decide +kernel)) ggX5_init_X5_beginAnew
theorem dX5_init_0 : decode cX5_init 0 = .ok (.aload_n 0, 1) := by decide +kernel
theorem dX5_init_1 : decode cX5_init 1 = .ok (.invokespecial 1, 3) := by decide +kernel
theorem dX5_init_4 : decode cX5_init 4 = .ok (.aload_n 0, 1) := by decide +kernel
theorem dX5_init_5 : decode cX5_init 5 = .ok (.new 7, 3) := by decide +kernel
theorem dX5_init_8 : decode cX5_init 8 = .ok (.dup, 1) := by decide +kernel
theorem dX5_init_9 : decode cX5_init 9 = .ok (.invokespecial 9, 3) := by decide +kernel
theorem dX5_init_12 : decode cX5_init 12 = .ok (.putfield 10, 3) := by decide +kernel
theorem dX5_init_15 : decode cX5_init 15 = .ok (.aload_n 0, 1) := by decide +kernel
theorem dX5_init_16 : decode cX5_init 16 = .ok (.new 16, 3) := by decide +kernel
theorem dX5_init_19 : decode cX5_init 19 = .ok (.dup, 1) := by decide +kernel
theorem dX5_init_20 : decode cX5_init 20 = .ok (.aload_n 0, 1) := by decide +kernel
theorem dX5_init_21 : decode cX5_init 21 = .ok (.getfield 10, 3) := by decide +kernel
theorem dX5_init_24 : decode cX5_init 24 = .ok (.invokespecial 18, 3) := by decide +kernel
theorem dX5_init_27 : decode cX5_init 27 = .ok (.putfield 21, 3) := by decide +kernel
theorem dX5_init_30 : decode cX5_init 30 = .ok (.aload_n 0, 1) := by decide +kernel
theorem dX5_init_31 : decode cX5_init 31 = .ok (.new 16, 3) := by decide +kernel
theorem dX5_init_34 : decode cX5_init 34 = .ok (.dup, 1) := by decide +kernel
theorem dX5_init_35 : decode cX5_init 35 = .ok (.aload_n 0, 1) := by decide +kernel
theorem dX5_init_36 : decode cX5_init 36 = .ok (.getfield 10, 3) := by decide +kernel
theorem dX5_init_39 : decode cX5_init 39 = .ok (.invokespecial 18, 3) := by decide +kernel
theorem dX5_init_42 : decode cX5_init 42 = .ok (.putfield 25, 3) := by decide +kernel
theorem dX5_init_45 : decode cX5_init 45 = .ok (.aload_n 0, 1) := by decide +kernel
theorem dX5_init_46 : decode cX5_init 46 = .ok (.new 28, 3) := by decide +kernel
theorem dX5_init_49 : decode cX5_init 49 = .ok (.dup, 1) := by decide +kernel
theorem dX5_init_50 : decode cX5_init 50 = .ok (.invokespecial 30, 3) := by decide +kernel
theorem dX5_init_53 : decode cX5_init 53 = .ok (.putfield 31, 3) := by decide +kernel
theorem dX5_init_56 : decode cX5_init 56 = .ok (.aload_n 0, 1) := by decide +kernel
theorem dX5_init_57 : decode cX5_init 57 = .ok (.new 35, 3) := by decide +kernel
theorem dX5_init_60 : decode cX5_init 60 = .ok (.dup, 1) := by decide +kernel
theorem dX5_init_61 : decode cX5_init 61 = .ok (.invokespecial 37, 3) := by decide +kernel
theorem dX5_init_64 : decode cX5_init 64 = .ok (.putfield 38, 3) := by decide +kernel
theorem dX5_init_67 : decode cX5_init 67 = .ok (.aload_n 0, 1) := by decide +kernel
theorem dX5_init_68 : decode cX5_init 68 = .ok (.new 42, 3) := by decide +kernel
theorem dX5_init_71 : decode cX5_init 71 = .ok (.dup, 1) := by decide +kernel
theorem dX5_init_72 : decode cX5_init 72 = .ok (.invokespecial 44, 3) := by decide +kernel
theorem dX5_init_75 : decode cX5_init 75 = .ok (.putfield 45, 3) := by decide +kernel
theorem dX5_init_78 : decode cX5_init 78 = .ok (.aload_n 0, 1) := by decide +kernel
theorem dX5_init_79 : decode cX5_init 79 = .ok (.new 42, 3) := by decide +kernel
theorem dX5_init_82 : decode cX5_init 82 = .ok (.dup, 1) := by decide +kernel
theorem dX5_init_83 : decode cX5_init 83 = .ok (.invokespecial 44, 3) := by decide +kernel
theorem dX5_init_86 : decode cX5_init 86 = .ok (.putfield 49, 3) := by decide +kernel
theorem dX5_init_89 : decode cX5_init 89 = .ok (.aload_n 0, 1) := by decide +kernel
theorem dX5_init_90 : decode cX5_init 90 = .ok (.iconst 5, 1) := by decide +kernel
theorem dX5_init_91 : decode cX5_init 91 = .ok (.putfield 52, 3) := by decide +kernel
theorem dX5_init_94 : decode cX5_init 94 = .ok (.aload_n 0, 1) := by decide +kernel
theorem dX5_init_95 : decode cX5_init 95 = .ok (.iconst 4, 1) := by decide +kernel
theorem dX5_init_96 : decode cX5_init 96 = .ok (.invokevirtual 56, 3) := by decide +kernel
theorem dX5_init_99 : decode cX5_init 99 = .ok (.return_, 1) := by decide +kernel
set_option maxRecDepth 20000 in
theorem ggX5_beginAnew_X0_begin : GoodIn wsX5_beginAnew wsX0_begin := goodIn_r _ [9, 10, 11, 12, 13, 14, 15, 16, 17, 18, 8, 19, 20, 21, 22, 23, 24, 25, 26, 27, 62, 63, 64, 65, 66, 67, 68, 69, 70, 71, 72] (by decide +kernel) (by decide +kernel)
set_option maxRecDepth 20000 in
theorem gX5_beginAnew_X0_begin : GoodIn wsX5_beginAnew (wsV RX5 60 RX0 yX0_begin wsX0_begin) := goodIn_app (goodIn_of _ (by decide +kernel)) ggX5_beginAnew_X0_begin
set_option maxRecDepth 20000 in
theorem ggX5_beginAnew_X3_work : GoodIn wsX5_beginAnew wsX3_work := goodIn_r _ [32, 33, 34, 35, 36, 37, 8, 38, 14, 12, 39, 40, 41, 42, 43, 44, 45, 25, 26, 27, 73, 74, 62, 63, 64, 65, 66, 67, 68, 69, 70, 71, 72] (by decide +kernel) (by decide +kernel)
set_option maxRecDepth 20000 in
theorem gX5_beginAnew_X3_work : GoodIn wsX5_beginAnew (wsV RX5 70 RX3 yX3_work wsX3_work) := goodIn_app (goodIn_of _ (by decide +kernel)) ggX5_beginAnew_X3_work
theorem dX5_beginAnew_0 : decode cX5_beginAnew 0 = .ok (.aload_n 0, 1) := by decide +kernel
theorem dX5_beginAnew_1 : decode cX5_beginAnew 1 = .ok (.getfield 10, 3) := by decide +kernel
theorem dX5_beginAnew_4 : decode cX5_beginAnew 4 = .ok (.iload_n 1, 1) := by decide +kernel
theorem dX5_beginAnew_5 : decode cX5_beginAnew 5 = .ok (.invokevirtual 60, 3) := by decide +kernel
theorem dX5_beginAnew_8 : decode cX5_beginAnew 8 = .ok (.aload_n 0, 1) := by decide +kernel
theorem dX5_beginAnew_9 : decode cX5_beginAnew 9 = .ok (.getfield 31, 3) := by decide +kernel
theorem dX5_beginAnew_12 : decode cX5_beginAnew 12 = .ok (.iconst 0, 1) := by decide +kernel
theorem dX5_beginAnew_13 : decode cX5_beginAnew 13 = .ok (.putfield 63, 3) := by decide +kernel
theorem dX5_beginAnew_16 : decode cX5_beginAnew 16 = .ok (.aload_n 0, 1) := by decide +kernel
theorem dX5_beginAnew_17 : decode cX5_beginAnew 17 = .ok (.getfield 38, 3) := by decide +kernel
theorem dX5_beginAnew_20 : decode cX5_beginAnew 20 = .ok (.iconst 0, 1) := by decide +kernel
theorem dX5_beginAnew_21 : decode cX5_beginAnew 21 = .ok (.putfield 66, 3) := by decide +kernel
theorem dX5_beginAnew_24 : decode cX5_beginAnew 24 = .ok (.aload_n 0, 1) := by decide +kernel
theorem dX5_beginAnew_25 : decode cX5_beginAnew 25 = .ok (.getfield 21, 3) := by decide +kernel
theorem dX5_beginAnew_28 : decode cX5_beginAnew 28 = .ok (.aload_n 0, 1) := by decide +kernel
theorem dX5_beginAnew_29 : decode cX5_beginAnew 29 = .ok (.getfield 10, 3) := by decide +kernel
theorem dX5_beginAnew_32 : decode cX5_beginAnew 32 = .ok (.getfield 67, 3) := by decide +kernel
theorem dX5_beginAnew_35 : decode cX5_beginAnew 35 = .ok (.invokevirtual 70, 3) := by decide +kernel
theorem dX5_beginAnew_38 : decode cX5_beginAnew 38 = .ok (.return_, 1) := by decide +kernel
set_option maxRecDepth 20000 in
theorem ggX5_facts_X5_beginAnew : GoodIn wsX5_facts wsX5_beginAnew := goodIn_r _ [6, 1, 7, 8, 9, 10, 11, 12, 13, 14, 15, 16, 17, 18, 19, 20, 21, 22, 23, 24, 25, 26, 27, 28, 29, 30, 5, 31, 32, 33, 34, 35, 36, 37, 38, 39, 40, 41, 42, 43, 44, 45, 46, 47, 48, 49, 50, 51, 52, 53, 54, 55, 56, 57, 69, 70, 71, 72, 73, 74, 75, 76, 58, 59, 60, 61, 62, 63, 64, 65, 66, 67, 68, 77, 78] (by decide +kernel) (by decide +kernel)
set_option maxRecDepth 20000 in
theorem gX5_facts_X5_beginAnew : GoodIn wsX5_facts (wsV RX5 56 RX5 yX5_beginAnew wsX5_beginAnew) := goodIn_app (goodIn_of _ (by decide +kernel)) ggX5_facts_X5_beginAnew
theorem dX5_facts_0 : decode cX5_facts 0 = .ok (.iload_n 1, 1) := by decide +kernel
theorem dX5_facts_1 : decode cX5_facts 1 = .ok (.iconst 1, 1) := by decide +kernel
theorem dX5_facts_2 : decode cX5_facts 2 = .ok (.if_icmp .lt 9, 3) := by decide +kernel
theorem dX5_facts_5 : decode cX5_facts 5 = .ok (.iload_n 1, 1) := by decide +kernel
theorem dX5_facts_6 : decode cX5_facts 6 = .ok (.bipush 7, 2) := by decide +kernel
theorem dX5_facts_8 : decode cX5_facts 8 = .ok (.if_icmp .le 6, 3) := by decide +kernel
theorem dX5_facts_11 : decode cX5_facts 11 = .ok (.bipush (-2), 2) := by decide +kernel
theorem dX5_facts_13 : decode cX5_facts 13 = .ok (.ireturn, 1) := by decide +kernel
theorem dX5_facts_14 : decode cX5_facts 14 = .ok (.aload_n 0, 1) := by decide +kernel
theorem dX5_facts_15 : decode cX5_facts 15 = .ok (.getfield 10, 3) := by decide +kernel
theorem dX5_facts_18 : decode cX5_facts 18 = .ok (.getfield 73, 3) := by decide +kernel
theorem dX5_facts_21 : decode cX5_facts 21 = .ok (.istore_n 2, 1) := by decide +kernel
theorem dX5_facts_22 : decode cX5_facts 22 = .ok (.aload_n 0, 1) := by decide +kernel
theorem dX5_facts_23 : decode cX5_facts 23 = .ok (.iload_n 1, 1) := by decide +kernel
theorem dX5_facts_24 : decode cX5_facts 24 = .ok (.invokevirtual 56, 3) := by decide +kernel
theorem dX5_facts_27 : decode cX5_facts 27 = .ok (.iload_n 2, 1) := by decide +kernel
theorem dX5_facts_28 : decode cX5_facts 28 = .ok (.ireturn, 1) := by decide +kernel
set_option maxRecDepth 20000 in
theorem ggX5_barred_X0_hasFact : GoodIn wsX5_barred wsX0_hasFact := goodIn_r _ [6, 7, 41, 42, 43, 44, 45, 46, 47, 48, 49, 50, 51] (by decide +kernel) (by decide +kernel)
set_option maxRecDepth 20000 in
theorem gX5_barred_X0_hasFact : GoodIn wsX5_barred (wsV RX5 76 RX0 yX0_hasFact wsX0_hasFact) := goodIn_app (goodIn_of _ (by decide +kernel)) ggX5_barred_X0_hasFact
set_option maxRecDepth 20000 in
theorem ggX5_barred_X0_areBarred : GoodIn wsX5_barred wsX0_areBarred := goodIn_r _ [11, 12, 13, 14, 15, 41, 42, 43, 44, 45, 46, 47, 48, 49, 50, 51] (by decide +kernel) (by decide +kernel)
set_option maxRecDepth 20000 in
theorem gX5_barred_X0_areBarred : GoodIn wsX5_barred (wsV RX5 80 RX0 yX0_areBarred wsX0_areBarred) := goodIn_app (goodIn_of _ (by decide +kernel)) ggX5_barred_X0_areBarred
set_option maxRecDepth 20000 in
theorem ggX5_barred_X0_bar : GoodIn wsX5_barred wsX0_bar := goodIn_r _ [19, 12, 20, 21, 22, 5, 23, 24, 25, 26, 27, 28, 29, 7, 13, 14, 15, 41, 42, 43, 44, 45, 46, 47, 48, 49, 50, 51] (by decide +kernel) (by decide +kernel)
set_option maxRecDepth 20000 in
theorem gX5_barred_X0_bar : GoodIn wsX5_barred (wsV RX5 84 RX0 yX0_bar wsX0_bar) := goodIn_app (goodIn_of _ (by decide +kernel)) ggX5_barred_X0_bar
set_option maxRecDepth 20000 in
theorem ggX5_barred_X5_oneIf : GoodIn wsX5_barred wsX5_oneIf := goodIn_r _ [32] (by decide +kernel) (by decide +kernel)
set_option maxRecDepth 20000 in
theorem gX5_barred_X5_oneIf : GoodIn wsX5_barred (va_wsS RX5 88 yX5_oneIf wsX5_oneIf) := goodIn_app (goodIn_of _ (by decide +kernel)) ggX5_barred_X5_oneIf
theorem dX5_barred_0 : decode cX5_barred 0 = .ok (.aload_n 0, 1) := by decide +kernel
theorem dX5_barred_1 : decode cX5_barred 1 = .ok (.getfield 10, 3) := by decide +kernel
theorem dX5_barred_4 : decode cX5_barred 4 = .ok (.iload_n 1, 1) := by decide +kernel
theorem dX5_barred_5 : decode cX5_barred 5 = .ok (.invokevirtual 76, 3) := by decide +kernel
theorem dX5_barred_8 : decode cX5_barred 8 = .ok (.ifCond .eq 19, 3) := by decide +kernel
theorem dX5_barred_11 : decode cX5_barred 11 = .ok (.aload_n 0, 1) := by decide +kernel
theorem dX5_barred_12 : decode cX5_barred 12 = .ok (.getfield 10, 3) := by decide +kernel
theorem dX5_barred_15 : decode cX5_barred 15 = .ok (.iload_n 2, 1) := by decide +kernel
theorem dX5_barred_16 : decode cX5_barred 16 = .ok (.invokevirtual 76, 3) := by decide +kernel
theorem dX5_barred_19 : decode cX5_barred 19 = .ok (.ifCond .eq 8, 3) := by decide +kernel
theorem dX5_barred_22 : decode cX5_barred 22 = .ok (.iload_n 1, 1) := by decide +kernel
theorem dX5_barred_23 : decode cX5_barred 23 = .ok (.iload_n 2, 1) := by decide +kernel
theorem dX5_barred_24 : decode cX5_barred 24 = .ok (.if_icmp .ne 5, 3) := by decide +kernel
theorem dX5_barred_27 : decode cX5_barred 27 = .ok (.iconst (-1), 1) := by decide +kernel
theorem dX5_barred_28 : decode cX5_barred 28 = .ok (.ireturn, 1) := by decide +kernel
theorem dX5_barred_29 : decode cX5_barred 29 = .ok (.aload_n 0, 1) := by decide +kernel
theorem dX5_barred_30 : decode cX5_barred 30 = .ok (.getfield 10, 3) := by decide +kernel
theorem dX5_barred_33 : decode cX5_barred 33 = .ok (.iload_n 1, 1) := by decide +kernel
theorem dX5_barred_34 : decode cX5_barred 34 = .ok (.iload_n 2, 1) := by decide +kernel
theorem dX5_barred_35 : decode cX5_barred 35 = .ok (.invokevirtual 80, 3) := by decide +kernel
theorem dX5_barred_38 : decode cX5_barred 38 = .ok (.istore 4, 2) := by decide +kernel
theorem dX5_barred_40 : decode cX5_barred 40 = .ok (.aload_n 0, 1) := by decide +kernel
theorem dX5_barred_41 : decode cX5_barred 41 = .ok (.getfield 10, 3) := by decide +kernel
theorem dX5_barred_44 : decode cX5_barred 44 = .ok (.iload_n 1, 1) := by decide +kernel
theorem dX5_barred_45 : decode cX5_barred 45 = .ok (.iload_n 2, 1) := by decide +kernel
theorem dX5_barred_46 : decode cX5_barred 46 = .ok (.iload_n 3, 1) := by decide +kernel
theorem dX5_barred_47 : decode cX5_barred 47 = .ok (.invokevirtual 84, 3) := by decide +kernel
theorem dX5_barred_50 : decode cX5_barred 50 = .ok (.iload 4, 2) := by decide +kernel
theorem dX5_barred_52 : decode cX5_barred 52 = .ok (.invokestatic 88, 3) := by decide +kernel
theorem dX5_barred_55 : decode cX5_barred 55 = .ok (.ireturn, 1) := by decide +kernel
set_option maxRecDepth 20000 in
theorem ggX5_line_X0_areFacts : GoodIn wsX5_line wsX0_areFacts := goodIn_r _ [7, 8, 48, 49, 50, 51, 52, 53, 54, 55, 56, 57, 58] (by decide +kernel) (by decide +kernel)
set_option maxRecDepth 20000 in
theorem gX5_line_X0_areFacts : GoodIn wsX5_line (wsV RX5 92 RX0 yX0_areFacts wsX0_areFacts) := goodIn_app (goodIn_of _ (by decide +kernel)) ggX5_line_X0_areFacts
set_option maxRecDepth 20000 in
theorem ggX5_line_X5_isRuling : GoodIn wsX5_line wsX5_isRuling := goodIn_r _ [12] (by decide +kernel) (by decide +kernel)
set_option maxRecDepth 20000 in
theorem gX5_line_X5_isRuling : GoodIn wsX5_line (va_wsS RX5 95 yX5_isRuling wsX5_isRuling) := goodIn_app (goodIn_of _ (by decide +kernel)) ggX5_line_X5_isRuling
set_option maxRecDepth 20000 in
theorem ggX5_line_X0_addLine : GoodIn wsX5_line wsX0_addLine := goodIn_r _ [16, 17, 18, 19, 20, 21, 48, 49, 50, 51, 52, 53, 54, 55, 56, 57, 58] (by decide +kernel) (by decide +kernel)
set_option maxRecDepth 20000 in
theorem gX5_line_X0_addLine : GoodIn wsX5_line (wsV RX5 101 RX0 yX0_addLine wsX0_addLine) := goodIn_app (goodIn_of _ (by decide +kernel)) ggX5_line_X0_addLine
set_option maxRecDepth 20000 in
theorem ggX5_line_X3_work : GoodIn wsX5_line wsX3_work := goodIn_r _ [26, 27, 28, 29, 30, 31, 6, 32, 33, 17, 34, 35, 36, 37, 18, 19, 21, 38, 11, 39, 59, 60, 48, 49, 50, 51, 52, 53, 54, 55, 56, 57, 58] (by decide +kernel) (by decide +kernel)
set_option maxRecDepth 20000 in
theorem gX5_line_X3_work : GoodIn wsX5_line (wsV RX5 70 RX3 yX3_work wsX3_work) := goodIn_app (goodIn_of _ (by decide +kernel)) ggX5_line_X3_work
theorem dX5_line_0 : decode cX5_line 0 = .ok (.aload_n 0, 1) := by decide +kernel
theorem dX5_line_1 : decode cX5_line 1 = .ok (.getfield 10, 3) := by decide +kernel
theorem dX5_line_4 : decode cX5_line 4 = .ok (.iload_n 1, 1) := by decide +kernel
theorem dX5_line_5 : decode cX5_line 5 = .ok (.invokevirtual 92, 3) := by decide +kernel
theorem dX5_line_8 : decode cX5_line 8 = .ok (.ifCond .eq 27, 3) := by decide +kernel
theorem dX5_line_11 : decode cX5_line 11 = .ok (.aload_n 0, 1) := by decide +kernel
theorem dX5_line_12 : decode cX5_line 12 = .ok (.getfield 10, 3) := by decide +kernel
theorem dX5_line_15 : decode cX5_line 15 = .ok (.iload_n 2, 1) := by decide +kernel
theorem dX5_line_16 : decode cX5_line 16 = .ok (.invokevirtual 92, 3) := by decide +kernel
theorem dX5_line_19 : decode cX5_line 19 = .ok (.ifCond .eq 16, 3) := by decide +kernel
theorem dX5_line_22 : decode cX5_line 22 = .ok (.iload_n 1, 1) := by decide +kernel
theorem dX5_line_23 : decode cX5_line 23 = .ok (.iload_n 2, 1) := by decide +kernel
theorem dX5_line_24 : decode cX5_line 24 = .ok (.iand, 1) := by decide +kernel
theorem dX5_line_25 : decode cX5_line 25 = .ok (.ifCond .ne 10, 3) := by decide +kernel
theorem dX5_line_28 : decode cX5_line 28 = .ok (.iload_n 3, 1) := by decide +kernel
theorem dX5_line_29 : decode cX5_line 29 = .ok (.invokestatic 95, 3) := by decide +kernel
theorem dX5_line_32 : decode cX5_line 32 = .ok (.ifCond .ne 6, 3) := by decide +kernel
theorem dX5_line_35 : decode cX5_line 35 = .ok (.bipush (-2), 2) := by decide +kernel
theorem dX5_line_37 : decode cX5_line 37 = .ok (.ireturn, 1) := by decide +kernel
theorem dX5_line_38 : decode cX5_line 38 = .ok (.aload_n 0, 1) := by decide +kernel
theorem dX5_line_39 : decode cX5_line 39 = .ok (.getfield 10, 3) := by decide +kernel
theorem dX5_line_42 : decode cX5_line 42 = .ok (.getfield 98, 3) := by decide +kernel
theorem dX5_line_45 : decode cX5_line 45 = .ok (.bipush 12, 2) := by decide +kernel
theorem dX5_line_47 : decode cX5_line 47 = .ok (.if_icmp .lt 6, 3) := by decide +kernel
theorem dX5_line_50 : decode cX5_line 50 = .ok (.bipush (-4), 2) := by decide +kernel
theorem dX5_line_52 : decode cX5_line 52 = .ok (.ireturn, 1) := by decide +kernel
theorem dX5_line_53 : decode cX5_line 53 = .ok (.aload_n 0, 1) := by decide +kernel
theorem dX5_line_54 : decode cX5_line 54 = .ok (.getfield 10, 3) := by decide +kernel
theorem dX5_line_57 : decode cX5_line 57 = .ok (.iload_n 1, 1) := by decide +kernel
theorem dX5_line_58 : decode cX5_line 58 = .ok (.iload_n 2, 1) := by decide +kernel
theorem dX5_line_59 : decode cX5_line 59 = .ok (.iload_n 3, 1) := by decide +kernel
theorem dX5_line_60 : decode cX5_line 60 = .ok (.invokevirtual 101, 3) := by decide +kernel
theorem dX5_line_63 : decode cX5_line 63 = .ok (.istore 4, 2) := by decide +kernel
theorem dX5_line_65 : decode cX5_line 65 = .ok (.aload_n 0, 1) := by decide +kernel
theorem dX5_line_66 : decode cX5_line 66 = .ok (.getfield 21, 3) := by decide +kernel
theorem dX5_line_69 : decode cX5_line 69 = .ok (.aload_n 0, 1) := by decide +kernel
theorem dX5_line_70 : decode cX5_line 70 = .ok (.getfield 10, 3) := by decide +kernel
theorem dX5_line_73 : decode cX5_line 73 = .ok (.getfield 67, 3) := by decide +kernel
theorem dX5_line_76 : decode cX5_line 76 = .ok (.invokevirtual 70, 3) := by decide +kernel
theorem dX5_line_79 : decode cX5_line 79 = .ok (.iload 4, 2) := by decide +kernel
theorem dX5_line_81 : decode cX5_line 81 = .ok (.ireturn, 1) := by decide +kernel
set_option maxRecDepth 20000 in
theorem ggX5_except_X0_hasLine : GoodIn wsX5_except wsX0_hasLine := goodIn_r _ [7, 8, 54, 55, 56, 57, 58, 59, 60, 61, 62, 63, 64] (by decide +kernel) (by decide +kernel)
set_option maxRecDepth 20000 in
theorem gX5_except_X0_hasLine : GoodIn wsX5_except (wsV RX5 105 RX0 yX0_hasLine wsX0_hasLine) := goodIn_app (goodIn_of _ (by decide +kernel)) ggX5_except_X0_hasLine
set_option maxRecDepth 20000 in
theorem ggX5_except_X0_excepts : GoodIn wsX5_except wsX0_excepts := goodIn_r _ [12, 13, 14, 15, 16, 54, 55, 56, 57, 58, 59, 60, 61, 62, 63, 64] (by decide +kernel) (by decide +kernel)
set_option maxRecDepth 20000 in
theorem gX5_except_X0_excepts : GoodIn wsX5_except (wsV RX5 108 RX0 yX0_excepts wsX0_excepts) := goodIn_app (goodIn_of _ (by decide +kernel)) ggX5_except_X0_excepts
set_option maxRecDepth 20000 in
theorem ggX5_except_X0_addException : GoodIn wsX5_except wsX0_addException := goodIn_r _ [20, 13, 21, 54, 55, 56, 57, 58, 59, 60, 61, 62, 63, 64] (by decide +kernel) (by decide +kernel)
set_option maxRecDepth 20000 in
theorem gX5_except_X0_addException : GoodIn wsX5_except (wsV RX5 111 RX0 yX0_addException wsX0_addException) := goodIn_app (goodIn_of _ (by decide +kernel)) ggX5_except_X0_addException
set_option maxRecDepth 20000 in
theorem ggX5_except_X3_work : GoodIn wsX5_except wsX3_work := goodIn_r _ [26, 27, 28, 29, 30, 31, 6, 32, 21, 8, 33, 34, 35, 36, 37, 38, 13, 14, 15, 16, 65, 66, 54, 55, 56, 57, 58, 59, 60, 61, 62, 63, 64] (by decide +kernel) (by decide +kernel)
set_option maxRecDepth 20000 in
theorem gX5_except_X3_work : GoodIn wsX5_except (wsV RX5 70 RX3 yX3_work wsX3_work) := goodIn_app (goodIn_of _ (by decide +kernel)) ggX5_except_X3_work
set_option maxRecDepth 20000 in
theorem ggX5_except_J6_bitCount_0f7a4 : GoodIn wsX5_except wsJ6_bitCount_0f7a4 := goodIn_r _ [42, 43, 44, 45] (by decide +kernel) (by decide +kernel)
set_option maxRecDepth 20000 in
theorem gX5_except_J6_bitCount_0f7a4 : GoodIn wsX5_except (va_wsS RX5 119 yJ6_bitCount_0f7a4 wsJ6_bitCount_0f7a4) := goodIn_app (goodIn_of _ (by decide +kernel)) ggX5_except_J6_bitCount_0f7a4
theorem dX5_except_0 : decode cX5_except 0 = .ok (.aload_n 0, 1) := by decide +kernel
theorem dX5_except_1 : decode cX5_except 1 = .ok (.getfield 10, 3) := by decide +kernel
theorem dX5_except_4 : decode cX5_except 4 = .ok (.iload_n 1, 1) := by decide +kernel
theorem dX5_except_5 : decode cX5_except 5 = .ok (.invokevirtual 105, 3) := by decide +kernel
theorem dX5_except_8 : decode cX5_except 8 = .ok (.ifCond .eq 14, 3) := by decide +kernel
theorem dX5_except_11 : decode cX5_except 11 = .ok (.aload_n 0, 1) := by decide +kernel
theorem dX5_except_12 : decode cX5_except 12 = .ok (.getfield 10, 3) := by decide +kernel
theorem dX5_except_15 : decode cX5_except 15 = .ok (.iload_n 2, 1) := by decide +kernel
theorem dX5_except_16 : decode cX5_except 16 = .ok (.invokevirtual 105, 3) := by decide +kernel
theorem dX5_except_19 : decode cX5_except 19 = .ok (.ifCond .ne 5, 3) := by decide +kernel
theorem dX5_except_22 : decode cX5_except 22 = .ok (.iconst (-1), 1) := by decide +kernel
theorem dX5_except_23 : decode cX5_except 23 = .ok (.ireturn, 1) := by decide +kernel
theorem dX5_except_24 : decode cX5_except 24 = .ok (.iload_n 1, 1) := by decide +kernel
theorem dX5_except_25 : decode cX5_except 25 = .ok (.iload_n 2, 1) := by decide +kernel
theorem dX5_except_26 : decode cX5_except 26 = .ok (.if_icmp .le 15, 3) := by decide +kernel
theorem dX5_except_29 : decode cX5_except 29 = .ok (.aload_n 0, 1) := by decide +kernel
theorem dX5_except_30 : decode cX5_except 30 = .ok (.getfield 10, 3) := by decide +kernel
theorem dX5_except_33 : decode cX5_except 33 = .ok (.iload_n 1, 1) := by decide +kernel
theorem dX5_except_34 : decode cX5_except 34 = .ok (.iload_n 2, 1) := by decide +kernel
theorem dX5_except_35 : decode cX5_except 35 = .ok (.invokevirtual 108, 3) := by decide +kernel
theorem dX5_except_38 : decode cX5_except 38 = .ok (.ifCond .eq 6, 3) := by decide +kernel
theorem dX5_except_41 : decode cX5_except 41 = .ok (.bipush (-5), 2) := by decide +kernel
theorem dX5_except_43 : decode cX5_except 43 = .ok (.ireturn, 1) := by decide +kernel
theorem dX5_except_44 : decode cX5_except 44 = .ok (.aload_n 0, 1) := by decide +kernel
theorem dX5_except_45 : decode cX5_except 45 = .ok (.getfield 10, 3) := by decide +kernel
theorem dX5_except_48 : decode cX5_except 48 = .ok (.iload_n 1, 1) := by decide +kernel
theorem dX5_except_49 : decode cX5_except 49 = .ok (.iload_n 2, 1) := by decide +kernel
theorem dX5_except_50 : decode cX5_except 50 = .ok (.invokevirtual 111, 3) := by decide +kernel
theorem dX5_except_53 : decode cX5_except 53 = .ok (.aload_n 0, 1) := by decide +kernel
theorem dX5_except_54 : decode cX5_except 54 = .ok (.getfield 21, 3) := by decide +kernel
theorem dX5_except_57 : decode cX5_except 57 = .ok (.aload_n 0, 1) := by decide +kernel
theorem dX5_except_58 : decode cX5_except 58 = .ok (.getfield 10, 3) := by decide +kernel
theorem dX5_except_61 : decode cX5_except 61 = .ok (.getfield 67, 3) := by decide +kernel
theorem dX5_except_64 : decode cX5_except 64 = .ok (.invokevirtual 70, 3) := by decide +kernel
theorem dX5_except_67 : decode cX5_except 67 = .ok (.aload_n 0, 1) := by decide +kernel
theorem dX5_except_68 : decode cX5_except 68 = .ok (.getfield 10, 3) := by decide +kernel
theorem dX5_except_71 : decode cX5_except 71 = .ok (.getfield 115, 3) := by decide +kernel
theorem dX5_except_74 : decode cX5_except 74 = .ok (.iload_n 2, 1) := by decide +kernel
theorem dX5_except_75 : decode cX5_except 75 = .ok (.iaload, 1) := by decide +kernel
theorem dX5_except_76 : decode cX5_except 76 = .ok (.invokestatic 119, 3) := by decide +kernel
theorem dX5_except_79 : decode cX5_except 79 = .ok (.ireturn, 1) := by decide +kernel
set_option maxRecDepth 20000 in
theorem ggX5_repeal_X0_hasLine : GoodIn wsX5_repeal wsX0_hasLine := goodIn_r _ [7, 8, 51, 52, 53, 54, 55, 56, 57, 58, 59, 60, 61] (by decide +kernel) (by decide +kernel)
set_option maxRecDepth 20000 in
theorem gX5_repeal_X0_hasLine : GoodIn wsX5_repeal (wsV RX5 105 RX0 yX0_hasLine wsX0_hasLine) := goodIn_app (goodIn_of _ (by decide +kernel)) ggX5_repeal_X0_hasLine
set_option maxRecDepth 20000 in
theorem ggX5_repeal_X0_isRepealed : GoodIn wsX5_repeal wsX0_isRepealed := goodIn_r _ [12, 13, 14, 15, 16, 51, 52, 53, 54, 55, 56, 57, 58, 59, 60, 61] (by decide +kernel) (by decide +kernel)
set_option maxRecDepth 20000 in
theorem gX5_repeal_X0_isRepealed : GoodIn wsX5_repeal (wsV RX5 125 RX0 yX0_isRepealed wsX0_isRepealed) := goodIn_app (goodIn_of _ (by decide +kernel)) ggX5_repeal_X0_isRepealed
set_option maxRecDepth 20000 in
theorem ggX5_repeal_X0_repealedIfMended : GoodIn wsX5_repeal wsX0_repealedIfMended := goodIn_r _ [20, 13, 51, 52, 53, 54, 55, 56, 57, 58, 59, 60, 61] (by decide +kernel) (by decide +kernel)
set_option maxRecDepth 20000 in
theorem gX5_repeal_X0_repealedIfMended : GoodIn wsX5_repeal (wsV RX5 128 RX0 yX0_repealedIfMended wsX0_repealedIfMended) := goodIn_app (goodIn_of _ (by decide +kernel)) ggX5_repeal_X0_repealedIfMended
set_option maxRecDepth 20000 in
theorem ggX5_repeal_X3_work : GoodIn wsX5_repeal wsX3_work := goodIn_r _ [25, 26, 27, 28, 29, 30, 6, 31, 32, 8, 33, 34, 35, 36, 37, 38, 39, 14, 15, 16, 62, 63, 51, 52, 53, 54, 55, 56, 57, 58, 59, 60, 61] (by decide +kernel) (by decide +kernel)
set_option maxRecDepth 20000 in
theorem gX5_repeal_X3_work : GoodIn wsX5_repeal (wsV RX5 70 RX3 yX3_work wsX3_work) := goodIn_app (goodIn_of _ (by decide +kernel)) ggX5_repeal_X3_work
set_option maxRecDepth 20000 in
theorem ggX5_repeal_X5_oneIf : GoodIn wsX5_repeal wsX5_oneIf := goodIn_r _ [42] (by decide +kernel) (by decide +kernel)
set_option maxRecDepth 20000 in
theorem gX5_repeal_X5_oneIf : GoodIn wsX5_repeal (va_wsS RX5 88 yX5_oneIf wsX5_oneIf) := goodIn_app (goodIn_of _ (by decide +kernel)) ggX5_repeal_X5_oneIf
theorem dX5_repeal_0 : decode cX5_repeal 0 = .ok (.aload_n 0, 1) := by decide +kernel
theorem dX5_repeal_1 : decode cX5_repeal 1 = .ok (.getfield 10, 3) := by decide +kernel
theorem dX5_repeal_4 : decode cX5_repeal 4 = .ok (.iload_n 1, 1) := by decide +kernel
theorem dX5_repeal_5 : decode cX5_repeal 5 = .ok (.invokevirtual 105, 3) := by decide +kernel
theorem dX5_repeal_8 : decode cX5_repeal 8 = .ok (.ifCond .ne 5, 3) := by decide +kernel
theorem dX5_repeal_11 : decode cX5_repeal 11 = .ok (.iconst (-1), 1) := by decide +kernel
theorem dX5_repeal_12 : decode cX5_repeal 12 = .ok (.ireturn, 1) := by decide +kernel
theorem dX5_repeal_13 : decode cX5_repeal 13 = .ok (.aload_n 0, 1) := by decide +kernel
theorem dX5_repeal_14 : decode cX5_repeal 14 = .ok (.getfield 10, 3) := by decide +kernel
theorem dX5_repeal_17 : decode cX5_repeal 17 = .ok (.iload_n 1, 1) := by decide +kernel
theorem dX5_repeal_18 : decode cX5_repeal 18 = .ok (.invokevirtual 125, 3) := by decide +kernel
theorem dX5_repeal_21 : decode cX5_repeal 21 = .ok (.istore_n 3, 1) := by decide +kernel
theorem dX5_repeal_22 : decode cX5_repeal 22 = .ok (.iload_n 3, 1) := by decide +kernel
theorem dX5_repeal_23 : decode cX5_repeal 23 = .ok (.iload_n 2, 1) := by decide +kernel
theorem dX5_repeal_24 : decode cX5_repeal 24 = .ok (.if_icmp .eq 32, 3) := by decide +kernel
theorem dX5_repeal_27 : decode cX5_repeal 27 = .ok (.aload_n 0, 1) := by decide +kernel
theorem dX5_repeal_28 : decode cX5_repeal 28 = .ok (.getfield 10, 3) := by decide +kernel
theorem dX5_repeal_31 : decode cX5_repeal 31 = .ok (.aload_n 0, 1) := by decide +kernel
theorem dX5_repeal_32 : decode cX5_repeal 32 = .ok (.getfield 10, 3) := by decide +kernel
theorem dX5_repeal_35 : decode cX5_repeal 35 = .ok (.iload_n 1, 1) := by decide +kernel
theorem dX5_repeal_36 : decode cX5_repeal 36 = .ok (.invokevirtual 128, 3) := by decide +kernel
theorem dX5_repeal_39 : decode cX5_repeal 39 = .ok (.putfield 67, 3) := by decide +kernel
theorem dX5_repeal_42 : decode cX5_repeal 42 = .ok (.aload_n 0, 1) := by decide +kernel
theorem dX5_repeal_43 : decode cX5_repeal 43 = .ok (.getfield 21, 3) := by decide +kernel
theorem dX5_repeal_46 : decode cX5_repeal 46 = .ok (.aload_n 0, 1) := by decide +kernel
theorem dX5_repeal_47 : decode cX5_repeal 47 = .ok (.getfield 10, 3) := by decide +kernel
theorem dX5_repeal_50 : decode cX5_repeal 50 = .ok (.getfield 67, 3) := by decide +kernel
theorem dX5_repeal_53 : decode cX5_repeal 53 = .ok (.invokevirtual 70, 3) := by decide +kernel
theorem dX5_repeal_56 : decode cX5_repeal 56 = .ok (.iload_n 3, 1) := by decide +kernel
theorem dX5_repeal_57 : decode cX5_repeal 57 = .ok (.invokestatic 88, 3) := by decide +kernel
theorem dX5_repeal_60 : decode cX5_repeal 60 = .ok (.ireturn, 1) := by decide +kernel
set_option maxRecDepth 20000 in
theorem ggX5_about_X0_hasLine : GoodIn wsX5_about wsX0_hasLine := goodIn_r _ [6, 7, 34, 35, 36, 37, 38, 39, 40, 41, 42, 43, 44] (by decide +kernel) (by decide +kernel)
set_option maxRecDepth 20000 in
theorem gX5_about_X0_hasLine : GoodIn wsX5_about (wsV RX5 105 RX0 yX0_hasLine wsX0_hasLine) := goodIn_app (goodIn_of _ (by decide +kernel)) ggX5_about_X0_hasLine
set_option maxRecDepth 20000 in
theorem ggX5_about_X0_isRepealed : GoodIn wsX5_about wsX0_isRepealed := goodIn_r _ [11, 12, 13, 14, 15, 34, 35, 36, 37, 38, 39, 40, 41, 42, 43, 44] (by decide +kernel) (by decide +kernel)
set_option maxRecDepth 20000 in
theorem gX5_about_X0_isRepealed : GoodIn wsX5_about (wsV RX5 125 RX0 yX0_isRepealed wsX0_isRepealed) := goodIn_app (goodIn_of _ (by decide +kernel)) ggX5_about_X0_isRepealed
set_option maxRecDepth 20000 in
theorem ggX5_about_X5_oneIf : GoodIn wsX5_about wsX5_oneIf := goodIn_r _ [18] (by decide +kernel) (by decide +kernel)
set_option maxRecDepth 20000 in
theorem gX5_about_X5_oneIf : GoodIn wsX5_about (va_wsS RX5 88 yX5_oneIf wsX5_oneIf) := goodIn_app (goodIn_of _ (by decide +kernel)) ggX5_about_X5_oneIf
set_option maxRecDepth 20000 in
theorem ggX5_about_X0_namedBy : GoodIn wsX5_about wsX0_namedBy := goodIn_r _ [22, 7, 23, 24, 25, 12, 13, 14, 15, 34, 35, 36, 37, 38, 39, 40, 41, 42, 43, 44] (by decide +kernel) (by decide +kernel)
set_option maxRecDepth 20000 in
theorem gX5_about_X0_namedBy : GoodIn wsX5_about (wsV RX5 140 RX0 yX0_namedBy wsX0_namedBy) := goodIn_app (goodIn_of _ (by decide +kernel)) ggX5_about_X0_namedBy
theorem dX5_about_0 : decode cX5_about 0 = .ok (.aload_n 0, 1) := by decide +kernel
theorem dX5_about_1 : decode cX5_about 1 = .ok (.getfield 10, 3) := by decide +kernel
theorem dX5_about_4 : decode cX5_about 4 = .ok (.iload_n 1, 1) := by decide +kernel
theorem dX5_about_5 : decode cX5_about 5 = .ok (.invokevirtual 105, 3) := by decide +kernel
theorem dX5_about_8 : decode cX5_about 8 = .ok (.ifCond .ne 5, 3) := by decide +kernel
theorem dX5_about_11 : decode cX5_about 11 = .ok (.iconst (-1), 1) := by decide +kernel
theorem dX5_about_12 : decode cX5_about 12 = .ok (.ireturn, 1) := by decide +kernel
theorem dX5_about_13 : decode cX5_about 13 = .ok (.iload_n 2, 1) := by decide +kernel
theorem dX5_about_14 : decode cX5_about 14 = .ok (.tableswitch 99 0 5 #[38, 48, 58, 68, 80, 90], 38) := by decide +kernel
theorem dX5_about_52 : decode cX5_about 52 = .ok (.aload_n 0, 1) := by decide +kernel
theorem dX5_about_53 : decode cX5_about 53 = .ok (.getfield 10, 3) := by decide +kernel
theorem dX5_about_56 : decode cX5_about 56 = .ok (.getfield 131, 3) := by decide +kernel
theorem dX5_about_59 : decode cX5_about 59 = .ok (.iload_n 1, 1) := by decide +kernel
theorem dX5_about_60 : decode cX5_about 60 = .ok (.iaload, 1) := by decide +kernel
theorem dX5_about_61 : decode cX5_about 61 = .ok (.ireturn, 1) := by decide +kernel
theorem dX5_about_62 : decode cX5_about 62 = .ok (.aload_n 0, 1) := by decide +kernel
theorem dX5_about_63 : decode cX5_about 63 = .ok (.getfield 10, 3) := by decide +kernel
theorem dX5_about_66 : decode cX5_about 66 = .ok (.getfield 134, 3) := by decide +kernel
theorem dX5_about_69 : decode cX5_about 69 = .ok (.iload_n 1, 1) := by decide +kernel
theorem dX5_about_70 : decode cX5_about 70 = .ok (.iaload, 1) := by decide +kernel
theorem dX5_about_71 : decode cX5_about 71 = .ok (.ireturn, 1) := by decide +kernel
theorem dX5_about_72 : decode cX5_about 72 = .ok (.aload_n 0, 1) := by decide +kernel
theorem dX5_about_73 : decode cX5_about 73 = .ok (.getfield 10, 3) := by decide +kernel
theorem dX5_about_76 : decode cX5_about 76 = .ok (.getfield 137, 3) := by decide +kernel
theorem dX5_about_79 : decode cX5_about 79 = .ok (.iload_n 1, 1) := by decide +kernel
theorem dX5_about_80 : decode cX5_about 80 = .ok (.iaload, 1) := by decide +kernel
theorem dX5_about_81 : decode cX5_about 81 = .ok (.ireturn, 1) := by decide +kernel
theorem dX5_about_82 : decode cX5_about 82 = .ok (.aload_n 0, 1) := by decide +kernel
theorem dX5_about_83 : decode cX5_about 83 = .ok (.getfield 10, 3) := by decide +kernel
theorem dX5_about_86 : decode cX5_about 86 = .ok (.iload_n 1, 1) := by decide +kernel
theorem dX5_about_87 : decode cX5_about 87 = .ok (.invokevirtual 125, 3) := by decide +kernel
theorem dX5_about_90 : decode cX5_about 90 = .ok (.invokestatic 88, 3) := by decide +kernel
theorem dX5_about_93 : decode cX5_about 93 = .ok (.ireturn, 1) := by decide +kernel
theorem dX5_about_94 : decode cX5_about 94 = .ok (.aload_n 0, 1) := by decide +kernel
theorem dX5_about_95 : decode cX5_about 95 = .ok (.getfield 10, 3) := by decide +kernel
theorem dX5_about_98 : decode cX5_about 98 = .ok (.getfield 115, 3) := by decide +kernel
theorem dX5_about_101 : decode cX5_about 101 = .ok (.iload_n 1, 1) := by decide +kernel
theorem dX5_about_102 : decode cX5_about 102 = .ok (.iaload, 1) := by decide +kernel
theorem dX5_about_103 : decode cX5_about 103 = .ok (.ireturn, 1) := by decide +kernel
theorem dX5_about_104 : decode cX5_about 104 = .ok (.aload_n 0, 1) := by decide +kernel
theorem dX5_about_105 : decode cX5_about 105 = .ok (.getfield 10, 3) := by decide +kernel
theorem dX5_about_108 : decode cX5_about 108 = .ok (.iload_n 1, 1) := by decide +kernel
theorem dX5_about_109 : decode cX5_about 109 = .ok (.invokevirtual 140, 3) := by decide +kernel
theorem dX5_about_112 : decode cX5_about 112 = .ok (.ireturn, 1) := by decide +kernel
theorem dX5_about_113 : decode cX5_about 113 = .ok (.bipush (-2), 2) := by decide +kernel
theorem dX5_about_115 : decode cX5_about 115 = .ok (.ireturn, 1) := by decide +kernel
set_option maxRecDepth 20000 in
theorem ggX5_holds_X0_hasLine : GoodIn wsX5_holds wsX0_hasLine := goodIn_r _ [6, 7, 36, 37, 38, 39, 40, 41, 42, 43, 44, 45, 46] (by decide +kernel) (by decide +kernel)
set_option maxRecDepth 20000 in
theorem gX5_holds_X0_hasLine : GoodIn wsX5_holds (wsV RX5 105 RX0 yX0_hasLine wsX0_hasLine) := goodIn_app (goodIn_of _ (by decide +kernel)) ggX5_holds_X0_hasLine
set_option maxRecDepth 20000 in
theorem ggX5_holds_X0_hasKind : GoodIn wsX5_holds wsX0_hasKind := goodIn_r _ [11, 12, 13, 36, 37, 38, 39, 40, 41, 42, 43, 44, 45, 46] (by decide +kernel) (by decide +kernel)
set_option maxRecDepth 20000 in
theorem gX5_holds_X0_hasKind : GoodIn wsX5_holds (wsV RX5 143 RX0 yX0_hasKind wsX0_hasKind) := goodIn_app (goodIn_of _ (by decide +kernel)) ggX5_holds_X0_hasKind
set_option maxRecDepth 20000 in
theorem ggX5_holds_X0_holding : GoodIn wsX5_holds wsX0_holding := goodIn_r _ [17, 7, 18, 19, 20, 21, 22, 23, 36, 37, 38, 39, 40, 41, 42, 43, 44, 45, 46] (by decide +kernel) (by decide +kernel)
set_option maxRecDepth 20000 in
theorem gX5_holds_X0_holding : GoodIn wsX5_holds (wsV RX5 146 RX0 yX0_holding wsX0_holding) := goodIn_app (goodIn_of _ (by decide +kernel)) ggX5_holds_X0_holding
set_option maxRecDepth 20000 in
theorem ggX5_holds_X5_hasBit : GoodIn wsX5_holds wsX5_hasBit := goodIn_r _ [23] (by decide +kernel) (by decide +kernel)
set_option maxRecDepth 20000 in
theorem gX5_holds_X5_hasBit : GoodIn wsX5_holds (va_wsS RX5 150 yX5_hasBit wsX5_hasBit) := goodIn_app (goodIn_of _ (by decide +kernel)) ggX5_holds_X5_hasBit
set_option maxRecDepth 20000 in
theorem ggX5_holds_X5_oneIf : GoodIn wsX5_holds wsX5_oneIf := goodIn_r _ [27] (by decide +kernel) (by decide +kernel)
set_option maxRecDepth 20000 in
theorem gX5_holds_X5_oneIf : GoodIn wsX5_holds (va_wsS RX5 88 yX5_oneIf wsX5_oneIf) := goodIn_app (goodIn_of _ (by decide +kernel)) ggX5_holds_X5_oneIf
theorem dX5_holds_0 : decode cX5_holds 0 = .ok (.aload_n 0, 1) := by decide +kernel
theorem dX5_holds_1 : decode cX5_holds 1 = .ok (.getfield 10, 3) := by decide +kernel
theorem dX5_holds_4 : decode cX5_holds 4 = .ok (.iload_n 1, 1) := by decide +kernel
theorem dX5_holds_5 : decode cX5_holds 5 = .ok (.invokevirtual 105, 3) := by decide +kernel
theorem dX5_holds_8 : decode cX5_holds 8 = .ok (.ifCond .ne 5, 3) := by decide +kernel
theorem dX5_holds_11 : decode cX5_holds 11 = .ok (.iconst (-1), 1) := by decide +kernel
theorem dX5_holds_12 : decode cX5_holds 12 = .ok (.ireturn, 1) := by decide +kernel
theorem dX5_holds_13 : decode cX5_holds 13 = .ok (.aload_n 0, 1) := by decide +kernel
theorem dX5_holds_14 : decode cX5_holds 14 = .ok (.getfield 10, 3) := by decide +kernel
theorem dX5_holds_17 : decode cX5_holds 17 = .ok (.iload_n 2, 1) := by decide +kernel
theorem dX5_holds_18 : decode cX5_holds 18 = .ok (.invokevirtual 143, 3) := by decide +kernel
theorem dX5_holds_21 : decode cX5_holds 21 = .ok (.ifCond .ne 6, 3) := by decide +kernel
theorem dX5_holds_24 : decode cX5_holds 24 = .ok (.bipush (-2), 2) := by decide +kernel
theorem dX5_holds_26 : decode cX5_holds 26 = .ok (.ireturn, 1) := by decide +kernel
theorem dX5_holds_27 : decode cX5_holds 27 = .ok (.aload_n 0, 1) := by decide +kernel
theorem dX5_holds_28 : decode cX5_holds 28 = .ok (.getfield 10, 3) := by decide +kernel
theorem dX5_holds_31 : decode cX5_holds 31 = .ok (.iload_n 2, 1) := by decide +kernel
theorem dX5_holds_32 : decode cX5_holds 32 = .ok (.aload_n 0, 1) := by decide +kernel
theorem dX5_holds_33 : decode cX5_holds 33 = .ok (.getfield 10, 3) := by decide +kernel
theorem dX5_holds_36 : decode cX5_holds 36 = .ok (.getfield 67, 3) := by decide +kernel
theorem dX5_holds_39 : decode cX5_holds 39 = .ok (.invokevirtual 146, 3) := by decide +kernel
theorem dX5_holds_42 : decode cX5_holds 42 = .ok (.iload_n 1, 1) := by decide +kernel
theorem dX5_holds_43 : decode cX5_holds 43 = .ok (.invokestatic 150, 3) := by decide +kernel
theorem dX5_holds_46 : decode cX5_holds 46 = .ok (.invokestatic 88, 3) := by decide +kernel
theorem dX5_holds_49 : decode cX5_holds 49 = .ok (.ireturn, 1) := by decide +kernel
set_option maxRecDepth 20000 in
theorem ggX5_law_X0_hasKind : GoodIn wsX5_law wsX0_hasKind := goodIn_r _ [7, 8, 9, 31, 32, 33, 34, 35, 36, 37, 38, 39, 40, 41] (by decide +kernel) (by decide +kernel)
set_option maxRecDepth 20000 in
theorem gX5_law_X0_hasKind : GoodIn wsX5_law (wsV RX5 143 RX0 yX0_hasKind wsX0_hasKind) := goodIn_app (goodIn_of _ (by decide +kernel)) ggX5_law_X0_hasKind
set_option maxRecDepth 20000 in
theorem ggX5_law_X3_rulingFor : GoodIn wsX5_law wsX3_rulingFor := goodIn_r _ [14, 15, 16, 17, 18, 19, 13, 20, 29, 30, 31, 32, 33, 34, 35, 36, 37, 38, 39, 40, 41] (by decide +kernel) (by decide +kernel)
set_option maxRecDepth 20000 in
theorem gX5_law_X3_rulingFor : GoodIn wsX5_law (wsV RX5 156 RX3 yX3_rulingFor wsX3_rulingFor) := goodIn_app (goodIn_of _ (by decide +kernel)) ggX5_law_X3_rulingFor
theorem dX5_law_0 : decode cX5_law 0 = .ok (.aload_n 0, 1) := by decide +kernel
theorem dX5_law_1 : decode cX5_law 1 = .ok (.getfield 10, 3) := by decide +kernel
theorem dX5_law_4 : decode cX5_law 4 = .ok (.iload_n 1, 1) := by decide +kernel
theorem dX5_law_5 : decode cX5_law 5 = .ok (.invokevirtual 143, 3) := by decide +kernel
theorem dX5_law_8 : decode cX5_law 8 = .ok (.ifCond .eq 12, 3) := by decide +kernel
theorem dX5_law_11 : decode cX5_law 11 = .ok (.iload_n 2, 1) := by decide +kernel
theorem dX5_law_12 : decode cX5_law 12 = .ok (.ifCond .lt 8, 3) := by decide +kernel
theorem dX5_law_15 : decode cX5_law 15 = .ok (.iload_n 2, 1) := by decide +kernel
theorem dX5_law_16 : decode cX5_law 16 = .ok (.iconst 1, 1) := by decide +kernel
theorem dX5_law_17 : decode cX5_law 17 = .ok (.if_icmp .le 6, 3) := by decide +kernel
theorem dX5_law_20 : decode cX5_law 20 = .ok (.bipush (-2), 2) := by decide +kernel
theorem dX5_law_22 : decode cX5_law 22 = .ok (.ireturn, 1) := by decide +kernel
theorem dX5_law_23 : decode cX5_law 23 = .ok (.iload_n 2, 1) := by decide +kernel
theorem dX5_law_24 : decode cX5_law 24 = .ok (.ifCond .ne 15, 3) := by decide +kernel
theorem dX5_law_27 : decode cX5_law 27 = .ok (.aload_n 0, 1) := by decide +kernel
theorem dX5_law_28 : decode cX5_law 28 = .ok (.getfield 21, 3) := by decide +kernel
theorem dX5_law_31 : decode cX5_law 31 = .ok (.getfield 153, 3) := by decide +kernel
theorem dX5_law_34 : decode cX5_law 34 = .ok (.iload_n 1, 1) := by decide +kernel
theorem dX5_law_35 : decode cX5_law 35 = .ok (.iaload, 1) := by decide +kernel
theorem dX5_law_36 : decode cX5_law 36 = .ok (.goto 11, 3) := by decide +kernel
theorem dX5_law_39 : decode cX5_law 39 = .ok (.aload_n 0, 1) := by decide +kernel
theorem dX5_law_40 : decode cX5_law 40 = .ok (.getfield 21, 3) := by decide +kernel
theorem dX5_law_43 : decode cX5_law 43 = .ok (.iload_n 1, 1) := by decide +kernel
theorem dX5_law_44 : decode cX5_law 44 = .ok (.invokevirtual 156, 3) := by decide +kernel
theorem dX5_law_47 : decode cX5_law 47 = .ok (.ireturn, 1) := by decide +kernel
set_option maxRecDepth 20000 in
theorem ggX5_open_X0_hasKind : GoodIn wsX5_open wsX0_hasKind := goodIn_r _ [7, 8, 9, 24, 25, 26, 27, 28, 29, 30, 31, 32, 33, 34] (by decide +kernel) (by decide +kernel)
set_option maxRecDepth 20000 in
theorem gX5_open_X0_hasKind : GoodIn wsX5_open (wsV RX5 143 RX0 yX0_hasKind wsX0_hasKind) := goodIn_app (goodIn_of _ (by decide +kernel)) ggX5_open_X0_hasKind
set_option maxRecDepth 20000 in
theorem ggX5_open_X3_covers : GoodIn wsX5_open wsX3_covers := goodIn_r _ [14, 15, 35, 36] (by decide +kernel) (by decide +kernel)
set_option maxRecDepth 20000 in
theorem gX5_open_X3_covers : GoodIn wsX5_open (wsV RX5 162 RX3 yX3_covers wsX3_covers) := goodIn_app (goodIn_of _ (by decide +kernel)) ggX5_open_X3_covers
theorem dX5_open_0 : decode cX5_open 0 = .ok (.iconst 0, 1) := by decide +kernel
theorem dX5_open_1 : decode cX5_open 1 = .ok (.istore_n 2, 1) := by decide +kernel
theorem dX5_open_2 : decode cX5_open 2 = .ok (.iconst 0, 1) := by decide +kernel
theorem dX5_open_3 : decode cX5_open 3 = .ok (.istore_n 3, 1) := by decide +kernel
theorem dX5_open_4 : decode cX5_open 4 = .ok (.iload_n 3, 1) := by decide +kernel
theorem dX5_open_5 : decode cX5_open 5 = .ok (.aload_n 0, 1) := by decide +kernel
theorem dX5_open_6 : decode cX5_open 6 = .ok (.getfield 10, 3) := by decide +kernel
theorem dX5_open_9 : decode cX5_open 9 = .ok (.getfield 159, 3) := by decide +kernel
theorem dX5_open_12 : decode cX5_open 12 = .ok (.if_icmp .ge 41, 3) := by decide +kernel
theorem dX5_open_15 : decode cX5_open 15 = .ok (.aload_n 0, 1) := by decide +kernel
theorem dX5_open_16 : decode cX5_open 16 = .ok (.getfield 10, 3) := by decide +kernel
theorem dX5_open_19 : decode cX5_open 19 = .ok (.iload_n 3, 1) := by decide +kernel
theorem dX5_open_20 : decode cX5_open 20 = .ok (.invokevirtual 143, 3) := by decide +kernel
theorem dX5_open_23 : decode cX5_open 23 = .ok (.ifCond .eq 24, 3) := by decide +kernel
theorem dX5_open_26 : decode cX5_open 26 = .ok (.aload_n 0, 1) := by decide +kernel
theorem dX5_open_27 : decode cX5_open 27 = .ok (.getfield 21, 3) := by decide +kernel
theorem dX5_open_30 : decode cX5_open 30 = .ok (.iload_n 3, 1) := by decide +kernel
theorem dX5_open_31 : decode cX5_open 31 = .ok (.invokevirtual 162, 3) := by decide +kernel
theorem dX5_open_34 : decode cX5_open 34 = .ok (.ifCond .ne 13, 3) := by decide +kernel
theorem dX5_open_37 : decode cX5_open 37 = .ok (.iload_n 2, 1) := by decide +kernel
theorem dX5_open_38 : decode cX5_open 38 = .ok (.iload_n 1, 1) := by decide +kernel
theorem dX5_open_39 : decode cX5_open 39 = .ok (.if_icmp .ne 5, 3) := by decide +kernel
theorem dX5_open_42 : decode cX5_open 42 = .ok (.iload_n 3, 1) := by decide +kernel
theorem dX5_open_43 : decode cX5_open 43 = .ok (.ireturn, 1) := by decide +kernel
theorem dX5_open_44 : decode cX5_open 44 = .ok (.iinc 2 1, 3) := by decide +kernel
theorem dX5_open_47 : decode cX5_open 47 = .ok (.iinc 3 1, 3) := by decide +kernel
theorem dX5_open_50 : decode cX5_open 50 = .ok (.goto (-46), 3) := by decide +kernel
theorem dX5_open_53 : decode cX5_open 53 = .ok (.iload_n 1, 1) := by decide +kernel
theorem dX5_open_54 : decode cX5_open 54 = .ok (.iconst (-1), 1) := by decide +kernel
theorem dX5_open_55 : decode cX5_open 55 = .ok (.if_icmp .ne 7, 3) := by decide +kernel
theorem dX5_open_58 : decode cX5_open 58 = .ok (.iload_n 2, 1) := by decide +kernel
theorem dX5_open_59 : decode cX5_open 59 = .ok (.goto 5, 3) := by decide +kernel
theorem dX5_open_62 : decode cX5_open 62 = .ok (.bipush (-6), 2) := by decide +kernel
theorem dX5_open_64 : decode cX5_open 64 = .ok (.ireturn, 1) := by decide +kernel
set_option maxRecDepth 20000 in
theorem ggX5_idle_X0_hasLine : GoodIn wsX5_idle wsX0_hasLine := goodIn_r _ [7, 8, 70, 71, 72, 73, 74, 75, 76, 77, 78, 79, 80] (by decide +kernel) (by decide +kernel)
set_option maxRecDepth 20000 in
theorem gX5_idle_X0_hasLine : GoodIn wsX5_idle (wsV RX5 105 RX0 yX0_hasLine wsX0_hasLine) := goodIn_app (goodIn_of _ (by decide +kernel)) ggX5_idle_X0_hasLine
set_option maxRecDepth 20000 in
theorem ggX5_idle_X0_repealedIfMended : GoodIn wsX5_idle wsX0_repealedIfMended := goodIn_r _ [12, 13, 70, 71, 72, 73, 74, 75, 76, 77, 78, 79, 80] (by decide +kernel) (by decide +kernel)
set_option maxRecDepth 20000 in
theorem gX5_idle_X0_repealedIfMended : GoodIn wsX5_idle (wsV RX5 128 RX0 yX0_repealedIfMended wsX0_repealedIfMended) := goodIn_app (goodIn_of _ (by decide +kernel)) ggX5_idle_X0_repealedIfMended
set_option maxRecDepth 20000 in
theorem ggX5_idle_X3_work : GoodIn wsX5_idle wsX3_work := goodIn_r _ [18, 19, 20, 21, 22, 23, 6, 24, 25, 8, 26, 27, 28, 29, 30, 31, 32, 33, 34, 35, 81, 82, 70, 71, 72, 73, 74, 75, 76, 77, 78, 79, 80] (by decide +kernel) (by decide +kernel)
set_option maxRecDepth 20000 in
theorem gX5_idle_X3_work : GoodIn wsX5_idle (wsV RX5 70 RX3 yX3_work wsX3_work) := goodIn_app (goodIn_of _ (by decide +kernel)) ggX5_idle_X3_work
set_option maxRecDepth 20000 in
theorem ggX5_idle_X5_turnedKinds : GoodIn wsX5_idle wsX5_turnedKinds := goodIn_r _ [39, 1, 40, 2, 41, 42, 43, 6, 44, 45, 46, 47, 48, 49, 17, 50, 51, 52, 53, 54, 19, 20, 55, 56, 57, 58, 62, 63, 64, 65, 66, 67, 68, 69, 70, 71, 72, 73, 74, 75, 76, 77, 78, 79, 80, 81, 82] (by decide +kernel) (by decide +kernel)
set_option maxRecDepth 20000 in
theorem gX5_idle_X5_turnedKinds : GoodIn wsX5_idle (wsV RX5 165 RX5 yX5_turnedKinds wsX5_turnedKinds) := goodIn_app (goodIn_of _ (by decide +kernel)) ggX5_idle_X5_turnedKinds
set_option maxRecDepth 20000 in
theorem ggX5_idle_X5_oneIf : GoodIn wsX5_idle wsX5_oneIf := goodIn_r _ [61] (by decide +kernel) (by decide +kernel)
set_option maxRecDepth 20000 in
theorem gX5_idle_X5_oneIf : GoodIn wsX5_idle (va_wsS RX5 88 yX5_oneIf wsX5_oneIf) := goodIn_app (goodIn_of _ (by decide +kernel)) ggX5_idle_X5_oneIf
theorem dX5_idle_0 : decode cX5_idle 0 = .ok (.aload_n 0, 1) := by decide +kernel
theorem dX5_idle_1 : decode cX5_idle 1 = .ok (.getfield 10, 3) := by decide +kernel
theorem dX5_idle_4 : decode cX5_idle 4 = .ok (.iload_n 1, 1) := by decide +kernel
theorem dX5_idle_5 : decode cX5_idle 5 = .ok (.invokevirtual 105, 3) := by decide +kernel
theorem dX5_idle_8 : decode cX5_idle 8 = .ok (.ifCond .ne 5, 3) := by decide +kernel
theorem dX5_idle_11 : decode cX5_idle 11 = .ok (.iconst (-1), 1) := by decide +kernel
theorem dX5_idle_12 : decode cX5_idle 12 = .ok (.ireturn, 1) := by decide +kernel
theorem dX5_idle_13 : decode cX5_idle 13 = .ok (.aload_n 0, 1) := by decide +kernel
theorem dX5_idle_14 : decode cX5_idle 14 = .ok (.getfield 25, 3) := by decide +kernel
theorem dX5_idle_17 : decode cX5_idle 17 = .ok (.aload_n 0, 1) := by decide +kernel
theorem dX5_idle_18 : decode cX5_idle 18 = .ok (.getfield 10, 3) := by decide +kernel
theorem dX5_idle_21 : decode cX5_idle 21 = .ok (.iload_n 1, 1) := by decide +kernel
theorem dX5_idle_22 : decode cX5_idle 22 = .ok (.invokevirtual 128, 3) := by decide +kernel
theorem dX5_idle_25 : decode cX5_idle 25 = .ok (.invokevirtual 70, 3) := by decide +kernel
theorem dX5_idle_28 : decode cX5_idle 28 = .ok (.aload_n 0, 1) := by decide +kernel
theorem dX5_idle_29 : decode cX5_idle 29 = .ok (.invokevirtual 165, 3) := by decide +kernel
theorem dX5_idle_32 : decode cX5_idle 32 = .ok (.ifCond .ne 7, 3) := by decide +kernel
theorem dX5_idle_35 : decode cX5_idle 35 = .ok (.iconst 1, 1) := by decide +kernel
theorem dX5_idle_36 : decode cX5_idle 36 = .ok (.goto 4, 3) := by decide +kernel
theorem dX5_idle_39 : decode cX5_idle 39 = .ok (.iconst 0, 1) := by decide +kernel
theorem dX5_idle_40 : decode cX5_idle 40 = .ok (.invokestatic 88, 3) := by decide +kernel
theorem dX5_idle_43 : decode cX5_idle 43 = .ok (.ireturn, 1) := by decide +kernel
set_option maxRecDepth 20000 in
theorem ggX5_moment_X4_add : GoodIn wsX5_moment wsX4_add := goodIn_r _ [6, 7, 8, 9, 10, 19, 20, 21, 22] (by decide +kernel) (by decide +kernel)
set_option maxRecDepth 20000 in
theorem gX5_moment_X4_add : GoodIn wsX5_moment (wsV RX5 169 RX4 yX4_add wsX4_add) := goodIn_app (goodIn_of _ (by decide +kernel)) ggX5_moment_X4_add
theorem dX5_moment_0 : decode cX5_moment 0 = .ok (.aload_n 0, 1) := by decide +kernel
theorem dX5_moment_1 : decode cX5_moment 1 = .ok (.getfield 31, 3) := by decide +kernel
theorem dX5_moment_4 : decode cX5_moment 4 = .ok (.getfield 63, 3) := by decide +kernel
theorem dX5_moment_7 : decode cX5_moment 7 = .ok (.bipush 30, 2) := by decide +kernel
theorem dX5_moment_9 : decode cX5_moment 9 = .ok (.if_icmp .lt 6, 3) := by decide +kernel
theorem dX5_moment_12 : decode cX5_moment 12 = .ok (.bipush (-4), 2) := by decide +kernel
theorem dX5_moment_14 : decode cX5_moment 14 = .ok (.ireturn, 1) := by decide +kernel
theorem dX5_moment_15 : decode cX5_moment 15 = .ok (.aload_n 0, 1) := by decide +kernel
theorem dX5_moment_16 : decode cX5_moment 16 = .ok (.getfield 31, 3) := by decide +kernel
theorem dX5_moment_19 : decode cX5_moment 19 = .ok (.invokevirtual 169, 3) := by decide +kernel
theorem dX5_moment_22 : decode cX5_moment 22 = .ok (.ireturn, 1) := by decide +kernel
set_option maxRecDepth 20000 in
theorem ggX5_tell_X4_has : GoodIn wsX5_tell wsX4_has := goodIn_r _ [7, 8, 32, 33, 34, 35] (by decide +kernel) (by decide +kernel)
set_option maxRecDepth 20000 in
theorem gX5_tell_X4_has : GoodIn wsX5_tell (wsV RX5 172 RX4 yX4_has wsX4_has) := goodIn_app (goodIn_of _ (by decide +kernel)) ggX5_tell_X4_has
set_option maxRecDepth 20000 in
theorem ggX5_tell_X0_hasFact : GoodIn wsX5_tell wsX0_hasFact := goodIn_r _ [13, 14, 36, 37, 38, 39, 40, 41, 42, 43, 44, 45, 46] (by decide +kernel) (by decide +kernel)
set_option maxRecDepth 20000 in
theorem gX5_tell_X0_hasFact : GoodIn wsX5_tell (wsV RX5 76 RX0 yX0_hasFact wsX0_hasFact) := goodIn_app (goodIn_of _ (by decide +kernel)) ggX5_tell_X0_hasFact
set_option maxRecDepth 20000 in
theorem ggX5_tell_X4_hear : GoodIn wsX5_tell wsX4_hear := goodIn_r _ [18, 19, 20, 21, 22, 23, 32, 33, 34, 35] (by decide +kernel) (by decide +kernel)
set_option maxRecDepth 20000 in
theorem gX5_tell_X4_hear : GoodIn wsX5_tell (wsV RX5 175 RX4 yX4_hear wsX4_hear) := goodIn_app (goodIn_of _ (by decide +kernel)) ggX5_tell_X4_hear
theorem dX5_tell_0 : decode cX5_tell 0 = .ok (.aload_n 0, 1) := by decide +kernel
theorem dX5_tell_1 : decode cX5_tell 1 = .ok (.getfield 31, 3) := by decide +kernel
theorem dX5_tell_4 : decode cX5_tell 4 = .ok (.iload_n 1, 1) := by decide +kernel
theorem dX5_tell_5 : decode cX5_tell 5 = .ok (.invokevirtual 172, 3) := by decide +kernel
theorem dX5_tell_8 : decode cX5_tell 8 = .ok (.ifCond .eq 14, 3) := by decide +kernel
theorem dX5_tell_11 : decode cX5_tell 11 = .ok (.aload_n 0, 1) := by decide +kernel
theorem dX5_tell_12 : decode cX5_tell 12 = .ok (.getfield 10, 3) := by decide +kernel
theorem dX5_tell_15 : decode cX5_tell 15 = .ok (.iload_n 3, 1) := by decide +kernel
theorem dX5_tell_16 : decode cX5_tell 16 = .ok (.invokevirtual 76, 3) := by decide +kernel
theorem dX5_tell_19 : decode cX5_tell 19 = .ok (.ifCond .ne 5, 3) := by decide +kernel
theorem dX5_tell_22 : decode cX5_tell 22 = .ok (.iconst (-1), 1) := by decide +kernel
theorem dX5_tell_23 : decode cX5_tell 23 = .ok (.ireturn, 1) := by decide +kernel
theorem dX5_tell_24 : decode cX5_tell 24 = .ok (.iload_n 2, 1) := by decide +kernel
theorem dX5_tell_25 : decode cX5_tell 25 = .ok (.ifCond .lt 19, 3) := by decide +kernel
theorem dX5_tell_28 : decode cX5_tell 28 = .ok (.iload_n 2, 1) := by decide +kernel
theorem dX5_tell_29 : decode cX5_tell 29 = .ok (.iconst 3, 1) := by decide +kernel
theorem dX5_tell_30 : decode cX5_tell 30 = .ok (.if_icmp .ge 14, 3) := by decide +kernel
theorem dX5_tell_33 : decode cX5_tell 33 = .ok (.iload 4, 2) := by decide +kernel
theorem dX5_tell_35 : decode cX5_tell 35 = .ok (.ifCond .lt 9, 3) := by decide +kernel
theorem dX5_tell_38 : decode cX5_tell 38 = .ok (.iload 4, 2) := by decide +kernel
theorem dX5_tell_40 : decode cX5_tell 40 = .ok (.iconst 2, 1) := by decide +kernel
theorem dX5_tell_41 : decode cX5_tell 41 = .ok (.if_icmp .le 6, 3) := by decide +kernel
theorem dX5_tell_44 : decode cX5_tell 44 = .ok (.bipush (-2), 2) := by decide +kernel
theorem dX5_tell_46 : decode cX5_tell 46 = .ok (.ireturn, 1) := by decide +kernel
theorem dX5_tell_47 : decode cX5_tell 47 = .ok (.aload_n 0, 1) := by decide +kernel
theorem dX5_tell_48 : decode cX5_tell 48 = .ok (.getfield 31, 3) := by decide +kernel
theorem dX5_tell_51 : decode cX5_tell 51 = .ok (.iload_n 1, 1) := by decide +kernel
theorem dX5_tell_52 : decode cX5_tell 52 = .ok (.iload_n 2, 1) := by decide +kernel
theorem dX5_tell_53 : decode cX5_tell 53 = .ok (.iload_n 3, 1) := by decide +kernel
theorem dX5_tell_54 : decode cX5_tell 54 = .ok (.iload 4, 2) := by decide +kernel
theorem dX5_tell_56 : decode cX5_tell 56 = .ok (.invokevirtual 175, 3) := by decide +kernel
theorem dX5_tell_59 : decode cX5_tell 59 = .ok (.ireturn, 1) := by decide +kernel
set_option maxRecDepth 20000 in
theorem ggX5_known_X4_has : GoodIn wsX5_known wsX4_has := goodIn_r _ [7, 8, 45, 46, 47, 48] (by decide +kernel) (by decide +kernel)
set_option maxRecDepth 20000 in
theorem gX5_known_X4_has : GoodIn wsX5_known (wsV RX5 172 RX4 yX4_has wsX4_has) := goodIn_app (goodIn_of _ (by decide +kernel)) ggX5_known_X4_has
set_option maxRecDepth 20000 in
theorem ggX5_known_X4_knownSo : GoodIn wsX5_known wsX4_knownSo := goodIn_r _ [12, 13, 14, 15, 16, 6, 17, 45, 46, 47, 48] (by decide +kernel) (by decide +kernel)
set_option maxRecDepth 20000 in
theorem gX5_known_X4_knownSo : GoodIn wsX5_known (wsV RX5 179 RX4 yX4_knownSo wsX4_knownSo) := goodIn_app (goodIn_of _ (by decide +kernel)) ggX5_known_X4_knownSo
set_option maxRecDepth 20000 in
theorem ggX5_known_X4_knownNotSo : GoodIn wsX5_known wsX4_knownNotSo := goodIn_r _ [21, 14, 13, 15, 16, 6, 17, 45, 46, 47, 48] (by decide +kernel) (by decide +kernel)
set_option maxRecDepth 20000 in
theorem gX5_known_X4_knownNotSo : GoodIn wsX5_known (wsV RX5 182 RX4 yX4_knownNotSo wsX4_knownNotSo) := goodIn_app (goodIn_of _ (by decide +kernel)) ggX5_known_X4_knownNotSo
set_option maxRecDepth 20000 in
theorem ggX5_known_X0_allFacts : GoodIn wsX5_known wsX0_allFacts := goodIn_r _ [26, 27, 49, 50, 51, 52, 53, 54, 55, 56, 57, 58, 59] (by decide +kernel) (by decide +kernel)
set_option maxRecDepth 20000 in
theorem gX5_known_X0_allFacts : GoodIn wsX5_known (wsV RX5 185 RX0 yX0_allFacts wsX0_allFacts) := goodIn_app (goodIn_of _ (by decide +kernel)) ggX5_known_X0_allFacts
set_option maxRecDepth 20000 in
theorem ggX5_known_X0_countMayBe : GoodIn wsX5_known wsX0_countMayBe := goodIn_r _ [31, 27, 32, 33, 34, 25, 35, 36, 49, 50, 51, 52, 53, 54, 55, 56, 57, 58, 59] (by decide +kernel) (by decide +kernel)
set_option maxRecDepth 20000 in
theorem gX5_known_X0_countMayBe : GoodIn wsX5_known (wsV RX5 188 RX0 yX0_countMayBe wsX0_countMayBe) := goodIn_app (goodIn_of _ (by decide +kernel)) ggX5_known_X0_countMayBe
theorem dX5_known_0 : decode cX5_known 0 = .ok (.aload_n 0, 1) := by decide +kernel
theorem dX5_known_1 : decode cX5_known 1 = .ok (.getfield 31, 3) := by decide +kernel
theorem dX5_known_4 : decode cX5_known 4 = .ok (.iload_n 1, 1) := by decide +kernel
theorem dX5_known_5 : decode cX5_known 5 = .ok (.invokevirtual 172, 3) := by decide +kernel
theorem dX5_known_8 : decode cX5_known 8 = .ok (.ifCond .ne 5, 3) := by decide +kernel
theorem dX5_known_11 : decode cX5_known 11 = .ok (.iconst (-1), 1) := by decide +kernel
theorem dX5_known_12 : decode cX5_known 12 = .ok (.ireturn, 1) := by decide +kernel
theorem dX5_known_13 : decode cX5_known 13 = .ok (.aload_n 0, 1) := by decide +kernel
theorem dX5_known_14 : decode cX5_known 14 = .ok (.getfield 31, 3) := by decide +kernel
theorem dX5_known_17 : decode cX5_known 17 = .ok (.iload_n 1, 1) := by decide +kernel
theorem dX5_known_18 : decode cX5_known 18 = .ok (.invokevirtual 179, 3) := by decide +kernel
theorem dX5_known_21 : decode cX5_known 21 = .ok (.istore_n 3, 1) := by decide +kernel
theorem dX5_known_22 : decode cX5_known 22 = .ok (.aload_n 0, 1) := by decide +kernel
theorem dX5_known_23 : decode cX5_known 23 = .ok (.getfield 31, 3) := by decide +kernel
theorem dX5_known_26 : decode cX5_known 26 = .ok (.iload_n 1, 1) := by decide +kernel
theorem dX5_known_27 : decode cX5_known 27 = .ok (.invokevirtual 182, 3) := by decide +kernel
theorem dX5_known_30 : decode cX5_known 30 = .ok (.istore 4, 2) := by decide +kernel
theorem dX5_known_32 : decode cX5_known 32 = .ok (.iload_n 2, 1) := by decide +kernel
theorem dX5_known_33 : decode cX5_known 33 = .ok (.tableswitch 62 0 3 #[31, 33, 36, 51], 31) := by decide +kernel
theorem dX5_known_64 : decode cX5_known 64 = .ok (.iload_n 3, 1) := by decide +kernel
theorem dX5_known_65 : decode cX5_known 65 = .ok (.ireturn, 1) := by decide +kernel
theorem dX5_known_66 : decode cX5_known 66 = .ok (.iload 4, 2) := by decide +kernel
theorem dX5_known_68 : decode cX5_known 68 = .ok (.ireturn, 1) := by decide +kernel
theorem dX5_known_69 : decode cX5_known 69 = .ok (.aload_n 0, 1) := by decide +kernel
theorem dX5_known_70 : decode cX5_known 70 = .ok (.getfield 10, 3) := by decide +kernel
theorem dX5_known_73 : decode cX5_known 73 = .ok (.invokevirtual 185, 3) := by decide +kernel
theorem dX5_known_76 : decode cX5_known 76 = .ok (.iload_n 3, 1) := by decide +kernel
theorem dX5_known_77 : decode cX5_known 77 = .ok (.iload 4, 2) := by decide +kernel
theorem dX5_known_79 : decode cX5_known 79 = .ok (.ior, 1) := by decide +kernel
theorem dX5_known_80 : decode cX5_known 80 = .ok (.iconst (-1), 1) := by decide +kernel
theorem dX5_known_81 : decode cX5_known 81 = .ok (.ixor, 1) := by decide +kernel
theorem dX5_known_82 : decode cX5_known 82 = .ok (.iand, 1) := by decide +kernel
theorem dX5_known_83 : decode cX5_known 83 = .ok (.ireturn, 1) := by decide +kernel
theorem dX5_known_84 : decode cX5_known 84 = .ok (.aload_n 0, 1) := by decide +kernel
theorem dX5_known_85 : decode cX5_known 85 = .ok (.getfield 10, 3) := by decide +kernel
theorem dX5_known_88 : decode cX5_known 88 = .ok (.iload_n 3, 1) := by decide +kernel
theorem dX5_known_89 : decode cX5_known 89 = .ok (.iload 4, 2) := by decide +kernel
theorem dX5_known_91 : decode cX5_known 91 = .ok (.invokevirtual 188, 3) := by decide +kernel
theorem dX5_known_94 : decode cX5_known 94 = .ok (.ireturn, 1) := by decide +kernel
theorem dX5_known_95 : decode cX5_known 95 = .ok (.bipush (-2), 2) := by decide +kernel
theorem dX5_known_97 : decode cX5_known 97 = .ok (.ireturn, 1) := by decide +kernel
set_option maxRecDepth 20000 in
theorem ggX5_proof_X4_has : GoodIn wsX5_proof wsX4_has := goodIn_r _ [8, 9, 62, 63, 64, 65] (by decide +kernel) (by decide +kernel)
set_option maxRecDepth 20000 in
theorem gX5_proof_X4_has : GoodIn wsX5_proof (wsV RX5 172 RX4 yX4_has wsX4_has) := goodIn_app (goodIn_of _ (by decide +kernel)) ggX5_proof_X4_has
set_option maxRecDepth 20000 in
theorem ggX5_proof_X5_isRuling : GoodIn wsX5_proof wsX5_isRuling := goodIn_r _ [13] (by decide +kernel) (by decide +kernel)
set_option maxRecDepth 20000 in
theorem gX5_proof_X5_isRuling : GoodIn wsX5_proof (va_wsS RX5 95 yX5_isRuling wsX5_isRuling) := goodIn_app (goodIn_of _ (by decide +kernel)) ggX5_proof_X5_isRuling
set_option maxRecDepth 20000 in
theorem ggX5_proof_X4_knownSo : GoodIn wsX5_proof wsX4_knownSo := goodIn_r _ [17, 18, 19, 20, 21, 7, 22, 62, 63, 64, 65] (by decide +kernel) (by decide +kernel)
set_option maxRecDepth 20000 in
theorem gX5_proof_X4_knownSo : GoodIn wsX5_proof (wsV RX5 179 RX4 yX4_knownSo wsX4_knownSo) := goodIn_app (goodIn_of _ (by decide +kernel)) ggX5_proof_X4_knownSo
set_option maxRecDepth 20000 in
theorem ggX5_proof_X4_knownNotSo : GoodIn wsX5_proof wsX4_knownNotSo := goodIn_r _ [26, 19, 18, 20, 21, 7, 22, 62, 63, 64, 65] (by decide +kernel) (by decide +kernel)
set_option maxRecDepth 20000 in
theorem gX5_proof_X4_knownNotSo : GoodIn wsX5_proof (wsV RX5 182 RX4 yX4_knownNotSo wsX4_knownNotSo) := goodIn_app (goodIn_of _ (by decide +kernel)) ggX5_proof_X4_knownNotSo
set_option maxRecDepth 20000 in
theorem ggX5_proof_X3_countMayBeRuled : GoodIn wsX5_proof wsX3_countMayBeRuled := goodIn_r _ [31, 32, 33, 34, 35, 36, 37, 38, 39, 40, 41, 30, 42, 43, 44, 45, 46, 47, 66, 67, 68, 69, 70, 71, 72, 73, 74, 75, 76, 77, 78] (by decide +kernel) (by decide +kernel)
set_option maxRecDepth 20000 in
theorem gX5_proof_X3_countMayBeRuled : GoodIn wsX5_proof (wsV RX5 191 RX3 yX3_countMayBeRuled wsX3_countMayBeRuled) := goodIn_app (goodIn_of _ (by decide +kernel)) ggX5_proof_X3_countMayBeRuled
set_option maxRecDepth 20000 in
theorem ggX5_proof_X0_countMayBe : GoodIn wsX5_proof wsX0_countMayBe := goodIn_r _ [51, 52, 53, 34, 35, 36, 37, 38, 68, 69, 70, 71, 72, 73, 74, 75, 76, 77, 78] (by decide +kernel) (by decide +kernel)
set_option maxRecDepth 20000 in
theorem gX5_proof_X0_countMayBe : GoodIn wsX5_proof (wsV RX5 188 RX0 yX0_countMayBe wsX0_countMayBe) := goodIn_app (goodIn_of _ (by decide +kernel)) ggX5_proof_X0_countMayBe
theorem dX5_proof_0 : decode cX5_proof 0 = .ok (.aload_n 0, 1) := by decide +kernel
theorem dX5_proof_1 : decode cX5_proof 1 = .ok (.getfield 31, 3) := by decide +kernel
theorem dX5_proof_4 : decode cX5_proof 4 = .ok (.iload_n 1, 1) := by decide +kernel
theorem dX5_proof_5 : decode cX5_proof 5 = .ok (.invokevirtual 172, 3) := by decide +kernel
theorem dX5_proof_8 : decode cX5_proof 8 = .ok (.ifCond .ne 5, 3) := by decide +kernel
theorem dX5_proof_11 : decode cX5_proof 11 = .ok (.iconst (-1), 1) := by decide +kernel
theorem dX5_proof_12 : decode cX5_proof 12 = .ok (.ireturn, 1) := by decide +kernel
theorem dX5_proof_13 : decode cX5_proof 13 = .ok (.iload_n 2, 1) := by decide +kernel
theorem dX5_proof_14 : decode cX5_proof 14 = .ok (.invokestatic 95, 3) := by decide +kernel
theorem dX5_proof_17 : decode cX5_proof 17 = .ok (.ifCond .ne 6, 3) := by decide +kernel
theorem dX5_proof_20 : decode cX5_proof 20 = .ok (.bipush (-2), 2) := by decide +kernel
theorem dX5_proof_22 : decode cX5_proof 22 = .ok (.ireturn, 1) := by decide +kernel
theorem dX5_proof_23 : decode cX5_proof 23 = .ok (.aload_n 0, 1) := by decide +kernel
theorem dX5_proof_24 : decode cX5_proof 24 = .ok (.getfield 31, 3) := by decide +kernel
theorem dX5_proof_27 : decode cX5_proof 27 = .ok (.iload_n 1, 1) := by decide +kernel
theorem dX5_proof_28 : decode cX5_proof 28 = .ok (.invokevirtual 179, 3) := by decide +kernel
theorem dX5_proof_31 : decode cX5_proof 31 = .ok (.istore_n 3, 1) := by decide +kernel
theorem dX5_proof_32 : decode cX5_proof 32 = .ok (.aload_n 0, 1) := by decide +kernel
theorem dX5_proof_33 : decode cX5_proof 33 = .ok (.getfield 31, 3) := by decide +kernel
theorem dX5_proof_36 : decode cX5_proof 36 = .ok (.iload_n 1, 1) := by decide +kernel
theorem dX5_proof_37 : decode cX5_proof 37 = .ok (.invokevirtual 182, 3) := by decide +kernel
theorem dX5_proof_40 : decode cX5_proof 40 = .ok (.istore 4, 2) := by decide +kernel
theorem dX5_proof_42 : decode cX5_proof 42 = .ok (.aload_n 0, 1) := by decide +kernel
theorem dX5_proof_43 : decode cX5_proof 43 = .ok (.getfield 21, 3) := by decide +kernel
theorem dX5_proof_46 : decode cX5_proof 46 = .ok (.iload_n 3, 1) := by decide +kernel
theorem dX5_proof_47 : decode cX5_proof 47 = .ok (.iload 4, 2) := by decide +kernel
theorem dX5_proof_49 : decode cX5_proof 49 = .ok (.iload_n 2, 1) := by decide +kernel
theorem dX5_proof_50 : decode cX5_proof 50 = .ok (.invokevirtual 191, 3) := by decide +kernel
theorem dX5_proof_53 : decode cX5_proof 53 = .ok (.istore 5, 2) := by decide +kernel
theorem dX5_proof_55 : decode cX5_proof 55 = .ok (.iload 5, 2) := by decide +kernel
theorem dX5_proof_57 : decode cX5_proof 57 = .ok (.ifCond .ne 5, 3) := by decide +kernel
theorem dX5_proof_60 : decode cX5_proof 60 = .ok (.iconst 0, 1) := by decide +kernel
theorem dX5_proof_61 : decode cX5_proof 61 = .ok (.ireturn, 1) := by decide +kernel
theorem dX5_proof_62 : decode cX5_proof 62 = .ok (.iload 5, 2) := by decide +kernel
theorem dX5_proof_64 : decode cX5_proof 64 = .ok (.aload_n 0, 1) := by decide +kernel
theorem dX5_proof_65 : decode cX5_proof 65 = .ok (.getfield 10, 3) := by decide +kernel
theorem dX5_proof_68 : decode cX5_proof 68 = .ok (.iload_n 3, 1) := by decide +kernel
theorem dX5_proof_69 : decode cX5_proof 69 = .ok (.iload 4, 2) := by decide +kernel
theorem dX5_proof_71 : decode cX5_proof 71 = .ok (.invokevirtual 188, 3) := by decide +kernel
theorem dX5_proof_74 : decode cX5_proof 74 = .ok (.if_icmp .ne 7, 3) := by decide +kernel
theorem dX5_proof_77 : decode cX5_proof 77 = .ok (.iconst 2, 1) := by decide +kernel
theorem dX5_proof_78 : decode cX5_proof 78 = .ok (.goto 4, 3) := by decide +kernel
theorem dX5_proof_81 : decode cX5_proof 81 = .ok (.iconst 1, 1) := by decide +kernel
theorem dX5_proof_82 : decode cX5_proof 82 = .ok (.ireturn, 1) := by decide +kernel
set_option maxRecDepth 20000 in
theorem ggX5_binds_X4_has : GoodIn wsX5_binds wsX4_has := goodIn_r _ [7, 8, 38, 39, 40, 41] (by decide +kernel) (by decide +kernel)
set_option maxRecDepth 20000 in
theorem gX5_binds_X4_has : GoodIn wsX5_binds (wsV RX5 172 RX4 yX4_has wsX4_has) := goodIn_app (goodIn_of _ (by decide +kernel)) ggX5_binds_X4_has
set_option maxRecDepth 20000 in
theorem ggX5_binds_X4_knownSo : GoodIn wsX5_binds wsX4_knownSo := goodIn_r _ [12, 13, 14, 15, 16, 6, 17, 38, 39, 40, 41] (by decide +kernel) (by decide +kernel)
set_option maxRecDepth 20000 in
theorem gX5_binds_X4_knownSo : GoodIn wsX5_binds (wsV RX5 179 RX4 yX4_knownSo wsX4_knownSo) := goodIn_app (goodIn_of _ (by decide +kernel)) ggX5_binds_X4_knownSo
set_option maxRecDepth 20000 in
theorem ggX5_binds_X4_knownNotSo : GoodIn wsX5_binds wsX4_knownNotSo := goodIn_r _ [21, 14, 13, 15, 16, 6, 17, 38, 39, 40, 41] (by decide +kernel) (by decide +kernel)
set_option maxRecDepth 20000 in
theorem gX5_binds_X4_knownNotSo : GoodIn wsX5_binds (wsV RX5 182 RX4 yX4_knownNotSo wsX4_knownNotSo) := goodIn_app (goodIn_of _ (by decide +kernel)) ggX5_binds_X4_knownNotSo
set_option maxRecDepth 20000 in
theorem ggX5_binds_X1_firstThatBinds : GoodIn wsX5_binds wsX1_firstThatBinds := goodIn_r _ [26, 27, 28, 29, 42, 43, 44, 45] (by decide +kernel) (by decide +kernel)
set_option maxRecDepth 20000 in
theorem gX5_binds_X1_firstThatBinds : GoodIn wsX5_binds (wsV RX5 194 RX1 yX1_firstThatBinds wsX1_firstThatBinds) := goodIn_app (goodIn_of _ (by decide +kernel)) ggX5_binds_X1_firstThatBinds
theorem dX5_binds_0 : decode cX5_binds 0 = .ok (.aload_n 0, 1) := by decide +kernel
theorem dX5_binds_1 : decode cX5_binds 1 = .ok (.getfield 31, 3) := by decide +kernel
theorem dX5_binds_4 : decode cX5_binds 4 = .ok (.iload_n 1, 1) := by decide +kernel
theorem dX5_binds_5 : decode cX5_binds 5 = .ok (.invokevirtual 172, 3) := by decide +kernel
theorem dX5_binds_8 : decode cX5_binds 8 = .ok (.ifCond .ne 5, 3) := by decide +kernel
theorem dX5_binds_11 : decode cX5_binds 11 = .ok (.iconst (-1), 1) := by decide +kernel
theorem dX5_binds_12 : decode cX5_binds 12 = .ok (.ireturn, 1) := by decide +kernel
theorem dX5_binds_13 : decode cX5_binds 13 = .ok (.aload_n 0, 1) := by decide +kernel
theorem dX5_binds_14 : decode cX5_binds 14 = .ok (.getfield 38, 3) := by decide +kernel
theorem dX5_binds_17 : decode cX5_binds 17 = .ok (.aload_n 0, 1) := by decide +kernel
theorem dX5_binds_18 : decode cX5_binds 18 = .ok (.getfield 31, 3) := by decide +kernel
theorem dX5_binds_21 : decode cX5_binds 21 = .ok (.iload_n 1, 1) := by decide +kernel
theorem dX5_binds_22 : decode cX5_binds 22 = .ok (.invokevirtual 179, 3) := by decide +kernel
theorem dX5_binds_25 : decode cX5_binds 25 = .ok (.aload_n 0, 1) := by decide +kernel
theorem dX5_binds_26 : decode cX5_binds 26 = .ok (.getfield 31, 3) := by decide +kernel
theorem dX5_binds_29 : decode cX5_binds 29 = .ok (.iload_n 1, 1) := by decide +kernel
theorem dX5_binds_30 : decode cX5_binds 30 = .ok (.invokevirtual 182, 3) := by decide +kernel
theorem dX5_binds_33 : decode cX5_binds 33 = .ok (.invokevirtual 194, 3) := by decide +kernel
theorem dX5_binds_36 : decode cX5_binds 36 = .ok (.ireturn, 1) := by decide +kernel
set_option maxRecDepth 20000 in
theorem ggX5_verdict_X4_has : GoodIn wsX5_verdict wsX4_has := goodIn_r _ [7, 8, 72, 73, 74, 75] (by decide +kernel) (by decide +kernel)
set_option maxRecDepth 20000 in
theorem gX5_verdict_X4_has : GoodIn wsX5_verdict (wsV RX5 172 RX4 yX4_has wsX4_has) := goodIn_app (goodIn_of _ (by decide +kernel)) ggX5_verdict_X4_has
set_option maxRecDepth 20000 in
theorem ggX5_verdict_X5_verdictUnder : GoodIn wsX5_verdict wsX5_verdictUnder := goodIn_r _ [13, 1, 14, 15, 16, 17, 18, 6, 19, 20, 21, 22, 23, 24, 25, 26, 27, 28, 29, 30, 31, 32, 33, 34, 35, 36, 37, 38, 39, 40, 41, 42, 43, 44, 45, 46, 47, 48, 49, 50, 51, 52, 53, 54, 55, 56, 57, 58, 59, 60, 61, 62, 63, 64, 65, 66, 67, 68, 69, 70, 71, 72, 73, 74, 75, 76, 77, 78, 79, 80, 81, 82, 83, 84, 85, 86, 87, 88, 89, 90, 91, 92] (by decide +kernel) (by decide +kernel)
set_option maxRecDepth 20000 in
theorem gX5_verdict_X5_verdictUnder : GoodIn wsX5_verdict (wsV RX5 197 RX5 yX5_verdictUnder wsX5_verdictUnder) := goodIn_app (goodIn_of _ (by decide +kernel)) ggX5_verdict_X5_verdictUnder
theorem dX5_verdict_0 : decode cX5_verdict 0 = .ok (.aload_n 0, 1) := by decide +kernel
theorem dX5_verdict_1 : decode cX5_verdict 1 = .ok (.getfield 31, 3) := by decide +kernel
theorem dX5_verdict_4 : decode cX5_verdict 4 = .ok (.iload_n 1, 1) := by decide +kernel
theorem dX5_verdict_5 : decode cX5_verdict 5 = .ok (.invokevirtual 172, 3) := by decide +kernel
theorem dX5_verdict_8 : decode cX5_verdict 8 = .ok (.ifCond .ne 5, 3) := by decide +kernel
theorem dX5_verdict_11 : decode cX5_verdict 11 = .ok (.iconst (-1), 1) := by decide +kernel
theorem dX5_verdict_12 : decode cX5_verdict 12 = .ok (.ireturn, 1) := by decide +kernel
theorem dX5_verdict_13 : decode cX5_verdict 13 = .ok (.aload_n 0, 1) := by decide +kernel
theorem dX5_verdict_14 : decode cX5_verdict 14 = .ok (.aload_n 0, 1) := by decide +kernel
theorem dX5_verdict_15 : decode cX5_verdict 15 = .ok (.getfield 21, 3) := by decide +kernel
theorem dX5_verdict_18 : decode cX5_verdict 18 = .ok (.iload_n 1, 1) := by decide +kernel
theorem dX5_verdict_19 : decode cX5_verdict 19 = .ok (.invokevirtual 197, 3) := by decide +kernel
theorem dX5_verdict_22 : decode cX5_verdict 22 = .ok (.ireturn, 1) := by decide +kernel
set_option maxRecDepth 20000 in
theorem ggX5_rule_X4_has : GoodIn wsX5_rule wsX4_has := goodIn_r _ [7, 8, 75, 76, 77, 78] (by decide +kernel) (by decide +kernel)
set_option maxRecDepth 20000 in
theorem gX5_rule_X4_has : GoodIn wsX5_rule (wsV RX5 172 RX4 yX4_has wsX4_has) := goodIn_app (goodIn_of _ (by decide +kernel)) ggX5_rule_X4_has
set_option maxRecDepth 20000 in
theorem ggX5_rule_X5_isRuling : GoodIn wsX5_rule wsX5_isRuling := goodIn_r _ [12] (by decide +kernel) (by decide +kernel)
set_option maxRecDepth 20000 in
theorem gX5_rule_X5_isRuling : GoodIn wsX5_rule (va_wsS RX5 95 yX5_isRuling wsX5_isRuling) := goodIn_app (goodIn_of _ (by decide +kernel)) ggX5_rule_X5_isRuling
set_option maxRecDepth 20000 in
theorem ggX5_rule_X5_verdictUnder : GoodIn wsX5_rule wsX5_verdictUnder := goodIn_r _ [16, 1, 17, 18, 19, 20, 21, 6, 22, 23, 24, 25, 26, 27, 28, 29, 30, 31, 32, 33, 34, 35, 36, 37, 38, 39, 40, 41, 42, 43, 44, 45, 46, 47, 48, 49, 50, 51, 52, 53, 54, 55, 56, 57, 58, 59, 60, 61, 62, 63, 64, 65, 66, 67, 68, 69, 70, 71, 72, 73, 74, 75, 76, 77, 78, 79, 80, 81, 82, 83, 84, 85, 86, 87, 88, 89, 90, 91, 92, 93, 94, 95] (by decide +kernel) (by decide +kernel)
set_option maxRecDepth 20000 in
theorem gX5_rule_X5_verdictUnder : GoodIn wsX5_rule (wsV RX5 197 RX5 yX5_verdictUnder wsX5_verdictUnder) := goodIn_app (goodIn_of _ (by decide +kernel)) ggX5_rule_X5_verdictUnder
theorem dX5_rule_0 : decode cX5_rule 0 = .ok (.aload_n 0, 1) := by decide +kernel
theorem dX5_rule_1 : decode cX5_rule 1 = .ok (.getfield 31, 3) := by decide +kernel
theorem dX5_rule_4 : decode cX5_rule 4 = .ok (.iload_n 1, 1) := by decide +kernel
theorem dX5_rule_5 : decode cX5_rule 5 = .ok (.invokevirtual 172, 3) := by decide +kernel
theorem dX5_rule_8 : decode cX5_rule 8 = .ok (.ifCond .ne 5, 3) := by decide +kernel
theorem dX5_rule_11 : decode cX5_rule 11 = .ok (.iconst (-1), 1) := by decide +kernel
theorem dX5_rule_12 : decode cX5_rule 12 = .ok (.ireturn, 1) := by decide +kernel
theorem dX5_rule_13 : decode cX5_rule 13 = .ok (.iload_n 2, 1) := by decide +kernel
theorem dX5_rule_14 : decode cX5_rule 14 = .ok (.iconst (-1), 1) := by decide +kernel
theorem dX5_rule_15 : decode cX5_rule 15 = .ok (.if_icmp .eq 13, 3) := by decide +kernel
theorem dX5_rule_18 : decode cX5_rule 18 = .ok (.iload_n 2, 1) := by decide +kernel
theorem dX5_rule_19 : decode cX5_rule 19 = .ok (.invokestatic 95, 3) := by decide +kernel
theorem dX5_rule_22 : decode cX5_rule 22 = .ok (.ifCond .ne 6, 3) := by decide +kernel
theorem dX5_rule_25 : decode cX5_rule 25 = .ok (.bipush (-2), 2) := by decide +kernel
theorem dX5_rule_27 : decode cX5_rule 27 = .ok (.ireturn, 1) := by decide +kernel
theorem dX5_rule_28 : decode cX5_rule 28 = .ok (.aload_n 0, 1) := by decide +kernel
theorem dX5_rule_29 : decode cX5_rule 29 = .ok (.aload_n 0, 1) := by decide +kernel
theorem dX5_rule_30 : decode cX5_rule 30 = .ok (.getfield 21, 3) := by decide +kernel
theorem dX5_rule_33 : decode cX5_rule 33 = .ok (.iload_n 1, 1) := by decide +kernel
theorem dX5_rule_34 : decode cX5_rule 34 = .ok (.invokevirtual 197, 3) := by decide +kernel
theorem dX5_rule_37 : decode cX5_rule 37 = .ok (.istore_n 3, 1) := by decide +kernel
theorem dX5_rule_38 : decode cX5_rule 38 = .ok (.aload_n 0, 1) := by decide +kernel
theorem dX5_rule_39 : decode cX5_rule 39 = .ok (.getfield 31, 3) := by decide +kernel
theorem dX5_rule_42 : decode cX5_rule 42 = .ok (.getfield 201, 3) := by decide +kernel
theorem dX5_rule_45 : decode cX5_rule 45 = .ok (.iload_n 1, 1) := by decide +kernel
theorem dX5_rule_46 : decode cX5_rule 46 = .ok (.iload_n 2, 1) := by decide +kernel
theorem dX5_rule_47 : decode cX5_rule 47 = .ok (.iastore, 1) := by decide +kernel
theorem dX5_rule_48 : decode cX5_rule 48 = .ok (.iload_n 3, 1) := by decide +kernel
theorem dX5_rule_49 : decode cX5_rule 49 = .ok (.ireturn, 1) := by decide +kernel
set_option maxRecDepth 20000 in
theorem ggX5_make_X4_has : GoodIn wsX5_make wsX4_has := goodIn_r _ [9, 10, 103, 104, 105, 106] (by decide +kernel) (by decide +kernel)
set_option maxRecDepth 20000 in
theorem gX5_make_X4_has : GoodIn wsX5_make (wsV RX5 172 RX4 yX4_has wsX4_has) := goodIn_app (goodIn_of _ (by decide +kernel)) ggX5_make_X4_has
set_option maxRecDepth 20000 in
theorem ggX5_make_X4_knownSo : GoodIn wsX5_make wsX4_knownSo := goodIn_r _ [14, 15, 16, 17, 18, 8, 19, 103, 104, 105, 106] (by decide +kernel) (by decide +kernel)
set_option maxRecDepth 20000 in
theorem gX5_make_X4_knownSo : GoodIn wsX5_make (wsV RX5 179 RX4 yX4_knownSo wsX4_knownSo) := goodIn_app (goodIn_of _ (by decide +kernel)) ggX5_make_X4_knownSo
set_option maxRecDepth 20000 in
theorem ggX5_make_X4_knownNotSo : GoodIn wsX5_make wsX4_knownNotSo := goodIn_r _ [23, 16, 15, 17, 18, 8, 19, 103, 104, 105, 106] (by decide +kernel) (by decide +kernel)
set_option maxRecDepth 20000 in
theorem gX5_make_X4_knownNotSo : GoodIn wsX5_make (wsV RX5 182 RX4 yX4_knownNotSo wsX4_knownNotSo) := goodIn_app (goodIn_of _ (by decide +kernel)) ggX5_make_X4_knownNotSo
set_option maxRecDepth 20000 in
theorem ggX5_make_X0_allFacts : GoodIn wsX5_make wsX0_allFacts := goodIn_r _ [28, 29, 107, 108, 109, 110, 111, 112, 113, 114, 115, 116, 117] (by decide +kernel) (by decide +kernel)
set_option maxRecDepth 20000 in
theorem gX5_make_X0_allFacts : GoodIn wsX5_make (wsV RX5 185 RX0 yX0_allFacts wsX0_allFacts) := goodIn_app (goodIn_of _ (by decide +kernel)) ggX5_make_X0_allFacts
set_option maxRecDepth 20000 in
theorem ggX5_make_X0_hasKind : GoodIn wsX5_make wsX0_hasKind := goodIn_r _ [33, 29, 34, 107, 108, 109, 110, 111, 112, 113, 114, 115, 116, 117] (by decide +kernel) (by decide +kernel)
set_option maxRecDepth 20000 in
theorem gX5_make_X0_hasKind : GoodIn wsX5_make (wsV RX5 143 RX0 yX0_hasKind wsX0_hasKind) := goodIn_app (goodIn_of _ (by decide +kernel)) ggX5_make_X0_hasKind
set_option maxRecDepth 20000 in
theorem ggX5_make_X3_covers : GoodIn wsX5_make wsX3_covers := goodIn_r _ [39, 40, 101, 102] (by decide +kernel) (by decide +kernel)
set_option maxRecDepth 20000 in
theorem gX5_make_X3_covers : GoodIn wsX5_make (wsV RX5 162 RX3 yX3_covers wsX3_covers) := goodIn_app (goodIn_of _ (by decide +kernel)) ggX5_make_X3_covers
set_option maxRecDepth 20000 in
theorem ggX5_make_X0_namedBy : GoodIn wsX5_make wsX0_namedBy := goodIn_r _ [44, 45, 46, 47, 48, 49, 50, 51, 52, 107, 108, 109, 110, 111, 112, 113, 114, 115, 116, 117] (by decide +kernel) (by decide +kernel)
set_option maxRecDepth 20000 in
theorem gX5_make_X0_namedBy : GoodIn wsX5_make (wsV RX5 140 RX0 yX0_namedBy wsX0_namedBy) := goodIn_app (goodIn_of _ (by decide +kernel)) ggX5_make_X0_namedBy
set_option maxRecDepth 20000 in
theorem ggX5_make_X5_verdictUnder : GoodIn wsX5_make wsX5_verdictUnder := goodIn_r _ [56, 1, 2, 3, 11, 12, 13, 8, 14, 15, 16, 17, 18, 19, 20, 21, 22, 23, 57, 58, 59, 27, 60, 29, 61, 62, 63, 64, 34, 65, 66, 67, 68, 69, 70, 71, 72, 73, 74, 75, 38, 76, 77, 78, 79, 80, 81, 82, 40, 83, 36, 37, 39, 89, 90, 91, 92, 93, 94, 95, 96, 103, 104, 105, 106, 97, 98, 99, 100, 107, 108, 109, 110, 111, 112, 113, 114, 115, 116, 117, 101, 102] (by decide +kernel) (by decide +kernel)
set_option maxRecDepth 20000 in
theorem gX5_make_X5_verdictUnder : GoodIn wsX5_make (wsV RX5 197 RX5 yX5_verdictUnder wsX5_verdictUnder) := goodIn_app (goodIn_of _ (by decide +kernel)) ggX5_make_X5_verdictUnder
set_option maxRecDepth 20000 in
theorem ggX5_make_X1_add : GoodIn wsX5_make wsX1_add := goodIn_r _ [87, 70, 72, 88, 71, 97, 98, 99, 100] (by decide +kernel) (by decide +kernel)
set_option maxRecDepth 20000 in
theorem gX5_make_X1_add : GoodIn wsX5_make (wsV RX5 204 RX1 yX1_add wsX1_add) := goodIn_app (goodIn_of _ (by decide +kernel)) ggX5_make_X1_add
theorem dX5_make_0 : decode cX5_make 0 = .ok (.aload_n 0, 1) := by decide +kernel
theorem dX5_make_1 : decode cX5_make 1 = .ok (.getfield 31, 3) := by decide +kernel
theorem dX5_make_4 : decode cX5_make 4 = .ok (.iload_n 1, 1) := by decide +kernel
theorem dX5_make_5 : decode cX5_make 5 = .ok (.invokevirtual 172, 3) := by decide +kernel
theorem dX5_make_8 : decode cX5_make 8 = .ok (.ifCond .ne 5, 3) := by decide +kernel
theorem dX5_make_11 : decode cX5_make 11 = .ok (.iconst (-1), 1) := by decide +kernel
theorem dX5_make_12 : decode cX5_make 12 = .ok (.ireturn, 1) := by decide +kernel
theorem dX5_make_13 : decode cX5_make 13 = .ok (.aload_n 0, 1) := by decide +kernel
theorem dX5_make_14 : decode cX5_make 14 = .ok (.getfield 31, 3) := by decide +kernel
theorem dX5_make_17 : decode cX5_make 17 = .ok (.iload_n 1, 1) := by decide +kernel
theorem dX5_make_18 : decode cX5_make 18 = .ok (.invokevirtual 179, 3) := by decide +kernel
theorem dX5_make_21 : decode cX5_make 21 = .ok (.istore_n 2, 1) := by decide +kernel
theorem dX5_make_22 : decode cX5_make 22 = .ok (.aload_n 0, 1) := by decide +kernel
theorem dX5_make_23 : decode cX5_make 23 = .ok (.getfield 31, 3) := by decide +kernel
theorem dX5_make_26 : decode cX5_make 26 = .ok (.iload_n 1, 1) := by decide +kernel
theorem dX5_make_27 : decode cX5_make 27 = .ok (.invokevirtual 182, 3) := by decide +kernel
theorem dX5_make_30 : decode cX5_make 30 = .ok (.istore_n 3, 1) := by decide +kernel
theorem dX5_make_31 : decode cX5_make 31 = .ok (.iload_n 2, 1) := by decide +kernel
theorem dX5_make_32 : decode cX5_make 32 = .ok (.iload_n 3, 1) := by decide +kernel
theorem dX5_make_33 : decode cX5_make 33 = .ok (.ior, 1) := by decide +kernel
theorem dX5_make_34 : decode cX5_make 34 = .ok (.aload_n 0, 1) := by decide +kernel
theorem dX5_make_35 : decode cX5_make 35 = .ok (.getfield 10, 3) := by decide +kernel
theorem dX5_make_38 : decode cX5_make 38 = .ok (.invokevirtual 185, 3) := by decide +kernel
theorem dX5_make_41 : decode cX5_make 41 = .ok (.if_icmp .ne 14, 3) := by decide +kernel
theorem dX5_make_44 : decode cX5_make 44 = .ok (.aload_n 0, 1) := by decide +kernel
theorem dX5_make_45 : decode cX5_make 45 = .ok (.getfield 10, 3) := by decide +kernel
theorem dX5_make_48 : decode cX5_make 48 = .ok (.iload_n 2, 1) := by decide +kernel
theorem dX5_make_49 : decode cX5_make 49 = .ok (.invokevirtual 143, 3) := by decide +kernel
theorem dX5_make_52 : decode cX5_make 52 = .ok (.ifCond .ne 6, 3) := by decide +kernel
theorem dX5_make_55 : decode cX5_make 55 = .ok (.bipush (-3), 2) := by decide +kernel
theorem dX5_make_57 : decode cX5_make 57 = .ok (.ireturn, 1) := by decide +kernel
theorem dX5_make_58 : decode cX5_make 58 = .ok (.aload_n 0, 1) := by decide +kernel
theorem dX5_make_59 : decode cX5_make 59 = .ok (.getfield 38, 3) := by decide +kernel
theorem dX5_make_62 : decode cX5_make 62 = .ok (.getfield 66, 3) := by decide +kernel
theorem dX5_make_65 : decode cX5_make 65 = .ok (.bipush 12, 2) := by decide +kernel
theorem dX5_make_67 : decode cX5_make 67 = .ok (.if_icmp .lt 6, 3) := by decide +kernel
theorem dX5_make_70 : decode cX5_make 70 = .ok (.bipush (-4), 2) := by decide +kernel
theorem dX5_make_72 : decode cX5_make 72 = .ok (.ireturn, 1) := by decide +kernel
theorem dX5_make_73 : decode cX5_make 73 = .ok (.aload_n 0, 1) := by decide +kernel
theorem dX5_make_74 : decode cX5_make 74 = .ok (.getfield 21, 3) := by decide +kernel
theorem dX5_make_77 : decode cX5_make 77 = .ok (.iload_n 2, 1) := by decide +kernel
theorem dX5_make_78 : decode cX5_make 78 = .ok (.invokevirtual 162, 3) := by decide +kernel
theorem dX5_make_81 : decode cX5_make 81 = .ok (.ifCond .eq 22, 3) := by decide +kernel
theorem dX5_make_84 : decode cX5_make 84 = .ok (.aload_n 0, 1) := by decide +kernel
theorem dX5_make_85 : decode cX5_make 85 = .ok (.getfield 10, 3) := by decide +kernel
theorem dX5_make_88 : decode cX5_make 88 = .ok (.aload_n 0, 1) := by decide +kernel
theorem dX5_make_89 : decode cX5_make 89 = .ok (.getfield 21, 3) := by decide +kernel
theorem dX5_make_92 : decode cX5_make 92 = .ok (.getfield 153, 3) := by decide +kernel
theorem dX5_make_95 : decode cX5_make 95 = .ok (.iload_n 2, 1) := by decide +kernel
theorem dX5_make_96 : decode cX5_make 96 = .ok (.iaload, 1) := by decide +kernel
theorem dX5_make_97 : decode cX5_make 97 = .ok (.invokevirtual 140, 3) := by decide +kernel
theorem dX5_make_100 : decode cX5_make 100 = .ok (.goto 10, 3) := by decide +kernel
theorem dX5_make_103 : decode cX5_make 103 = .ok (.aload_n 0, 1) := by decide +kernel
theorem dX5_make_104 : decode cX5_make 104 = .ok (.getfield 10, 3) := by decide +kernel
theorem dX5_make_107 : decode cX5_make 107 = .ok (.invokevirtual 185, 3) := by decide +kernel
theorem dX5_make_110 : decode cX5_make 110 = .ok (.istore 4, 2) := by decide +kernel
theorem dX5_make_112 : decode cX5_make 112 = .ok (.aload_n 0, 1) := by decide +kernel
theorem dX5_make_113 : decode cX5_make 113 = .ok (.getfield 38, 3) := by decide +kernel
theorem dX5_make_116 : decode cX5_make 116 = .ok (.iload_n 2, 1) := by decide +kernel
theorem dX5_make_117 : decode cX5_make 117 = .ok (.aload_n 0, 1) := by decide +kernel
theorem dX5_make_118 : decode cX5_make 118 = .ok (.aload_n 0, 1) := by decide +kernel
theorem dX5_make_119 : decode cX5_make 119 = .ok (.getfield 21, 3) := by decide +kernel
theorem dX5_make_122 : decode cX5_make 122 = .ok (.iload_n 1, 1) := by decide +kernel
theorem dX5_make_123 : decode cX5_make 123 = .ok (.invokevirtual 197, 3) := by decide +kernel
theorem dX5_make_126 : decode cX5_make 126 = .ok (.iload 4, 2) := by decide +kernel
theorem dX5_make_128 : decode cX5_make 128 = .ok (.invokevirtual 204, 3) := by decide +kernel
theorem dX5_make_131 : decode cX5_make 131 = .ok (.ireturn, 1) := by decide +kernel
set_option maxRecDepth 20000 in
theorem ggX5_ofCase_X1_has : GoodIn wsX5_ofCase wsX1_has := goodIn_r _ [6, 7, 16, 17, 18, 19] (by decide +kernel) (by decide +kernel)
set_option maxRecDepth 20000 in
theorem gX5_ofCase_X1_has : GoodIn wsX5_ofCase (wsV RX5 206 RX1 yX1_has wsX1_has) := goodIn_app (goodIn_of _ (by decide +kernel)) ggX5_ofCase_X1_has
theorem dX5_ofCase_0 : decode cX5_ofCase 0 = .ok (.aload_n 0, 1) := by decide +kernel
theorem dX5_ofCase_1 : decode cX5_ofCase 1 = .ok (.getfield 38, 3) := by decide +kernel
theorem dX5_ofCase_4 : decode cX5_ofCase 4 = .ok (.iload_n 1, 1) := by decide +kernel
theorem dX5_ofCase_5 : decode cX5_ofCase 5 = .ok (.invokevirtual 206, 3) := by decide +kernel
theorem dX5_ofCase_8 : decode cX5_ofCase 8 = .ok (.ifCond .ne 5, 3) := by decide +kernel
theorem dX5_ofCase_11 : decode cX5_ofCase 11 = .ok (.iconst (-1), 1) := by decide +kernel
theorem dX5_ofCase_12 : decode cX5_ofCase 12 = .ok (.ireturn, 1) := by decide +kernel
theorem dX5_ofCase_13 : decode cX5_ofCase 13 = .ok (.iload_n 2, 1) := by decide +kernel
theorem dX5_ofCase_14 : decode cX5_ofCase 14 = .ok (.tableswitch 56 0 2 #[26, 36, 46], 26) := by decide +kernel
theorem dX5_ofCase_40 : decode cX5_ofCase 40 = .ok (.aload_n 0, 1) := by decide +kernel
theorem dX5_ofCase_41 : decode cX5_ofCase 41 = .ok (.getfield 38, 3) := by decide +kernel
theorem dX5_ofCase_44 : decode cX5_ofCase 44 = .ok (.getfield 207, 3) := by decide +kernel
theorem dX5_ofCase_47 : decode cX5_ofCase 47 = .ok (.iload_n 1, 1) := by decide +kernel
theorem dX5_ofCase_48 : decode cX5_ofCase 48 = .ok (.iaload, 1) := by decide +kernel
theorem dX5_ofCase_49 : decode cX5_ofCase 49 = .ok (.ireturn, 1) := by decide +kernel
theorem dX5_ofCase_50 : decode cX5_ofCase 50 = .ok (.aload_n 0, 1) := by decide +kernel
theorem dX5_ofCase_51 : decode cX5_ofCase 51 = .ok (.getfield 38, 3) := by decide +kernel
theorem dX5_ofCase_54 : decode cX5_ofCase 54 = .ok (.getfield 210, 3) := by decide +kernel
theorem dX5_ofCase_57 : decode cX5_ofCase 57 = .ok (.iload_n 1, 1) := by decide +kernel
theorem dX5_ofCase_58 : decode cX5_ofCase 58 = .ok (.iaload, 1) := by decide +kernel
theorem dX5_ofCase_59 : decode cX5_ofCase 59 = .ok (.ireturn, 1) := by decide +kernel
theorem dX5_ofCase_60 : decode cX5_ofCase 60 = .ok (.aload_n 0, 1) := by decide +kernel
theorem dX5_ofCase_61 : decode cX5_ofCase 61 = .ok (.getfield 38, 3) := by decide +kernel
theorem dX5_ofCase_64 : decode cX5_ofCase 64 = .ok (.getfield 211, 3) := by decide +kernel
theorem dX5_ofCase_67 : decode cX5_ofCase 67 = .ok (.iload_n 1, 1) := by decide +kernel
theorem dX5_ofCase_68 : decode cX5_ofCase 68 = .ok (.iaload, 1) := by decide +kernel
theorem dX5_ofCase_69 : decode cX5_ofCase 69 = .ok (.ireturn, 1) := by decide +kernel
theorem dX5_ofCase_70 : decode cX5_ofCase 70 = .ok (.bipush (-2), 2) := by decide +kernel
theorem dX5_ofCase_72 : decode cX5_ofCase 72 = .ok (.ireturn, 1) := by decide +kernel
set_option maxRecDepth 20000 in
theorem ggX5_turned_X3_rulingFor : GoodIn wsX5_turned wsX3_rulingFor := goodIn_r _ [7, 8, 9, 10, 11, 12, 6, 13, 26, 27, 28, 29, 30, 31, 32, 33, 34, 35, 36, 37, 38] (by decide +kernel) (by decide +kernel)
set_option maxRecDepth 20000 in
theorem gX5_turned_X3_rulingFor : GoodIn wsX5_turned (wsV RX5 156 RX3 yX3_rulingFor wsX3_rulingFor) := goodIn_app (goodIn_of _ (by decide +kernel)) ggX5_turned_X3_rulingFor
theorem dX5_turned_0 : decode cX5_turned 0 = .ok (.iconst 0, 1) := by decide +kernel
theorem dX5_turned_1 : decode cX5_turned 1 = .ok (.istore_n 1, 1) := by decide +kernel
theorem dX5_turned_2 : decode cX5_turned 2 = .ok (.iconst 0, 1) := by decide +kernel
theorem dX5_turned_3 : decode cX5_turned 3 = .ok (.istore_n 2, 1) := by decide +kernel
theorem dX5_turned_4 : decode cX5_turned 4 = .ok (.iload_n 2, 1) := by decide +kernel
theorem dX5_turned_5 : decode cX5_turned 5 = .ok (.aload_n 0, 1) := by decide +kernel
theorem dX5_turned_6 : decode cX5_turned 6 = .ok (.getfield 38, 3) := by decide +kernel
theorem dX5_turned_9 : decode cX5_turned 9 = .ok (.getfield 66, 3) := by decide +kernel
theorem dX5_turned_12 : decode cX5_turned 12 = .ok (.if_icmp .ge 43, 3) := by decide +kernel
theorem dX5_turned_15 : decode cX5_turned 15 = .ok (.aload_n 0, 1) := by decide +kernel
theorem dX5_turned_16 : decode cX5_turned 16 = .ok (.getfield 38, 3) := by decide +kernel
theorem dX5_turned_19 : decode cX5_turned 19 = .ok (.getfield 210, 3) := by decide +kernel
theorem dX5_turned_22 : decode cX5_turned 22 = .ok (.iload_n 2, 1) := by decide +kernel
theorem dX5_turned_23 : decode cX5_turned 23 = .ok (.iaload, 1) := by decide +kernel
theorem dX5_turned_24 : decode cX5_turned 24 = .ok (.aload_n 0, 1) := by decide +kernel
theorem dX5_turned_25 : decode cX5_turned 25 = .ok (.getfield 21, 3) := by decide +kernel
theorem dX5_turned_28 : decode cX5_turned 28 = .ok (.aload_n 0, 1) := by decide +kernel
theorem dX5_turned_29 : decode cX5_turned 29 = .ok (.getfield 38, 3) := by decide +kernel
theorem dX5_turned_32 : decode cX5_turned 32 = .ok (.getfield 207, 3) := by decide +kernel
theorem dX5_turned_35 : decode cX5_turned 35 = .ok (.iload_n 2, 1) := by decide +kernel
theorem dX5_turned_36 : decode cX5_turned 36 = .ok (.iaload, 1) := by decide +kernel
theorem dX5_turned_37 : decode cX5_turned 37 = .ok (.invokevirtual 156, 3) := by decide +kernel
theorem dX5_turned_40 : decode cX5_turned 40 = .ok (.if_icmp .eq 9, 3) := by decide +kernel
theorem dX5_turned_43 : decode cX5_turned 43 = .ok (.iload_n 1, 1) := by decide +kernel
theorem dX5_turned_44 : decode cX5_turned 44 = .ok (.iconst 1, 1) := by decide +kernel
theorem dX5_turned_45 : decode cX5_turned 45 = .ok (.iload_n 2, 1) := by decide +kernel
theorem dX5_turned_46 : decode cX5_turned 46 = .ok (.ishl, 1) := by decide +kernel
theorem dX5_turned_47 : decode cX5_turned 47 = .ok (.ior, 1) := by decide +kernel
theorem dX5_turned_48 : decode cX5_turned 48 = .ok (.istore_n 1, 1) := by decide +kernel
theorem dX5_turned_49 : decode cX5_turned 49 = .ok (.iinc 2 1, 3) := by decide +kernel
theorem dX5_turned_52 : decode cX5_turned 52 = .ok (.goto (-48), 3) := by decide +kernel
theorem dX5_turned_55 : decode cX5_turned 55 = .ok (.iload_n 1, 1) := by decide +kernel
theorem dX5_turned_56 : decode cX5_turned 56 = .ok (.ireturn, 1) := by decide +kernel
set_option maxRecDepth 20000 in
theorem ggX5_mend_X0_hasLine : GoodIn wsX5_mend wsX0_hasLine := goodIn_r _ [7, 8, 116, 117, 118, 119, 120, 121, 122, 123, 124, 125, 126] (by decide +kernel) (by decide +kernel)
set_option maxRecDepth 20000 in
theorem gX5_mend_X0_hasLine : GoodIn wsX5_mend (wsV RX5 105 RX0 yX0_hasLine wsX0_hasLine) := goodIn_app (goodIn_of _ (by decide +kernel)) ggX5_mend_X0_hasLine
set_option maxRecDepth 20000 in
theorem ggX5_mend_X0_repealedIfMended : GoodIn wsX5_mend wsX0_repealedIfMended := goodIn_r _ [12, 13, 116, 117, 118, 119, 120, 121, 122, 123, 124, 125, 126] (by decide +kernel) (by decide +kernel)
set_option maxRecDepth 20000 in
theorem gX5_mend_X0_repealedIfMended : GoodIn wsX5_mend (wsV RX5 128 RX0 yX0_repealedIfMended wsX0_repealedIfMended) := goodIn_app (goodIn_of _ (by decide +kernel)) ggX5_mend_X0_repealedIfMended
set_option maxRecDepth 20000 in
theorem ggX5_mend_X3_work : GoodIn wsX5_mend wsX3_work := goodIn_r _ [18, 19, 20, 21, 22, 23, 6, 24, 25, 8, 26, 27, 28, 29, 30, 31, 32, 33, 34, 35, 127, 128, 116, 117, 118, 119, 120, 121, 122, 123, 124, 125, 126] (by decide +kernel) (by decide +kernel)
set_option maxRecDepth 20000 in
theorem gX5_mend_X3_work : GoodIn wsX5_mend (wsV RX5 70 RX3 yX3_work wsX3_work) := goodIn_app (goodIn_of _ (by decide +kernel)) ggX5_mend_X3_work
set_option maxRecDepth 20000 in
theorem ggX5_mend_X5_turnedKinds : GoodIn wsX5_mend wsX5_turnedKinds := goodIn_r _ [39, 1, 40, 2, 41, 42, 43, 6, 44, 45, 46, 47, 48, 49, 17, 50, 51, 52, 53, 54, 19, 20, 55, 56, 57, 58, 108, 109, 110, 111, 112, 113, 114, 115, 116, 117, 118, 119, 120, 121, 122, 123, 124, 125, 126, 127, 128] (by decide +kernel) (by decide +kernel)
set_option maxRecDepth 20000 in
theorem gX5_mend_X5_turnedKinds : GoodIn wsX5_mend (wsV RX5 165 RX5 yX5_turnedKinds wsX5_turnedKinds) := goodIn_app (goodIn_of _ (by decide +kernel)) ggX5_mend_X5_turnedKinds
set_option maxRecDepth 20000 in
theorem ggX5_mend_X5_casesOfTurnedKinds : GoodIn wsX5_mend wsX5_casesOfTurnedKinds := goodIn_r _ [62, 63, 40, 2, 47, 48, 49, 17, 50, 51, 52, 53, 54, 19, 20, 55, 56, 57, 58, 108, 109, 110, 111, 112, 113, 114, 115, 129, 130, 131, 132, 127, 128, 116, 117, 118, 119, 120, 121, 122, 123, 124, 125, 126] (by decide +kernel) (by decide +kernel)
set_option maxRecDepth 20000 in
theorem gX5_mend_X5_casesOfTurnedKinds : GoodIn wsX5_mend (wsV RX5 214 RX5 yX5_casesOfTurnedKinds wsX5_casesOfTurnedKinds) := goodIn_app (goodIn_of _ (by decide +kernel)) ggX5_mend_X5_casesOfTurnedKinds
set_option maxRecDepth 20000 in
theorem ggX5_mend_X5_turnedVerdicts : GoodIn wsX5_mend wsX5_turnedVerdicts := goodIn_r _ [67, 68, 40, 2, 69, 70, 71, 34, 72, 1, 63, 73, 74, 75, 76, 77, 78, 79, 80, 81, 82, 83, 84, 85, 86, 87, 88, 89, 6, 90, 45, 91, 92, 93, 94, 46, 95, 96, 97, 98, 99, 100, 101, 102, 103, 104, 105, 17, 106, 19, 107, 51, 52, 53, 54, 20, 55, 56, 57, 58, 108, 109, 110, 111, 112, 113, 114, 115, 133, 134, 135, 136, 129, 130, 131, 132, 116, 117, 118, 119, 120, 121, 122, 123, 124, 125, 126, 127, 128] (by decide +kernel) (by decide +kernel)
set_option maxRecDepth 20000 in
theorem gX5_mend_X5_turnedVerdicts : GoodIn wsX5_mend (wsV RX5 217 RX5 yX5_turnedVerdicts wsX5_turnedVerdicts) := goodIn_app (goodIn_of _ (by decide +kernel)) ggX5_mend_X5_turnedVerdicts
theorem dX5_mend_0 : decode cX5_mend 0 = .ok (.aload_n 0, 1) := by decide +kernel
theorem dX5_mend_1 : decode cX5_mend 1 = .ok (.getfield 10, 3) := by decide +kernel
theorem dX5_mend_4 : decode cX5_mend 4 = .ok (.iload_n 1, 1) := by decide +kernel
theorem dX5_mend_5 : decode cX5_mend 5 = .ok (.invokevirtual 105, 3) := by decide +kernel
theorem dX5_mend_8 : decode cX5_mend 8 = .ok (.ifCond .ne 5, 3) := by decide +kernel
theorem dX5_mend_11 : decode cX5_mend 11 = .ok (.iconst (-1), 1) := by decide +kernel
theorem dX5_mend_12 : decode cX5_mend 12 = .ok (.ireturn, 1) := by decide +kernel
theorem dX5_mend_13 : decode cX5_mend 13 = .ok (.iload_n 2, 1) := by decide +kernel
theorem dX5_mend_14 : decode cX5_mend 14 = .ok (.ifCond .lt 8, 3) := by decide +kernel
theorem dX5_mend_17 : decode cX5_mend 17 = .ok (.iload_n 2, 1) := by decide +kernel
theorem dX5_mend_18 : decode cX5_mend 18 = .ok (.iconst 2, 1) := by decide +kernel
theorem dX5_mend_19 : decode cX5_mend 19 = .ok (.if_icmp .le 6, 3) := by decide +kernel
theorem dX5_mend_22 : decode cX5_mend 22 = .ok (.bipush (-2), 2) := by decide +kernel
theorem dX5_mend_24 : decode cX5_mend 24 = .ok (.ireturn, 1) := by decide +kernel
theorem dX5_mend_25 : decode cX5_mend 25 = .ok (.aload_n 0, 1) := by decide +kernel
theorem dX5_mend_26 : decode cX5_mend 26 = .ok (.getfield 25, 3) := by decide +kernel
theorem dX5_mend_29 : decode cX5_mend 29 = .ok (.aload_n 0, 1) := by decide +kernel
theorem dX5_mend_30 : decode cX5_mend 30 = .ok (.getfield 10, 3) := by decide +kernel
theorem dX5_mend_33 : decode cX5_mend 33 = .ok (.iload_n 1, 1) := by decide +kernel
theorem dX5_mend_34 : decode cX5_mend 34 = .ok (.invokevirtual 128, 3) := by decide +kernel
theorem dX5_mend_37 : decode cX5_mend 37 = .ok (.invokevirtual 70, 3) := by decide +kernel
theorem dX5_mend_40 : decode cX5_mend 40 = .ok (.iload_n 2, 1) := by decide +kernel
theorem dX5_mend_41 : decode cX5_mend 41 = .ok (.ifCond .ne 8, 3) := by decide +kernel
theorem dX5_mend_44 : decode cX5_mend 44 = .ok (.aload_n 0, 1) := by decide +kernel
theorem dX5_mend_45 : decode cX5_mend 45 = .ok (.invokevirtual 165, 3) := by decide +kernel
theorem dX5_mend_48 : decode cX5_mend 48 = .ok (.ireturn, 1) := by decide +kernel
theorem dX5_mend_49 : decode cX5_mend 49 = .ok (.iload_n 2, 1) := by decide +kernel
theorem dX5_mend_50 : decode cX5_mend 50 = .ok (.iconst 1, 1) := by decide +kernel
theorem dX5_mend_51 : decode cX5_mend 51 = .ok (.if_icmp .ne 10, 3) := by decide +kernel
theorem dX5_mend_54 : decode cX5_mend 54 = .ok (.aload_n 0, 1) := by decide +kernel
theorem dX5_mend_55 : decode cX5_mend 55 = .ok (.invokevirtual 214, 3) := by decide +kernel
theorem dX5_mend_58 : decode cX5_mend 58 = .ok (.goto 7, 3) := by decide +kernel
theorem dX5_mend_61 : decode cX5_mend 61 = .ok (.aload_n 0, 1) := by decide +kernel
theorem dX5_mend_62 : decode cX5_mend 62 = .ok (.invokevirtual 217, 3) := by decide +kernel
theorem dX5_mend_65 : decode cX5_mend 65 = .ok (.ireturn, 1) := by decide +kernel
theorem dX5_goal_0 : decode cX5_goal 0 = .ok (.iload_n 1, 1) := by decide +kernel
theorem dX5_goal_1 : decode cX5_goal 1 = .ok (.iconst 1, 1) := by decide +kernel
theorem dX5_goal_2 : decode cX5_goal 2 = .ok (.if_icmp .lt 9, 3) := by decide +kernel
theorem dX5_goal_5 : decode cX5_goal 5 = .ok (.iload_n 1, 1) := by decide +kernel
theorem dX5_goal_6 : decode cX5_goal 6 = .ok (.bipush 20, 2) := by decide +kernel
theorem dX5_goal_8 : decode cX5_goal 8 = .ok (.if_icmp .le 6, 3) := by decide +kernel
theorem dX5_goal_11 : decode cX5_goal 11 = .ok (.bipush (-2), 2) := by decide +kernel
theorem dX5_goal_13 : decode cX5_goal 13 = .ok (.ireturn, 1) := by decide +kernel
theorem dX5_goal_14 : decode cX5_goal 14 = .ok (.aload_n 0, 1) := by decide +kernel
theorem dX5_goal_15 : decode cX5_goal 15 = .ok (.getfield 52, 3) := by decide +kernel
theorem dX5_goal_18 : decode cX5_goal 18 = .ok (.istore_n 2, 1) := by decide +kernel
theorem dX5_goal_19 : decode cX5_goal 19 = .ok (.aload_n 0, 1) := by decide +kernel
theorem dX5_goal_20 : decode cX5_goal 20 = .ok (.iload_n 1, 1) := by decide +kernel
theorem dX5_goal_21 : decode cX5_goal 21 = .ok (.putfield 52, 3) := by decide +kernel
theorem dX5_goal_24 : decode cX5_goal 24 = .ok (.iload_n 2, 1) := by decide +kernel
theorem dX5_goal_25 : decode cX5_goal 25 = .ok (.ireturn, 1) := by decide +kernel
set_option maxRecDepth 20000 in
theorem ggX5_score_X2_begin : GoodIn wsX5_score wsX2_begin := goodIn_r _ [9, 10, 11, 12, 13, 95, 96, 97, 98] (by decide +kernel) (by decide +kernel)
set_option maxRecDepth 20000 in
theorem gX5_score_X2_begin : GoodIn wsX5_score (wsV RX5 220 RX2 yX2_begin wsX2_begin) := goodIn_app (goodIn_of _ (by decide +kernel)) ggX5_score_X2_begin
set_option maxRecDepth 20000 in
theorem ggX5_score_X5_verdictUnder : GoodIn wsX5_score wsX5_verdictUnder := goodIn_r _ [18, 1, 19, 20, 21, 22, 23, 24, 25, 26, 27, 28, 29, 30, 31, 32, 33, 34, 35, 36, 37, 38, 39, 40, 41, 42, 43, 44, 45, 46, 47, 48, 49, 50, 51, 52, 53, 54, 55, 56, 57, 58, 59, 60, 61, 62, 63, 64, 65, 66, 67, 68, 69, 83, 84, 85, 86, 87, 88, 89, 90, 91, 92, 93, 94, 99, 100, 101, 102, 103, 104, 105, 106, 107, 108, 109, 110, 111, 112, 113, 114, 115] (by decide +kernel) (by decide +kernel)
set_option maxRecDepth 20000 in
theorem gX5_score_X5_verdictUnder : GoodIn wsX5_score (wsV RX5 197 RX5 yX5_verdictUnder wsX5_verdictUnder) := goodIn_app (goodIn_of _ (by decide +kernel)) ggX5_score_X5_verdictUnder
set_option maxRecDepth 20000 in
theorem ggX5_score_X2_play : GoodIn wsX5_score wsX2_play := goodIn_r _ [73, 13, 74, 75, 76, 8, 77, 11, 10, 12, 78, 79, 80, 81, 95, 96, 97, 98] (by decide +kernel) (by decide +kernel)
set_option maxRecDepth 20000 in
theorem gX5_score_X2_play : GoodIn wsX5_score (wsV RX5 221 RX2 yX2_play wsX2_play) := goodIn_app (goodIn_of _ (by decide +kernel)) ggX5_score_X2_play
set_option maxRecDepth 20000 in
theorem ggX5_score_X2_winner : GoodIn wsX5_score wsX2_winner := goodIn_r _ [77, 11, 10, 12, 95, 96, 97, 98] (by decide +kernel) (by decide +kernel)
set_option maxRecDepth 20000 in
theorem gX5_score_X2_winner : GoodIn wsX5_score (wsV RX5 233 RX2 yX2_winner wsX2_winner) := goodIn_app (goodIn_of _ (by decide +kernel)) ggX5_score_X2_winner
theorem dX5_score_0 : decode cX5_score 0 = .ok (.iload_n 1, 1) := by decide +kernel
theorem dX5_score_1 : decode cX5_score 1 = .ok (.ifCond .lt 23, 3) := by decide +kernel
theorem dX5_score_4 : decode cX5_score 4 = .ok (.iload_n 1, 1) := by decide +kernel
theorem dX5_score_5 : decode cX5_score 5 = .ok (.aload_n 0, 1) := by decide +kernel
theorem dX5_score_6 : decode cX5_score 6 = .ok (.getfield 31, 3) := by decide +kernel
theorem dX5_score_9 : decode cX5_score 9 = .ok (.getfield 63, 3) := by decide +kernel
theorem dX5_score_12 : decode cX5_score 12 = .ok (.if_icmp .gt 12, 3) := by decide +kernel
theorem dX5_score_15 : decode cX5_score 15 = .ok (.iload_n 2, 1) := by decide +kernel
theorem dX5_score_16 : decode cX5_score 16 = .ok (.ifCond .lt 8, 3) := by decide +kernel
theorem dX5_score_19 : decode cX5_score 19 = .ok (.iload_n 2, 1) := by decide +kernel
theorem dX5_score_20 : decode cX5_score 20 = .ok (.iconst 3, 1) := by decide +kernel
theorem dX5_score_21 : decode cX5_score 21 = .ok (.if_icmp .le 6, 3) := by decide +kernel
theorem dX5_score_24 : decode cX5_score 24 = .ok (.bipush (-2), 2) := by decide +kernel
theorem dX5_score_26 : decode cX5_score 26 = .ok (.ireturn, 1) := by decide +kernel
theorem dX5_score_27 : decode cX5_score 27 = .ok (.aload_n 0, 1) := by decide +kernel
theorem dX5_score_28 : decode cX5_score 28 = .ok (.getfield 45, 3) := by decide +kernel
theorem dX5_score_31 : decode cX5_score 31 = .ok (.aload_n 0, 1) := by decide +kernel
theorem dX5_score_32 : decode cX5_score 32 = .ok (.getfield 52, 3) := by decide +kernel
theorem dX5_score_35 : decode cX5_score 35 = .ok (.invokevirtual 220, 3) := by decide +kernel
theorem dX5_score_38 : decode cX5_score 38 = .ok (.iconst 0, 1) := by decide +kernel
theorem dX5_score_39 : decode cX5_score 39 = .ok (.istore_n 3, 1) := by decide +kernel
theorem dX5_score_40 : decode cX5_score 40 = .ok (.iload_n 3, 1) := by decide +kernel
theorem dX5_score_41 : decode cX5_score 41 = .ok (.iload_n 1, 1) := by decide +kernel
theorem dX5_score_42 : decode cX5_score 42 = .ok (.if_icmp .ge 25, 3) := by decide +kernel
theorem dX5_score_45 : decode cX5_score 45 = .ok (.aload_n 0, 1) := by decide +kernel
theorem dX5_score_46 : decode cX5_score 46 = .ok (.getfield 45, 3) := by decide +kernel
theorem dX5_score_49 : decode cX5_score 49 = .ok (.aload_n 0, 1) := by decide +kernel
theorem dX5_score_50 : decode cX5_score 50 = .ok (.aload_n 0, 1) := by decide +kernel
theorem dX5_score_51 : decode cX5_score 51 = .ok (.getfield 21, 3) := by decide +kernel
theorem dX5_score_54 : decode cX5_score 54 = .ok (.iload_n 3, 1) := by decide +kernel
theorem dX5_score_55 : decode cX5_score 55 = .ok (.invokevirtual 197, 3) := by decide +kernel
theorem dX5_score_58 : decode cX5_score 58 = .ok (.invokevirtual 221, 3) := by decide +kernel
theorem dX5_score_61 : decode cX5_score 61 = .ok (.iinc 3 1, 3) := by decide +kernel
theorem dX5_score_64 : decode cX5_score 64 = .ok (.goto (-24), 3) := by decide +kernel
theorem dX5_score_67 : decode cX5_score 67 = .ok (.iload_n 2, 1) := by decide +kernel
theorem dX5_score_68 : decode cX5_score 68 = .ok (.tableswitch 52 0 2 #[28, 36, 44], 28) := by decide +kernel
theorem dX5_score_96 : decode cX5_score 96 = .ok (.aload_n 0, 1) := by decide +kernel
theorem dX5_score_97 : decode cX5_score 97 = .ok (.getfield 45, 3) := by decide +kernel
theorem dX5_score_100 : decode cX5_score 100 = .ok (.getfield 224, 3) := by decide +kernel
theorem dX5_score_103 : decode cX5_score 103 = .ok (.ireturn, 1) := by decide +kernel
theorem dX5_score_104 : decode cX5_score 104 = .ok (.aload_n 0, 1) := by decide +kernel
theorem dX5_score_105 : decode cX5_score 105 = .ok (.getfield 45, 3) := by decide +kernel
theorem dX5_score_108 : decode cX5_score 108 = .ok (.getfield 227, 3) := by decide +kernel
theorem dX5_score_111 : decode cX5_score 111 = .ok (.ireturn, 1) := by decide +kernel
theorem dX5_score_112 : decode cX5_score 112 = .ok (.aload_n 0, 1) := by decide +kernel
theorem dX5_score_113 : decode cX5_score 113 = .ok (.getfield 45, 3) := by decide +kernel
theorem dX5_score_116 : decode cX5_score 116 = .ok (.getfield 230, 3) := by decide +kernel
theorem dX5_score_119 : decode cX5_score 119 = .ok (.ireturn, 1) := by decide +kernel
theorem dX5_score_120 : decode cX5_score 120 = .ok (.aload_n 0, 1) := by decide +kernel
theorem dX5_score_121 : decode cX5_score 121 = .ok (.getfield 45, 3) := by decide +kernel
theorem dX5_score_124 : decode cX5_score 124 = .ok (.invokevirtual 233, 3) := by decide +kernel
theorem dX5_score_127 : decode cX5_score 127 = .ok (.ireturn, 1) := by decide +kernel
set_option maxRecDepth 20000 in
theorem ggX5_appeal_X4_has : GoodIn wsX5_appeal wsX4_has := goodIn_r _ [10, 11, 103, 104, 105, 106] (by decide +kernel) (by decide +kernel)
set_option maxRecDepth 20000 in
theorem gX5_appeal_X4_has : GoodIn wsX5_appeal (wsV RX5 172 RX4 yX4_has wsX4_has) := goodIn_app (goodIn_of _ (by decide +kernel)) ggX5_appeal_X4_has
set_option maxRecDepth 20000 in
theorem ggX5_appeal_X5_isRuling : GoodIn wsX5_appeal wsX5_isRuling := goodIn_r _ [15] (by decide +kernel) (by decide +kernel)
set_option maxRecDepth 20000 in
theorem gX5_appeal_X5_isRuling : GoodIn wsX5_appeal (va_wsS RX5 95 yX5_isRuling wsX5_isRuling) := goodIn_app (goodIn_of _ (by decide +kernel)) ggX5_appeal_X5_isRuling
set_option maxRecDepth 20000 in
theorem ggX5_appeal_X2_begin : GoodIn wsX5_appeal wsX2_begin := goodIn_r _ [20, 21, 22, 23, 24, 107, 108, 109, 110] (by decide +kernel) (by decide +kernel)
set_option maxRecDepth 20000 in
theorem gX5_appeal_X2_begin : GoodIn wsX5_appeal (wsV RX5 220 RX2 yX2_begin wsX2_begin) := goodIn_app (goodIn_of _ (by decide +kernel)) ggX5_appeal_X2_begin
set_option maxRecDepth 20000 in
theorem ggX5_appeal_X5_verdictUnder : GoodIn wsX5_appeal wsX5_verdictUnder := goodIn_r _ [28, 1, 29, 30, 31, 32, 33, 9, 34, 35, 36, 37, 38, 39, 40, 41, 42, 43, 44, 45, 46, 47, 48, 49, 50, 51, 52, 53, 54, 55, 56, 57, 58, 59, 60, 61, 62, 63, 64, 65, 66, 67, 68, 69, 70, 71, 72, 73, 74, 75, 76, 77, 78, 95, 96, 97, 98, 99, 100, 101, 102, 103, 104, 105, 106, 111, 112, 113, 114, 115, 116, 117, 118, 119, 120, 121, 122, 123, 124, 125, 126, 127] (by decide +kernel) (by decide +kernel)
set_option maxRecDepth 20000 in
theorem gX5_appeal_X5_verdictUnder : GoodIn wsX5_appeal (wsV RX5 197 RX5 yX5_verdictUnder wsX5_verdictUnder) := goodIn_app (goodIn_of _ (by decide +kernel)) ggX5_appeal_X5_verdictUnder
set_option maxRecDepth 20000 in
theorem ggX5_appeal_X2_play : GoodIn wsX5_appeal wsX2_play := goodIn_r _ [82, 24, 83, 84, 85, 19, 86, 22, 21, 23, 87, 88, 89, 90, 107, 108, 109, 110] (by decide +kernel) (by decide +kernel)
set_option maxRecDepth 20000 in
theorem gX5_appeal_X2_play : GoodIn wsX5_appeal (wsV RX5 221 RX2 yX2_play wsX2_play) := goodIn_app (goodIn_of _ (by decide +kernel)) ggX5_appeal_X2_play
set_option maxRecDepth 20000 in
theorem ggX5_appeal_X2_standsAs : GoodIn wsX5_appeal wsX2_standsAs := goodIn_r _ [94, 22, 23, 24, 83, 84, 85, 19, 86, 21, 107, 108, 109, 110] (by decide +kernel) (by decide +kernel)
set_option maxRecDepth 20000 in
theorem gX5_appeal_X2_standsAs : GoodIn wsX5_appeal (wsV RX5 236 RX2 yX2_standsAs wsX2_standsAs) := goodIn_app (goodIn_of _ (by decide +kernel)) ggX5_appeal_X2_standsAs
theorem dX5_appeal_0 : decode cX5_appeal 0 = .ok (.aload_n 0, 1) := by decide +kernel
theorem dX5_appeal_1 : decode cX5_appeal 1 = .ok (.getfield 31, 3) := by decide +kernel
theorem dX5_appeal_4 : decode cX5_appeal 4 = .ok (.iload_n 1, 1) := by decide +kernel
theorem dX5_appeal_5 : decode cX5_appeal 5 = .ok (.invokevirtual 172, 3) := by decide +kernel
theorem dX5_appeal_8 : decode cX5_appeal 8 = .ok (.ifCond .ne 5, 3) := by decide +kernel
theorem dX5_appeal_11 : decode cX5_appeal 11 = .ok (.iconst (-1), 1) := by decide +kernel
theorem dX5_appeal_12 : decode cX5_appeal 12 = .ok (.ireturn, 1) := by decide +kernel
theorem dX5_appeal_13 : decode cX5_appeal 13 = .ok (.iload_n 2, 1) := by decide +kernel
theorem dX5_appeal_14 : decode cX5_appeal 14 = .ok (.invokestatic 95, 3) := by decide +kernel
theorem dX5_appeal_17 : decode cX5_appeal 17 = .ok (.ifCond .ne 6, 3) := by decide +kernel
theorem dX5_appeal_20 : decode cX5_appeal 20 = .ok (.bipush (-2), 2) := by decide +kernel
theorem dX5_appeal_22 : decode cX5_appeal 22 = .ok (.ireturn, 1) := by decide +kernel
theorem dX5_appeal_23 : decode cX5_appeal 23 = .ok (.aload_n 0, 1) := by decide +kernel
theorem dX5_appeal_24 : decode cX5_appeal 24 = .ok (.getfield 45, 3) := by decide +kernel
theorem dX5_appeal_27 : decode cX5_appeal 27 = .ok (.aload_n 0, 1) := by decide +kernel
theorem dX5_appeal_28 : decode cX5_appeal 28 = .ok (.getfield 52, 3) := by decide +kernel
theorem dX5_appeal_31 : decode cX5_appeal 31 = .ok (.invokevirtual 220, 3) := by decide +kernel
theorem dX5_appeal_34 : decode cX5_appeal 34 = .ok (.aload_n 0, 1) := by decide +kernel
theorem dX5_appeal_35 : decode cX5_appeal 35 = .ok (.getfield 49, 3) := by decide +kernel
theorem dX5_appeal_38 : decode cX5_appeal 38 = .ok (.aload_n 0, 1) := by decide +kernel
theorem dX5_appeal_39 : decode cX5_appeal 39 = .ok (.getfield 52, 3) := by decide +kernel
theorem dX5_appeal_42 : decode cX5_appeal 42 = .ok (.invokevirtual 220, 3) := by decide +kernel
theorem dX5_appeal_45 : decode cX5_appeal 45 = .ok (.iconst 0, 1) := by decide +kernel
theorem dX5_appeal_46 : decode cX5_appeal 46 = .ok (.istore_n 3, 1) := by decide +kernel
theorem dX5_appeal_47 : decode cX5_appeal 47 = .ok (.iload_n 3, 1) := by decide +kernel
theorem dX5_appeal_48 : decode cX5_appeal 48 = .ok (.aload_n 0, 1) := by decide +kernel
theorem dX5_appeal_49 : decode cX5_appeal 49 = .ok (.getfield 31, 3) := by decide +kernel
theorem dX5_appeal_52 : decode cX5_appeal 52 = .ok (.getfield 63, 3) := by decide +kernel
theorem dX5_appeal_55 : decode cX5_appeal 55 = .ok (.if_icmp .ge 63, 3) := by decide +kernel
theorem dX5_appeal_58 : decode cX5_appeal 58 = .ok (.aload_n 0, 1) := by decide +kernel
theorem dX5_appeal_59 : decode cX5_appeal 59 = .ok (.aload_n 0, 1) := by decide +kernel
theorem dX5_appeal_60 : decode cX5_appeal 60 = .ok (.getfield 21, 3) := by decide +kernel
theorem dX5_appeal_63 : decode cX5_appeal 63 = .ok (.iload_n 3, 1) := by decide +kernel
theorem dX5_appeal_64 : decode cX5_appeal 64 = .ok (.invokevirtual 197, 3) := by decide +kernel
theorem dX5_appeal_67 : decode cX5_appeal 67 = .ok (.istore 4, 2) := by decide +kernel
theorem dX5_appeal_69 : decode cX5_appeal 69 = .ok (.aload_n 0, 1) := by decide +kernel
theorem dX5_appeal_70 : decode cX5_appeal 70 = .ok (.getfield 45, 3) := by decide +kernel
theorem dX5_appeal_73 : decode cX5_appeal 73 = .ok (.iload 4, 2) := by decide +kernel
theorem dX5_appeal_75 : decode cX5_appeal 75 = .ok (.invokevirtual 221, 3) := by decide +kernel
theorem dX5_appeal_78 : decode cX5_appeal 78 = .ok (.aload_n 0, 1) := by decide +kernel
theorem dX5_appeal_79 : decode cX5_appeal 79 = .ok (.getfield 49, 3) := by decide +kernel
theorem dX5_appeal_82 : decode cX5_appeal 82 = .ok (.iload_n 3, 1) := by decide +kernel
theorem dX5_appeal_83 : decode cX5_appeal 83 = .ok (.iload_n 1, 1) := by decide +kernel
theorem dX5_appeal_84 : decode cX5_appeal 84 = .ok (.if_icmp .ne 7, 3) := by decide +kernel
theorem dX5_appeal_87 : decode cX5_appeal 87 = .ok (.iload_n 2, 1) := by decide +kernel
theorem dX5_appeal_88 : decode cX5_appeal 88 = .ok (.goto 5, 3) := by decide +kernel
theorem dX5_appeal_91 : decode cX5_appeal 91 = .ok (.iload 4, 2) := by decide +kernel
theorem dX5_appeal_93 : decode cX5_appeal 93 = .ok (.invokevirtual 221, 3) := by decide +kernel
theorem dX5_appeal_96 : decode cX5_appeal 96 = .ok (.aload_n 0, 1) := by decide +kernel
theorem dX5_appeal_97 : decode cX5_appeal 97 = .ok (.getfield 45, 3) := by decide +kernel
theorem dX5_appeal_100 : decode cX5_appeal 100 = .ok (.aload_n 0, 1) := by decide +kernel
theorem dX5_appeal_101 : decode cX5_appeal 101 = .ok (.getfield 49, 3) := by decide +kernel
theorem dX5_appeal_104 : decode cX5_appeal 104 = .ok (.invokevirtual 236, 3) := by decide +kernel
theorem dX5_appeal_107 : decode cX5_appeal 107 = .ok (.ifCond .ne 5, 3) := by decide +kernel
theorem dX5_appeal_110 : decode cX5_appeal 110 = .ok (.iload_n 3, 1) := by decide +kernel
theorem dX5_appeal_111 : decode cX5_appeal 111 = .ok (.ireturn, 1) := by decide +kernel
theorem dX5_appeal_112 : decode cX5_appeal 112 = .ok (.iinc 3 1, 3) := by decide +kernel
theorem dX5_appeal_115 : decode cX5_appeal 115 = .ok (.goto (-68), 3) := by decide +kernel
theorem dX5_appeal_118 : decode cX5_appeal 118 = .ok (.bipush (-6), 2) := by decide +kernel
theorem dX5_appeal_120 : decode cX5_appeal 120 = .ok (.ireturn, 1) := by decide +kernel
set_option maxRecDepth 20000 in
theorem ggX5_told_X0_countMayBe : GoodIn wsX5_told wsX0_countMayBe := goodIn_r _ [9, 10, 11, 12, 13, 8, 14, 15, 40, 41, 42, 43, 44, 45, 46, 47, 48, 49, 50] (by decide +kernel) (by decide +kernel)
set_option maxRecDepth 20000 in
theorem gX5_told_X0_countMayBe : GoodIn wsX5_told (wsV RX5 188 RX0 yX0_countMayBe wsX0_countMayBe) := goodIn_app (goodIn_of _ (by decide +kernel)) ggX5_told_X0_countMayBe
set_option maxRecDepth 20000 in
theorem ggX5_told_X5_coveredKinds : GoodIn wsX5_told wsX5_coveredKinds := goodIn_r _ [20, 1, 21, 22, 23, 24, 8, 25, 10, 15, 26, 27, 28, 29, 30, 31, 32, 33, 34, 35, 36, 37, 38, 39, 40, 41, 42, 43, 44, 45, 46, 47, 48, 49, 50, 59, 60] (by decide +kernel) (by decide +kernel)
set_option maxRecDepth 20000 in
theorem gX5_told_X5_coveredKinds : GoodIn wsX5_told (wsV RX5 240 RX5 yX5_coveredKinds wsX5_coveredKinds) := goodIn_app (goodIn_of _ (by decide +kernel)) ggX5_told_X5_coveredKinds
theorem dX5_told_0 : decode cX5_told 0 = .ok (.iload_n 1, 1) := by decide +kernel
theorem dX5_told_1 : decode cX5_told 1 = .ok (.tableswitch 95 0 6 #[43, 51, 61, 69, 77, 85, 90], 43) := by decide +kernel
theorem dX5_told_44 : decode cX5_told 44 = .ok (.aload_n 0, 1) := by decide +kernel
theorem dX5_told_45 : decode cX5_told 45 = .ok (.getfield 10, 3) := by decide +kernel
theorem dX5_told_48 : decode cX5_told 48 = .ok (.getfield 73, 3) := by decide +kernel
theorem dX5_told_51 : decode cX5_told 51 = .ok (.ireturn, 1) := by decide +kernel
theorem dX5_told_52 : decode cX5_told 52 = .ok (.aload_n 0, 1) := by decide +kernel
theorem dX5_told_53 : decode cX5_told 53 = .ok (.getfield 10, 3) := by decide +kernel
theorem dX5_told_56 : decode cX5_told 56 = .ok (.iconst 0, 1) := by decide +kernel
theorem dX5_told_57 : decode cX5_told 57 = .ok (.iconst 0, 1) := by decide +kernel
theorem dX5_told_58 : decode cX5_told 58 = .ok (.invokevirtual 188, 3) := by decide +kernel
theorem dX5_told_61 : decode cX5_told 61 = .ok (.ireturn, 1) := by decide +kernel
theorem dX5_told_62 : decode cX5_told 62 = .ok (.aload_n 0, 1) := by decide +kernel
theorem dX5_told_63 : decode cX5_told 63 = .ok (.getfield 10, 3) := by decide +kernel
theorem dX5_told_66 : decode cX5_told 66 = .ok (.getfield 98, 3) := by decide +kernel
theorem dX5_told_69 : decode cX5_told 69 = .ok (.ireturn, 1) := by decide +kernel
theorem dX5_told_70 : decode cX5_told 70 = .ok (.aload_n 0, 1) := by decide +kernel
theorem dX5_told_71 : decode cX5_told 71 = .ok (.getfield 31, 3) := by decide +kernel
theorem dX5_told_74 : decode cX5_told 74 = .ok (.getfield 63, 3) := by decide +kernel
theorem dX5_told_77 : decode cX5_told 77 = .ok (.ireturn, 1) := by decide +kernel
theorem dX5_told_78 : decode cX5_told 78 = .ok (.aload_n 0, 1) := by decide +kernel
theorem dX5_told_79 : decode cX5_told 79 = .ok (.getfield 38, 3) := by decide +kernel
theorem dX5_told_82 : decode cX5_told 82 = .ok (.getfield 66, 3) := by decide +kernel
theorem dX5_told_85 : decode cX5_told 85 = .ok (.ireturn, 1) := by decide +kernel
theorem dX5_told_86 : decode cX5_told 86 = .ok (.aload_n 0, 1) := by decide +kernel
theorem dX5_told_87 : decode cX5_told 87 = .ok (.getfield 52, 3) := by decide +kernel
theorem dX5_told_90 : decode cX5_told 90 = .ok (.ireturn, 1) := by decide +kernel
theorem dX5_told_91 : decode cX5_told 91 = .ok (.aload_n 0, 1) := by decide +kernel
theorem dX5_told_92 : decode cX5_told 92 = .ok (.invokevirtual 240, 3) := by decide +kernel
theorem dX5_told_95 : decode cX5_told 95 = .ok (.ireturn, 1) := by decide +kernel
theorem dX5_told_96 : decode cX5_told 96 = .ok (.bipush (-2), 2) := by decide +kernel
theorem dX5_told_98 : decode cX5_told 98 = .ok (.ireturn, 1) := by decide +kernel
set_option maxRecDepth 20000 in
theorem ggX5_verdictUnder_X4_knownSo : GoodIn wsX5_verdictUnder wsX4_knownSo := goodIn_r _ [8, 9, 10, 11, 12, 7, 13, 61, 62, 63, 64] (by decide +kernel) (by decide +kernel)
set_option maxRecDepth 20000 in
theorem gX5_verdictUnder_X4_knownSo : GoodIn wsX5_verdictUnder (wsV RX5 179 RX4 yX4_knownSo wsX4_knownSo) := goodIn_app (goodIn_of _ (by decide +kernel)) ggX5_verdictUnder_X4_knownSo
set_option maxRecDepth 20000 in
theorem ggX5_verdictUnder_X4_knownNotSo : GoodIn wsX5_verdictUnder wsX4_knownNotSo := goodIn_r _ [17, 10, 9, 11, 12, 7, 13, 61, 62, 63, 64] (by decide +kernel) (by decide +kernel)
set_option maxRecDepth 20000 in
theorem gX5_verdictUnder_X4_knownNotSo : GoodIn wsX5_verdictUnder (wsV RX5 182 RX4 yX4_knownNotSo wsX4_knownNotSo) := goodIn_app (goodIn_of _ (by decide +kernel)) ggX5_verdictUnder_X4_knownNotSo
set_option maxRecDepth 20000 in
theorem ggX5_verdictUnder_X0_countMayBe : GoodIn wsX5_verdictUnder wsX0_countMayBe := goodIn_r _ [22, 23, 24, 25, 26, 21, 27, 28, 69, 70, 71, 72, 73, 74, 75, 76, 77, 78, 79] (by decide +kernel) (by decide +kernel)
set_option maxRecDepth 20000 in
theorem gX5_verdictUnder_X0_countMayBe : GoodIn wsX5_verdictUnder (wsV RX5 188 RX0 yX0_countMayBe wsX0_countMayBe) := goodIn_app (goodIn_of _ (by decide +kernel)) ggX5_verdictUnder_X0_countMayBe
set_option maxRecDepth 20000 in
theorem ggX5_verdictUnder_X1_firstThatBinds : GoodIn wsX5_verdictUnder wsX1_firstThatBinds := goodIn_r _ [33, 34, 35, 36, 65, 66, 67, 68] (by decide +kernel) (by decide +kernel)
set_option maxRecDepth 20000 in
theorem gX5_verdictUnder_X1_firstThatBinds : GoodIn wsX5_verdictUnder (wsV RX5 194 RX1 yX1_firstThatBinds wsX1_firstThatBinds) := goodIn_app (goodIn_of _ (by decide +kernel)) ggX5_verdictUnder_X1_firstThatBinds
set_option maxRecDepth 20000 in
theorem ggX5_verdictUnder_X3_rulingForAll : GoodIn wsX5_verdictUnder wsX3_rulingForAll := goodIn_r _ [41, 42, 43, 25, 26, 21, 27, 28, 44, 45, 46, 40, 47, 48, 49, 50, 51, 52, 80, 81, 69, 70, 71, 72, 73, 74, 75, 76, 77, 78, 79] (by decide +kernel) (by decide +kernel)
set_option maxRecDepth 20000 in
theorem gX5_verdictUnder_X3_rulingForAll : GoodIn wsX5_verdictUnder (wsV RX5 243 RX3 yX3_rulingForAll wsX3_rulingForAll) := goodIn_app (goodIn_of _ (by decide +kernel)) ggX5_verdictUnder_X3_rulingForAll
theorem dX5_verdictUnder_0 : decode cX5_verdictUnder 0 = .ok (.aload_n 0, 1) := by decide +kernel
theorem dX5_verdictUnder_1 : decode cX5_verdictUnder 1 = .ok (.getfield 31, 3) := by decide +kernel
theorem dX5_verdictUnder_4 : decode cX5_verdictUnder 4 = .ok (.getfield 201, 3) := by decide +kernel
theorem dX5_verdictUnder_7 : decode cX5_verdictUnder 7 = .ok (.iload_n 2, 1) := by decide +kernel
theorem dX5_verdictUnder_8 : decode cX5_verdictUnder 8 = .ok (.iaload, 1) := by decide +kernel
theorem dX5_verdictUnder_9 : decode cX5_verdictUnder 9 = .ok (.iconst (-1), 1) := by decide +kernel
theorem dX5_verdictUnder_10 : decode cX5_verdictUnder 10 = .ok (.if_icmp .eq 13, 3) := by decide +kernel
theorem dX5_verdictUnder_13 : decode cX5_verdictUnder 13 = .ok (.aload_n 0, 1) := by decide +kernel
theorem dX5_verdictUnder_14 : decode cX5_verdictUnder 14 = .ok (.getfield 31, 3) := by decide +kernel
theorem dX5_verdictUnder_17 : decode cX5_verdictUnder 17 = .ok (.getfield 201, 3) := by decide +kernel
theorem dX5_verdictUnder_20 : decode cX5_verdictUnder 20 = .ok (.iload_n 2, 1) := by decide +kernel
theorem dX5_verdictUnder_21 : decode cX5_verdictUnder 21 = .ok (.iaload, 1) := by decide +kernel
theorem dX5_verdictUnder_22 : decode cX5_verdictUnder 22 = .ok (.ireturn, 1) := by decide +kernel
theorem dX5_verdictUnder_23 : decode cX5_verdictUnder 23 = .ok (.aload_n 0, 1) := by decide +kernel
theorem dX5_verdictUnder_24 : decode cX5_verdictUnder 24 = .ok (.getfield 31, 3) := by decide +kernel
theorem dX5_verdictUnder_27 : decode cX5_verdictUnder 27 = .ok (.iload_n 2, 1) := by decide +kernel
theorem dX5_verdictUnder_28 : decode cX5_verdictUnder 28 = .ok (.invokevirtual 179, 3) := by decide +kernel
theorem dX5_verdictUnder_31 : decode cX5_verdictUnder 31 = .ok (.istore_n 3, 1) := by decide +kernel
theorem dX5_verdictUnder_32 : decode cX5_verdictUnder 32 = .ok (.aload_n 0, 1) := by decide +kernel
theorem dX5_verdictUnder_33 : decode cX5_verdictUnder 33 = .ok (.getfield 31, 3) := by decide +kernel
theorem dX5_verdictUnder_36 : decode cX5_verdictUnder 36 = .ok (.iload_n 2, 1) := by decide +kernel
theorem dX5_verdictUnder_37 : decode cX5_verdictUnder 37 = .ok (.invokevirtual 182, 3) := by decide +kernel
theorem dX5_verdictUnder_40 : decode cX5_verdictUnder 40 = .ok (.istore 4, 2) := by decide +kernel
theorem dX5_verdictUnder_42 : decode cX5_verdictUnder 42 = .ok (.aload_n 0, 1) := by decide +kernel
theorem dX5_verdictUnder_43 : decode cX5_verdictUnder 43 = .ok (.getfield 10, 3) := by decide +kernel
theorem dX5_verdictUnder_46 : decode cX5_verdictUnder 46 = .ok (.iload_n 3, 1) := by decide +kernel
theorem dX5_verdictUnder_47 : decode cX5_verdictUnder 47 = .ok (.iload 4, 2) := by decide +kernel
theorem dX5_verdictUnder_49 : decode cX5_verdictUnder 49 = .ok (.invokevirtual 188, 3) := by decide +kernel
theorem dX5_verdictUnder_52 : decode cX5_verdictUnder 52 = .ok (.ifCond .ne 5, 3) := by decide +kernel
theorem dX5_verdictUnder_55 : decode cX5_verdictUnder 55 = .ok (.iconst 0, 1) := by decide +kernel
theorem dX5_verdictUnder_56 : decode cX5_verdictUnder 56 = .ok (.ireturn, 1) := by decide +kernel
theorem dX5_verdictUnder_57 : decode cX5_verdictUnder 57 = .ok (.aload_n 0, 1) := by decide +kernel
theorem dX5_verdictUnder_58 : decode cX5_verdictUnder 58 = .ok (.getfield 38, 3) := by decide +kernel
theorem dX5_verdictUnder_61 : decode cX5_verdictUnder 61 = .ok (.iload_n 3, 1) := by decide +kernel
theorem dX5_verdictUnder_62 : decode cX5_verdictUnder 62 = .ok (.iload 4, 2) := by decide +kernel
theorem dX5_verdictUnder_64 : decode cX5_verdictUnder 64 = .ok (.invokevirtual 194, 3) := by decide +kernel
theorem dX5_verdictUnder_67 : decode cX5_verdictUnder 67 = .ok (.istore 5, 2) := by decide +kernel
theorem dX5_verdictUnder_69 : decode cX5_verdictUnder 69 = .ok (.iload 5, 2) := by decide +kernel
theorem dX5_verdictUnder_71 : decode cX5_verdictUnder 71 = .ok (.bipush (-6), 2) := by decide +kernel
theorem dX5_verdictUnder_73 : decode cX5_verdictUnder 73 = .ok (.if_icmp .eq 14, 3) := by decide +kernel
theorem dX5_verdictUnder_76 : decode cX5_verdictUnder 76 = .ok (.aload_n 0, 1) := by decide +kernel
theorem dX5_verdictUnder_77 : decode cX5_verdictUnder 77 = .ok (.getfield 38, 3) := by decide +kernel
theorem dX5_verdictUnder_80 : decode cX5_verdictUnder 80 = .ok (.getfield 210, 3) := by decide +kernel
theorem dX5_verdictUnder_83 : decode cX5_verdictUnder 83 = .ok (.iload 5, 2) := by decide +kernel
theorem dX5_verdictUnder_85 : decode cX5_verdictUnder 85 = .ok (.iaload, 1) := by decide +kernel
theorem dX5_verdictUnder_86 : decode cX5_verdictUnder 86 = .ok (.ireturn, 1) := by decide +kernel
theorem dX5_verdictUnder_87 : decode cX5_verdictUnder 87 = .ok (.aload_n 1, 1) := by decide +kernel
theorem dX5_verdictUnder_88 : decode cX5_verdictUnder 88 = .ok (.iload_n 3, 1) := by decide +kernel
theorem dX5_verdictUnder_89 : decode cX5_verdictUnder 89 = .ok (.iload 4, 2) := by decide +kernel
theorem dX5_verdictUnder_91 : decode cX5_verdictUnder 91 = .ok (.invokevirtual 243, 3) := by decide +kernel
theorem dX5_verdictUnder_94 : decode cX5_verdictUnder 94 = .ok (.ireturn, 1) := by decide +kernel
set_option maxRecDepth 20000 in
theorem ggX5_coveredKinds_X0_hasKind : GoodIn wsX5_coveredKinds wsX0_hasKind := goodIn_r _ [7, 8, 9, 24, 25, 26, 27, 28, 29, 30, 31, 32, 33, 34] (by decide +kernel) (by decide +kernel)
set_option maxRecDepth 20000 in
theorem gX5_coveredKinds_X0_hasKind : GoodIn wsX5_coveredKinds (wsV RX5 143 RX0 yX0_hasKind wsX0_hasKind) := goodIn_app (goodIn_of _ (by decide +kernel)) ggX5_coveredKinds_X0_hasKind
set_option maxRecDepth 20000 in
theorem ggX5_coveredKinds_X3_covers : GoodIn wsX5_coveredKinds wsX3_covers := goodIn_r _ [14, 15, 35, 36] (by decide +kernel) (by decide +kernel)
set_option maxRecDepth 20000 in
theorem gX5_coveredKinds_X3_covers : GoodIn wsX5_coveredKinds (wsV RX5 162 RX3 yX3_covers wsX3_covers) := goodIn_app (goodIn_of _ (by decide +kernel)) ggX5_coveredKinds_X3_covers
theorem dX5_coveredKinds_0 : decode cX5_coveredKinds 0 = .ok (.iconst 0, 1) := by decide +kernel
theorem dX5_coveredKinds_1 : decode cX5_coveredKinds 1 = .ok (.istore_n 1, 1) := by decide +kernel
theorem dX5_coveredKinds_2 : decode cX5_coveredKinds 2 = .ok (.iconst 0, 1) := by decide +kernel
theorem dX5_coveredKinds_3 : decode cX5_coveredKinds 3 = .ok (.istore_n 2, 1) := by decide +kernel
theorem dX5_coveredKinds_4 : decode cX5_coveredKinds 4 = .ok (.iload_n 2, 1) := by decide +kernel
theorem dX5_coveredKinds_5 : decode cX5_coveredKinds 5 = .ok (.aload_n 0, 1) := by decide +kernel
theorem dX5_coveredKinds_6 : decode cX5_coveredKinds 6 = .ok (.getfield 10, 3) := by decide +kernel
theorem dX5_coveredKinds_9 : decode cX5_coveredKinds 9 = .ok (.getfield 159, 3) := by decide +kernel
theorem dX5_coveredKinds_12 : decode cX5_coveredKinds 12 = .ok (.if_icmp .ge 34, 3) := by decide +kernel
theorem dX5_coveredKinds_15 : decode cX5_coveredKinds 15 = .ok (.aload_n 0, 1) := by decide +kernel
theorem dX5_coveredKinds_16 : decode cX5_coveredKinds 16 = .ok (.getfield 10, 3) := by decide +kernel
theorem dX5_coveredKinds_19 : decode cX5_coveredKinds 19 = .ok (.iload_n 2, 1) := by decide +kernel
theorem dX5_coveredKinds_20 : decode cX5_coveredKinds 20 = .ok (.invokevirtual 143, 3) := by decide +kernel
theorem dX5_coveredKinds_23 : decode cX5_coveredKinds 23 = .ok (.ifCond .eq 17, 3) := by decide +kernel
theorem dX5_coveredKinds_26 : decode cX5_coveredKinds 26 = .ok (.aload_n 0, 1) := by decide +kernel
theorem dX5_coveredKinds_27 : decode cX5_coveredKinds 27 = .ok (.getfield 21, 3) := by decide +kernel
theorem dX5_coveredKinds_30 : decode cX5_coveredKinds 30 = .ok (.iload_n 2, 1) := by decide +kernel
theorem dX5_coveredKinds_31 : decode cX5_coveredKinds 31 = .ok (.invokevirtual 162, 3) := by decide +kernel
theorem dX5_coveredKinds_34 : decode cX5_coveredKinds 34 = .ok (.ifCond .eq 6, 3) := by decide +kernel
theorem dX5_coveredKinds_37 : decode cX5_coveredKinds 37 = .ok (.iinc 1 1, 3) := by decide +kernel
theorem dX5_coveredKinds_40 : decode cX5_coveredKinds 40 = .ok (.iinc 2 1, 3) := by decide +kernel
theorem dX5_coveredKinds_43 : decode cX5_coveredKinds 43 = .ok (.goto (-39), 3) := by decide +kernel
theorem dX5_coveredKinds_46 : decode cX5_coveredKinds 46 = .ok (.iload_n 1, 1) := by decide +kernel
theorem dX5_coveredKinds_47 : decode cX5_coveredKinds 47 = .ok (.ireturn, 1) := by decide +kernel
set_option maxRecDepth 20000 in
theorem ggX5_turnedKinds_X0_hasKind : GoodIn wsX5_turnedKinds wsX0_hasKind := goodIn_r _ [8, 9, 10, 34, 35, 36, 37, 38, 39, 40, 41, 42, 43, 44] (by decide +kernel) (by decide +kernel)
set_option maxRecDepth 20000 in
theorem gX5_turnedKinds_X0_hasKind : GoodIn wsX5_turnedKinds (wsV RX5 143 RX0 yX0_hasKind wsX0_hasKind) := goodIn_app (goodIn_of _ (by decide +kernel)) ggX5_turnedKinds_X0_hasKind
set_option maxRecDepth 20000 in
theorem ggX5_turnedKinds_X3_differFor : GoodIn wsX5_turnedKinds wsX3_differFor := goodIn_r _ [15, 16, 17, 18, 14, 19, 20, 21, 22, 23, 24, 25, 45, 46, 34, 35, 36, 37, 38, 39, 40, 41, 42, 43, 44] (by decide +kernel) (by decide +kernel)
set_option maxRecDepth 20000 in
theorem gX5_turnedKinds_X3_differFor : GoodIn wsX5_turnedKinds (wsV RX5 246 RX3 yX3_differFor wsX3_differFor) := goodIn_app (goodIn_of _ (by decide +kernel)) ggX5_turnedKinds_X3_differFor
theorem dX5_turnedKinds_0 : decode cX5_turnedKinds 0 = .ok (.iconst 0, 1) := by decide +kernel
theorem dX5_turnedKinds_1 : decode cX5_turnedKinds 1 = .ok (.istore_n 1, 1) := by decide +kernel
theorem dX5_turnedKinds_2 : decode cX5_turnedKinds 2 = .ok (.iconst 0, 1) := by decide +kernel
theorem dX5_turnedKinds_3 : decode cX5_turnedKinds 3 = .ok (.istore_n 2, 1) := by decide +kernel
theorem dX5_turnedKinds_4 : decode cX5_turnedKinds 4 = .ok (.iload_n 2, 1) := by decide +kernel
theorem dX5_turnedKinds_5 : decode cX5_turnedKinds 5 = .ok (.aload_n 0, 1) := by decide +kernel
theorem dX5_turnedKinds_6 : decode cX5_turnedKinds 6 = .ok (.getfield 10, 3) := by decide +kernel
theorem dX5_turnedKinds_9 : decode cX5_turnedKinds 9 = .ok (.getfield 159, 3) := by decide +kernel
theorem dX5_turnedKinds_12 : decode cX5_turnedKinds 12 = .ok (.if_icmp .ge 38, 3) := by decide +kernel
theorem dX5_turnedKinds_15 : decode cX5_turnedKinds 15 = .ok (.aload_n 0, 1) := by decide +kernel
theorem dX5_turnedKinds_16 : decode cX5_turnedKinds 16 = .ok (.getfield 10, 3) := by decide +kernel
theorem dX5_turnedKinds_19 : decode cX5_turnedKinds 19 = .ok (.iload_n 2, 1) := by decide +kernel
theorem dX5_turnedKinds_20 : decode cX5_turnedKinds 20 = .ok (.invokevirtual 143, 3) := by decide +kernel
theorem dX5_turnedKinds_23 : decode cX5_turnedKinds 23 = .ok (.ifCond .eq 21, 3) := by decide +kernel
theorem dX5_turnedKinds_26 : decode cX5_turnedKinds 26 = .ok (.aload_n 0, 1) := by decide +kernel
theorem dX5_turnedKinds_27 : decode cX5_turnedKinds 27 = .ok (.getfield 21, 3) := by decide +kernel
theorem dX5_turnedKinds_30 : decode cX5_turnedKinds 30 = .ok (.iload_n 2, 1) := by decide +kernel
theorem dX5_turnedKinds_31 : decode cX5_turnedKinds 31 = .ok (.aload_n 0, 1) := by decide +kernel
theorem dX5_turnedKinds_32 : decode cX5_turnedKinds 32 = .ok (.getfield 25, 3) := by decide +kernel
theorem dX5_turnedKinds_35 : decode cX5_turnedKinds 35 = .ok (.invokevirtual 246, 3) := by decide +kernel
theorem dX5_turnedKinds_38 : decode cX5_turnedKinds 38 = .ok (.ifCond .eq 6, 3) := by decide +kernel
theorem dX5_turnedKinds_41 : decode cX5_turnedKinds 41 = .ok (.iinc 1 1, 3) := by decide +kernel
theorem dX5_turnedKinds_44 : decode cX5_turnedKinds 44 = .ok (.iinc 2 1, 3) := by decide +kernel
theorem dX5_turnedKinds_47 : decode cX5_turnedKinds 47 = .ok (.goto (-43), 3) := by decide +kernel
theorem dX5_turnedKinds_50 : decode cX5_turnedKinds 50 = .ok (.iload_n 1, 1) := by decide +kernel
theorem dX5_turnedKinds_51 : decode cX5_turnedKinds 51 = .ok (.ireturn, 1) := by decide +kernel
set_option maxRecDepth 20000 in
theorem ggX5_casesOfTurnedKinds_X3_differFor : GoodIn wsX5_casesOfTurnedKinds wsX3_differFor := goodIn_r _ [8, 9, 10, 11, 7, 12, 13, 14, 15, 16, 17, 18, 31, 32, 33, 34, 35, 36, 37, 38, 39, 40, 41, 42, 43] (by decide +kernel) (by decide +kernel)
set_option maxRecDepth 20000 in
theorem gX5_casesOfTurnedKinds_X3_differFor : GoodIn wsX5_casesOfTurnedKinds (wsV RX5 246 RX3 yX3_differFor wsX3_differFor) := goodIn_app (goodIn_of _ (by decide +kernel)) ggX5_casesOfTurnedKinds_X3_differFor
theorem dX5_casesOfTurnedKinds_0 : decode cX5_casesOfTurnedKinds 0 = .ok (.iconst 0, 1) := by decide +kernel
theorem dX5_casesOfTurnedKinds_1 : decode cX5_casesOfTurnedKinds 1 = .ok (.istore_n 1, 1) := by decide +kernel
theorem dX5_casesOfTurnedKinds_2 : decode cX5_casesOfTurnedKinds 2 = .ok (.iconst 0, 1) := by decide +kernel
theorem dX5_casesOfTurnedKinds_3 : decode cX5_casesOfTurnedKinds 3 = .ok (.istore_n 2, 1) := by decide +kernel
theorem dX5_casesOfTurnedKinds_4 : decode cX5_casesOfTurnedKinds 4 = .ok (.iload_n 2, 1) := by decide +kernel
theorem dX5_casesOfTurnedKinds_5 : decode cX5_casesOfTurnedKinds 5 = .ok (.aload_n 0, 1) := by decide +kernel
theorem dX5_casesOfTurnedKinds_6 : decode cX5_casesOfTurnedKinds 6 = .ok (.getfield 38, 3) := by decide +kernel
theorem dX5_casesOfTurnedKinds_9 : decode cX5_casesOfTurnedKinds 9 = .ok (.getfield 66, 3) := by decide +kernel
theorem dX5_casesOfTurnedKinds_12 : decode cX5_casesOfTurnedKinds 12 = .ok (.if_icmp .ge 35, 3) := by decide +kernel
theorem dX5_casesOfTurnedKinds_15 : decode cX5_casesOfTurnedKinds 15 = .ok (.aload_n 0, 1) := by decide +kernel
theorem dX5_casesOfTurnedKinds_16 : decode cX5_casesOfTurnedKinds 16 = .ok (.getfield 21, 3) := by decide +kernel
theorem dX5_casesOfTurnedKinds_19 : decode cX5_casesOfTurnedKinds 19 = .ok (.aload_n 0, 1) := by decide +kernel
theorem dX5_casesOfTurnedKinds_20 : decode cX5_casesOfTurnedKinds 20 = .ok (.getfield 38, 3) := by decide +kernel
theorem dX5_casesOfTurnedKinds_23 : decode cX5_casesOfTurnedKinds 23 = .ok (.getfield 207, 3) := by decide +kernel
theorem dX5_casesOfTurnedKinds_26 : decode cX5_casesOfTurnedKinds 26 = .ok (.iload_n 2, 1) := by decide +kernel
theorem dX5_casesOfTurnedKinds_27 : decode cX5_casesOfTurnedKinds 27 = .ok (.iaload, 1) := by decide +kernel
theorem dX5_casesOfTurnedKinds_28 : decode cX5_casesOfTurnedKinds 28 = .ok (.aload_n 0, 1) := by decide +kernel
theorem dX5_casesOfTurnedKinds_29 : decode cX5_casesOfTurnedKinds 29 = .ok (.getfield 25, 3) := by decide +kernel
theorem dX5_casesOfTurnedKinds_32 : decode cX5_casesOfTurnedKinds 32 = .ok (.invokevirtual 246, 3) := by decide +kernel
theorem dX5_casesOfTurnedKinds_35 : decode cX5_casesOfTurnedKinds 35 = .ok (.ifCond .eq 6, 3) := by decide +kernel
theorem dX5_casesOfTurnedKinds_38 : decode cX5_casesOfTurnedKinds 38 = .ok (.iinc 1 1, 3) := by decide +kernel
theorem dX5_casesOfTurnedKinds_41 : decode cX5_casesOfTurnedKinds 41 = .ok (.iinc 2 1, 3) := by decide +kernel
theorem dX5_casesOfTurnedKinds_44 : decode cX5_casesOfTurnedKinds 44 = .ok (.goto (-40), 3) := by decide +kernel
theorem dX5_casesOfTurnedKinds_47 : decode cX5_casesOfTurnedKinds 47 = .ok (.iload_n 1, 1) := by decide +kernel
theorem dX5_casesOfTurnedKinds_48 : decode cX5_casesOfTurnedKinds 48 = .ok (.ireturn, 1) := by decide +kernel
set_option maxRecDepth 20000 in
theorem ggX5_turnedVerdicts_X5_verdictUnder : GoodIn wsX5_turnedVerdicts wsX5_verdictUnder := goodIn_r _ [8, 1, 9, 10, 11, 12, 13, 14, 15, 16, 17, 18, 19, 20, 21, 22, 23, 24, 25, 26, 27, 28, 29, 30, 31, 32, 33, 34, 35, 36, 37, 38, 39, 40, 41, 42, 43, 44, 45, 46, 47, 48, 49, 50, 51, 52, 53, 54, 55, 56, 57, 58, 59, 60, 61, 62, 63, 64, 65, 66, 67, 68, 69, 70, 71, 72, 73, 74, 75, 76, 77, 78, 79, 80, 81, 82, 83, 84, 85, 86, 87, 88] (by decide +kernel) (by decide +kernel)
set_option maxRecDepth 20000 in
theorem gX5_turnedVerdicts_X5_verdictUnder : GoodIn wsX5_turnedVerdicts (wsV RX5 197 RX5 yX5_verdictUnder wsX5_verdictUnder) := goodIn_app (goodIn_of _ (by decide +kernel)) ggX5_turnedVerdicts_X5_verdictUnder
theorem dX5_turnedVerdicts_0 : decode cX5_turnedVerdicts 0 = .ok (.iconst 0, 1) := by decide +kernel
theorem dX5_turnedVerdicts_1 : decode cX5_turnedVerdicts 1 = .ok (.istore_n 1, 1) := by decide +kernel
theorem dX5_turnedVerdicts_2 : decode cX5_turnedVerdicts 2 = .ok (.iconst 0, 1) := by decide +kernel
theorem dX5_turnedVerdicts_3 : decode cX5_turnedVerdicts 3 = .ok (.istore_n 2, 1) := by decide +kernel
theorem dX5_turnedVerdicts_4 : decode cX5_turnedVerdicts 4 = .ok (.iload_n 2, 1) := by decide +kernel
theorem dX5_turnedVerdicts_5 : decode cX5_turnedVerdicts 5 = .ok (.aload_n 0, 1) := by decide +kernel
theorem dX5_turnedVerdicts_6 : decode cX5_turnedVerdicts 6 = .ok (.getfield 31, 3) := by decide +kernel
theorem dX5_turnedVerdicts_9 : decode cX5_turnedVerdicts 9 = .ok (.getfield 63, 3) := by decide +kernel
theorem dX5_turnedVerdicts_12 : decode cX5_turnedVerdicts 12 = .ok (.if_icmp .ge 33, 3) := by decide +kernel
theorem dX5_turnedVerdicts_15 : decode cX5_turnedVerdicts 15 = .ok (.aload_n 0, 1) := by decide +kernel
theorem dX5_turnedVerdicts_16 : decode cX5_turnedVerdicts 16 = .ok (.aload_n 0, 1) := by decide +kernel
theorem dX5_turnedVerdicts_17 : decode cX5_turnedVerdicts 17 = .ok (.getfield 21, 3) := by decide +kernel
theorem dX5_turnedVerdicts_20 : decode cX5_turnedVerdicts 20 = .ok (.iload_n 2, 1) := by decide +kernel
theorem dX5_turnedVerdicts_21 : decode cX5_turnedVerdicts 21 = .ok (.invokevirtual 197, 3) := by decide +kernel
theorem dX5_turnedVerdicts_24 : decode cX5_turnedVerdicts 24 = .ok (.aload_n 0, 1) := by decide +kernel
theorem dX5_turnedVerdicts_25 : decode cX5_turnedVerdicts 25 = .ok (.aload_n 0, 1) := by decide +kernel
theorem dX5_turnedVerdicts_26 : decode cX5_turnedVerdicts 26 = .ok (.getfield 25, 3) := by decide +kernel
theorem dX5_turnedVerdicts_29 : decode cX5_turnedVerdicts 29 = .ok (.iload_n 2, 1) := by decide +kernel
theorem dX5_turnedVerdicts_30 : decode cX5_turnedVerdicts 30 = .ok (.invokevirtual 197, 3) := by decide +kernel
theorem dX5_turnedVerdicts_33 : decode cX5_turnedVerdicts 33 = .ok (.if_icmp .eq 6, 3) := by decide +kernel
theorem dX5_turnedVerdicts_36 : decode cX5_turnedVerdicts 36 = .ok (.iinc 1 1, 3) := by decide +kernel
theorem dX5_turnedVerdicts_39 : decode cX5_turnedVerdicts 39 = .ok (.iinc 2 1, 3) := by decide +kernel
theorem dX5_turnedVerdicts_42 : decode cX5_turnedVerdicts 42 = .ok (.goto (-38), 3) := by decide +kernel
theorem dX5_turnedVerdicts_45 : decode cX5_turnedVerdicts 45 = .ok (.iload_n 1, 1) := by decide +kernel
theorem dX5_turnedVerdicts_46 : decode cX5_turnedVerdicts 46 = .ok (.ireturn, 1) := by decide +kernel
theorem dJ6_bitCount_0f7a4_0 : decode cJ6_bitCount_0f7a4 0 = .ok (.iload_n 0, 1) := by decide +kernel
theorem dJ6_bitCount_0f7a4_1 : decode cJ6_bitCount_0f7a4 1 = .ok (.iload_n 0, 1) := by decide +kernel
theorem dJ6_bitCount_0f7a4_2 : decode cJ6_bitCount_0f7a4 2 = .ok (.iconst 1, 1) := by decide +kernel
theorem dJ6_bitCount_0f7a4_3 : decode cJ6_bitCount_0f7a4 3 = .ok (.iushr, 1) := by decide +kernel
theorem dJ6_bitCount_0f7a4_4 : decode cJ6_bitCount_0f7a4 4 = .ok (.ldc_w 265, 3) := by decide +kernel
theorem dJ6_bitCount_0f7a4_7 : decode cJ6_bitCount_0f7a4 7 = .ok (.iand, 1) := by decide +kernel
theorem dJ6_bitCount_0f7a4_8 : decode cJ6_bitCount_0f7a4 8 = .ok (.isub, 1) := by decide +kernel
theorem dJ6_bitCount_0f7a4_9 : decode cJ6_bitCount_0f7a4 9 = .ok (.istore_n 0, 1) := by decide +kernel
theorem dJ6_bitCount_0f7a4_10 : decode cJ6_bitCount_0f7a4 10 = .ok (.iload_n 0, 1) := by decide +kernel
theorem dJ6_bitCount_0f7a4_11 : decode cJ6_bitCount_0f7a4 11 = .ok (.ldc_w 266, 3) := by decide +kernel
theorem dJ6_bitCount_0f7a4_14 : decode cJ6_bitCount_0f7a4 14 = .ok (.iand, 1) := by decide +kernel
theorem dJ6_bitCount_0f7a4_15 : decode cJ6_bitCount_0f7a4 15 = .ok (.iload_n 0, 1) := by decide +kernel
theorem dJ6_bitCount_0f7a4_16 : decode cJ6_bitCount_0f7a4 16 = .ok (.iconst 2, 1) := by decide +kernel
theorem dJ6_bitCount_0f7a4_17 : decode cJ6_bitCount_0f7a4 17 = .ok (.iushr, 1) := by decide +kernel
theorem dJ6_bitCount_0f7a4_18 : decode cJ6_bitCount_0f7a4 18 = .ok (.ldc_w 266, 3) := by decide +kernel
theorem dJ6_bitCount_0f7a4_21 : decode cJ6_bitCount_0f7a4 21 = .ok (.iand, 1) := by decide +kernel
theorem dJ6_bitCount_0f7a4_22 : decode cJ6_bitCount_0f7a4 22 = .ok (.iadd, 1) := by decide +kernel
theorem dJ6_bitCount_0f7a4_23 : decode cJ6_bitCount_0f7a4 23 = .ok (.istore_n 0, 1) := by decide +kernel
theorem dJ6_bitCount_0f7a4_24 : decode cJ6_bitCount_0f7a4 24 = .ok (.iload_n 0, 1) := by decide +kernel
theorem dJ6_bitCount_0f7a4_25 : decode cJ6_bitCount_0f7a4 25 = .ok (.iload_n 0, 1) := by decide +kernel
theorem dJ6_bitCount_0f7a4_26 : decode cJ6_bitCount_0f7a4 26 = .ok (.iconst 4, 1) := by decide +kernel
theorem dJ6_bitCount_0f7a4_27 : decode cJ6_bitCount_0f7a4 27 = .ok (.iushr, 1) := by decide +kernel
theorem dJ6_bitCount_0f7a4_28 : decode cJ6_bitCount_0f7a4 28 = .ok (.iadd, 1) := by decide +kernel
theorem dJ6_bitCount_0f7a4_29 : decode cJ6_bitCount_0f7a4 29 = .ok (.ldc_w 267, 3) := by decide +kernel
theorem dJ6_bitCount_0f7a4_32 : decode cJ6_bitCount_0f7a4 32 = .ok (.iand, 1) := by decide +kernel
theorem dJ6_bitCount_0f7a4_33 : decode cJ6_bitCount_0f7a4 33 = .ok (.istore_n 0, 1) := by decide +kernel
theorem dJ6_bitCount_0f7a4_34 : decode cJ6_bitCount_0f7a4 34 = .ok (.iload_n 0, 1) := by decide +kernel
theorem dJ6_bitCount_0f7a4_35 : decode cJ6_bitCount_0f7a4 35 = .ok (.iload_n 0, 1) := by decide +kernel
theorem dJ6_bitCount_0f7a4_36 : decode cJ6_bitCount_0f7a4 36 = .ok (.bipush 8, 2) := by decide +kernel
theorem dJ6_bitCount_0f7a4_38 : decode cJ6_bitCount_0f7a4 38 = .ok (.iushr, 1) := by decide +kernel
theorem dJ6_bitCount_0f7a4_39 : decode cJ6_bitCount_0f7a4 39 = .ok (.iadd, 1) := by decide +kernel
theorem dJ6_bitCount_0f7a4_40 : decode cJ6_bitCount_0f7a4 40 = .ok (.istore_n 0, 1) := by decide +kernel
theorem dJ6_bitCount_0f7a4_41 : decode cJ6_bitCount_0f7a4 41 = .ok (.iload_n 0, 1) := by decide +kernel
theorem dJ6_bitCount_0f7a4_42 : decode cJ6_bitCount_0f7a4 42 = .ok (.iload_n 0, 1) := by decide +kernel
theorem dJ6_bitCount_0f7a4_43 : decode cJ6_bitCount_0f7a4 43 = .ok (.bipush 16, 2) := by decide +kernel
theorem dJ6_bitCount_0f7a4_45 : decode cJ6_bitCount_0f7a4 45 = .ok (.iushr, 1) := by decide +kernel
theorem dJ6_bitCount_0f7a4_46 : decode cJ6_bitCount_0f7a4 46 = .ok (.iadd, 1) := by decide +kernel
theorem dJ6_bitCount_0f7a4_47 : decode cJ6_bitCount_0f7a4 47 = .ok (.istore_n 0, 1) := by decide +kernel
theorem dJ6_bitCount_0f7a4_48 : decode cJ6_bitCount_0f7a4 48 = .ok (.iload_n 0, 1) := by decide +kernel
theorem dJ6_bitCount_0f7a4_49 : decode cJ6_bitCount_0f7a4 49 = .ok (.bipush 63, 2) := by decide +kernel
theorem dJ6_bitCount_0f7a4_51 : decode cJ6_bitCount_0f7a4 51 = .ok (.iand, 1) := by decide +kernel
theorem dJ6_bitCount_0f7a4_52 : decode cJ6_bitCount_0f7a4 52 = .ok (.ireturn, 1) := by decide +kernel
end
section
theorem dX6_init_0 : decode cX6_init 0 = .ok (.aload_n 0, 1) := by decide +kernel
theorem dX6_init_1 : decode cX6_init 1 = .ok (.invokespecial 1, 3) := by decide +kernel
theorem dX6_init_4 : decode cX6_init 4 = .ok (.aload_n 0, 1) := by decide +kernel
theorem dX6_init_5 : decode cX6_init 5 = .ok (.iconst 4, 1) := by decide +kernel
theorem dX6_init_6 : decode cX6_init 6 = .ok (.putfield 7, 3) := by decide +kernel
theorem dX6_init_9 : decode cX6_init 9 = .ok (.aload_n 0, 1) := by decide +kernel
theorem dX6_init_10 : decode cX6_init 10 = .ok (.bipush 7, 2) := by decide +kernel
theorem dX6_init_12 : decode cX6_init 12 = .ok (.newarray .int, 2) := by decide +kernel
theorem dX6_init_14 : decode cX6_init 14 = .ok (.putfield 13, 3) := by decide +kernel
theorem dX6_init_17 : decode cX6_init 17 = .ok (.aload_n 0, 1) := by decide +kernel
theorem dX6_init_18 : decode cX6_init 18 = .ok (.bipush 12, 2) := by decide +kernel
theorem dX6_init_20 : decode cX6_init 20 = .ok (.newarray .int, 2) := by decide +kernel
theorem dX6_init_22 : decode cX6_init 22 = .ok (.putfield 17, 3) := by decide +kernel
theorem dX6_init_25 : decode cX6_init 25 = .ok (.aload_n 0, 1) := by decide +kernel
theorem dX6_init_26 : decode cX6_init 26 = .ok (.bipush 12, 2) := by decide +kernel
theorem dX6_init_28 : decode cX6_init 28 = .ok (.newarray .int, 2) := by decide +kernel
theorem dX6_init_30 : decode cX6_init 30 = .ok (.putfield 20, 3) := by decide +kernel
theorem dX6_init_33 : decode cX6_init 33 = .ok (.aload_n 0, 1) := by decide +kernel
theorem dX6_init_34 : decode cX6_init 34 = .ok (.bipush 12, 2) := by decide +kernel
theorem dX6_init_36 : decode cX6_init 36 = .ok (.newarray .int, 2) := by decide +kernel
theorem dX6_init_38 : decode cX6_init 38 = .ok (.putfield 23, 3) := by decide +kernel
theorem dX6_init_41 : decode cX6_init 41 = .ok (.aload_n 0, 1) := by decide +kernel
theorem dX6_init_42 : decode cX6_init 42 = .ok (.bipush 12, 2) := by decide +kernel
theorem dX6_init_44 : decode cX6_init 44 = .ok (.newarray .boolean, 2) := by decide +kernel
theorem dX6_init_46 : decode cX6_init 46 = .ok (.putfield 26, 3) := by decide +kernel
theorem dX6_init_49 : decode cX6_init 49 = .ok (.aload_n 0, 1) := by decide +kernel
theorem dX6_init_50 : decode cX6_init 50 = .ok (.bipush 12, 2) := by decide +kernel
theorem dX6_init_52 : decode cX6_init 52 = .ok (.newarray .int, 2) := by decide +kernel
theorem dX6_init_54 : decode cX6_init 54 = .ok (.putfield 30, 3) := by decide +kernel
theorem dX6_init_57 : decode cX6_init 57 = .ok (.aload_n 0, 1) := by decide +kernel
theorem dX6_init_58 : decode cX6_init 58 = .ok (.bipush 90, 2) := by decide +kernel
theorem dX6_init_60 : decode cX6_init 60 = .ok (.newarray .int, 2) := by decide +kernel
theorem dX6_init_62 : decode cX6_init 62 = .ok (.putfield 33, 3) := by decide +kernel
theorem dX6_init_65 : decode cX6_init 65 = .ok (.aload_n 0, 1) := by decide +kernel
theorem dX6_init_66 : decode cX6_init 66 = .ok (.bipush 90, 2) := by decide +kernel
theorem dX6_init_68 : decode cX6_init 68 = .ok (.newarray .int, 2) := by decide +kernel
theorem dX6_init_70 : decode cX6_init 70 = .ok (.putfield 36, 3) := by decide +kernel
theorem dX6_init_73 : decode cX6_init 73 = .ok (.aload_n 0, 1) := by decide +kernel
theorem dX6_init_74 : decode cX6_init 74 = .ok (.bipush 30, 2) := by decide +kernel
theorem dX6_init_76 : decode cX6_init 76 = .ok (.newarray .int, 2) := by decide +kernel
theorem dX6_init_78 : decode cX6_init 78 = .ok (.putfield 39, 3) := by decide +kernel
theorem dX6_init_81 : decode cX6_init 81 = .ok (.aload_n 0, 1) := by decide +kernel
theorem dX6_init_82 : decode cX6_init 82 = .ok (.bipush 12, 2) := by decide +kernel
theorem dX6_init_84 : decode cX6_init 84 = .ok (.newarray .int, 2) := by decide +kernel
theorem dX6_init_86 : decode cX6_init 86 = .ok (.putfield 42, 3) := by decide +kernel
theorem dX6_init_89 : decode cX6_init 89 = .ok (.aload_n 0, 1) := by decide +kernel
theorem dX6_init_90 : decode cX6_init 90 = .ok (.bipush 12, 2) := by decide +kernel
theorem dX6_init_92 : decode cX6_init 92 = .ok (.newarray .int, 2) := by decide +kernel
theorem dX6_init_94 : decode cX6_init 94 = .ok (.putfield 45, 3) := by decide +kernel
theorem dX6_init_97 : decode cX6_init 97 = .ok (.aload_n 0, 1) := by decide +kernel
theorem dX6_init_98 : decode cX6_init 98 = .ok (.bipush 12, 2) := by decide +kernel
theorem dX6_init_100 : decode cX6_init 100 = .ok (.newarray .int, 2) := by decide +kernel
theorem dX6_init_102 : decode cX6_init 102 = .ok (.putfield 48, 3) := by decide +kernel
theorem dX6_init_105 : decode cX6_init 105 = .ok (.aload_n 0, 1) := by decide +kernel
theorem dX6_init_106 : decode cX6_init 106 = .ok (.iconst 5, 1) := by decide +kernel
theorem dX6_init_107 : decode cX6_init 107 = .ok (.putfield 51, 3) := by decide +kernel
theorem dX6_init_110 : decode cX6_init 110 = .ok (.aload_n 0, 1) := by decide +kernel
theorem dX6_init_111 : decode cX6_init 111 = .ok (.sipush 128, 3) := by decide +kernel
theorem dX6_init_114 : decode cX6_init 114 = .ok (.newarray .int, 2) := by decide +kernel
theorem dX6_init_116 : decode cX6_init 116 = .ok (.putfield 54, 3) := by decide +kernel
theorem dX6_init_119 : decode cX6_init 119 = .ok (.aload_n 0, 1) := by decide +kernel
theorem dX6_init_120 : decode cX6_init 120 = .ok (.bipush 30, 2) := by decide +kernel
theorem dX6_init_122 : decode cX6_init 122 = .ok (.newarray .int, 2) := by decide +kernel
theorem dX6_init_124 : decode cX6_init 124 = .ok (.putfield 57, 3) := by decide +kernel
theorem dX6_init_127 : decode cX6_init 127 = .ok (.aload_n 0, 1) := by decide +kernel
theorem dX6_init_128 : decode cX6_init 128 = .ok (.iconst 4, 1) := by decide +kernel
theorem dX6_init_129 : decode cX6_init 129 = .ok (.newarray .int, 2) := by decide +kernel
theorem dX6_init_131 : decode cX6_init 131 = .ok (.putfield 60, 3) := by decide +kernel
theorem dX6_init_134 : decode cX6_init 134 = .ok (.aload_n 0, 1) := by decide +kernel
theorem dX6_init_135 : decode cX6_init 135 = .ok (.bipush 30, 2) := by decide +kernel
theorem dX6_init_137 : decode cX6_init 137 = .ok (.newarray .int, 2) := by decide +kernel
theorem dX6_init_139 : decode cX6_init 139 = .ok (.putfield 63, 3) := by decide +kernel
theorem dX6_init_142 : decode cX6_init 142 = .ok (.return_, 1) := by decide +kernel
theorem dX6_in_0 : decode cX6_in 0 = .ok (.iload_n 0, 1) := by decide +kernel
theorem dX6_in_1 : decode cX6_in 1 = .ok (.iload_n 1, 1) := by decide +kernel
theorem dX6_in_2 : decode cX6_in 2 = .ok (.if_icmp .lt 12, 3) := by decide +kernel
theorem dX6_in_5 : decode cX6_in 5 = .ok (.iload_n 0, 1) := by decide +kernel
theorem dX6_in_6 : decode cX6_in 6 = .ok (.iload_n 2, 1) := by decide +kernel
theorem dX6_in_7 : decode cX6_in 7 = .ok (.if_icmp .gt 7, 3) := by decide +kernel
theorem dX6_in_10 : decode cX6_in 10 = .ok (.iconst 1, 1) := by decide +kernel
theorem dX6_in_11 : decode cX6_in 11 = .ok (.goto 4, 3) := by decide +kernel
theorem dX6_in_14 : decode cX6_in 14 = .ok (.iconst 0, 1) := by decide +kernel
theorem dX6_in_15 : decode cX6_in 15 = .ok (.ireturn, 1) := by decide +kernel
set_option maxRecDepth 20000 in
theorem ggX6_isFact_X6_in : GoodIn wsX6_isFact wsX6_in := goodIn_r _ [5] (by decide +kernel) (by decide +kernel)
set_option maxRecDepth 20000 in
theorem gX6_isFact_X6_in : GoodIn wsX6_isFact (va_wsS RX6 66 yX6_in wsX6_in) := goodIn_app (goodIn_of _ (by decide +kernel)) ggX6_isFact_X6_in
theorem dX6_isFact_0 : decode cX6_isFact 0 = .ok (.iload_n 1, 1) := by decide +kernel
theorem dX6_isFact_1 : decode cX6_isFact 1 = .ok (.iconst 0, 1) := by decide +kernel
theorem dX6_isFact_2 : decode cX6_isFact 2 = .ok (.aload_n 0, 1) := by decide +kernel
theorem dX6_isFact_3 : decode cX6_isFact 3 = .ok (.getfield 7, 3) := by decide +kernel
theorem dX6_isFact_6 : decode cX6_isFact 6 = .ok (.iconst 1, 1) := by decide +kernel
theorem dX6_isFact_7 : decode cX6_isFact 7 = .ok (.isub, 1) := by decide +kernel
theorem dX6_isFact_8 : decode cX6_isFact 8 = .ok (.invokestatic 66, 3) := by decide +kernel
theorem dX6_isFact_11 : decode cX6_isFact 11 = .ok (.ireturn, 1) := by decide +kernel
theorem dX6_allFacts_0 : decode cX6_allFacts 0 = .ok (.iconst 1, 1) := by decide +kernel
theorem dX6_allFacts_1 : decode cX6_allFacts 1 = .ok (.aload_n 0, 1) := by decide +kernel
theorem dX6_allFacts_2 : decode cX6_allFacts 2 = .ok (.getfield 7, 3) := by decide +kernel
theorem dX6_allFacts_5 : decode cX6_allFacts 5 = .ok (.ishl, 1) := by decide +kernel
theorem dX6_allFacts_6 : decode cX6_allFacts 6 = .ok (.iconst 1, 1) := by decide +kernel
theorem dX6_allFacts_7 : decode cX6_allFacts 7 = .ok (.isub, 1) := by decide +kernel
theorem dX6_allFacts_8 : decode cX6_allFacts 8 = .ok (.ireturn, 1) := by decide +kernel
set_option maxRecDepth 20000 in
theorem ggX6_isLine_X6_in : GoodIn wsX6_isLine wsX6_in := goodIn_r _ [5] (by decide +kernel) (by decide +kernel)
set_option maxRecDepth 20000 in
theorem gX6_isLine_X6_in : GoodIn wsX6_isLine (va_wsS RX6 66 yX6_in wsX6_in) := goodIn_app (goodIn_of _ (by decide +kernel)) ggX6_isLine_X6_in
theorem dX6_isLine_0 : decode cX6_isLine 0 = .ok (.iload_n 1, 1) := by decide +kernel
theorem dX6_isLine_1 : decode cX6_isLine 1 = .ok (.iconst 0, 1) := by decide +kernel
theorem dX6_isLine_2 : decode cX6_isLine 2 = .ok (.aload_n 0, 1) := by decide +kernel
theorem dX6_isLine_3 : decode cX6_isLine 3 = .ok (.getfield 70, 3) := by decide +kernel
theorem dX6_isLine_6 : decode cX6_isLine 6 = .ok (.iconst 1, 1) := by decide +kernel
theorem dX6_isLine_7 : decode cX6_isLine 7 = .ok (.isub, 1) := by decide +kernel
theorem dX6_isLine_8 : decode cX6_isLine 8 = .ok (.invokestatic 66, 3) := by decide +kernel
theorem dX6_isLine_11 : decode cX6_isLine 11 = .ok (.ireturn, 1) := by decide +kernel
set_option maxRecDepth 20000 in
theorem ggX6_isRuling_X6_in : GoodIn wsX6_isRuling wsX6_in := goodIn_r _ [4] (by decide +kernel) (by decide +kernel)
set_option maxRecDepth 20000 in
theorem gX6_isRuling_X6_in : GoodIn wsX6_isRuling (va_wsS RX6 66 yX6_in wsX6_in) := goodIn_app (goodIn_of _ (by decide +kernel)) ggX6_isRuling_X6_in
theorem dX6_isRuling_0 : decode cX6_isRuling 0 = .ok (.iload_n 0, 1) := by decide +kernel
theorem dX6_isRuling_1 : decode cX6_isRuling 1 = .ok (.iconst 0, 1) := by decide +kernel
theorem dX6_isRuling_2 : decode cX6_isRuling 2 = .ok (.iconst 4, 1) := by decide +kernel
theorem dX6_isRuling_3 : decode cX6_isRuling 3 = .ok (.invokestatic 66, 3) := by decide +kernel
theorem dX6_isRuling_6 : decode cX6_isRuling 6 = .ok (.ireturn, 1) := by decide +kernel
set_option maxRecDepth 20000 in
theorem ggX6_facts_X6_in : GoodIn wsX6_facts wsX6_in := goodIn_r _ [9] (by decide +kernel) (by decide +kernel)
set_option maxRecDepth 20000 in
theorem gX6_facts_X6_in : GoodIn wsX6_facts (va_wsS RX6 66 yX6_in wsX6_in) := goodIn_app (goodIn_of _ (by decide +kernel)) ggX6_facts_X6_in
theorem dX6_facts_0 : decode cX6_facts 0 = .ok (.iload_n 1, 1) := by decide +kernel
theorem dX6_facts_1 : decode cX6_facts 1 = .ok (.iconst 1, 1) := by decide +kernel
theorem dX6_facts_2 : decode cX6_facts 2 = .ok (.bipush 7, 2) := by decide +kernel
theorem dX6_facts_4 : decode cX6_facts 4 = .ok (.invokestatic 66, 3) := by decide +kernel
theorem dX6_facts_7 : decode cX6_facts 7 = .ok (.ifCond .ne 6, 3) := by decide +kernel
theorem dX6_facts_10 : decode cX6_facts 10 = .ok (.bipush (-2), 2) := by decide +kernel
theorem dX6_facts_12 : decode cX6_facts 12 = .ok (.ireturn, 1) := by decide +kernel
theorem dX6_facts_13 : decode cX6_facts 13 = .ok (.aload_n 0, 1) := by decide +kernel
theorem dX6_facts_14 : decode cX6_facts 14 = .ok (.getfield 7, 3) := by decide +kernel
theorem dX6_facts_17 : decode cX6_facts 17 = .ok (.istore_n 2, 1) := by decide +kernel
theorem dX6_facts_18 : decode cX6_facts 18 = .ok (.aload_n 0, 1) := by decide +kernel
theorem dX6_facts_19 : decode cX6_facts 19 = .ok (.iload_n 1, 1) := by decide +kernel
theorem dX6_facts_20 : decode cX6_facts 20 = .ok (.putfield 7, 3) := by decide +kernel
theorem dX6_facts_23 : decode cX6_facts 23 = .ok (.iconst 0, 1) := by decide +kernel
theorem dX6_facts_24 : decode cX6_facts 24 = .ok (.istore_n 3, 1) := by decide +kernel
theorem dX6_facts_25 : decode cX6_facts 25 = .ok (.iload_n 3, 1) := by decide +kernel
theorem dX6_facts_26 : decode cX6_facts 26 = .ok (.bipush 7, 2) := by decide +kernel
theorem dX6_facts_28 : decode cX6_facts 28 = .ok (.if_icmp .ge 16, 3) := by decide +kernel
theorem dX6_facts_31 : decode cX6_facts 31 = .ok (.aload_n 0, 1) := by decide +kernel
theorem dX6_facts_32 : decode cX6_facts 32 = .ok (.getfield 13, 3) := by decide +kernel
theorem dX6_facts_35 : decode cX6_facts 35 = .ok (.iload_n 3, 1) := by decide +kernel
theorem dX6_facts_36 : decode cX6_facts 36 = .ok (.iconst 0, 1) := by decide +kernel
theorem dX6_facts_37 : decode cX6_facts 37 = .ok (.iastore, 1) := by decide +kernel
theorem dX6_facts_38 : decode cX6_facts 38 = .ok (.iinc 3 1, 3) := by decide +kernel
theorem dX6_facts_41 : decode cX6_facts 41 = .ok (.goto (-16), 3) := by decide +kernel
theorem dX6_facts_44 : decode cX6_facts 44 = .ok (.aload_n 0, 1) := by decide +kernel
theorem dX6_facts_45 : decode cX6_facts 45 = .ok (.iconst 0, 1) := by decide +kernel
theorem dX6_facts_46 : decode cX6_facts 46 = .ok (.putfield 70, 3) := by decide +kernel
theorem dX6_facts_49 : decode cX6_facts 49 = .ok (.aload_n 0, 1) := by decide +kernel
theorem dX6_facts_50 : decode cX6_facts 50 = .ok (.iconst 0, 1) := by decide +kernel
theorem dX6_facts_51 : decode cX6_facts 51 = .ok (.putfield 73, 3) := by decide +kernel
theorem dX6_facts_54 : decode cX6_facts 54 = .ok (.aload_n 0, 1) := by decide +kernel
theorem dX6_facts_55 : decode cX6_facts 55 = .ok (.iconst 0, 1) := by decide +kernel
theorem dX6_facts_56 : decode cX6_facts 56 = .ok (.putfield 76, 3) := by decide +kernel
theorem dX6_facts_59 : decode cX6_facts 59 = .ok (.iload_n 2, 1) := by decide +kernel
theorem dX6_facts_60 : decode cX6_facts 60 = .ok (.ireturn, 1) := by decide +kernel
set_option maxRecDepth 20000 in
theorem ggX6_barred_X6_isFact : GoodIn wsX6_barred wsX6_isFact := goodIn_r _ [6, 7, 8, 9, 5, 10, 11, 12, 13, 14, 15, 16, 17, 18, 19, 20, 21, 22, 23, 24, 25, 26, 27, 28, 29, 30, 31] (by decide +kernel) (by decide +kernel)
set_option maxRecDepth 20000 in
theorem gX6_barred_X6_isFact : GoodIn wsX6_barred (wsV RX6 79 RX6 yX6_isFact wsX6_isFact) := goodIn_app (goodIn_of _ (by decide +kernel)) ggX6_barred_X6_isFact
theorem dX6_barred_0 : decode cX6_barred 0 = .ok (.aload_n 0, 1) := by decide +kernel
theorem dX6_barred_1 : decode cX6_barred 1 = .ok (.iload_n 1, 1) := by decide +kernel
theorem dX6_barred_2 : decode cX6_barred 2 = .ok (.invokevirtual 79, 3) := by decide +kernel
theorem dX6_barred_5 : decode cX6_barred 5 = .ok (.ifCond .eq 16, 3) := by decide +kernel
theorem dX6_barred_8 : decode cX6_barred 8 = .ok (.aload_n 0, 1) := by decide +kernel
theorem dX6_barred_9 : decode cX6_barred 9 = .ok (.iload_n 2, 1) := by decide +kernel
theorem dX6_barred_10 : decode cX6_barred 10 = .ok (.invokevirtual 79, 3) := by decide +kernel
theorem dX6_barred_13 : decode cX6_barred 13 = .ok (.ifCond .eq 8, 3) := by decide +kernel
theorem dX6_barred_16 : decode cX6_barred 16 = .ok (.iload_n 1, 1) := by decide +kernel
theorem dX6_barred_17 : decode cX6_barred 17 = .ok (.iload_n 2, 1) := by decide +kernel
theorem dX6_barred_18 : decode cX6_barred 18 = .ok (.if_icmp .ne 5, 3) := by decide +kernel
theorem dX6_barred_21 : decode cX6_barred 21 = .ok (.iconst (-1), 1) := by decide +kernel
theorem dX6_barred_22 : decode cX6_barred 22 = .ok (.ireturn, 1) := by decide +kernel
theorem dX6_barred_23 : decode cX6_barred 23 = .ok (.aload_n 0, 1) := by decide +kernel
theorem dX6_barred_24 : decode cX6_barred 24 = .ok (.getfield 13, 3) := by decide +kernel
theorem dX6_barred_27 : decode cX6_barred 27 = .ok (.iload_n 1, 1) := by decide +kernel
theorem dX6_barred_28 : decode cX6_barred 28 = .ok (.iaload, 1) := by decide +kernel
theorem dX6_barred_29 : decode cX6_barred 29 = .ok (.iload_n 2, 1) := by decide +kernel
theorem dX6_barred_30 : decode cX6_barred 30 = .ok (.ishr, 1) := by decide +kernel
theorem dX6_barred_31 : decode cX6_barred 31 = .ok (.iconst 1, 1) := by decide +kernel
theorem dX6_barred_32 : decode cX6_barred 32 = .ok (.iand, 1) := by decide +kernel
theorem dX6_barred_33 : decode cX6_barred 33 = .ok (.istore 4, 2) := by decide +kernel
theorem dX6_barred_35 : decode cX6_barred 35 = .ok (.aload_n 0, 1) := by decide +kernel
theorem dX6_barred_36 : decode cX6_barred 36 = .ok (.getfield 13, 3) := by decide +kernel
theorem dX6_barred_39 : decode cX6_barred 39 = .ok (.iload_n 1, 1) := by decide +kernel
theorem dX6_barred_40 : decode cX6_barred 40 = .ok (.iload_n 3, 1) := by decide +kernel
theorem dX6_barred_41 : decode cX6_barred 41 = .ok (.ifCond .eq 16, 3) := by decide +kernel
theorem dX6_barred_44 : decode cX6_barred 44 = .ok (.aload_n 0, 1) := by decide +kernel
theorem dX6_barred_45 : decode cX6_barred 45 = .ok (.getfield 13, 3) := by decide +kernel
theorem dX6_barred_48 : decode cX6_barred 48 = .ok (.iload_n 1, 1) := by decide +kernel
theorem dX6_barred_49 : decode cX6_barred 49 = .ok (.iaload, 1) := by decide +kernel
theorem dX6_barred_50 : decode cX6_barred 50 = .ok (.iconst 1, 1) := by decide +kernel
theorem dX6_barred_51 : decode cX6_barred 51 = .ok (.iload_n 2, 1) := by decide +kernel
theorem dX6_barred_52 : decode cX6_barred 52 = .ok (.ishl, 1) := by decide +kernel
theorem dX6_barred_53 : decode cX6_barred 53 = .ok (.ior, 1) := by decide +kernel
theorem dX6_barred_54 : decode cX6_barred 54 = .ok (.goto 15, 3) := by decide +kernel
theorem dX6_barred_57 : decode cX6_barred 57 = .ok (.aload_n 0, 1) := by decide +kernel
theorem dX6_barred_58 : decode cX6_barred 58 = .ok (.getfield 13, 3) := by decide +kernel
theorem dX6_barred_61 : decode cX6_barred 61 = .ok (.iload_n 1, 1) := by decide +kernel
theorem dX6_barred_62 : decode cX6_barred 62 = .ok (.iaload, 1) := by decide +kernel
theorem dX6_barred_63 : decode cX6_barred 63 = .ok (.iconst 1, 1) := by decide +kernel
theorem dX6_barred_64 : decode cX6_barred 64 = .ok (.iload_n 2, 1) := by decide +kernel
theorem dX6_barred_65 : decode cX6_barred 65 = .ok (.ishl, 1) := by decide +kernel
theorem dX6_barred_66 : decode cX6_barred 66 = .ok (.iconst (-1), 1) := by decide +kernel
theorem dX6_barred_67 : decode cX6_barred 67 = .ok (.ixor, 1) := by decide +kernel
theorem dX6_barred_68 : decode cX6_barred 68 = .ok (.iand, 1) := by decide +kernel
theorem dX6_barred_69 : decode cX6_barred 69 = .ok (.iastore, 1) := by decide +kernel
theorem dX6_barred_70 : decode cX6_barred 70 = .ok (.aload_n 0, 1) := by decide +kernel
theorem dX6_barred_71 : decode cX6_barred 71 = .ok (.getfield 13, 3) := by decide +kernel
theorem dX6_barred_74 : decode cX6_barred 74 = .ok (.iload_n 2, 1) := by decide +kernel
theorem dX6_barred_75 : decode cX6_barred 75 = .ok (.iload_n 3, 1) := by decide +kernel
theorem dX6_barred_76 : decode cX6_barred 76 = .ok (.ifCond .eq 16, 3) := by decide +kernel
theorem dX6_barred_79 : decode cX6_barred 79 = .ok (.aload_n 0, 1) := by decide +kernel
theorem dX6_barred_80 : decode cX6_barred 80 = .ok (.getfield 13, 3) := by decide +kernel
theorem dX6_barred_83 : decode cX6_barred 83 = .ok (.iload_n 2, 1) := by decide +kernel
theorem dX6_barred_84 : decode cX6_barred 84 = .ok (.iaload, 1) := by decide +kernel
theorem dX6_barred_85 : decode cX6_barred 85 = .ok (.iconst 1, 1) := by decide +kernel
theorem dX6_barred_86 : decode cX6_barred 86 = .ok (.iload_n 1, 1) := by decide +kernel
theorem dX6_barred_87 : decode cX6_barred 87 = .ok (.ishl, 1) := by decide +kernel
theorem dX6_barred_88 : decode cX6_barred 88 = .ok (.ior, 1) := by decide +kernel
theorem dX6_barred_89 : decode cX6_barred 89 = .ok (.goto 15, 3) := by decide +kernel
theorem dX6_barred_92 : decode cX6_barred 92 = .ok (.aload_n 0, 1) := by decide +kernel
theorem dX6_barred_93 : decode cX6_barred 93 = .ok (.getfield 13, 3) := by decide +kernel
theorem dX6_barred_96 : decode cX6_barred 96 = .ok (.iload_n 2, 1) := by decide +kernel
theorem dX6_barred_97 : decode cX6_barred 97 = .ok (.iaload, 1) := by decide +kernel
theorem dX6_barred_98 : decode cX6_barred 98 = .ok (.iconst 1, 1) := by decide +kernel
theorem dX6_barred_99 : decode cX6_barred 99 = .ok (.iload_n 1, 1) := by decide +kernel
theorem dX6_barred_100 : decode cX6_barred 100 = .ok (.ishl, 1) := by decide +kernel
theorem dX6_barred_101 : decode cX6_barred 101 = .ok (.iconst (-1), 1) := by decide +kernel
theorem dX6_barred_102 : decode cX6_barred 102 = .ok (.ixor, 1) := by decide +kernel
theorem dX6_barred_103 : decode cX6_barred 103 = .ok (.iand, 1) := by decide +kernel
theorem dX6_barred_104 : decode cX6_barred 104 = .ok (.iastore, 1) := by decide +kernel
theorem dX6_barred_105 : decode cX6_barred 105 = .ok (.iload 4, 2) := by decide +kernel
theorem dX6_barred_107 : decode cX6_barred 107 = .ok (.ireturn, 1) := by decide +kernel
set_option maxRecDepth 20000 in
theorem ggX6_isKind_X6_allFacts : GoodIn wsX6_isKind wsX6_allFacts := goodIn_r _ [7, 1, 11, 12, 13, 14, 15, 16, 17, 18, 19, 20, 21, 22, 23, 24, 25, 26, 27, 28, 29, 30, 31] (by decide +kernel) (by decide +kernel)
set_option maxRecDepth 20000 in
theorem gX6_isKind_X6_allFacts : GoodIn wsX6_isKind (wsV RX6 83 RX6 yX6_allFacts wsX6_allFacts) := goodIn_app (goodIn_of _ (by decide +kernel)) ggX6_isKind_X6_allFacts
set_option maxRecDepth 20000 in
theorem ggX6_isKind_X6_in : GoodIn wsX6_isKind wsX6_in := goodIn_r _ [10] (by decide +kernel) (by decide +kernel)
set_option maxRecDepth 20000 in
theorem gX6_isKind_X6_in : GoodIn wsX6_isKind (va_wsS RX6 66 yX6_in wsX6_in) := goodIn_app (goodIn_of _ (by decide +kernel)) ggX6_isKind_X6_in
theorem dX6_isKind_0 : decode cX6_isKind 0 = .ok (.iload_n 1, 1) := by decide +kernel
theorem dX6_isKind_1 : decode cX6_isKind 1 = .ok (.iconst 0, 1) := by decide +kernel
theorem dX6_isKind_2 : decode cX6_isKind 2 = .ok (.aload_n 0, 1) := by decide +kernel
theorem dX6_isKind_3 : decode cX6_isKind 3 = .ok (.invokevirtual 83, 3) := by decide +kernel
theorem dX6_isKind_6 : decode cX6_isKind 6 = .ok (.invokestatic 66, 3) := by decide +kernel
theorem dX6_isKind_9 : decode cX6_isKind 9 = .ok (.istore_n 2, 1) := by decide +kernel
theorem dX6_isKind_10 : decode cX6_isKind 10 = .ok (.iconst 0, 1) := by decide +kernel
theorem dX6_isKind_11 : decode cX6_isKind 11 = .ok (.istore_n 3, 1) := by decide +kernel
theorem dX6_isKind_12 : decode cX6_isKind 12 = .ok (.iload_n 3, 1) := by decide +kernel
theorem dX6_isKind_13 : decode cX6_isKind 13 = .ok (.aload_n 0, 1) := by decide +kernel
theorem dX6_isKind_14 : decode cX6_isKind 14 = .ok (.getfield 7, 3) := by decide +kernel
theorem dX6_isKind_17 : decode cX6_isKind 17 = .ok (.if_icmp .ge 38, 3) := by decide +kernel
theorem dX6_isKind_20 : decode cX6_isKind 20 = .ok (.iload_n 2, 1) := by decide +kernel
theorem dX6_isKind_21 : decode cX6_isKind 21 = .ok (.ifCond .eq 34, 3) := by decide +kernel
theorem dX6_isKind_24 : decode cX6_isKind 24 = .ok (.iload_n 1, 1) := by decide +kernel
theorem dX6_isKind_25 : decode cX6_isKind 25 = .ok (.iload_n 3, 1) := by decide +kernel
theorem dX6_isKind_26 : decode cX6_isKind 26 = .ok (.ishr, 1) := by decide +kernel
theorem dX6_isKind_27 : decode cX6_isKind 27 = .ok (.iconst 1, 1) := by decide +kernel
theorem dX6_isKind_28 : decode cX6_isKind 28 = .ok (.iand, 1) := by decide +kernel
theorem dX6_isKind_29 : decode cX6_isKind 29 = .ok (.ifCond .eq 14, 3) := by decide +kernel
theorem dX6_isKind_32 : decode cX6_isKind 32 = .ok (.aload_n 0, 1) := by decide +kernel
theorem dX6_isKind_33 : decode cX6_isKind 33 = .ok (.getfield 13, 3) := by decide +kernel
theorem dX6_isKind_36 : decode cX6_isKind 36 = .ok (.iload_n 3, 1) := by decide +kernel
theorem dX6_isKind_37 : decode cX6_isKind 37 = .ok (.iaload, 1) := by decide +kernel
theorem dX6_isKind_38 : decode cX6_isKind 38 = .ok (.iload_n 1, 1) := by decide +kernel
theorem dX6_isKind_39 : decode cX6_isKind 39 = .ok (.iand, 1) := by decide +kernel
theorem dX6_isKind_40 : decode cX6_isKind 40 = .ok (.ifCond .ne 7, 3) := by decide +kernel
theorem dX6_isKind_43 : decode cX6_isKind 43 = .ok (.iconst 1, 1) := by decide +kernel
theorem dX6_isKind_44 : decode cX6_isKind 44 = .ok (.goto 4, 3) := by decide +kernel
theorem dX6_isKind_47 : decode cX6_isKind 47 = .ok (.iconst 0, 1) := by decide +kernel
theorem dX6_isKind_48 : decode cX6_isKind 48 = .ok (.istore_n 2, 1) := by decide +kernel
theorem dX6_isKind_49 : decode cX6_isKind 49 = .ok (.iinc 3 1, 3) := by decide +kernel
theorem dX6_isKind_52 : decode cX6_isKind 52 = .ok (.goto (-40), 3) := by decide +kernel
theorem dX6_isKind_55 : decode cX6_isKind 55 = .ok (.iload_n 2, 1) := by decide +kernel
theorem dX6_isKind_56 : decode cX6_isKind 56 = .ok (.ireturn, 1) := by decide +kernel
set_option maxRecDepth 20000 in
theorem ggX6_line_X6_allFacts : GoodIn wsX6_line wsX6_allFacts := goodIn_r _ [11, 12, 19, 20, 21, 22, 23, 24, 25, 26, 27, 28, 29, 30, 31, 32, 33, 34, 35, 36, 37, 38, 39] (by decide +kernel) (by decide +kernel)
set_option maxRecDepth 20000 in
theorem gX6_line_X6_allFacts : GoodIn wsX6_line (wsV RX6 83 RX6 yX6_allFacts wsX6_allFacts) := goodIn_app (goodIn_of _ (by decide +kernel)) ggX6_line_X6_allFacts
set_option maxRecDepth 20000 in
theorem ggX6_line_X6_in : GoodIn wsX6_line wsX6_in := goodIn_r _ [15] (by decide +kernel) (by decide +kernel)
set_option maxRecDepth 20000 in
theorem gX6_line_X6_in : GoodIn wsX6_line (va_wsS RX6 66 yX6_in wsX6_in) := goodIn_app (goodIn_of _ (by decide +kernel)) ggX6_line_X6_in
set_option maxRecDepth 20000 in
theorem ggX6_line_X6_isRuling : GoodIn wsX6_line wsX6_isRuling := goodIn_r _ [18, 13, 14, 10, 15] (by decide +kernel) (by decide +kernel)
set_option maxRecDepth 20000 in
theorem gX6_line_X6_isRuling : GoodIn wsX6_line (va_wsS RX6 87 yX6_isRuling wsX6_isRuling) := goodIn_app (goodIn_of _ (by decide +kernel)) ggX6_line_X6_isRuling
theorem dX6_line_0 : decode cX6_line 0 = .ok (.iload_n 1, 1) := by decide +kernel
theorem dX6_line_1 : decode cX6_line 1 = .ok (.iconst 0, 1) := by decide +kernel
theorem dX6_line_2 : decode cX6_line 2 = .ok (.aload_n 0, 1) := by decide +kernel
theorem dX6_line_3 : decode cX6_line 3 = .ok (.invokevirtual 83, 3) := by decide +kernel
theorem dX6_line_6 : decode cX6_line 6 = .ok (.invokestatic 66, 3) := by decide +kernel
theorem dX6_line_9 : decode cX6_line 9 = .ok (.ifCond .eq 28, 3) := by decide +kernel
theorem dX6_line_12 : decode cX6_line 12 = .ok (.iload_n 2, 1) := by decide +kernel
theorem dX6_line_13 : decode cX6_line 13 = .ok (.iconst 0, 1) := by decide +kernel
theorem dX6_line_14 : decode cX6_line 14 = .ok (.aload_n 0, 1) := by decide +kernel
theorem dX6_line_15 : decode cX6_line 15 = .ok (.invokevirtual 83, 3) := by decide +kernel
theorem dX6_line_18 : decode cX6_line 18 = .ok (.invokestatic 66, 3) := by decide +kernel
theorem dX6_line_21 : decode cX6_line 21 = .ok (.ifCond .eq 16, 3) := by decide +kernel
theorem dX6_line_24 : decode cX6_line 24 = .ok (.iload_n 1, 1) := by decide +kernel
theorem dX6_line_25 : decode cX6_line 25 = .ok (.iload_n 2, 1) := by decide +kernel
theorem dX6_line_26 : decode cX6_line 26 = .ok (.iand, 1) := by decide +kernel
theorem dX6_line_27 : decode cX6_line 27 = .ok (.ifCond .ne 10, 3) := by decide +kernel
theorem dX6_line_30 : decode cX6_line 30 = .ok (.iload_n 3, 1) := by decide +kernel
theorem dX6_line_31 : decode cX6_line 31 = .ok (.invokestatic 87, 3) := by decide +kernel
theorem dX6_line_34 : decode cX6_line 34 = .ok (.ifCond .ne 6, 3) := by decide +kernel
theorem dX6_line_37 : decode cX6_line 37 = .ok (.bipush (-2), 2) := by decide +kernel
theorem dX6_line_39 : decode cX6_line 39 = .ok (.ireturn, 1) := by decide +kernel
theorem dX6_line_40 : decode cX6_line 40 = .ok (.aload_n 0, 1) := by decide +kernel
theorem dX6_line_41 : decode cX6_line 41 = .ok (.getfield 70, 3) := by decide +kernel
theorem dX6_line_44 : decode cX6_line 44 = .ok (.bipush 12, 2) := by decide +kernel
theorem dX6_line_46 : decode cX6_line 46 = .ok (.if_icmp .ne 6, 3) := by decide +kernel
theorem dX6_line_49 : decode cX6_line 49 = .ok (.bipush (-4), 2) := by decide +kernel
theorem dX6_line_51 : decode cX6_line 51 = .ok (.ireturn, 1) := by decide +kernel
theorem dX6_line_52 : decode cX6_line 52 = .ok (.aload_n 0, 1) := by decide +kernel
theorem dX6_line_53 : decode cX6_line 53 = .ok (.getfield 17, 3) := by decide +kernel
theorem dX6_line_56 : decode cX6_line 56 = .ok (.aload_n 0, 1) := by decide +kernel
theorem dX6_line_57 : decode cX6_line 57 = .ok (.getfield 70, 3) := by decide +kernel
theorem dX6_line_60 : decode cX6_line 60 = .ok (.iload_n 1, 1) := by decide +kernel
theorem dX6_line_61 : decode cX6_line 61 = .ok (.iastore, 1) := by decide +kernel
theorem dX6_line_62 : decode cX6_line 62 = .ok (.aload_n 0, 1) := by decide +kernel
theorem dX6_line_63 : decode cX6_line 63 = .ok (.getfield 20, 3) := by decide +kernel
theorem dX6_line_66 : decode cX6_line 66 = .ok (.aload_n 0, 1) := by decide +kernel
theorem dX6_line_67 : decode cX6_line 67 = .ok (.getfield 70, 3) := by decide +kernel
theorem dX6_line_70 : decode cX6_line 70 = .ok (.iload_n 2, 1) := by decide +kernel
theorem dX6_line_71 : decode cX6_line 71 = .ok (.iastore, 1) := by decide +kernel
theorem dX6_line_72 : decode cX6_line 72 = .ok (.aload_n 0, 1) := by decide +kernel
theorem dX6_line_73 : decode cX6_line 73 = .ok (.getfield 23, 3) := by decide +kernel
theorem dX6_line_76 : decode cX6_line 76 = .ok (.aload_n 0, 1) := by decide +kernel
theorem dX6_line_77 : decode cX6_line 77 = .ok (.getfield 70, 3) := by decide +kernel
theorem dX6_line_80 : decode cX6_line 80 = .ok (.iload_n 3, 1) := by decide +kernel
theorem dX6_line_81 : decode cX6_line 81 = .ok (.iastore, 1) := by decide +kernel
theorem dX6_line_82 : decode cX6_line 82 = .ok (.aload_n 0, 1) := by decide +kernel
theorem dX6_line_83 : decode cX6_line 83 = .ok (.getfield 26, 3) := by decide +kernel
theorem dX6_line_86 : decode cX6_line 86 = .ok (.aload_n 0, 1) := by decide +kernel
theorem dX6_line_87 : decode cX6_line 87 = .ok (.getfield 70, 3) := by decide +kernel
theorem dX6_line_90 : decode cX6_line 90 = .ok (.iconst 0, 1) := by decide +kernel
theorem dX6_line_91 : decode cX6_line 91 = .ok (.bastore, 1) := by decide +kernel
theorem dX6_line_92 : decode cX6_line 92 = .ok (.aload_n 0, 1) := by decide +kernel
theorem dX6_line_93 : decode cX6_line 93 = .ok (.getfield 30, 3) := by decide +kernel
theorem dX6_line_96 : decode cX6_line 96 = .ok (.aload_n 0, 1) := by decide +kernel
theorem dX6_line_97 : decode cX6_line 97 = .ok (.getfield 70, 3) := by decide +kernel
theorem dX6_line_100 : decode cX6_line 100 = .ok (.iconst 0, 1) := by decide +kernel
theorem dX6_line_101 : decode cX6_line 101 = .ok (.iastore, 1) := by decide +kernel
theorem dX6_line_102 : decode cX6_line 102 = .ok (.aload_n 0, 1) := by decide +kernel
theorem dX6_line_103 : decode cX6_line 103 = .ok (.dup, 1) := by decide +kernel
theorem dX6_line_104 : decode cX6_line 104 = .ok (.getfield 70, 3) := by decide +kernel
theorem dX6_line_107 : decode cX6_line 107 = .ok (.iconst 1, 1) := by decide +kernel
theorem dX6_line_108 : decode cX6_line 108 = .ok (.iadd, 1) := by decide +kernel
theorem dX6_line_109 : decode cX6_line 109 = .ok (.putfield 70, 3) := by decide +kernel
theorem dX6_line_112 : decode cX6_line 112 = .ok (.aload_n 0, 1) := by decide +kernel
theorem dX6_line_113 : decode cX6_line 113 = .ok (.getfield 70, 3) := by decide +kernel
theorem dX6_line_116 : decode cX6_line 116 = .ok (.iconst 1, 1) := by decide +kernel
theorem dX6_line_117 : decode cX6_line 117 = .ok (.isub, 1) := by decide +kernel
theorem dX6_line_118 : decode cX6_line 118 = .ok (.ireturn, 1) := by decide +kernel
theorem dX6_bits_0 : decode cX6_bits 0 = .ok (.iconst 0, 1) := by decide +kernel
theorem dX6_bits_1 : decode cX6_bits 1 = .ok (.istore_n 1, 1) := by decide +kernel
theorem dX6_bits_2 : decode cX6_bits 2 = .ok (.iconst 0, 1) := by decide +kernel
theorem dX6_bits_3 : decode cX6_bits 3 = .ok (.istore_n 2, 1) := by decide +kernel
theorem dX6_bits_4 : decode cX6_bits 4 = .ok (.iload_n 2, 1) := by decide +kernel
theorem dX6_bits_5 : decode cX6_bits 5 = .ok (.bipush 12, 2) := by decide +kernel
theorem dX6_bits_7 : decode cX6_bits 7 = .ok (.if_icmp .ge 17, 3) := by decide +kernel
theorem dX6_bits_10 : decode cX6_bits 10 = .ok (.iload_n 1, 1) := by decide +kernel
theorem dX6_bits_11 : decode cX6_bits 11 = .ok (.iload_n 0, 1) := by decide +kernel
theorem dX6_bits_12 : decode cX6_bits 12 = .ok (.iload_n 2, 1) := by decide +kernel
theorem dX6_bits_13 : decode cX6_bits 13 = .ok (.ishr, 1) := by decide +kernel
theorem dX6_bits_14 : decode cX6_bits 14 = .ok (.iconst 1, 1) := by decide +kernel
theorem dX6_bits_15 : decode cX6_bits 15 = .ok (.iand, 1) := by decide +kernel
theorem dX6_bits_16 : decode cX6_bits 16 = .ok (.iadd, 1) := by decide +kernel
theorem dX6_bits_17 : decode cX6_bits 17 = .ok (.istore_n 1, 1) := by decide +kernel
theorem dX6_bits_18 : decode cX6_bits 18 = .ok (.iinc 2 1, 3) := by decide +kernel
theorem dX6_bits_21 : decode cX6_bits 21 = .ok (.goto (-17), 3) := by decide +kernel
theorem dX6_bits_24 : decode cX6_bits 24 = .ok (.iload_n 1, 1) := by decide +kernel
theorem dX6_bits_25 : decode cX6_bits 25 = .ok (.ireturn, 1) := by decide +kernel
set_option maxRecDepth 20000 in
theorem ggX6_except_X6_isLine : GoodIn wsX6_except wsX6_isLine := goodIn_r _ [6, 7, 8, 9, 5, 10, 14, 15, 16, 17, 18, 19, 20, 21, 22, 23, 24, 25, 26, 27, 28, 29, 30, 31, 32, 33, 34] (by decide +kernel) (by decide +kernel)
set_option maxRecDepth 20000 in
theorem gX6_except_X6_isLine : GoodIn wsX6_except (wsV RX6 90 RX6 yX6_isLine wsX6_isLine) := goodIn_app (goodIn_of _ (by decide +kernel)) ggX6_except_X6_isLine
set_option maxRecDepth 20000 in
theorem ggX6_except_X6_bits : GoodIn wsX6_except wsX6_bits := goodIn_r _ [13] (by decide +kernel) (by decide +kernel)
set_option maxRecDepth 20000 in
theorem gX6_except_X6_bits : GoodIn wsX6_except (va_wsS RX6 93 yX6_bits wsX6_bits) := goodIn_app (goodIn_of _ (by decide +kernel)) ggX6_except_X6_bits
theorem dX6_except_0 : decode cX6_except 0 = .ok (.aload_n 0, 1) := by decide +kernel
theorem dX6_except_1 : decode cX6_except 1 = .ok (.iload_n 1, 1) := by decide +kernel
theorem dX6_except_2 : decode cX6_except 2 = .ok (.invokevirtual 90, 3) := by decide +kernel
theorem dX6_except_5 : decode cX6_except 5 = .ok (.ifCond .eq 11, 3) := by decide +kernel
theorem dX6_except_8 : decode cX6_except 8 = .ok (.aload_n 0, 1) := by decide +kernel
theorem dX6_except_9 : decode cX6_except 9 = .ok (.iload_n 2, 1) := by decide +kernel
theorem dX6_except_10 : decode cX6_except 10 = .ok (.invokevirtual 90, 3) := by decide +kernel
theorem dX6_except_13 : decode cX6_except 13 = .ok (.ifCond .ne 5, 3) := by decide +kernel
theorem dX6_except_16 : decode cX6_except 16 = .ok (.iconst (-1), 1) := by decide +kernel
theorem dX6_except_17 : decode cX6_except 17 = .ok (.ireturn, 1) := by decide +kernel
theorem dX6_except_18 : decode cX6_except 18 = .ok (.iload_n 1, 1) := by decide +kernel
theorem dX6_except_19 : decode cX6_except 19 = .ok (.iload_n 2, 1) := by decide +kernel
theorem dX6_except_20 : decode cX6_except 20 = .ok (.if_icmp .le 17, 3) := by decide +kernel
theorem dX6_except_23 : decode cX6_except 23 = .ok (.aload_n 0, 1) := by decide +kernel
theorem dX6_except_24 : decode cX6_except 24 = .ok (.getfield 30, 3) := by decide +kernel
theorem dX6_except_27 : decode cX6_except 27 = .ok (.iload_n 2, 1) := by decide +kernel
theorem dX6_except_28 : decode cX6_except 28 = .ok (.iaload, 1) := by decide +kernel
theorem dX6_except_29 : decode cX6_except 29 = .ok (.iload_n 1, 1) := by decide +kernel
theorem dX6_except_30 : decode cX6_except 30 = .ok (.ishr, 1) := by decide +kernel
theorem dX6_except_31 : decode cX6_except 31 = .ok (.iconst 1, 1) := by decide +kernel
theorem dX6_except_32 : decode cX6_except 32 = .ok (.iand, 1) := by decide +kernel
theorem dX6_except_33 : decode cX6_except 33 = .ok (.iconst 1, 1) := by decide +kernel
theorem dX6_except_34 : decode cX6_except 34 = .ok (.if_icmp .ne 6, 3) := by decide +kernel
theorem dX6_except_37 : decode cX6_except 37 = .ok (.bipush (-5), 2) := by decide +kernel
theorem dX6_except_39 : decode cX6_except 39 = .ok (.ireturn, 1) := by decide +kernel
theorem dX6_except_40 : decode cX6_except 40 = .ok (.aload_n 0, 1) := by decide +kernel
theorem dX6_except_41 : decode cX6_except 41 = .ok (.getfield 30, 3) := by decide +kernel
theorem dX6_except_44 : decode cX6_except 44 = .ok (.iload_n 2, 1) := by decide +kernel
theorem dX6_except_45 : decode cX6_except 45 = .ok (.dup2, 1) := by decide +kernel
theorem dX6_except_46 : decode cX6_except 46 = .ok (.iaload, 1) := by decide +kernel
theorem dX6_except_47 : decode cX6_except 47 = .ok (.iconst 1, 1) := by decide +kernel
theorem dX6_except_48 : decode cX6_except 48 = .ok (.iload_n 1, 1) := by decide +kernel
theorem dX6_except_49 : decode cX6_except 49 = .ok (.ishl, 1) := by decide +kernel
theorem dX6_except_50 : decode cX6_except 50 = .ok (.ior, 1) := by decide +kernel
theorem dX6_except_51 : decode cX6_except 51 = .ok (.iastore, 1) := by decide +kernel
theorem dX6_except_52 : decode cX6_except 52 = .ok (.aload_n 0, 1) := by decide +kernel
theorem dX6_except_53 : decode cX6_except 53 = .ok (.getfield 30, 3) := by decide +kernel
theorem dX6_except_56 : decode cX6_except 56 = .ok (.iload_n 2, 1) := by decide +kernel
theorem dX6_except_57 : decode cX6_except 57 = .ok (.iaload, 1) := by decide +kernel
theorem dX6_except_58 : decode cX6_except 58 = .ok (.invokestatic 93, 3) := by decide +kernel
theorem dX6_except_61 : decode cX6_except 61 = .ok (.ireturn, 1) := by decide +kernel
set_option maxRecDepth 20000 in
theorem ggX6_repeal_X6_isLine : GoodIn wsX6_repeal wsX6_isLine := goodIn_r _ [6, 7, 8, 9, 5, 10, 11, 12, 13, 14, 15, 16, 17, 18, 19, 20, 21, 22, 23, 24, 25, 26, 27, 28, 29, 30, 31] (by decide +kernel) (by decide +kernel)
set_option maxRecDepth 20000 in
theorem gX6_repeal_X6_isLine : GoodIn wsX6_repeal (wsV RX6 90 RX6 yX6_isLine wsX6_isLine) := goodIn_app (goodIn_of _ (by decide +kernel)) ggX6_repeal_X6_isLine
theorem dX6_repeal_0 : decode cX6_repeal 0 = .ok (.aload_n 0, 1) := by decide +kernel
theorem dX6_repeal_1 : decode cX6_repeal 1 = .ok (.iload_n 1, 1) := by decide +kernel
theorem dX6_repeal_2 : decode cX6_repeal 2 = .ok (.invokevirtual 90, 3) := by decide +kernel
theorem dX6_repeal_5 : decode cX6_repeal 5 = .ok (.ifCond .ne 5, 3) := by decide +kernel
theorem dX6_repeal_8 : decode cX6_repeal 8 = .ok (.iconst (-1), 1) := by decide +kernel
theorem dX6_repeal_9 : decode cX6_repeal 9 = .ok (.ireturn, 1) := by decide +kernel
theorem dX6_repeal_10 : decode cX6_repeal 10 = .ok (.aload_n 0, 1) := by decide +kernel
theorem dX6_repeal_11 : decode cX6_repeal 11 = .ok (.getfield 26, 3) := by decide +kernel
theorem dX6_repeal_14 : decode cX6_repeal 14 = .ok (.iload_n 1, 1) := by decide +kernel
theorem dX6_repeal_15 : decode cX6_repeal 15 = .ok (.baload, 1) := by decide +kernel
theorem dX6_repeal_16 : decode cX6_repeal 16 = .ok (.ifCond .eq 7, 3) := by decide +kernel
theorem dX6_repeal_19 : decode cX6_repeal 19 = .ok (.iconst 1, 1) := by decide +kernel
theorem dX6_repeal_20 : decode cX6_repeal 20 = .ok (.goto 4, 3) := by decide +kernel
theorem dX6_repeal_23 : decode cX6_repeal 23 = .ok (.iconst 0, 1) := by decide +kernel
theorem dX6_repeal_24 : decode cX6_repeal 24 = .ok (.istore_n 3, 1) := by decide +kernel
theorem dX6_repeal_25 : decode cX6_repeal 25 = .ok (.aload_n 0, 1) := by decide +kernel
theorem dX6_repeal_26 : decode cX6_repeal 26 = .ok (.getfield 26, 3) := by decide +kernel
theorem dX6_repeal_29 : decode cX6_repeal 29 = .ok (.iload_n 1, 1) := by decide +kernel
theorem dX6_repeal_30 : decode cX6_repeal 30 = .ok (.iload_n 2, 1) := by decide +kernel
theorem dX6_repeal_31 : decode cX6_repeal 31 = .ok (.bastore, 1) := by decide +kernel
theorem dX6_repeal_32 : decode cX6_repeal 32 = .ok (.iload_n 3, 1) := by decide +kernel
theorem dX6_repeal_33 : decode cX6_repeal 33 = .ok (.ireturn, 1) := by decide +kernel
theorem dX6_namedBy_0 : decode cX6_namedBy 0 = .ok (.iconst 1, 1) := by decide +kernel
theorem dX6_namedBy_1 : decode cX6_namedBy 1 = .ok (.iload_n 1, 1) := by decide +kernel
theorem dX6_namedBy_2 : decode cX6_namedBy 2 = .ok (.ishl, 1) := by decide +kernel
theorem dX6_namedBy_3 : decode cX6_namedBy 3 = .ok (.istore_n 2, 1) := by decide +kernel
theorem dX6_namedBy_4 : decode cX6_namedBy 4 = .ok (.iconst 0, 1) := by decide +kernel
theorem dX6_namedBy_5 : decode cX6_namedBy 5 = .ok (.istore_n 3, 1) := by decide +kernel
theorem dX6_namedBy_6 : decode cX6_namedBy 6 = .ok (.iload_n 1, 1) := by decide +kernel
theorem dX6_namedBy_7 : decode cX6_namedBy 7 = .ok (.istore 4, 2) := by decide +kernel
theorem dX6_namedBy_9 : decode cX6_namedBy 9 = .ok (.iload 4, 2) := by decide +kernel
theorem dX6_namedBy_11 : decode cX6_namedBy 11 = .ok (.aload_n 0, 1) := by decide +kernel
theorem dX6_namedBy_12 : decode cX6_namedBy 12 = .ok (.getfield 70, 3) := by decide +kernel
theorem dX6_namedBy_15 : decode cX6_namedBy 15 = .ok (.if_icmp .ge 63, 3) := by decide +kernel
theorem dX6_namedBy_18 : decode cX6_namedBy 18 = .ok (.iload_n 2, 1) := by decide +kernel
theorem dX6_namedBy_19 : decode cX6_namedBy 19 = .ok (.iload 4, 2) := by decide +kernel
theorem dX6_namedBy_21 : decode cX6_namedBy 21 = .ok (.ishr, 1) := by decide +kernel
theorem dX6_namedBy_22 : decode cX6_namedBy 22 = .ok (.iconst 1, 1) := by decide +kernel
theorem dX6_namedBy_23 : decode cX6_namedBy 23 = .ok (.iand, 1) := by decide +kernel
theorem dX6_namedBy_24 : decode cX6_namedBy 24 = .ok (.iconst 1, 1) := by decide +kernel
theorem dX6_namedBy_25 : decode cX6_namedBy 25 = .ok (.if_icmp .ne 47, 3) := by decide +kernel
theorem dX6_namedBy_28 : decode cX6_namedBy 28 = .ok (.iload 4, 2) := by decide +kernel
theorem dX6_namedBy_30 : decode cX6_namedBy 30 = .ok (.iload_n 1, 1) := by decide +kernel
theorem dX6_namedBy_31 : decode cX6_namedBy 31 = .ok (.if_icmp .eq 13, 3) := by decide +kernel
theorem dX6_namedBy_34 : decode cX6_namedBy 34 = .ok (.aload_n 0, 1) := by decide +kernel
theorem dX6_namedBy_35 : decode cX6_namedBy 35 = .ok (.getfield 26, 3) := by decide +kernel
theorem dX6_namedBy_38 : decode cX6_namedBy 38 = .ok (.iload 4, 2) := by decide +kernel
theorem dX6_namedBy_40 : decode cX6_namedBy 40 = .ok (.baload, 1) := by decide +kernel
theorem dX6_namedBy_41 : decode cX6_namedBy 41 = .ok (.ifCond .ne 31, 3) := by decide +kernel
theorem dX6_namedBy_44 : decode cX6_namedBy 44 = .ok (.iload_n 3, 1) := by decide +kernel
theorem dX6_namedBy_45 : decode cX6_namedBy 45 = .ok (.aload_n 0, 1) := by decide +kernel
theorem dX6_namedBy_46 : decode cX6_namedBy 46 = .ok (.getfield 17, 3) := by decide +kernel
theorem dX6_namedBy_49 : decode cX6_namedBy 49 = .ok (.iload 4, 2) := by decide +kernel
theorem dX6_namedBy_51 : decode cX6_namedBy 51 = .ok (.iaload, 1) := by decide +kernel
theorem dX6_namedBy_52 : decode cX6_namedBy 52 = .ok (.aload_n 0, 1) := by decide +kernel
theorem dX6_namedBy_53 : decode cX6_namedBy 53 = .ok (.getfield 20, 3) := by decide +kernel
theorem dX6_namedBy_56 : decode cX6_namedBy 56 = .ok (.iload 4, 2) := by decide +kernel
theorem dX6_namedBy_58 : decode cX6_namedBy 58 = .ok (.iaload, 1) := by decide +kernel
theorem dX6_namedBy_59 : decode cX6_namedBy 59 = .ok (.ior, 1) := by decide +kernel
theorem dX6_namedBy_60 : decode cX6_namedBy 60 = .ok (.ior, 1) := by decide +kernel
theorem dX6_namedBy_61 : decode cX6_namedBy 61 = .ok (.istore_n 3, 1) := by decide +kernel
theorem dX6_namedBy_62 : decode cX6_namedBy 62 = .ok (.iload_n 2, 1) := by decide +kernel
theorem dX6_namedBy_63 : decode cX6_namedBy 63 = .ok (.aload_n 0, 1) := by decide +kernel
theorem dX6_namedBy_64 : decode cX6_namedBy 64 = .ok (.getfield 30, 3) := by decide +kernel
theorem dX6_namedBy_67 : decode cX6_namedBy 67 = .ok (.iload 4, 2) := by decide +kernel
theorem dX6_namedBy_69 : decode cX6_namedBy 69 = .ok (.iaload, 1) := by decide +kernel
theorem dX6_namedBy_70 : decode cX6_namedBy 70 = .ok (.ior, 1) := by decide +kernel
theorem dX6_namedBy_71 : decode cX6_namedBy 71 = .ok (.istore_n 2, 1) := by decide +kernel
theorem dX6_namedBy_72 : decode cX6_namedBy 72 = .ok (.iinc 4 1, 3) := by decide +kernel
theorem dX6_namedBy_75 : decode cX6_namedBy 75 = .ok (.goto (-66), 3) := by decide +kernel
theorem dX6_namedBy_78 : decode cX6_namedBy 78 = .ok (.iload_n 3, 1) := by decide +kernel
theorem dX6_namedBy_79 : decode cX6_namedBy 79 = .ok (.ireturn, 1) := by decide +kernel
set_option maxRecDepth 20000 in
theorem ggX6_about_X6_isLine : GoodIn wsX6_about wsX6_isLine := goodIn_r _ [10, 11, 12, 13, 9, 14, 19, 20, 21, 22, 23, 24, 25, 26, 27, 28, 29, 30, 31, 32, 33, 34, 35, 36, 37, 38, 39] (by decide +kernel) (by decide +kernel)
set_option maxRecDepth 20000 in
theorem gX6_about_X6_isLine : GoodIn wsX6_about (wsV RX6 90 RX6 yX6_isLine wsX6_isLine) := goodIn_app (goodIn_of _ (by decide +kernel)) ggX6_about_X6_isLine
set_option maxRecDepth 20000 in
theorem ggX6_about_X6_namedBy : GoodIn wsX6_about wsX6_namedBy := goodIn_r _ [18, 11, 4, 1, 2, 5, 19, 20, 21, 22, 23, 24, 25, 26, 27, 28, 29, 30, 31, 32, 33, 34, 35, 36, 37, 38, 39] (by decide +kernel) (by decide +kernel)
set_option maxRecDepth 20000 in
theorem gX6_about_X6_namedBy : GoodIn wsX6_about (wsV RX6 97 RX6 yX6_namedBy wsX6_namedBy) := goodIn_app (goodIn_of _ (by decide +kernel)) ggX6_about_X6_namedBy
theorem dX6_about_0 : decode cX6_about 0 = .ok (.aload_n 0, 1) := by decide +kernel
theorem dX6_about_1 : decode cX6_about 1 = .ok (.iload_n 1, 1) := by decide +kernel
theorem dX6_about_2 : decode cX6_about 2 = .ok (.invokevirtual 90, 3) := by decide +kernel
theorem dX6_about_5 : decode cX6_about 5 = .ok (.ifCond .ne 5, 3) := by decide +kernel
theorem dX6_about_8 : decode cX6_about 8 = .ok (.iconst (-1), 1) := by decide +kernel
theorem dX6_about_9 : decode cX6_about 9 = .ok (.ireturn, 1) := by decide +kernel
theorem dX6_about_10 : decode cX6_about 10 = .ok (.iload_n 2, 1) := by decide +kernel
theorem dX6_about_11 : decode cX6_about 11 = .ok (.tableswitch 86 0 5 #[37, 44, 51, 58, 73, 80], 37) := by decide +kernel
theorem dX6_about_48 : decode cX6_about 48 = .ok (.aload_n 0, 1) := by decide +kernel
theorem dX6_about_49 : decode cX6_about 49 = .ok (.getfield 17, 3) := by decide +kernel
theorem dX6_about_52 : decode cX6_about 52 = .ok (.iload_n 1, 1) := by decide +kernel
theorem dX6_about_53 : decode cX6_about 53 = .ok (.iaload, 1) := by decide +kernel
theorem dX6_about_54 : decode cX6_about 54 = .ok (.ireturn, 1) := by decide +kernel
theorem dX6_about_55 : decode cX6_about 55 = .ok (.aload_n 0, 1) := by decide +kernel
theorem dX6_about_56 : decode cX6_about 56 = .ok (.getfield 20, 3) := by decide +kernel
theorem dX6_about_59 : decode cX6_about 59 = .ok (.iload_n 1, 1) := by decide +kernel
theorem dX6_about_60 : decode cX6_about 60 = .ok (.iaload, 1) := by decide +kernel
theorem dX6_about_61 : decode cX6_about 61 = .ok (.ireturn, 1) := by decide +kernel
theorem dX6_about_62 : decode cX6_about 62 = .ok (.aload_n 0, 1) := by decide +kernel
theorem dX6_about_63 : decode cX6_about 63 = .ok (.getfield 23, 3) := by decide +kernel
theorem dX6_about_66 : decode cX6_about 66 = .ok (.iload_n 1, 1) := by decide +kernel
theorem dX6_about_67 : decode cX6_about 67 = .ok (.iaload, 1) := by decide +kernel
theorem dX6_about_68 : decode cX6_about 68 = .ok (.ireturn, 1) := by decide +kernel
theorem dX6_about_69 : decode cX6_about 69 = .ok (.aload_n 0, 1) := by decide +kernel
theorem dX6_about_70 : decode cX6_about 70 = .ok (.getfield 26, 3) := by decide +kernel
theorem dX6_about_73 : decode cX6_about 73 = .ok (.iload_n 1, 1) := by decide +kernel
theorem dX6_about_74 : decode cX6_about 74 = .ok (.baload, 1) := by decide +kernel
theorem dX6_about_75 : decode cX6_about 75 = .ok (.ifCond .eq 7, 3) := by decide +kernel
theorem dX6_about_78 : decode cX6_about 78 = .ok (.iconst 1, 1) := by decide +kernel
theorem dX6_about_79 : decode cX6_about 79 = .ok (.goto 4, 3) := by decide +kernel
theorem dX6_about_82 : decode cX6_about 82 = .ok (.iconst 0, 1) := by decide +kernel
theorem dX6_about_83 : decode cX6_about 83 = .ok (.ireturn, 1) := by decide +kernel
theorem dX6_about_84 : decode cX6_about 84 = .ok (.aload_n 0, 1) := by decide +kernel
theorem dX6_about_85 : decode cX6_about 85 = .ok (.getfield 30, 3) := by decide +kernel
theorem dX6_about_88 : decode cX6_about 88 = .ok (.iload_n 1, 1) := by decide +kernel
theorem dX6_about_89 : decode cX6_about 89 = .ok (.iaload, 1) := by decide +kernel
theorem dX6_about_90 : decode cX6_about 90 = .ok (.ireturn, 1) := by decide +kernel
theorem dX6_about_91 : decode cX6_about 91 = .ok (.aload_n 0, 1) := by decide +kernel
theorem dX6_about_92 : decode cX6_about 92 = .ok (.iload_n 1, 1) := by decide +kernel
theorem dX6_about_93 : decode cX6_about 93 = .ok (.invokevirtual 97, 3) := by decide +kernel
theorem dX6_about_96 : decode cX6_about 96 = .ok (.ireturn, 1) := by decide +kernel
theorem dX6_about_97 : decode cX6_about 97 = .ok (.bipush (-2), 2) := by decide +kernel
theorem dX6_about_99 : decode cX6_about 99 = .ok (.ireturn, 1) := by decide +kernel
theorem dX6_holding_0 : decode cX6_holding 0 = .ok (.iconst 0, 1) := by decide +kernel
theorem dX6_holding_1 : decode cX6_holding 1 = .ok (.istore_n 2, 1) := by decide +kernel
theorem dX6_holding_2 : decode cX6_holding 2 = .ok (.aload_n 0, 1) := by decide +kernel
theorem dX6_holding_3 : decode cX6_holding 3 = .ok (.getfield 70, 3) := by decide +kernel
theorem dX6_holding_6 : decode cX6_holding 6 = .ok (.iconst 1, 1) := by decide +kernel
theorem dX6_holding_7 : decode cX6_holding 7 = .ok (.isub, 1) := by decide +kernel
theorem dX6_holding_8 : decode cX6_holding 8 = .ok (.istore_n 3, 1) := by decide +kernel
theorem dX6_holding_9 : decode cX6_holding 9 = .ok (.iload_n 3, 1) := by decide +kernel
theorem dX6_holding_10 : decode cX6_holding 10 = .ok (.ifCond .lt 75, 3) := by decide +kernel
theorem dX6_holding_13 : decode cX6_holding 13 = .ok (.aload_n 0, 1) := by decide +kernel
theorem dX6_holding_14 : decode cX6_holding 14 = .ok (.getfield 26, 3) := by decide +kernel
theorem dX6_holding_17 : decode cX6_holding 17 = .ok (.iload_n 3, 1) := by decide +kernel
theorem dX6_holding_18 : decode cX6_holding 18 = .ok (.baload, 1) := by decide +kernel
theorem dX6_holding_19 : decode cX6_holding 19 = .ok (.ifCond .ne 42, 3) := by decide +kernel
theorem dX6_holding_22 : decode cX6_holding 22 = .ok (.aload_n 0, 1) := by decide +kernel
theorem dX6_holding_23 : decode cX6_holding 23 = .ok (.getfield 17, 3) := by decide +kernel
theorem dX6_holding_26 : decode cX6_holding 26 = .ok (.iload_n 3, 1) := by decide +kernel
theorem dX6_holding_27 : decode cX6_holding 27 = .ok (.iaload, 1) := by decide +kernel
theorem dX6_holding_28 : decode cX6_holding 28 = .ok (.iload_n 1, 1) := by decide +kernel
theorem dX6_holding_29 : decode cX6_holding 29 = .ok (.iconst (-1), 1) := by decide +kernel
theorem dX6_holding_30 : decode cX6_holding 30 = .ok (.ixor, 1) := by decide +kernel
theorem dX6_holding_31 : decode cX6_holding 31 = .ok (.iand, 1) := by decide +kernel
theorem dX6_holding_32 : decode cX6_holding 32 = .ok (.ifCond .ne 29, 3) := by decide +kernel
theorem dX6_holding_35 : decode cX6_holding 35 = .ok (.aload_n 0, 1) := by decide +kernel
theorem dX6_holding_36 : decode cX6_holding 36 = .ok (.getfield 20, 3) := by decide +kernel
theorem dX6_holding_39 : decode cX6_holding 39 = .ok (.iload_n 3, 1) := by decide +kernel
theorem dX6_holding_40 : decode cX6_holding 40 = .ok (.iaload, 1) := by decide +kernel
theorem dX6_holding_41 : decode cX6_holding 41 = .ok (.iload_n 1, 1) := by decide +kernel
theorem dX6_holding_42 : decode cX6_holding 42 = .ok (.iand, 1) := by decide +kernel
theorem dX6_holding_43 : decode cX6_holding 43 = .ok (.ifCond .ne 18, 3) := by decide +kernel
theorem dX6_holding_46 : decode cX6_holding 46 = .ok (.aload_n 0, 1) := by decide +kernel
theorem dX6_holding_47 : decode cX6_holding 47 = .ok (.getfield 30, 3) := by decide +kernel
theorem dX6_holding_50 : decode cX6_holding 50 = .ok (.iload_n 3, 1) := by decide +kernel
theorem dX6_holding_51 : decode cX6_holding 51 = .ok (.iaload, 1) := by decide +kernel
theorem dX6_holding_52 : decode cX6_holding 52 = .ok (.iload_n 2, 1) := by decide +kernel
theorem dX6_holding_53 : decode cX6_holding 53 = .ok (.iand, 1) := by decide +kernel
theorem dX6_holding_54 : decode cX6_holding 54 = .ok (.ifCond .ne 7, 3) := by decide +kernel
theorem dX6_holding_57 : decode cX6_holding 57 = .ok (.iconst 1, 1) := by decide +kernel
theorem dX6_holding_58 : decode cX6_holding 58 = .ok (.goto 4, 3) := by decide +kernel
theorem dX6_holding_61 : decode cX6_holding 61 = .ok (.iconst 0, 1) := by decide +kernel
theorem dX6_holding_62 : decode cX6_holding 62 = .ok (.istore 4, 2) := by decide +kernel
theorem dX6_holding_64 : decode cX6_holding 64 = .ok (.iload_n 2, 1) := by decide +kernel
theorem dX6_holding_65 : decode cX6_holding 65 = .ok (.iload 4, 2) := by decide +kernel
theorem dX6_holding_67 : decode cX6_holding 67 = .ok (.ifCond .eq 9, 3) := by decide +kernel
theorem dX6_holding_70 : decode cX6_holding 70 = .ok (.iconst 1, 1) := by decide +kernel
theorem dX6_holding_71 : decode cX6_holding 71 = .ok (.iload_n 3, 1) := by decide +kernel
theorem dX6_holding_72 : decode cX6_holding 72 = .ok (.ishl, 1) := by decide +kernel
theorem dX6_holding_73 : decode cX6_holding 73 = .ok (.goto 4, 3) := by decide +kernel
theorem dX6_holding_76 : decode cX6_holding 76 = .ok (.iconst 0, 1) := by decide +kernel
theorem dX6_holding_77 : decode cX6_holding 77 = .ok (.ior, 1) := by decide +kernel
theorem dX6_holding_78 : decode cX6_holding 78 = .ok (.istore_n 2, 1) := by decide +kernel
theorem dX6_holding_79 : decode cX6_holding 79 = .ok (.iinc 3 (-1), 3) := by decide +kernel
theorem dX6_holding_82 : decode cX6_holding 82 = .ok (.goto (-73), 3) := by decide +kernel
theorem dX6_holding_85 : decode cX6_holding 85 = .ok (.iload_n 2, 1) := by decide +kernel
theorem dX6_holding_86 : decode cX6_holding 86 = .ok (.ireturn, 1) := by decide +kernel
set_option maxRecDepth 20000 in
theorem ggX6_holds_X6_isLine : GoodIn wsX6_holds wsX6_isLine := goodIn_r _ [5, 6, 7, 8, 4, 9, 28, 29, 30, 31, 32, 33, 34, 35, 36, 37, 38, 39, 40, 41, 42, 43, 44, 45, 46, 47, 48] (by decide +kernel) (by decide +kernel)
set_option maxRecDepth 20000 in
theorem gX6_holds_X6_isLine : GoodIn wsX6_holds (wsV RX6 90 RX6 yX6_isLine wsX6_isLine) := goodIn_app (goodIn_of _ (by decide +kernel)) ggX6_holds_X6_isLine
set_option maxRecDepth 20000 in
theorem ggX6_holds_X6_isKind : GoodIn wsX6_holds wsX6_isKind := goodIn_r _ [13, 14, 15, 16, 17, 18, 4, 19, 7, 8, 9, 28, 29, 30, 31, 32, 33, 34, 35, 36, 37, 38, 39, 40, 41, 42, 43, 44, 45, 46, 47, 48] (by decide +kernel) (by decide +kernel)
set_option maxRecDepth 20000 in
theorem gX6_holds_X6_isKind : GoodIn wsX6_holds (wsV RX6 100 RX6 yX6_isKind wsX6_isKind) := goodIn_app (goodIn_of _ (by decide +kernel)) ggX6_holds_X6_isKind
set_option maxRecDepth 20000 in
theorem ggX6_holds_X6_holding : GoodIn wsX6_holds wsX6_holding := goodIn_r _ [23, 6, 24, 25, 26, 27, 28, 29, 30, 31, 32, 33, 34, 35, 36, 37, 38, 39, 40, 41, 42, 43, 44, 45, 46, 47, 48] (by decide +kernel) (by decide +kernel)
set_option maxRecDepth 20000 in
theorem gX6_holds_X6_holding : GoodIn wsX6_holds (wsV RX6 103 RX6 yX6_holding wsX6_holding) := goodIn_app (goodIn_of _ (by decide +kernel)) ggX6_holds_X6_holding
theorem dX6_holds_0 : decode cX6_holds 0 = .ok (.aload_n 0, 1) := by decide +kernel
theorem dX6_holds_1 : decode cX6_holds 1 = .ok (.iload_n 1, 1) := by decide +kernel
theorem dX6_holds_2 : decode cX6_holds 2 = .ok (.invokevirtual 90, 3) := by decide +kernel
theorem dX6_holds_5 : decode cX6_holds 5 = .ok (.ifCond .ne 5, 3) := by decide +kernel
theorem dX6_holds_8 : decode cX6_holds 8 = .ok (.iconst (-1), 1) := by decide +kernel
theorem dX6_holds_9 : decode cX6_holds 9 = .ok (.ireturn, 1) := by decide +kernel
theorem dX6_holds_10 : decode cX6_holds 10 = .ok (.aload_n 0, 1) := by decide +kernel
theorem dX6_holds_11 : decode cX6_holds 11 = .ok (.iload_n 2, 1) := by decide +kernel
theorem dX6_holds_12 : decode cX6_holds 12 = .ok (.invokevirtual 100, 3) := by decide +kernel
theorem dX6_holds_15 : decode cX6_holds 15 = .ok (.ifCond .eq 15, 3) := by decide +kernel
theorem dX6_holds_18 : decode cX6_holds 18 = .ok (.aload_n 0, 1) := by decide +kernel
theorem dX6_holds_19 : decode cX6_holds 19 = .ok (.iload_n 2, 1) := by decide +kernel
theorem dX6_holds_20 : decode cX6_holds 20 = .ok (.invokevirtual 103, 3) := by decide +kernel
theorem dX6_holds_23 : decode cX6_holds 23 = .ok (.iload_n 1, 1) := by decide +kernel
theorem dX6_holds_24 : decode cX6_holds 24 = .ok (.ishr, 1) := by decide +kernel
theorem dX6_holds_25 : decode cX6_holds 25 = .ok (.iconst 1, 1) := by decide +kernel
theorem dX6_holds_26 : decode cX6_holds 26 = .ok (.iand, 1) := by decide +kernel
theorem dX6_holds_27 : decode cX6_holds 27 = .ok (.goto 5, 3) := by decide +kernel
theorem dX6_holds_30 : decode cX6_holds 30 = .ok (.bipush (-2), 2) := by decide +kernel
theorem dX6_holds_32 : decode cX6_holds 32 = .ok (.ireturn, 1) := by decide +kernel
set_option maxRecDepth 20000 in
theorem ggX6_lineFor_X6_holding : GoodIn wsX6_lineFor wsX6_holding := goodIn_r _ [7, 1, 8, 9, 10, 2, 11, 12, 13, 14, 15, 16, 17, 18, 19, 20, 21, 22, 23, 24, 25, 26, 27, 28, 29, 30, 31] (by decide +kernel) (by decide +kernel)
set_option maxRecDepth 20000 in
theorem gX6_lineFor_X6_holding : GoodIn wsX6_lineFor (wsV RX6 103 RX6 yX6_holding wsX6_holding) := goodIn_app (goodIn_of _ (by decide +kernel)) ggX6_lineFor_X6_holding
theorem dX6_lineFor_0 : decode cX6_lineFor 0 = .ok (.iconst 0, 1) := by decide +kernel
theorem dX6_lineFor_1 : decode cX6_lineFor 1 = .ok (.istore_n 2, 1) := by decide +kernel
theorem dX6_lineFor_2 : decode cX6_lineFor 2 = .ok (.iconst 0, 1) := by decide +kernel
theorem dX6_lineFor_3 : decode cX6_lineFor 3 = .ok (.istore_n 3, 1) := by decide +kernel
theorem dX6_lineFor_4 : decode cX6_lineFor 4 = .ok (.iload_n 3, 1) := by decide +kernel
theorem dX6_lineFor_5 : decode cX6_lineFor 5 = .ok (.aload_n 0, 1) := by decide +kernel
theorem dX6_lineFor_6 : decode cX6_lineFor 6 = .ok (.getfield 70, 3) := by decide +kernel
theorem dX6_lineFor_9 : decode cX6_lineFor 9 = .ok (.if_icmp .ge 18, 3) := by decide +kernel
theorem dX6_lineFor_12 : decode cX6_lineFor 12 = .ok (.iload_n 2, 1) := by decide +kernel
theorem dX6_lineFor_13 : decode cX6_lineFor 13 = .ok (.aload_n 0, 1) := by decide +kernel
theorem dX6_lineFor_14 : decode cX6_lineFor 14 = .ok (.getfield 30, 3) := by decide +kernel
theorem dX6_lineFor_17 : decode cX6_lineFor 17 = .ok (.iload_n 3, 1) := by decide +kernel
theorem dX6_lineFor_18 : decode cX6_lineFor 18 = .ok (.iaload, 1) := by decide +kernel
theorem dX6_lineFor_19 : decode cX6_lineFor 19 = .ok (.ior, 1) := by decide +kernel
theorem dX6_lineFor_20 : decode cX6_lineFor 20 = .ok (.istore_n 2, 1) := by decide +kernel
theorem dX6_lineFor_21 : decode cX6_lineFor 21 = .ok (.iinc 3 1, 3) := by decide +kernel
theorem dX6_lineFor_24 : decode cX6_lineFor 24 = .ok (.goto (-20), 3) := by decide +kernel
theorem dX6_lineFor_27 : decode cX6_lineFor 27 = .ok (.aload_n 0, 1) := by decide +kernel
theorem dX6_lineFor_28 : decode cX6_lineFor 28 = .ok (.iload_n 1, 1) := by decide +kernel
theorem dX6_lineFor_29 : decode cX6_lineFor 29 = .ok (.invokevirtual 103, 3) := by decide +kernel
theorem dX6_lineFor_32 : decode cX6_lineFor 32 = .ok (.iload_n 2, 1) := by decide +kernel
theorem dX6_lineFor_33 : decode cX6_lineFor 33 = .ok (.iconst (-1), 1) := by decide +kernel
theorem dX6_lineFor_34 : decode cX6_lineFor 34 = .ok (.ixor, 1) := by decide +kernel
theorem dX6_lineFor_35 : decode cX6_lineFor 35 = .ok (.iand, 1) := by decide +kernel
theorem dX6_lineFor_36 : decode cX6_lineFor 36 = .ok (.istore_n 3, 1) := by decide +kernel
theorem dX6_lineFor_37 : decode cX6_lineFor 37 = .ok (.iconst 0, 1) := by decide +kernel
theorem dX6_lineFor_38 : decode cX6_lineFor 38 = .ok (.istore 4, 2) := by decide +kernel
theorem dX6_lineFor_40 : decode cX6_lineFor 40 = .ok (.iload 4, 2) := by decide +kernel
theorem dX6_lineFor_42 : decode cX6_lineFor 42 = .ok (.aload_n 0, 1) := by decide +kernel
theorem dX6_lineFor_43 : decode cX6_lineFor 43 = .ok (.getfield 70, 3) := by decide +kernel
theorem dX6_lineFor_46 : decode cX6_lineFor 46 = .ok (.if_icmp .ge 22, 3) := by decide +kernel
theorem dX6_lineFor_49 : decode cX6_lineFor 49 = .ok (.iload_n 3, 1) := by decide +kernel
theorem dX6_lineFor_50 : decode cX6_lineFor 50 = .ok (.iload 4, 2) := by decide +kernel
theorem dX6_lineFor_52 : decode cX6_lineFor 52 = .ok (.ishr, 1) := by decide +kernel
theorem dX6_lineFor_53 : decode cX6_lineFor 53 = .ok (.iconst 1, 1) := by decide +kernel
theorem dX6_lineFor_54 : decode cX6_lineFor 54 = .ok (.iand, 1) := by decide +kernel
theorem dX6_lineFor_55 : decode cX6_lineFor 55 = .ok (.iconst 1, 1) := by decide +kernel
theorem dX6_lineFor_56 : decode cX6_lineFor 56 = .ok (.if_icmp .ne 6, 3) := by decide +kernel
theorem dX6_lineFor_59 : decode cX6_lineFor 59 = .ok (.iload 4, 2) := by decide +kernel
theorem dX6_lineFor_61 : decode cX6_lineFor 61 = .ok (.ireturn, 1) := by decide +kernel
theorem dX6_lineFor_62 : decode cX6_lineFor 62 = .ok (.iinc 4 1, 3) := by decide +kernel
theorem dX6_lineFor_65 : decode cX6_lineFor 65 = .ok (.goto (-25), 3) := by decide +kernel
theorem dX6_lineFor_68 : decode cX6_lineFor 68 = .ok (.bipush (-6), 2) := by decide +kernel
theorem dX6_lineFor_70 : decode cX6_lineFor 70 = .ok (.ireturn, 1) := by decide +kernel
set_option maxRecDepth 20000 in
theorem ggX6_rulingFor_X6_lineFor : GoodIn wsX6_rulingFor wsX6_lineFor := goodIn_r _ [6, 7, 8, 9, 10, 11, 5, 12, 13, 14, 15, 16, 17, 18, 19, 20, 21, 22, 23, 24, 25, 26, 27, 28, 29, 30, 31, 32, 33, 34, 35, 36] (by decide +kernel) (by decide +kernel)
set_option maxRecDepth 20000 in
theorem gX6_rulingFor_X6_lineFor : GoodIn wsX6_rulingFor (wsV RX6 106 RX6 yX6_lineFor wsX6_lineFor) := goodIn_app (goodIn_of _ (by decide +kernel)) ggX6_rulingFor_X6_lineFor
theorem dX6_rulingFor_0 : decode cX6_rulingFor 0 = .ok (.aload_n 0, 1) := by decide +kernel
theorem dX6_rulingFor_1 : decode cX6_rulingFor 1 = .ok (.iload_n 1, 1) := by decide +kernel
theorem dX6_rulingFor_2 : decode cX6_rulingFor 2 = .ok (.invokevirtual 106, 3) := by decide +kernel
theorem dX6_rulingFor_5 : decode cX6_rulingFor 5 = .ok (.istore_n 2, 1) := by decide +kernel
theorem dX6_rulingFor_6 : decode cX6_rulingFor 6 = .ok (.iload_n 2, 1) := by decide +kernel
theorem dX6_rulingFor_7 : decode cX6_rulingFor 7 = .ok (.ifCond .ge 7, 3) := by decide +kernel
theorem dX6_rulingFor_10 : decode cX6_rulingFor 10 = .ok (.iconst 0, 1) := by decide +kernel
theorem dX6_rulingFor_11 : decode cX6_rulingFor 11 = .ok (.goto 9, 3) := by decide +kernel
theorem dX6_rulingFor_14 : decode cX6_rulingFor 14 = .ok (.aload_n 0, 1) := by decide +kernel
theorem dX6_rulingFor_15 : decode cX6_rulingFor 15 = .ok (.getfield 23, 3) := by decide +kernel
theorem dX6_rulingFor_18 : decode cX6_rulingFor 18 = .ok (.iload_n 2, 1) := by decide +kernel
theorem dX6_rulingFor_19 : decode cX6_rulingFor 19 = .ok (.iaload, 1) := by decide +kernel
theorem dX6_rulingFor_20 : decode cX6_rulingFor 20 = .ok (.ireturn, 1) := by decide +kernel
set_option maxRecDepth 20000 in
theorem ggX6_law_X6_isKind : GoodIn wsX6_law wsX6_isKind := goodIn_r _ [5, 6, 7, 8, 9, 10, 4, 11, 12, 13, 14, 33, 34, 35, 36, 37, 38, 39, 40, 41, 42, 43, 44, 45, 46, 47, 48, 49, 50, 51, 52, 53] (by decide +kernel) (by decide +kernel)
set_option maxRecDepth 20000 in
theorem gX6_law_X6_isKind : GoodIn wsX6_law (wsV RX6 100 RX6 yX6_isKind wsX6_isKind) := goodIn_app (goodIn_of _ (by decide +kernel)) ggX6_law_X6_isKind
set_option maxRecDepth 20000 in
theorem ggX6_law_X6_in : GoodIn wsX6_law wsX6_in := goodIn_r _ [14] (by decide +kernel) (by decide +kernel)
set_option maxRecDepth 20000 in
theorem gX6_law_X6_in : GoodIn wsX6_law (va_wsS RX6 66 yX6_in wsX6_in) := goodIn_app (goodIn_of _ (by decide +kernel)) ggX6_law_X6_in
set_option maxRecDepth 20000 in
theorem ggX6_law_X6_lineFor : GoodIn wsX6_law wsX6_lineFor := goodIn_r _ [18, 19, 20, 21, 22, 23, 4, 24, 25, 26, 27, 33, 34, 35, 36, 37, 38, 39, 40, 41, 42, 43, 44, 45, 46, 47, 48, 49, 50, 51, 52, 53] (by decide +kernel) (by decide +kernel)
set_option maxRecDepth 20000 in
theorem gX6_law_X6_lineFor : GoodIn wsX6_law (wsV RX6 106 RX6 yX6_lineFor wsX6_lineFor) := goodIn_app (goodIn_of _ (by decide +kernel)) ggX6_law_X6_lineFor
set_option maxRecDepth 20000 in
theorem ggX6_law_X6_rulingFor : GoodIn wsX6_law wsX6_rulingFor := goodIn_r _ [31, 32, 15, 16, 17, 4, 18, 19, 20, 21, 22, 23, 24, 25, 26, 27, 33, 34, 35, 36, 37, 38, 39, 40, 41, 42, 43, 44, 45, 46, 47, 48, 49, 50, 51, 52, 53] (by decide +kernel) (by decide +kernel)
set_option maxRecDepth 20000 in
theorem gX6_law_X6_rulingFor : GoodIn wsX6_law (wsV RX6 109 RX6 yX6_rulingFor wsX6_rulingFor) := goodIn_app (goodIn_of _ (by decide +kernel)) ggX6_law_X6_rulingFor
theorem dX6_law_0 : decode cX6_law 0 = .ok (.aload_n 0, 1) := by decide +kernel
theorem dX6_law_1 : decode cX6_law 1 = .ok (.iload_n 1, 1) := by decide +kernel
theorem dX6_law_2 : decode cX6_law 2 = .ok (.invokevirtual 100, 3) := by decide +kernel
theorem dX6_law_5 : decode cX6_law 5 = .ok (.ifCond .eq 12, 3) := by decide +kernel
theorem dX6_law_8 : decode cX6_law 8 = .ok (.iload_n 2, 1) := by decide +kernel
theorem dX6_law_9 : decode cX6_law 9 = .ok (.iconst 0, 1) := by decide +kernel
theorem dX6_law_10 : decode cX6_law 10 = .ok (.iconst 1, 1) := by decide +kernel
theorem dX6_law_11 : decode cX6_law 11 = .ok (.invokestatic 66, 3) := by decide +kernel
theorem dX6_law_14 : decode cX6_law 14 = .ok (.ifCond .ne 6, 3) := by decide +kernel
theorem dX6_law_17 : decode cX6_law 17 = .ok (.bipush (-2), 2) := by decide +kernel
theorem dX6_law_19 : decode cX6_law 19 = .ok (.ireturn, 1) := by decide +kernel
theorem dX6_law_20 : decode cX6_law 20 = .ok (.iload_n 2, 1) := by decide +kernel
theorem dX6_law_21 : decode cX6_law 21 = .ok (.ifCond .ne 11, 3) := by decide +kernel
theorem dX6_law_24 : decode cX6_law 24 = .ok (.aload_n 0, 1) := by decide +kernel
theorem dX6_law_25 : decode cX6_law 25 = .ok (.iload_n 1, 1) := by decide +kernel
theorem dX6_law_26 : decode cX6_law 26 = .ok (.invokevirtual 106, 3) := by decide +kernel
theorem dX6_law_29 : decode cX6_law 29 = .ok (.goto 8, 3) := by decide +kernel
theorem dX6_law_32 : decode cX6_law 32 = .ok (.aload_n 0, 1) := by decide +kernel
theorem dX6_law_33 : decode cX6_law 33 = .ok (.iload_n 1, 1) := by decide +kernel
theorem dX6_law_34 : decode cX6_law 34 = .ok (.invokevirtual 109, 3) := by decide +kernel
theorem dX6_law_37 : decode cX6_law 37 = .ok (.ireturn, 1) := by decide +kernel
set_option maxRecDepth 20000 in
theorem ggX6_open_X6_allFacts : GoodIn wsX6_open wsX6_allFacts := goodIn_r _ [5, 6, 28, 29, 30, 31, 32, 33, 34, 35, 36, 37, 38, 39, 40, 41, 42, 43, 44, 45, 46, 47, 48] (by decide +kernel) (by decide +kernel)
set_option maxRecDepth 20000 in
theorem gX6_open_X6_allFacts : GoodIn wsX6_open (wsV RX6 83 RX6 yX6_allFacts wsX6_allFacts) := goodIn_app (goodIn_of _ (by decide +kernel)) ggX6_open_X6_allFacts
set_option maxRecDepth 20000 in
theorem ggX6_open_X6_isKind : GoodIn wsX6_open wsX6_isKind := goodIn_r _ [10, 6, 11, 1, 2, 3, 4, 5, 12, 13, 14, 28, 29, 30, 31, 32, 33, 34, 35, 36, 37, 38, 39, 40, 41, 42, 43, 44, 45, 46, 47, 48] (by decide +kernel) (by decide +kernel)
set_option maxRecDepth 20000 in
theorem gX6_open_X6_isKind : GoodIn wsX6_open (wsV RX6 100 RX6 yX6_isKind wsX6_isKind) := goodIn_app (goodIn_of _ (by decide +kernel)) ggX6_open_X6_isKind
set_option maxRecDepth 20000 in
theorem ggX6_open_X6_lineFor : GoodIn wsX6_open wsX6_lineFor := goodIn_r _ [18, 19, 20, 21, 22, 23, 4, 24, 25, 26, 27, 28, 29, 30, 31, 32, 33, 34, 35, 36, 37, 38, 39, 40, 41, 42, 43, 44, 45, 46, 47, 48] (by decide +kernel) (by decide +kernel)
set_option maxRecDepth 20000 in
theorem gX6_open_X6_lineFor : GoodIn wsX6_open (wsV RX6 106 RX6 yX6_lineFor wsX6_lineFor) := goodIn_app (goodIn_of _ (by decide +kernel)) ggX6_open_X6_lineFor
theorem dX6_open_0 : decode cX6_open 0 = .ok (.iconst 0, 1) := by decide +kernel
theorem dX6_open_1 : decode cX6_open 1 = .ok (.istore_n 2, 1) := by decide +kernel
theorem dX6_open_2 : decode cX6_open 2 = .ok (.iconst 0, 1) := by decide +kernel
theorem dX6_open_3 : decode cX6_open 3 = .ok (.istore_n 3, 1) := by decide +kernel
theorem dX6_open_4 : decode cX6_open 4 = .ok (.iload_n 3, 1) := by decide +kernel
theorem dX6_open_5 : decode cX6_open 5 = .ok (.aload_n 0, 1) := by decide +kernel
theorem dX6_open_6 : decode cX6_open 6 = .ok (.invokevirtual 83, 3) := by decide +kernel
theorem dX6_open_9 : decode cX6_open 9 = .ok (.if_icmp .gt 35, 3) := by decide +kernel
theorem dX6_open_12 : decode cX6_open 12 = .ok (.aload_n 0, 1) := by decide +kernel
theorem dX6_open_13 : decode cX6_open 13 = .ok (.iload_n 3, 1) := by decide +kernel
theorem dX6_open_14 : decode cX6_open 14 = .ok (.invokevirtual 100, 3) := by decide +kernel
theorem dX6_open_17 : decode cX6_open 17 = .ok (.ifCond .eq 21, 3) := by decide +kernel
theorem dX6_open_20 : decode cX6_open 20 = .ok (.aload_n 0, 1) := by decide +kernel
theorem dX6_open_21 : decode cX6_open 21 = .ok (.iload_n 3, 1) := by decide +kernel
theorem dX6_open_22 : decode cX6_open 22 = .ok (.invokevirtual 106, 3) := by decide +kernel
theorem dX6_open_25 : decode cX6_open 25 = .ok (.ifCond .ge 13, 3) := by decide +kernel
theorem dX6_open_28 : decode cX6_open 28 = .ok (.iload_n 2, 1) := by decide +kernel
theorem dX6_open_29 : decode cX6_open 29 = .ok (.iload_n 1, 1) := by decide +kernel
theorem dX6_open_30 : decode cX6_open 30 = .ok (.if_icmp .ne 5, 3) := by decide +kernel
theorem dX6_open_33 : decode cX6_open 33 = .ok (.iload_n 3, 1) := by decide +kernel
theorem dX6_open_34 : decode cX6_open 34 = .ok (.ireturn, 1) := by decide +kernel
theorem dX6_open_35 : decode cX6_open 35 = .ok (.iinc 2 1, 3) := by decide +kernel
theorem dX6_open_38 : decode cX6_open 38 = .ok (.iinc 3 1, 3) := by decide +kernel
theorem dX6_open_41 : decode cX6_open 41 = .ok (.goto (-37), 3) := by decide +kernel
theorem dX6_open_44 : decode cX6_open 44 = .ok (.iload_n 1, 1) := by decide +kernel
theorem dX6_open_45 : decode cX6_open 45 = .ok (.iconst (-1), 1) := by decide +kernel
theorem dX6_open_46 : decode cX6_open 46 = .ok (.if_icmp .ne 7, 3) := by decide +kernel
theorem dX6_open_49 : decode cX6_open 49 = .ok (.iload_n 2, 1) := by decide +kernel
theorem dX6_open_50 : decode cX6_open 50 = .ok (.goto 5, 3) := by decide +kernel
theorem dX6_open_53 : decode cX6_open 53 = .ok (.bipush (-6), 2) := by decide +kernel
theorem dX6_open_55 : decode cX6_open 55 = .ok (.ireturn, 1) := by decide +kernel
set_option maxRecDepth 20000 in
theorem ggX6_bound_X6_rulingFor : GoodIn wsX6_bound wsX6_rulingFor := goodIn_r _ [5, 6, 7, 8, 9, 4, 10, 11, 12, 13, 14, 15, 16, 17, 18, 19, 20, 21, 22, 23, 24, 25, 26, 27, 28, 29, 30, 31, 32, 33, 34, 35, 36, 37, 38, 39, 40] (by decide +kernel) (by decide +kernel)
set_option maxRecDepth 20000 in
theorem gX6_bound_X6_rulingFor : GoodIn wsX6_bound (wsV RX6 109 RX6 yX6_rulingFor wsX6_rulingFor) := goodIn_app (goodIn_of _ (by decide +kernel)) ggX6_bound_X6_rulingFor
set_option maxRecDepth 20000 in
theorem ggX6_bound_X6_lineFor : GoodIn wsX6_bound wsX6_lineFor := goodIn_r _ [10, 11, 12, 13, 14, 15, 4, 16, 17, 18, 19, 20, 21, 22, 23, 24, 25, 26, 27, 28, 29, 30, 31, 32, 33, 34, 35, 36, 37, 38, 39, 40] (by decide +kernel) (by decide +kernel)
set_option maxRecDepth 20000 in
theorem gX6_bound_X6_lineFor : GoodIn wsX6_bound (wsV RX6 106 RX6 yX6_lineFor wsX6_lineFor) := goodIn_app (goodIn_of _ (by decide +kernel)) ggX6_bound_X6_lineFor
theorem dX6_bound_0 : decode cX6_bound 0 = .ok (.iconst 2, 1) := by decide +kernel
theorem dX6_bound_1 : decode cX6_bound 1 = .ok (.aload_n 0, 1) := by decide +kernel
theorem dX6_bound_2 : decode cX6_bound 2 = .ok (.iload_n 1, 1) := by decide +kernel
theorem dX6_bound_3 : decode cX6_bound 3 = .ok (.invokevirtual 109, 3) := by decide +kernel
theorem dX6_bound_6 : decode cX6_bound 6 = .ok (.imul, 1) := by decide +kernel
theorem dX6_bound_7 : decode cX6_bound 7 = .ok (.aload_n 0, 1) := by decide +kernel
theorem dX6_bound_8 : decode cX6_bound 8 = .ok (.iload_n 1, 1) := by decide +kernel
theorem dX6_bound_9 : decode cX6_bound 9 = .ok (.invokevirtual 106, 3) := by decide +kernel
theorem dX6_bound_12 : decode cX6_bound 12 = .ok (.ifCond .ge 7, 3) := by decide +kernel
theorem dX6_bound_15 : decode cX6_bound 15 = .ok (.iconst 0, 1) := by decide +kernel
theorem dX6_bound_16 : decode cX6_bound 16 = .ok (.goto 4, 3) := by decide +kernel
theorem dX6_bound_19 : decode cX6_bound 19 = .ok (.iconst 1, 1) := by decide +kernel
theorem dX6_bound_20 : decode cX6_bound 20 = .ok (.iadd, 1) := by decide +kernel
theorem dX6_bound_21 : decode cX6_bound 21 = .ok (.ireturn, 1) := by decide +kernel
set_option maxRecDepth 20000 in
theorem ggX6_turnedKinds_X6_allFacts : GoodIn wsX6_turnedKinds wsX6_allFacts := goodIn_r _ [7, 8, 38, 39, 40, 41, 42, 43, 44, 45, 46, 47, 48, 49, 50, 51, 52, 53, 54, 55, 56, 57, 58] (by decide +kernel) (by decide +kernel)
set_option maxRecDepth 20000 in
theorem gX6_turnedKinds_X6_allFacts : GoodIn wsX6_turnedKinds (wsV RX6 83 RX6 yX6_allFacts wsX6_allFacts) := goodIn_app (goodIn_of _ (by decide +kernel)) ggX6_turnedKinds_X6_allFacts
set_option maxRecDepth 20000 in
theorem ggX6_turnedKinds_X6_bound : GoodIn wsX6_turnedKinds wsX6_bound := goodIn_r _ [12, 13, 14, 15, 6, 16, 17, 18, 19, 20, 21, 22, 23, 24, 25, 26, 27, 2, 28, 29, 38, 39, 40, 41, 42, 43, 44, 45, 46, 47, 48, 49, 50, 51, 52, 53, 54, 55, 56, 57, 58] (by decide +kernel) (by decide +kernel)
set_option maxRecDepth 20000 in
theorem gX6_turnedKinds_X6_bound : GoodIn wsX6_turnedKinds (wsV RX6 112 RX6 yX6_bound wsX6_bound) := goodIn_app (goodIn_of _ (by decide +kernel)) ggX6_turnedKinds_X6_bound
set_option maxRecDepth 20000 in
theorem ggX6_turnedKinds_X6_isKind : GoodIn wsX6_turnedKinds wsX6_isKind := goodIn_r _ [33, 8, 34, 3, 4, 5, 6, 7, 35, 36, 37, 38, 39, 40, 41, 42, 43, 44, 45, 46, 47, 48, 49, 50, 51, 52, 53, 54, 55, 56, 57, 58] (by decide +kernel) (by decide +kernel)
set_option maxRecDepth 20000 in
theorem gX6_turnedKinds_X6_isKind : GoodIn wsX6_turnedKinds (wsV RX6 100 RX6 yX6_isKind wsX6_isKind) := goodIn_app (goodIn_of _ (by decide +kernel)) ggX6_turnedKinds_X6_isKind
theorem dX6_turnedKinds_0 : decode cX6_turnedKinds 0 = .ok (.iconst 0, 1) := by decide +kernel
theorem dX6_turnedKinds_1 : decode cX6_turnedKinds 1 = .ok (.istore_n 2, 1) := by decide +kernel
theorem dX6_turnedKinds_2 : decode cX6_turnedKinds 2 = .ok (.iconst 0, 1) := by decide +kernel
theorem dX6_turnedKinds_3 : decode cX6_turnedKinds 3 = .ok (.istore_n 3, 1) := by decide +kernel
theorem dX6_turnedKinds_4 : decode cX6_turnedKinds 4 = .ok (.iload_n 3, 1) := by decide +kernel
theorem dX6_turnedKinds_5 : decode cX6_turnedKinds 5 = .ok (.aload_n 0, 1) := by decide +kernel
theorem dX6_turnedKinds_6 : decode cX6_turnedKinds 6 = .ok (.invokevirtual 83, 3) := by decide +kernel
theorem dX6_turnedKinds_9 : decode cX6_turnedKinds 9 = .ok (.if_icmp .gt 20, 3) := by decide +kernel
theorem dX6_turnedKinds_12 : decode cX6_turnedKinds 12 = .ok (.aload_n 0, 1) := by decide +kernel
theorem dX6_turnedKinds_13 : decode cX6_turnedKinds 13 = .ok (.getfield 54, 3) := by decide +kernel
theorem dX6_turnedKinds_16 : decode cX6_turnedKinds 16 = .ok (.iload_n 3, 1) := by decide +kernel
theorem dX6_turnedKinds_17 : decode cX6_turnedKinds 17 = .ok (.aload_n 0, 1) := by decide +kernel
theorem dX6_turnedKinds_18 : decode cX6_turnedKinds 18 = .ok (.iload_n 3, 1) := by decide +kernel
theorem dX6_turnedKinds_19 : decode cX6_turnedKinds 19 = .ok (.invokevirtual 112, 3) := by decide +kernel
theorem dX6_turnedKinds_22 : decode cX6_turnedKinds 22 = .ok (.iastore, 1) := by decide +kernel
theorem dX6_turnedKinds_23 : decode cX6_turnedKinds 23 = .ok (.iinc 3 1, 3) := by decide +kernel
theorem dX6_turnedKinds_26 : decode cX6_turnedKinds 26 = .ok (.goto (-22), 3) := by decide +kernel
theorem dX6_turnedKinds_29 : decode cX6_turnedKinds 29 = .ok (.aload_n 0, 1) := by decide +kernel
theorem dX6_turnedKinds_30 : decode cX6_turnedKinds 30 = .ok (.getfield 26, 3) := by decide +kernel
theorem dX6_turnedKinds_33 : decode cX6_turnedKinds 33 = .ok (.iload_n 1, 1) := by decide +kernel
theorem dX6_turnedKinds_34 : decode cX6_turnedKinds 34 = .ok (.aload_n 0, 1) := by decide +kernel
theorem dX6_turnedKinds_35 : decode cX6_turnedKinds 35 = .ok (.getfield 26, 3) := by decide +kernel
theorem dX6_turnedKinds_38 : decode cX6_turnedKinds 38 = .ok (.iload_n 1, 1) := by decide +kernel
theorem dX6_turnedKinds_39 : decode cX6_turnedKinds 39 = .ok (.baload, 1) := by decide +kernel
theorem dX6_turnedKinds_40 : decode cX6_turnedKinds 40 = .ok (.ifCond .ne 7, 3) := by decide +kernel
theorem dX6_turnedKinds_43 : decode cX6_turnedKinds 43 = .ok (.iconst 1, 1) := by decide +kernel
theorem dX6_turnedKinds_44 : decode cX6_turnedKinds 44 = .ok (.goto 4, 3) := by decide +kernel
theorem dX6_turnedKinds_47 : decode cX6_turnedKinds 47 = .ok (.iconst 0, 1) := by decide +kernel
theorem dX6_turnedKinds_48 : decode cX6_turnedKinds 48 = .ok (.bastore, 1) := by decide +kernel
theorem dX6_turnedKinds_49 : decode cX6_turnedKinds 49 = .ok (.iconst 0, 1) := by decide +kernel
theorem dX6_turnedKinds_50 : decode cX6_turnedKinds 50 = .ok (.istore_n 3, 1) := by decide +kernel
theorem dX6_turnedKinds_51 : decode cX6_turnedKinds 51 = .ok (.iload_n 3, 1) := by decide +kernel
theorem dX6_turnedKinds_52 : decode cX6_turnedKinds 52 = .ok (.aload_n 0, 1) := by decide +kernel
theorem dX6_turnedKinds_53 : decode cX6_turnedKinds 53 = .ok (.invokevirtual 83, 3) := by decide +kernel
theorem dX6_turnedKinds_56 : decode cX6_turnedKinds 56 = .ok (.if_icmp .gt 55, 3) := by decide +kernel
theorem dX6_turnedKinds_59 : decode cX6_turnedKinds 59 = .ok (.aload_n 0, 1) := by decide +kernel
theorem dX6_turnedKinds_60 : decode cX6_turnedKinds 60 = .ok (.getfield 54, 3) := by decide +kernel
theorem dX6_turnedKinds_63 : decode cX6_turnedKinds 63 = .ok (.iload_n 3, 1) := by decide +kernel
theorem dX6_turnedKinds_64 : decode cX6_turnedKinds 64 = .ok (.aload_n 0, 1) := by decide +kernel
theorem dX6_turnedKinds_65 : decode cX6_turnedKinds 65 = .ok (.getfield 54, 3) := by decide +kernel
theorem dX6_turnedKinds_68 : decode cX6_turnedKinds 68 = .ok (.iload_n 3, 1) := by decide +kernel
theorem dX6_turnedKinds_69 : decode cX6_turnedKinds 69 = .ok (.iaload, 1) := by decide +kernel
theorem dX6_turnedKinds_70 : decode cX6_turnedKinds 70 = .ok (.aload_n 0, 1) := by decide +kernel
theorem dX6_turnedKinds_71 : decode cX6_turnedKinds 71 = .ok (.iload_n 3, 1) := by decide +kernel
theorem dX6_turnedKinds_72 : decode cX6_turnedKinds 72 = .ok (.invokevirtual 112, 3) := by decide +kernel
theorem dX6_turnedKinds_75 : decode cX6_turnedKinds 75 = .ok (.if_icmp .eq 7, 3) := by decide +kernel
theorem dX6_turnedKinds_78 : decode cX6_turnedKinds 78 = .ok (.iconst 1, 1) := by decide +kernel
theorem dX6_turnedKinds_79 : decode cX6_turnedKinds 79 = .ok (.goto 4, 3) := by decide +kernel
theorem dX6_turnedKinds_82 : decode cX6_turnedKinds 82 = .ok (.iconst 0, 1) := by decide +kernel
theorem dX6_turnedKinds_83 : decode cX6_turnedKinds 83 = .ok (.iastore, 1) := by decide +kernel
theorem dX6_turnedKinds_84 : decode cX6_turnedKinds 84 = .ok (.iload_n 2, 1) := by decide +kernel
theorem dX6_turnedKinds_85 : decode cX6_turnedKinds 85 = .ok (.aload_n 0, 1) := by decide +kernel
theorem dX6_turnedKinds_86 : decode cX6_turnedKinds 86 = .ok (.iload_n 3, 1) := by decide +kernel
theorem dX6_turnedKinds_87 : decode cX6_turnedKinds 87 = .ok (.invokevirtual 100, 3) := by decide +kernel
theorem dX6_turnedKinds_90 : decode cX6_turnedKinds 90 = .ok (.ifCond .eq 12, 3) := by decide +kernel
theorem dX6_turnedKinds_93 : decode cX6_turnedKinds 93 = .ok (.aload_n 0, 1) := by decide +kernel
theorem dX6_turnedKinds_94 : decode cX6_turnedKinds 94 = .ok (.getfield 54, 3) := by decide +kernel
theorem dX6_turnedKinds_97 : decode cX6_turnedKinds 97 = .ok (.iload_n 3, 1) := by decide +kernel
theorem dX6_turnedKinds_98 : decode cX6_turnedKinds 98 = .ok (.iaload, 1) := by decide +kernel
theorem dX6_turnedKinds_99 : decode cX6_turnedKinds 99 = .ok (.goto 4, 3) := by decide +kernel
theorem dX6_turnedKinds_102 : decode cX6_turnedKinds 102 = .ok (.iconst 0, 1) := by decide +kernel
theorem dX6_turnedKinds_103 : decode cX6_turnedKinds 103 = .ok (.iadd, 1) := by decide +kernel
theorem dX6_turnedKinds_104 : decode cX6_turnedKinds 104 = .ok (.istore_n 2, 1) := by decide +kernel
theorem dX6_turnedKinds_105 : decode cX6_turnedKinds 105 = .ok (.iinc 3 1, 3) := by decide +kernel
theorem dX6_turnedKinds_108 : decode cX6_turnedKinds 108 = .ok (.goto (-57), 3) := by decide +kernel
theorem dX6_turnedKinds_111 : decode cX6_turnedKinds 111 = .ok (.aload_n 0, 1) := by decide +kernel
theorem dX6_turnedKinds_112 : decode cX6_turnedKinds 112 = .ok (.getfield 26, 3) := by decide +kernel
theorem dX6_turnedKinds_115 : decode cX6_turnedKinds 115 = .ok (.iload_n 1, 1) := by decide +kernel
theorem dX6_turnedKinds_116 : decode cX6_turnedKinds 116 = .ok (.aload_n 0, 1) := by decide +kernel
theorem dX6_turnedKinds_117 : decode cX6_turnedKinds 117 = .ok (.getfield 26, 3) := by decide +kernel
theorem dX6_turnedKinds_120 : decode cX6_turnedKinds 120 = .ok (.iload_n 1, 1) := by decide +kernel
theorem dX6_turnedKinds_121 : decode cX6_turnedKinds 121 = .ok (.baload, 1) := by decide +kernel
theorem dX6_turnedKinds_122 : decode cX6_turnedKinds 122 = .ok (.ifCond .ne 7, 3) := by decide +kernel
theorem dX6_turnedKinds_125 : decode cX6_turnedKinds 125 = .ok (.iconst 1, 1) := by decide +kernel
theorem dX6_turnedKinds_126 : decode cX6_turnedKinds 126 = .ok (.goto 4, 3) := by decide +kernel
theorem dX6_turnedKinds_129 : decode cX6_turnedKinds 129 = .ok (.iconst 0, 1) := by decide +kernel
theorem dX6_turnedKinds_130 : decode cX6_turnedKinds 130 = .ok (.bastore, 1) := by decide +kernel
theorem dX6_turnedKinds_131 : decode cX6_turnedKinds 131 = .ok (.iload_n 2, 1) := by decide +kernel
theorem dX6_turnedKinds_132 : decode cX6_turnedKinds 132 = .ok (.ireturn, 1) := by decide +kernel
set_option maxRecDepth 20000 in
theorem ggX6_idle_X6_isLine : GoodIn wsX6_idle wsX6_isLine := goodIn_r _ [5, 6, 7, 8, 4, 9, 46, 47, 48, 49, 50, 51, 52, 53, 54, 55, 56, 57, 58, 59, 60, 61, 62, 63, 64, 65, 66] (by decide +kernel) (by decide +kernel)
set_option maxRecDepth 20000 in
theorem gX6_idle_X6_isLine : GoodIn wsX6_idle (wsV RX6 90 RX6 yX6_isLine wsX6_isLine) := goodIn_app (goodIn_of _ (by decide +kernel)) ggX6_idle_X6_isLine
set_option maxRecDepth 20000 in
theorem ggX6_idle_X6_turnedKinds : GoodIn wsX6_idle wsX6_turnedKinds := goodIn_r _ [13, 14, 15, 16, 17, 18, 4, 19, 20, 21, 22, 23, 24, 25, 26, 27, 28, 29, 30, 31, 32, 33, 6, 34, 35, 36, 37, 38, 39, 40, 41, 42, 43, 44, 45, 7, 8, 9, 46, 47, 48, 49, 50, 51, 52, 53, 54, 55, 56, 57, 58, 59, 60, 61, 62, 63, 64, 65, 66] (by decide +kernel) (by decide +kernel)
set_option maxRecDepth 20000 in
theorem gX6_idle_X6_turnedKinds : GoodIn wsX6_idle (wsV RX6 115 RX6 yX6_turnedKinds wsX6_turnedKinds) := goodIn_app (goodIn_of _ (by decide +kernel)) ggX6_idle_X6_turnedKinds
theorem dX6_idle_0 : decode cX6_idle 0 = .ok (.aload_n 0, 1) := by decide +kernel
theorem dX6_idle_1 : decode cX6_idle 1 = .ok (.iload_n 1, 1) := by decide +kernel
theorem dX6_idle_2 : decode cX6_idle 2 = .ok (.invokevirtual 90, 3) := by decide +kernel
theorem dX6_idle_5 : decode cX6_idle 5 = .ok (.ifCond .ne 7, 3) := by decide +kernel
theorem dX6_idle_8 : decode cX6_idle 8 = .ok (.iconst (-1), 1) := by decide +kernel
theorem dX6_idle_9 : decode cX6_idle 9 = .ok (.goto 16, 3) := by decide +kernel
theorem dX6_idle_12 : decode cX6_idle 12 = .ok (.aload_n 0, 1) := by decide +kernel
theorem dX6_idle_13 : decode cX6_idle 13 = .ok (.iload_n 1, 1) := by decide +kernel
theorem dX6_idle_14 : decode cX6_idle 14 = .ok (.invokevirtual 115, 3) := by decide +kernel
theorem dX6_idle_17 : decode cX6_idle 17 = .ok (.ifCond .ne 7, 3) := by decide +kernel
theorem dX6_idle_20 : decode cX6_idle 20 = .ok (.iconst 1, 1) := by decide +kernel
theorem dX6_idle_21 : decode cX6_idle 21 = .ok (.goto 4, 3) := by decide +kernel
theorem dX6_idle_24 : decode cX6_idle 24 = .ok (.iconst 0, 1) := by decide +kernel
theorem dX6_idle_25 : decode cX6_idle 25 = .ok (.ireturn, 1) := by decide +kernel
set_option maxRecDepth 20000 in
theorem ggX6_isMoment_X6_in : GoodIn wsX6_isMoment wsX6_in := goodIn_r _ [5] (by decide +kernel) (by decide +kernel)
set_option maxRecDepth 20000 in
theorem gX6_isMoment_X6_in : GoodIn wsX6_isMoment (va_wsS RX6 66 yX6_in wsX6_in) := goodIn_app (goodIn_of _ (by decide +kernel)) ggX6_isMoment_X6_in
theorem dX6_isMoment_0 : decode cX6_isMoment 0 = .ok (.iload_n 1, 1) := by decide +kernel
theorem dX6_isMoment_1 : decode cX6_isMoment 1 = .ok (.iconst 0, 1) := by decide +kernel
theorem dX6_isMoment_2 : decode cX6_isMoment 2 = .ok (.aload_n 0, 1) := by decide +kernel
theorem dX6_isMoment_3 : decode cX6_isMoment 3 = .ok (.getfield 73, 3) := by decide +kernel
theorem dX6_isMoment_6 : decode cX6_isMoment 6 = .ok (.iconst 1, 1) := by decide +kernel
theorem dX6_isMoment_7 : decode cX6_isMoment 7 = .ok (.isub, 1) := by decide +kernel
theorem dX6_isMoment_8 : decode cX6_isMoment 8 = .ok (.invokestatic 66, 3) := by decide +kernel
theorem dX6_isMoment_11 : decode cX6_isMoment 11 = .ok (.ireturn, 1) := by decide +kernel
theorem dX6_moment_0 : decode cX6_moment 0 = .ok (.aload_n 0, 1) := by decide +kernel
theorem dX6_moment_1 : decode cX6_moment 1 = .ok (.getfield 73, 3) := by decide +kernel
theorem dX6_moment_4 : decode cX6_moment 4 = .ok (.bipush 30, 2) := by decide +kernel
theorem dX6_moment_6 : decode cX6_moment 6 = .ok (.if_icmp .ne 6, 3) := by decide +kernel
theorem dX6_moment_9 : decode cX6_moment 9 = .ok (.bipush (-4), 2) := by decide +kernel
theorem dX6_moment_11 : decode cX6_moment 11 = .ok (.ireturn, 1) := by decide +kernel
theorem dX6_moment_12 : decode cX6_moment 12 = .ok (.iconst 0, 1) := by decide +kernel
theorem dX6_moment_13 : decode cX6_moment 13 = .ok (.istore_n 1, 1) := by decide +kernel
theorem dX6_moment_14 : decode cX6_moment 14 = .ok (.iload_n 1, 1) := by decide +kernel
theorem dX6_moment_15 : decode cX6_moment 15 = .ok (.iconst 3, 1) := by decide +kernel
theorem dX6_moment_16 : decode cX6_moment 16 = .ok (.if_icmp .ge 37, 3) := by decide +kernel
theorem dX6_moment_19 : decode cX6_moment 19 = .ok (.aload_n 0, 1) := by decide +kernel
theorem dX6_moment_20 : decode cX6_moment 20 = .ok (.getfield 33, 3) := by decide +kernel
theorem dX6_moment_23 : decode cX6_moment 23 = .ok (.iconst 3, 1) := by decide +kernel
theorem dX6_moment_24 : decode cX6_moment 24 = .ok (.aload_n 0, 1) := by decide +kernel
theorem dX6_moment_25 : decode cX6_moment 25 = .ok (.getfield 73, 3) := by decide +kernel
theorem dX6_moment_28 : decode cX6_moment 28 = .ok (.imul, 1) := by decide +kernel
theorem dX6_moment_29 : decode cX6_moment 29 = .ok (.iload_n 1, 1) := by decide +kernel
theorem dX6_moment_30 : decode cX6_moment 30 = .ok (.iadd, 1) := by decide +kernel
theorem dX6_moment_31 : decode cX6_moment 31 = .ok (.iconst 0, 1) := by decide +kernel
theorem dX6_moment_32 : decode cX6_moment 32 = .ok (.iastore, 1) := by decide +kernel
theorem dX6_moment_33 : decode cX6_moment 33 = .ok (.aload_n 0, 1) := by decide +kernel
theorem dX6_moment_34 : decode cX6_moment 34 = .ok (.getfield 36, 3) := by decide +kernel
theorem dX6_moment_37 : decode cX6_moment 37 = .ok (.iconst 3, 1) := by decide +kernel
theorem dX6_moment_38 : decode cX6_moment 38 = .ok (.aload_n 0, 1) := by decide +kernel
theorem dX6_moment_39 : decode cX6_moment 39 = .ok (.getfield 73, 3) := by decide +kernel
theorem dX6_moment_42 : decode cX6_moment 42 = .ok (.imul, 1) := by decide +kernel
theorem dX6_moment_43 : decode cX6_moment 43 = .ok (.iload_n 1, 1) := by decide +kernel
theorem dX6_moment_44 : decode cX6_moment 44 = .ok (.iadd, 1) := by decide +kernel
theorem dX6_moment_45 : decode cX6_moment 45 = .ok (.iconst 0, 1) := by decide +kernel
theorem dX6_moment_46 : decode cX6_moment 46 = .ok (.iastore, 1) := by decide +kernel
theorem dX6_moment_47 : decode cX6_moment 47 = .ok (.iinc 1 1, 3) := by decide +kernel
theorem dX6_moment_50 : decode cX6_moment 50 = .ok (.goto (-36), 3) := by decide +kernel
theorem dX6_moment_53 : decode cX6_moment 53 = .ok (.aload_n 0, 1) := by decide +kernel
theorem dX6_moment_54 : decode cX6_moment 54 = .ok (.getfield 39, 3) := by decide +kernel
theorem dX6_moment_57 : decode cX6_moment 57 = .ok (.aload_n 0, 1) := by decide +kernel
theorem dX6_moment_58 : decode cX6_moment 58 = .ok (.getfield 73, 3) := by decide +kernel
theorem dX6_moment_61 : decode cX6_moment 61 = .ok (.iconst (-1), 1) := by decide +kernel
theorem dX6_moment_62 : decode cX6_moment 62 = .ok (.iastore, 1) := by decide +kernel
theorem dX6_moment_63 : decode cX6_moment 63 = .ok (.aload_n 0, 1) := by decide +kernel
theorem dX6_moment_64 : decode cX6_moment 64 = .ok (.dup, 1) := by decide +kernel
theorem dX6_moment_65 : decode cX6_moment 65 = .ok (.getfield 73, 3) := by decide +kernel
theorem dX6_moment_68 : decode cX6_moment 68 = .ok (.iconst 1, 1) := by decide +kernel
theorem dX6_moment_69 : decode cX6_moment 69 = .ok (.iadd, 1) := by decide +kernel
theorem dX6_moment_70 : decode cX6_moment 70 = .ok (.putfield 73, 3) := by decide +kernel
theorem dX6_moment_73 : decode cX6_moment 73 = .ok (.aload_n 0, 1) := by decide +kernel
theorem dX6_moment_74 : decode cX6_moment 74 = .ok (.getfield 73, 3) := by decide +kernel
theorem dX6_moment_77 : decode cX6_moment 77 = .ok (.iconst 1, 1) := by decide +kernel
theorem dX6_moment_78 : decode cX6_moment 78 = .ok (.isub, 1) := by decide +kernel
theorem dX6_moment_79 : decode cX6_moment 79 = .ok (.ireturn, 1) := by decide +kernel
set_option maxRecDepth 20000 in
theorem ggX6_tell_X6_isMoment : GoodIn wsX6_tell wsX6_isMoment := goodIn_r _ [7, 8, 9, 10, 6, 11, 17, 18, 19, 20, 21, 22, 23, 24, 25, 26, 27, 28, 29, 30, 31, 32, 33, 34, 35, 36, 37] (by decide +kernel) (by decide +kernel)
set_option maxRecDepth 20000 in
theorem gX6_tell_X6_isMoment : GoodIn wsX6_tell (wsV RX6 118 RX6 yX6_isMoment wsX6_isMoment) := goodIn_app (goodIn_of _ (by decide +kernel)) ggX6_tell_X6_isMoment
set_option maxRecDepth 20000 in
theorem ggX6_tell_X6_isFact : GoodIn wsX6_tell wsX6_isFact := goodIn_r _ [15, 16, 9, 10, 6, 11, 17, 18, 19, 20, 21, 22, 23, 24, 25, 26, 27, 28, 29, 30, 31, 32, 33, 34, 35, 36, 37] (by decide +kernel) (by decide +kernel)
set_option maxRecDepth 20000 in
theorem gX6_tell_X6_isFact : GoodIn wsX6_tell (wsV RX6 79 RX6 yX6_isFact wsX6_isFact) := goodIn_app (goodIn_of _ (by decide +kernel)) ggX6_tell_X6_isFact
set_option maxRecDepth 20000 in
theorem ggX6_tell_X6_in : GoodIn wsX6_tell wsX6_in := goodIn_r _ [11] (by decide +kernel) (by decide +kernel)
set_option maxRecDepth 20000 in
theorem gX6_tell_X6_in : GoodIn wsX6_tell (va_wsS RX6 66 yX6_in wsX6_in) := goodIn_app (goodIn_of _ (by decide +kernel)) ggX6_tell_X6_in
theorem dX6_tell_0 : decode cX6_tell 0 = .ok (.aload_n 0, 1) := by decide +kernel
theorem dX6_tell_1 : decode cX6_tell 1 = .ok (.iload_n 1, 1) := by decide +kernel
theorem dX6_tell_2 : decode cX6_tell 2 = .ok (.invokevirtual 118, 3) := by decide +kernel
theorem dX6_tell_5 : decode cX6_tell 5 = .ok (.ifCond .eq 11, 3) := by decide +kernel
theorem dX6_tell_8 : decode cX6_tell 8 = .ok (.aload_n 0, 1) := by decide +kernel
theorem dX6_tell_9 : decode cX6_tell 9 = .ok (.iload_n 3, 1) := by decide +kernel
theorem dX6_tell_10 : decode cX6_tell 10 = .ok (.invokevirtual 79, 3) := by decide +kernel
theorem dX6_tell_13 : decode cX6_tell 13 = .ok (.ifCond .ne 5, 3) := by decide +kernel
theorem dX6_tell_16 : decode cX6_tell 16 = .ok (.iconst (-1), 1) := by decide +kernel
theorem dX6_tell_17 : decode cX6_tell 17 = .ok (.ireturn, 1) := by decide +kernel
theorem dX6_tell_18 : decode cX6_tell 18 = .ok (.iload_n 2, 1) := by decide +kernel
theorem dX6_tell_19 : decode cX6_tell 19 = .ok (.iconst 0, 1) := by decide +kernel
theorem dX6_tell_20 : decode cX6_tell 20 = .ok (.iconst 2, 1) := by decide +kernel
theorem dX6_tell_21 : decode cX6_tell 21 = .ok (.invokestatic 66, 3) := by decide +kernel
theorem dX6_tell_24 : decode cX6_tell 24 = .ok (.ifCond .eq 13, 3) := by decide +kernel
theorem dX6_tell_27 : decode cX6_tell 27 = .ok (.iload 4, 2) := by decide +kernel
theorem dX6_tell_29 : decode cX6_tell 29 = .ok (.iconst 0, 1) := by decide +kernel
theorem dX6_tell_30 : decode cX6_tell 30 = .ok (.iconst 2, 1) := by decide +kernel
theorem dX6_tell_31 : decode cX6_tell 31 = .ok (.invokestatic 66, 3) := by decide +kernel
theorem dX6_tell_34 : decode cX6_tell 34 = .ok (.ifCond .ne 6, 3) := by decide +kernel
theorem dX6_tell_37 : decode cX6_tell 37 = .ok (.bipush (-2), 2) := by decide +kernel
theorem dX6_tell_39 : decode cX6_tell 39 = .ok (.ireturn, 1) := by decide +kernel
theorem dX6_tell_40 : decode cX6_tell 40 = .ok (.iconst 3, 1) := by decide +kernel
theorem dX6_tell_41 : decode cX6_tell 41 = .ok (.iload_n 1, 1) := by decide +kernel
theorem dX6_tell_42 : decode cX6_tell 42 = .ok (.imul, 1) := by decide +kernel
theorem dX6_tell_43 : decode cX6_tell 43 = .ok (.iload_n 2, 1) := by decide +kernel
theorem dX6_tell_44 : decode cX6_tell 44 = .ok (.iadd, 1) := by decide +kernel
theorem dX6_tell_45 : decode cX6_tell 45 = .ok (.istore 5, 2) := by decide +kernel
theorem dX6_tell_47 : decode cX6_tell 47 = .ok (.aload_n 0, 1) := by decide +kernel
theorem dX6_tell_48 : decode cX6_tell 48 = .ok (.getfield 33, 3) := by decide +kernel
theorem dX6_tell_51 : decode cX6_tell 51 = .ok (.iload 5, 2) := by decide +kernel
theorem dX6_tell_53 : decode cX6_tell 53 = .ok (.iaload, 1) := by decide +kernel
theorem dX6_tell_54 : decode cX6_tell 54 = .ok (.iload_n 3, 1) := by decide +kernel
theorem dX6_tell_55 : decode cX6_tell 55 = .ok (.ishr, 1) := by decide +kernel
theorem dX6_tell_56 : decode cX6_tell 56 = .ok (.iconst 1, 1) := by decide +kernel
theorem dX6_tell_57 : decode cX6_tell 57 = .ok (.iand, 1) := by decide +kernel
theorem dX6_tell_58 : decode cX6_tell 58 = .ok (.iconst 1, 1) := by decide +kernel
theorem dX6_tell_59 : decode cX6_tell 59 = .ok (.if_icmp .ne 7, 3) := by decide +kernel
theorem dX6_tell_62 : decode cX6_tell 62 = .ok (.iconst 1, 1) := by decide +kernel
theorem dX6_tell_63 : decode cX6_tell 63 = .ok (.goto 23, 3) := by decide +kernel
theorem dX6_tell_66 : decode cX6_tell 66 = .ok (.aload_n 0, 1) := by decide +kernel
theorem dX6_tell_67 : decode cX6_tell 67 = .ok (.getfield 36, 3) := by decide +kernel
theorem dX6_tell_70 : decode cX6_tell 70 = .ok (.iload 5, 2) := by decide +kernel
theorem dX6_tell_72 : decode cX6_tell 72 = .ok (.iaload, 1) := by decide +kernel
theorem dX6_tell_73 : decode cX6_tell 73 = .ok (.iload_n 3, 1) := by decide +kernel
theorem dX6_tell_74 : decode cX6_tell 74 = .ok (.ishr, 1) := by decide +kernel
theorem dX6_tell_75 : decode cX6_tell 75 = .ok (.iconst 1, 1) := by decide +kernel
theorem dX6_tell_76 : decode cX6_tell 76 = .ok (.iand, 1) := by decide +kernel
theorem dX6_tell_77 : decode cX6_tell 77 = .ok (.iconst 1, 1) := by decide +kernel
theorem dX6_tell_78 : decode cX6_tell 78 = .ok (.if_icmp .ne 7, 3) := by decide +kernel
theorem dX6_tell_81 : decode cX6_tell 81 = .ok (.iconst 0, 1) := by decide +kernel
theorem dX6_tell_82 : decode cX6_tell 82 = .ok (.goto 4, 3) := by decide +kernel
theorem dX6_tell_85 : decode cX6_tell 85 = .ok (.iconst 2, 1) := by decide +kernel
theorem dX6_tell_86 : decode cX6_tell 86 = .ok (.istore 6, 2) := by decide +kernel
theorem dX6_tell_88 : decode cX6_tell 88 = .ok (.aload_n 0, 1) := by decide +kernel
theorem dX6_tell_89 : decode cX6_tell 89 = .ok (.getfield 33, 3) := by decide +kernel
theorem dX6_tell_92 : decode cX6_tell 92 = .ok (.iload 5, 2) := by decide +kernel
theorem dX6_tell_94 : decode cX6_tell 94 = .ok (.iload 4, 2) := by decide +kernel
theorem dX6_tell_96 : decode cX6_tell 96 = .ok (.iconst 1, 1) := by decide +kernel
theorem dX6_tell_97 : decode cX6_tell 97 = .ok (.if_icmp .ne 17, 3) := by decide +kernel
theorem dX6_tell_100 : decode cX6_tell 100 = .ok (.aload_n 0, 1) := by decide +kernel
theorem dX6_tell_101 : decode cX6_tell 101 = .ok (.getfield 33, 3) := by decide +kernel
theorem dX6_tell_104 : decode cX6_tell 104 = .ok (.iload 5, 2) := by decide +kernel
theorem dX6_tell_106 : decode cX6_tell 106 = .ok (.iaload, 1) := by decide +kernel
theorem dX6_tell_107 : decode cX6_tell 107 = .ok (.iconst 1, 1) := by decide +kernel
theorem dX6_tell_108 : decode cX6_tell 108 = .ok (.iload_n 3, 1) := by decide +kernel
theorem dX6_tell_109 : decode cX6_tell 109 = .ok (.ishl, 1) := by decide +kernel
theorem dX6_tell_110 : decode cX6_tell 110 = .ok (.ior, 1) := by decide +kernel
theorem dX6_tell_111 : decode cX6_tell 111 = .ok (.goto 16, 3) := by decide +kernel
theorem dX6_tell_114 : decode cX6_tell 114 = .ok (.aload_n 0, 1) := by decide +kernel
theorem dX6_tell_115 : decode cX6_tell 115 = .ok (.getfield 33, 3) := by decide +kernel
theorem dX6_tell_118 : decode cX6_tell 118 = .ok (.iload 5, 2) := by decide +kernel
theorem dX6_tell_120 : decode cX6_tell 120 = .ok (.iaload, 1) := by decide +kernel
theorem dX6_tell_121 : decode cX6_tell 121 = .ok (.iconst 1, 1) := by decide +kernel
theorem dX6_tell_122 : decode cX6_tell 122 = .ok (.iload_n 3, 1) := by decide +kernel
theorem dX6_tell_123 : decode cX6_tell 123 = .ok (.ishl, 1) := by decide +kernel
theorem dX6_tell_124 : decode cX6_tell 124 = .ok (.iconst (-1), 1) := by decide +kernel
theorem dX6_tell_125 : decode cX6_tell 125 = .ok (.ixor, 1) := by decide +kernel
theorem dX6_tell_126 : decode cX6_tell 126 = .ok (.iand, 1) := by decide +kernel
theorem dX6_tell_127 : decode cX6_tell 127 = .ok (.iastore, 1) := by decide +kernel
theorem dX6_tell_128 : decode cX6_tell 128 = .ok (.aload_n 0, 1) := by decide +kernel
theorem dX6_tell_129 : decode cX6_tell 129 = .ok (.getfield 36, 3) := by decide +kernel
theorem dX6_tell_132 : decode cX6_tell 132 = .ok (.iload 5, 2) := by decide +kernel
theorem dX6_tell_134 : decode cX6_tell 134 = .ok (.iload 4, 2) := by decide +kernel
theorem dX6_tell_136 : decode cX6_tell 136 = .ok (.ifCond .ne 17, 3) := by decide +kernel
theorem dX6_tell_139 : decode cX6_tell 139 = .ok (.aload_n 0, 1) := by decide +kernel
theorem dX6_tell_140 : decode cX6_tell 140 = .ok (.getfield 36, 3) := by decide +kernel
theorem dX6_tell_143 : decode cX6_tell 143 = .ok (.iload 5, 2) := by decide +kernel
theorem dX6_tell_145 : decode cX6_tell 145 = .ok (.iaload, 1) := by decide +kernel
theorem dX6_tell_146 : decode cX6_tell 146 = .ok (.iconst 1, 1) := by decide +kernel
theorem dX6_tell_147 : decode cX6_tell 147 = .ok (.iload_n 3, 1) := by decide +kernel
theorem dX6_tell_148 : decode cX6_tell 148 = .ok (.ishl, 1) := by decide +kernel
theorem dX6_tell_149 : decode cX6_tell 149 = .ok (.ior, 1) := by decide +kernel
theorem dX6_tell_150 : decode cX6_tell 150 = .ok (.goto 16, 3) := by decide +kernel
theorem dX6_tell_153 : decode cX6_tell 153 = .ok (.aload_n 0, 1) := by decide +kernel
theorem dX6_tell_154 : decode cX6_tell 154 = .ok (.getfield 36, 3) := by decide +kernel
theorem dX6_tell_157 : decode cX6_tell 157 = .ok (.iload 5, 2) := by decide +kernel
theorem dX6_tell_159 : decode cX6_tell 159 = .ok (.iaload, 1) := by decide +kernel
theorem dX6_tell_160 : decode cX6_tell 160 = .ok (.iconst 1, 1) := by decide +kernel
theorem dX6_tell_161 : decode cX6_tell 161 = .ok (.iload_n 3, 1) := by decide +kernel
theorem dX6_tell_162 : decode cX6_tell 162 = .ok (.ishl, 1) := by decide +kernel
theorem dX6_tell_163 : decode cX6_tell 163 = .ok (.iconst (-1), 1) := by decide +kernel
theorem dX6_tell_164 : decode cX6_tell 164 = .ok (.ixor, 1) := by decide +kernel
theorem dX6_tell_165 : decode cX6_tell 165 = .ok (.iand, 1) := by decide +kernel
theorem dX6_tell_166 : decode cX6_tell 166 = .ok (.iastore, 1) := by decide +kernel
theorem dX6_tell_167 : decode cX6_tell 167 = .ok (.iload 6, 2) := by decide +kernel
theorem dX6_tell_169 : decode cX6_tell 169 = .ok (.ireturn, 1) := by decide +kernel
theorem dX6_so_0 : decode cX6_so 0 = .ok (.aload_n 0, 1) := by decide +kernel
theorem dX6_so_1 : decode cX6_so 1 = .ok (.getfield 33, 3) := by decide +kernel
theorem dX6_so_4 : decode cX6_so 4 = .ok (.iconst 3, 1) := by decide +kernel
theorem dX6_so_5 : decode cX6_so 5 = .ok (.iload_n 1, 1) := by decide +kernel
theorem dX6_so_6 : decode cX6_so 6 = .ok (.imul, 1) := by decide +kernel
theorem dX6_so_7 : decode cX6_so 7 = .ok (.iaload, 1) := by decide +kernel
theorem dX6_so_8 : decode cX6_so 8 = .ok (.aload_n 0, 1) := by decide +kernel
theorem dX6_so_9 : decode cX6_so 9 = .ok (.getfield 33, 3) := by decide +kernel
theorem dX6_so_12 : decode cX6_so 12 = .ok (.iconst 3, 1) := by decide +kernel
theorem dX6_so_13 : decode cX6_so 13 = .ok (.iload_n 1, 1) := by decide +kernel
theorem dX6_so_14 : decode cX6_so 14 = .ok (.imul, 1) := by decide +kernel
theorem dX6_so_15 : decode cX6_so 15 = .ok (.iconst 1, 1) := by decide +kernel
theorem dX6_so_16 : decode cX6_so 16 = .ok (.iadd, 1) := by decide +kernel
theorem dX6_so_17 : decode cX6_so 17 = .ok (.iaload, 1) := by decide +kernel
theorem dX6_so_18 : decode cX6_so 18 = .ok (.ior, 1) := by decide +kernel
theorem dX6_so_19 : decode cX6_so 19 = .ok (.aload_n 0, 1) := by decide +kernel
theorem dX6_so_20 : decode cX6_so 20 = .ok (.getfield 33, 3) := by decide +kernel
theorem dX6_so_23 : decode cX6_so 23 = .ok (.iconst 3, 1) := by decide +kernel
theorem dX6_so_24 : decode cX6_so 24 = .ok (.iload_n 1, 1) := by decide +kernel
theorem dX6_so_25 : decode cX6_so 25 = .ok (.imul, 1) := by decide +kernel
theorem dX6_so_26 : decode cX6_so 26 = .ok (.iconst 2, 1) := by decide +kernel
theorem dX6_so_27 : decode cX6_so 27 = .ok (.iadd, 1) := by decide +kernel
theorem dX6_so_28 : decode cX6_so 28 = .ok (.iaload, 1) := by decide +kernel
theorem dX6_so_29 : decode cX6_so 29 = .ok (.ior, 1) := by decide +kernel
theorem dX6_so_30 : decode cX6_so 30 = .ok (.istore_n 2, 1) := by decide +kernel
theorem dX6_so_31 : decode cX6_so 31 = .ok (.aload_n 0, 1) := by decide +kernel
theorem dX6_so_32 : decode cX6_so 32 = .ok (.getfield 36, 3) := by decide +kernel
theorem dX6_so_35 : decode cX6_so 35 = .ok (.iconst 3, 1) := by decide +kernel
theorem dX6_so_36 : decode cX6_so 36 = .ok (.iload_n 1, 1) := by decide +kernel
theorem dX6_so_37 : decode cX6_so 37 = .ok (.imul, 1) := by decide +kernel
theorem dX6_so_38 : decode cX6_so 38 = .ok (.iaload, 1) := by decide +kernel
theorem dX6_so_39 : decode cX6_so 39 = .ok (.aload_n 0, 1) := by decide +kernel
theorem dX6_so_40 : decode cX6_so 40 = .ok (.getfield 36, 3) := by decide +kernel
theorem dX6_so_43 : decode cX6_so 43 = .ok (.iconst 3, 1) := by decide +kernel
theorem dX6_so_44 : decode cX6_so 44 = .ok (.iload_n 1, 1) := by decide +kernel
theorem dX6_so_45 : decode cX6_so 45 = .ok (.imul, 1) := by decide +kernel
theorem dX6_so_46 : decode cX6_so 46 = .ok (.iconst 1, 1) := by decide +kernel
theorem dX6_so_47 : decode cX6_so 47 = .ok (.iadd, 1) := by decide +kernel
theorem dX6_so_48 : decode cX6_so 48 = .ok (.iaload, 1) := by decide +kernel
theorem dX6_so_49 : decode cX6_so 49 = .ok (.ior, 1) := by decide +kernel
theorem dX6_so_50 : decode cX6_so 50 = .ok (.aload_n 0, 1) := by decide +kernel
theorem dX6_so_51 : decode cX6_so 51 = .ok (.getfield 36, 3) := by decide +kernel
theorem dX6_so_54 : decode cX6_so 54 = .ok (.iconst 3, 1) := by decide +kernel
theorem dX6_so_55 : decode cX6_so 55 = .ok (.iload_n 1, 1) := by decide +kernel
theorem dX6_so_56 : decode cX6_so 56 = .ok (.imul, 1) := by decide +kernel
theorem dX6_so_57 : decode cX6_so 57 = .ok (.iconst 2, 1) := by decide +kernel
theorem dX6_so_58 : decode cX6_so 58 = .ok (.iadd, 1) := by decide +kernel
theorem dX6_so_59 : decode cX6_so 59 = .ok (.iaload, 1) := by decide +kernel
theorem dX6_so_60 : decode cX6_so 60 = .ok (.ior, 1) := by decide +kernel
theorem dX6_so_61 : decode cX6_so 61 = .ok (.istore_n 3, 1) := by decide +kernel
theorem dX6_so_62 : decode cX6_so 62 = .ok (.iload_n 2, 1) := by decide +kernel
theorem dX6_so_63 : decode cX6_so 63 = .ok (.iload_n 3, 1) := by decide +kernel
theorem dX6_so_64 : decode cX6_so 64 = .ok (.iconst (-1), 1) := by decide +kernel
theorem dX6_so_65 : decode cX6_so 65 = .ok (.ixor, 1) := by decide +kernel
theorem dX6_so_66 : decode cX6_so 66 = .ok (.iand, 1) := by decide +kernel
theorem dX6_so_67 : decode cX6_so 67 = .ok (.ireturn, 1) := by decide +kernel
theorem dX6_notSo_0 : decode cX6_notSo 0 = .ok (.aload_n 0, 1) := by decide +kernel
theorem dX6_notSo_1 : decode cX6_notSo 1 = .ok (.getfield 33, 3) := by decide +kernel
theorem dX6_notSo_4 : decode cX6_notSo 4 = .ok (.iconst 3, 1) := by decide +kernel
theorem dX6_notSo_5 : decode cX6_notSo 5 = .ok (.iload_n 1, 1) := by decide +kernel
theorem dX6_notSo_6 : decode cX6_notSo 6 = .ok (.imul, 1) := by decide +kernel
theorem dX6_notSo_7 : decode cX6_notSo 7 = .ok (.iaload, 1) := by decide +kernel
theorem dX6_notSo_8 : decode cX6_notSo 8 = .ok (.aload_n 0, 1) := by decide +kernel
theorem dX6_notSo_9 : decode cX6_notSo 9 = .ok (.getfield 33, 3) := by decide +kernel
theorem dX6_notSo_12 : decode cX6_notSo 12 = .ok (.iconst 3, 1) := by decide +kernel
theorem dX6_notSo_13 : decode cX6_notSo 13 = .ok (.iload_n 1, 1) := by decide +kernel
theorem dX6_notSo_14 : decode cX6_notSo 14 = .ok (.imul, 1) := by decide +kernel
theorem dX6_notSo_15 : decode cX6_notSo 15 = .ok (.iconst 1, 1) := by decide +kernel
theorem dX6_notSo_16 : decode cX6_notSo 16 = .ok (.iadd, 1) := by decide +kernel
theorem dX6_notSo_17 : decode cX6_notSo 17 = .ok (.iaload, 1) := by decide +kernel
theorem dX6_notSo_18 : decode cX6_notSo 18 = .ok (.ior, 1) := by decide +kernel
theorem dX6_notSo_19 : decode cX6_notSo 19 = .ok (.aload_n 0, 1) := by decide +kernel
theorem dX6_notSo_20 : decode cX6_notSo 20 = .ok (.getfield 33, 3) := by decide +kernel
theorem dX6_notSo_23 : decode cX6_notSo 23 = .ok (.iconst 3, 1) := by decide +kernel
theorem dX6_notSo_24 : decode cX6_notSo 24 = .ok (.iload_n 1, 1) := by decide +kernel
theorem dX6_notSo_25 : decode cX6_notSo 25 = .ok (.imul, 1) := by decide +kernel
theorem dX6_notSo_26 : decode cX6_notSo 26 = .ok (.iconst 2, 1) := by decide +kernel
theorem dX6_notSo_27 : decode cX6_notSo 27 = .ok (.iadd, 1) := by decide +kernel
theorem dX6_notSo_28 : decode cX6_notSo 28 = .ok (.iaload, 1) := by decide +kernel
theorem dX6_notSo_29 : decode cX6_notSo 29 = .ok (.ior, 1) := by decide +kernel
theorem dX6_notSo_30 : decode cX6_notSo 30 = .ok (.istore_n 2, 1) := by decide +kernel
theorem dX6_notSo_31 : decode cX6_notSo 31 = .ok (.aload_n 0, 1) := by decide +kernel
theorem dX6_notSo_32 : decode cX6_notSo 32 = .ok (.getfield 36, 3) := by decide +kernel
theorem dX6_notSo_35 : decode cX6_notSo 35 = .ok (.iconst 3, 1) := by decide +kernel
theorem dX6_notSo_36 : decode cX6_notSo 36 = .ok (.iload_n 1, 1) := by decide +kernel
theorem dX6_notSo_37 : decode cX6_notSo 37 = .ok (.imul, 1) := by decide +kernel
theorem dX6_notSo_38 : decode cX6_notSo 38 = .ok (.iaload, 1) := by decide +kernel
theorem dX6_notSo_39 : decode cX6_notSo 39 = .ok (.aload_n 0, 1) := by decide +kernel
theorem dX6_notSo_40 : decode cX6_notSo 40 = .ok (.getfield 36, 3) := by decide +kernel
theorem dX6_notSo_43 : decode cX6_notSo 43 = .ok (.iconst 3, 1) := by decide +kernel
theorem dX6_notSo_44 : decode cX6_notSo 44 = .ok (.iload_n 1, 1) := by decide +kernel
theorem dX6_notSo_45 : decode cX6_notSo 45 = .ok (.imul, 1) := by decide +kernel
theorem dX6_notSo_46 : decode cX6_notSo 46 = .ok (.iconst 1, 1) := by decide +kernel
theorem dX6_notSo_47 : decode cX6_notSo 47 = .ok (.iadd, 1) := by decide +kernel
theorem dX6_notSo_48 : decode cX6_notSo 48 = .ok (.iaload, 1) := by decide +kernel
theorem dX6_notSo_49 : decode cX6_notSo 49 = .ok (.ior, 1) := by decide +kernel
theorem dX6_notSo_50 : decode cX6_notSo 50 = .ok (.aload_n 0, 1) := by decide +kernel
theorem dX6_notSo_51 : decode cX6_notSo 51 = .ok (.getfield 36, 3) := by decide +kernel
theorem dX6_notSo_54 : decode cX6_notSo 54 = .ok (.iconst 3, 1) := by decide +kernel
theorem dX6_notSo_55 : decode cX6_notSo 55 = .ok (.iload_n 1, 1) := by decide +kernel
theorem dX6_notSo_56 : decode cX6_notSo 56 = .ok (.imul, 1) := by decide +kernel
theorem dX6_notSo_57 : decode cX6_notSo 57 = .ok (.iconst 2, 1) := by decide +kernel
theorem dX6_notSo_58 : decode cX6_notSo 58 = .ok (.iadd, 1) := by decide +kernel
theorem dX6_notSo_59 : decode cX6_notSo 59 = .ok (.iaload, 1) := by decide +kernel
theorem dX6_notSo_60 : decode cX6_notSo 60 = .ok (.ior, 1) := by decide +kernel
theorem dX6_notSo_61 : decode cX6_notSo 61 = .ok (.istore_n 3, 1) := by decide +kernel
theorem dX6_notSo_62 : decode cX6_notSo 62 = .ok (.iload_n 3, 1) := by decide +kernel
theorem dX6_notSo_63 : decode cX6_notSo 63 = .ok (.iload_n 2, 1) := by decide +kernel
theorem dX6_notSo_64 : decode cX6_notSo 64 = .ok (.iconst (-1), 1) := by decide +kernel
theorem dX6_notSo_65 : decode cX6_notSo 65 = .ok (.ixor, 1) := by decide +kernel
theorem dX6_notSo_66 : decode cX6_notSo 66 = .ok (.iand, 1) := by decide +kernel
theorem dX6_notSo_67 : decode cX6_notSo 67 = .ok (.ireturn, 1) := by decide +kernel
set_option maxRecDepth 20000 in
theorem ggX6_doubt_X6_allFacts : GoodIn wsX6_doubt wsX6_allFacts := goodIn_r _ [5, 6, 17, 18, 19, 20, 21, 22, 23, 24, 25, 26, 27, 28, 29, 30, 31, 32, 33, 34, 35, 36, 37] (by decide +kernel) (by decide +kernel)
set_option maxRecDepth 20000 in
theorem gX6_doubt_X6_allFacts : GoodIn wsX6_doubt (wsV RX6 83 RX6 yX6_allFacts wsX6_allFacts) := goodIn_app (goodIn_of _ (by decide +kernel)) ggX6_doubt_X6_allFacts
set_option maxRecDepth 20000 in
theorem ggX6_doubt_X6_so : GoodIn wsX6_doubt wsX6_so := goodIn_r _ [10, 11, 12, 17, 18, 19, 20, 21, 22, 23, 24, 25, 26, 27, 28, 29, 30, 31, 32, 33, 34, 35, 36, 37] (by decide +kernel) (by decide +kernel)
set_option maxRecDepth 20000 in
theorem gX6_doubt_X6_so : GoodIn wsX6_doubt (wsV RX6 121 RX6 yX6_so wsX6_so) := goodIn_app (goodIn_of _ (by decide +kernel)) ggX6_doubt_X6_so
set_option maxRecDepth 20000 in
theorem ggX6_doubt_X6_notSo : GoodIn wsX6_doubt wsX6_notSo := goodIn_r _ [16, 11, 12, 17, 18, 19, 20, 21, 22, 23, 24, 25, 26, 27, 28, 29, 30, 31, 32, 33, 34, 35, 36, 37] (by decide +kernel) (by decide +kernel)
set_option maxRecDepth 20000 in
theorem gX6_doubt_X6_notSo : GoodIn wsX6_doubt (wsV RX6 124 RX6 yX6_notSo wsX6_notSo) := goodIn_app (goodIn_of _ (by decide +kernel)) ggX6_doubt_X6_notSo
theorem dX6_doubt_0 : decode cX6_doubt 0 = .ok (.aload_n 0, 1) := by decide +kernel
theorem dX6_doubt_1 : decode cX6_doubt 1 = .ok (.invokevirtual 83, 3) := by decide +kernel
theorem dX6_doubt_4 : decode cX6_doubt 4 = .ok (.aload_n 0, 1) := by decide +kernel
theorem dX6_doubt_5 : decode cX6_doubt 5 = .ok (.iload_n 1, 1) := by decide +kernel
theorem dX6_doubt_6 : decode cX6_doubt 6 = .ok (.invokevirtual 121, 3) := by decide +kernel
theorem dX6_doubt_9 : decode cX6_doubt 9 = .ok (.iconst (-1), 1) := by decide +kernel
theorem dX6_doubt_10 : decode cX6_doubt 10 = .ok (.ixor, 1) := by decide +kernel
theorem dX6_doubt_11 : decode cX6_doubt 11 = .ok (.iand, 1) := by decide +kernel
theorem dX6_doubt_12 : decode cX6_doubt 12 = .ok (.aload_n 0, 1) := by decide +kernel
theorem dX6_doubt_13 : decode cX6_doubt 13 = .ok (.iload_n 1, 1) := by decide +kernel
theorem dX6_doubt_14 : decode cX6_doubt 14 = .ok (.invokevirtual 124, 3) := by decide +kernel
theorem dX6_doubt_17 : decode cX6_doubt 17 = .ok (.iconst (-1), 1) := by decide +kernel
theorem dX6_doubt_18 : decode cX6_doubt 18 = .ok (.ixor, 1) := by decide +kernel
theorem dX6_doubt_19 : decode cX6_doubt 19 = .ok (.iand, 1) := by decide +kernel
theorem dX6_doubt_20 : decode cX6_doubt 20 = .ok (.ireturn, 1) := by decide +kernel
set_option maxRecDepth 20000 in
theorem ggX6_mayBe_X6_isKind : GoodIn wsX6_mayBe wsX6_isKind := goodIn_r _ [5, 6, 7, 8, 9, 10, 4, 11, 12, 13, 14, 25, 26, 27, 28, 29, 30, 31, 32, 33, 34, 35, 36, 37, 38, 39, 40, 41, 42, 43, 44, 45] (by decide +kernel) (by decide +kernel)
set_option maxRecDepth 20000 in
theorem gX6_mayBe_X6_isKind : GoodIn wsX6_mayBe (wsV RX6 100 RX6 yX6_isKind wsX6_isKind) := goodIn_app (goodIn_of _ (by decide +kernel)) ggX6_mayBe_X6_isKind
set_option maxRecDepth 20000 in
theorem ggX6_mayBe_X6_so : GoodIn wsX6_mayBe wsX6_so := goodIn_r _ [18, 19, 20, 25, 26, 27, 28, 29, 30, 31, 32, 33, 34, 35, 36, 37, 38, 39, 40, 41, 42, 43, 44, 45] (by decide +kernel) (by decide +kernel)
set_option maxRecDepth 20000 in
theorem gX6_mayBe_X6_so : GoodIn wsX6_mayBe (wsV RX6 121 RX6 yX6_so wsX6_so) := goodIn_app (goodIn_of _ (by decide +kernel)) ggX6_mayBe_X6_so
set_option maxRecDepth 20000 in
theorem ggX6_mayBe_X6_notSo : GoodIn wsX6_mayBe wsX6_notSo := goodIn_r _ [24, 19, 20, 25, 26, 27, 28, 29, 30, 31, 32, 33, 34, 35, 36, 37, 38, 39, 40, 41, 42, 43, 44, 45] (by decide +kernel) (by decide +kernel)
set_option maxRecDepth 20000 in
theorem gX6_mayBe_X6_notSo : GoodIn wsX6_mayBe (wsV RX6 124 RX6 yX6_notSo wsX6_notSo) := goodIn_app (goodIn_of _ (by decide +kernel)) ggX6_mayBe_X6_notSo
theorem dX6_mayBe_0 : decode cX6_mayBe 0 = .ok (.aload_n 0, 1) := by decide +kernel
theorem dX6_mayBe_1 : decode cX6_mayBe 1 = .ok (.iload_n 2, 1) := by decide +kernel
theorem dX6_mayBe_2 : decode cX6_mayBe 2 = .ok (.invokevirtual 100, 3) := by decide +kernel
theorem dX6_mayBe_5 : decode cX6_mayBe 5 = .ok (.ifCond .eq 29, 3) := by decide +kernel
theorem dX6_mayBe_8 : decode cX6_mayBe 8 = .ok (.aload_n 0, 1) := by decide +kernel
theorem dX6_mayBe_9 : decode cX6_mayBe 9 = .ok (.iload_n 1, 1) := by decide +kernel
theorem dX6_mayBe_10 : decode cX6_mayBe 10 = .ok (.invokevirtual 121, 3) := by decide +kernel
theorem dX6_mayBe_13 : decode cX6_mayBe 13 = .ok (.iload_n 2, 1) := by decide +kernel
theorem dX6_mayBe_14 : decode cX6_mayBe 14 = .ok (.iconst (-1), 1) := by decide +kernel
theorem dX6_mayBe_15 : decode cX6_mayBe 15 = .ok (.ixor, 1) := by decide +kernel
theorem dX6_mayBe_16 : decode cX6_mayBe 16 = .ok (.iand, 1) := by decide +kernel
theorem dX6_mayBe_17 : decode cX6_mayBe 17 = .ok (.ifCond .ne 17, 3) := by decide +kernel
theorem dX6_mayBe_20 : decode cX6_mayBe 20 = .ok (.aload_n 0, 1) := by decide +kernel
theorem dX6_mayBe_21 : decode cX6_mayBe 21 = .ok (.iload_n 1, 1) := by decide +kernel
theorem dX6_mayBe_22 : decode cX6_mayBe 22 = .ok (.invokevirtual 124, 3) := by decide +kernel
theorem dX6_mayBe_25 : decode cX6_mayBe 25 = .ok (.iload_n 2, 1) := by decide +kernel
theorem dX6_mayBe_26 : decode cX6_mayBe 26 = .ok (.iand, 1) := by decide +kernel
theorem dX6_mayBe_27 : decode cX6_mayBe 27 = .ok (.ifCond .ne 7, 3) := by decide +kernel
theorem dX6_mayBe_30 : decode cX6_mayBe 30 = .ok (.iconst 1, 1) := by decide +kernel
theorem dX6_mayBe_31 : decode cX6_mayBe 31 = .ok (.goto 4, 3) := by decide +kernel
theorem dX6_mayBe_34 : decode cX6_mayBe 34 = .ok (.iconst 0, 1) := by decide +kernel
theorem dX6_mayBe_35 : decode cX6_mayBe 35 = .ok (.ireturn, 1) := by decide +kernel
set_option maxRecDepth 20000 in
theorem ggX6_mayBes_X6_allFacts : GoodIn wsX6_mayBes wsX6_allFacts := goodIn_r _ [5, 6, 47, 48, 49, 50, 51, 52, 53, 54, 55, 56, 57, 58, 59, 60, 61, 62, 63, 64, 65, 66, 67] (by decide +kernel) (by decide +kernel)
set_option maxRecDepth 20000 in
theorem gX6_mayBes_X6_allFacts : GoodIn wsX6_mayBes (wsV RX6 83 RX6 yX6_allFacts wsX6_allFacts) := goodIn_app (goodIn_of _ (by decide +kernel)) ggX6_mayBes_X6_allFacts
set_option maxRecDepth 20000 in
theorem ggX6_mayBes_X6_mayBe : GoodIn wsX6_mayBes wsX6_mayBe := goodIn_r _ [10, 11, 12, 13, 4, 14, 6, 15, 1, 2, 3, 5, 16, 17, 18, 19, 20, 21, 22, 23, 24, 25, 26, 27, 28, 47, 48, 49, 50, 51, 52, 53, 54, 55, 56, 57, 58, 59, 60, 61, 62, 63, 64, 65, 66, 67] (by decide +kernel) (by decide +kernel)
set_option maxRecDepth 20000 in
theorem gX6_mayBes_X6_mayBe : GoodIn wsX6_mayBes (wsV RX6 127 RX6 yX6_mayBe wsX6_mayBe) := goodIn_app (goodIn_of _ (by decide +kernel)) ggX6_mayBes_X6_mayBe
set_option maxRecDepth 20000 in
theorem ggX6_mayBes_X6_rulingFor : GoodIn wsX6_mayBes wsX6_rulingFor := goodIn_r _ [32, 33, 34, 35, 36, 4, 37, 38, 39, 40, 41, 42, 43, 44, 45, 46, 47, 48, 49, 50, 51, 52, 53, 54, 55, 56, 57, 58, 59, 60, 61, 62, 63, 64, 65, 66, 67] (by decide +kernel) (by decide +kernel)
set_option maxRecDepth 20000 in
theorem gX6_mayBes_X6_rulingFor : GoodIn wsX6_mayBes (wsV RX6 109 RX6 yX6_rulingFor wsX6_rulingFor) := goodIn_app (goodIn_of _ (by decide +kernel)) ggX6_mayBes_X6_rulingFor
theorem dX6_mayBes_0 : decode cX6_mayBes 0 = .ok (.iconst 0, 1) := by decide +kernel
theorem dX6_mayBes_1 : decode cX6_mayBes 1 = .ok (.istore_n 3, 1) := by decide +kernel
theorem dX6_mayBes_2 : decode cX6_mayBes 2 = .ok (.iconst 0, 1) := by decide +kernel
theorem dX6_mayBes_3 : decode cX6_mayBes 3 = .ok (.istore 4, 2) := by decide +kernel
theorem dX6_mayBes_5 : decode cX6_mayBes 5 = .ok (.iload 4, 2) := by decide +kernel
theorem dX6_mayBes_7 : decode cX6_mayBes 7 = .ok (.aload_n 0, 1) := by decide +kernel
theorem dX6_mayBes_8 : decode cX6_mayBes 8 = .ok (.invokevirtual 83, 3) := by decide +kernel
theorem dX6_mayBes_11 : decode cX6_mayBes 11 = .ok (.if_icmp .gt 41, 3) := by decide +kernel
theorem dX6_mayBes_14 : decode cX6_mayBes 14 = .ok (.iload_n 3, 1) := by decide +kernel
theorem dX6_mayBes_15 : decode cX6_mayBes 15 = .ok (.aload_n 0, 1) := by decide +kernel
theorem dX6_mayBes_16 : decode cX6_mayBes 16 = .ok (.iload_n 1, 1) := by decide +kernel
theorem dX6_mayBes_17 : decode cX6_mayBes 17 = .ok (.iload 4, 2) := by decide +kernel
theorem dX6_mayBes_19 : decode cX6_mayBes 19 = .ok (.invokevirtual 127, 3) := by decide +kernel
theorem dX6_mayBes_22 : decode cX6_mayBes 22 = .ok (.ifCond .eq 21, 3) := by decide +kernel
theorem dX6_mayBes_25 : decode cX6_mayBes 25 = .ok (.iload_n 2, 1) := by decide +kernel
theorem dX6_mayBes_26 : decode cX6_mayBes 26 = .ok (.ifCond .lt 13, 3) := by decide +kernel
theorem dX6_mayBes_29 : decode cX6_mayBes 29 = .ok (.aload_n 0, 1) := by decide +kernel
theorem dX6_mayBes_30 : decode cX6_mayBes 30 = .ok (.iload 4, 2) := by decide +kernel
theorem dX6_mayBes_32 : decode cX6_mayBes 32 = .ok (.invokevirtual 109, 3) := by decide +kernel
theorem dX6_mayBes_35 : decode cX6_mayBes 35 = .ok (.iload_n 2, 1) := by decide +kernel
theorem dX6_mayBes_36 : decode cX6_mayBes 36 = .ok (.if_icmp .ne 7, 3) := by decide +kernel
theorem dX6_mayBes_39 : decode cX6_mayBes 39 = .ok (.iconst 1, 1) := by decide +kernel
theorem dX6_mayBes_40 : decode cX6_mayBes 40 = .ok (.goto 4, 3) := by decide +kernel
theorem dX6_mayBes_43 : decode cX6_mayBes 43 = .ok (.iconst 0, 1) := by decide +kernel
theorem dX6_mayBes_44 : decode cX6_mayBes 44 = .ok (.iadd, 1) := by decide +kernel
theorem dX6_mayBes_45 : decode cX6_mayBes 45 = .ok (.istore_n 3, 1) := by decide +kernel
theorem dX6_mayBes_46 : decode cX6_mayBes 46 = .ok (.iinc 4 1, 3) := by decide +kernel
theorem dX6_mayBes_49 : decode cX6_mayBes 49 = .ok (.goto (-44), 3) := by decide +kernel
theorem dX6_mayBes_52 : decode cX6_mayBes 52 = .ok (.iload_n 3, 1) := by decide +kernel
theorem dX6_mayBes_53 : decode cX6_mayBes 53 = .ok (.ireturn, 1) := by decide +kernel
set_option maxRecDepth 20000 in
theorem ggX6_known_X6_isMoment : GoodIn wsX6_known wsX6_isMoment := goodIn_r _ [5, 6, 7, 8, 4, 9, 60, 61, 62, 63, 64, 65, 66, 67, 68, 69, 70, 71, 72, 73, 74, 75, 76, 77, 78, 79, 80] (by decide +kernel) (by decide +kernel)
set_option maxRecDepth 20000 in
theorem gX6_known_X6_isMoment : GoodIn wsX6_known (wsV RX6 118 RX6 yX6_isMoment wsX6_isMoment) := goodIn_app (goodIn_of _ (by decide +kernel)) ggX6_known_X6_isMoment
set_option maxRecDepth 20000 in
theorem ggX6_known_X6_so : GoodIn wsX6_known wsX6_so := goodIn_r _ [13, 14, 15, 60, 61, 62, 63, 64, 65, 66, 67, 68, 69, 70, 71, 72, 73, 74, 75, 76, 77, 78, 79, 80] (by decide +kernel) (by decide +kernel)
set_option maxRecDepth 20000 in
theorem gX6_known_X6_so : GoodIn wsX6_known (wsV RX6 121 RX6 yX6_so wsX6_so) := goodIn_app (goodIn_of _ (by decide +kernel)) ggX6_known_X6_so
set_option maxRecDepth 20000 in
theorem ggX6_known_X6_notSo : GoodIn wsX6_known wsX6_notSo := goodIn_r _ [19, 14, 15, 60, 61, 62, 63, 64, 65, 66, 67, 68, 69, 70, 71, 72, 73, 74, 75, 76, 77, 78, 79, 80] (by decide +kernel) (by decide +kernel)
set_option maxRecDepth 20000 in
theorem gX6_known_X6_notSo : GoodIn wsX6_known (wsV RX6 124 RX6 yX6_notSo wsX6_notSo) := goodIn_app (goodIn_of _ (by decide +kernel)) ggX6_known_X6_notSo
set_option maxRecDepth 20000 in
theorem ggX6_known_X6_doubt : GoodIn wsX6_known wsX6_doubt := goodIn_r _ [23, 24, 25, 26, 4, 27, 28, 10, 11, 12, 13, 14, 15, 16, 17, 18, 19, 60, 61, 62, 63, 64, 65, 66, 67, 68, 69, 70, 71, 72, 73, 74, 75, 76, 77, 78, 79, 80] (by decide +kernel) (by decide +kernel)
set_option maxRecDepth 20000 in
theorem gX6_known_X6_doubt : GoodIn wsX6_known (wsV RX6 131 RX6 yX6_doubt wsX6_doubt) := goodIn_app (goodIn_of _ (by decide +kernel)) ggX6_known_X6_doubt
set_option maxRecDepth 20000 in
theorem ggX6_known_X6_mayBes : GoodIn wsX6_known wsX6_mayBes := goodIn_r _ [32, 24, 25, 26, 4, 27, 28, 33, 34, 35, 36, 37, 38, 39, 40, 41, 7, 8, 9, 10, 11, 12, 13, 14, 15, 16, 17, 18, 19, 42, 43, 44, 45, 46, 47, 48, 49, 50, 51, 52, 53, 54, 55, 56, 57, 58, 59, 60, 61, 62, 63, 64, 65, 66, 67, 68, 69, 70, 71, 72, 73, 74, 75, 76, 77, 78, 79, 80] (by decide +kernel) (by decide +kernel)
set_option maxRecDepth 20000 in
theorem gX6_known_X6_mayBes : GoodIn wsX6_known (wsV RX6 134 RX6 yX6_mayBes wsX6_mayBes) := goodIn_app (goodIn_of _ (by decide +kernel)) ggX6_known_X6_mayBes
theorem dX6_known_0 : decode cX6_known 0 = .ok (.aload_n 0, 1) := by decide +kernel
theorem dX6_known_1 : decode cX6_known 1 = .ok (.iload_n 1, 1) := by decide +kernel
theorem dX6_known_2 : decode cX6_known 2 = .ok (.invokevirtual 118, 3) := by decide +kernel
theorem dX6_known_5 : decode cX6_known 5 = .ok (.ifCond .ne 5, 3) := by decide +kernel
theorem dX6_known_8 : decode cX6_known 8 = .ok (.iconst (-1), 1) := by decide +kernel
theorem dX6_known_9 : decode cX6_known 9 = .ok (.ireturn, 1) := by decide +kernel
theorem dX6_known_10 : decode cX6_known 10 = .ok (.iload_n 2, 1) := by decide +kernel
theorem dX6_known_11 : decode cX6_known 11 = .ok (.ifCond .ne 11, 3) := by decide +kernel
theorem dX6_known_14 : decode cX6_known 14 = .ok (.aload_n 0, 1) := by decide +kernel
theorem dX6_known_15 : decode cX6_known 15 = .ok (.iload_n 1, 1) := by decide +kernel
theorem dX6_known_16 : decode cX6_known 16 = .ok (.invokevirtual 121, 3) := by decide +kernel
theorem dX6_known_19 : decode cX6_known 19 = .ok (.goto 45, 3) := by decide +kernel
theorem dX6_known_22 : decode cX6_known 22 = .ok (.iload_n 2, 1) := by decide +kernel
theorem dX6_known_23 : decode cX6_known 23 = .ok (.iconst 1, 1) := by decide +kernel
theorem dX6_known_24 : decode cX6_known 24 = .ok (.if_icmp .ne 11, 3) := by decide +kernel
theorem dX6_known_27 : decode cX6_known 27 = .ok (.aload_n 0, 1) := by decide +kernel
theorem dX6_known_28 : decode cX6_known 28 = .ok (.iload_n 1, 1) := by decide +kernel
theorem dX6_known_29 : decode cX6_known 29 = .ok (.invokevirtual 124, 3) := by decide +kernel
theorem dX6_known_32 : decode cX6_known 32 = .ok (.goto 32, 3) := by decide +kernel
theorem dX6_known_35 : decode cX6_known 35 = .ok (.iload_n 2, 1) := by decide +kernel
theorem dX6_known_36 : decode cX6_known 36 = .ok (.iconst 2, 1) := by decide +kernel
theorem dX6_known_37 : decode cX6_known 37 = .ok (.if_icmp .ne 11, 3) := by decide +kernel
theorem dX6_known_40 : decode cX6_known 40 = .ok (.aload_n 0, 1) := by decide +kernel
theorem dX6_known_41 : decode cX6_known 41 = .ok (.iload_n 1, 1) := by decide +kernel
theorem dX6_known_42 : decode cX6_known 42 = .ok (.invokevirtual 131, 3) := by decide +kernel
theorem dX6_known_45 : decode cX6_known 45 = .ok (.goto 19, 3) := by decide +kernel
theorem dX6_known_48 : decode cX6_known 48 = .ok (.iload_n 2, 1) := by decide +kernel
theorem dX6_known_49 : decode cX6_known 49 = .ok (.iconst 3, 1) := by decide +kernel
theorem dX6_known_50 : decode cX6_known 50 = .ok (.if_icmp .ne 12, 3) := by decide +kernel
theorem dX6_known_53 : decode cX6_known 53 = .ok (.aload_n 0, 1) := by decide +kernel
theorem dX6_known_54 : decode cX6_known 54 = .ok (.iload_n 1, 1) := by decide +kernel
theorem dX6_known_55 : decode cX6_known 55 = .ok (.iconst (-1), 1) := by decide +kernel
theorem dX6_known_56 : decode cX6_known 56 = .ok (.invokevirtual 134, 3) := by decide +kernel
theorem dX6_known_59 : decode cX6_known 59 = .ok (.goto 5, 3) := by decide +kernel
theorem dX6_known_62 : decode cX6_known 62 = .ok (.bipush (-2), 2) := by decide +kernel
theorem dX6_known_64 : decode cX6_known 64 = .ok (.ireturn, 1) := by decide +kernel
set_option maxRecDepth 20000 in
theorem ggX6_proof_X6_isMoment : GoodIn wsX6_proof wsX6_isMoment := goodIn_r _ [5, 6, 7, 8, 4, 9, 59, 60, 61, 62, 63, 64, 65, 66, 67, 68, 69, 70, 71, 72, 73, 74, 75, 76, 77, 78, 79] (by decide +kernel) (by decide +kernel)
set_option maxRecDepth 20000 in
theorem gX6_proof_X6_isMoment : GoodIn wsX6_proof (wsV RX6 118 RX6 yX6_isMoment wsX6_isMoment) := goodIn_app (goodIn_of _ (by decide +kernel)) ggX6_proof_X6_isMoment
set_option maxRecDepth 20000 in
theorem ggX6_proof_X6_isRuling : GoodIn wsX6_proof wsX6_isRuling := goodIn_r _ [12, 7, 8, 4, 9] (by decide +kernel) (by decide +kernel)
set_option maxRecDepth 20000 in
theorem gX6_proof_X6_isRuling : GoodIn wsX6_proof (va_wsS RX6 87 yX6_isRuling wsX6_isRuling) := goodIn_app (goodIn_of _ (by decide +kernel)) ggX6_proof_X6_isRuling
set_option maxRecDepth 20000 in
theorem ggX6_proof_X6_mayBes : GoodIn wsX6_proof wsX6_mayBes := goodIn_r _ [16, 17, 18, 19, 4, 20, 21, 22, 23, 24, 25, 26, 27, 28, 29, 30, 7, 8, 9, 31, 32, 33, 34, 35, 36, 37, 38, 39, 40, 41, 42, 43, 44, 45, 46, 47, 48, 49, 50, 51, 52, 53, 54, 55, 56, 57, 58, 59, 60, 61, 62, 63, 64, 65, 66, 67, 68, 69, 70, 71, 72, 73, 74, 75, 76, 77, 78, 79] (by decide +kernel) (by decide +kernel)
set_option maxRecDepth 20000 in
theorem gX6_proof_X6_mayBes : GoodIn wsX6_proof (wsV RX6 134 RX6 yX6_mayBes wsX6_mayBes) := goodIn_app (goodIn_of _ (by decide +kernel)) ggX6_proof_X6_mayBes
theorem dX6_proof_0 : decode cX6_proof 0 = .ok (.aload_n 0, 1) := by decide +kernel
theorem dX6_proof_1 : decode cX6_proof 1 = .ok (.iload_n 1, 1) := by decide +kernel
theorem dX6_proof_2 : decode cX6_proof 2 = .ok (.invokevirtual 118, 3) := by decide +kernel
theorem dX6_proof_5 : decode cX6_proof 5 = .ok (.ifCond .ne 5, 3) := by decide +kernel
theorem dX6_proof_8 : decode cX6_proof 8 = .ok (.iconst (-1), 1) := by decide +kernel
theorem dX6_proof_9 : decode cX6_proof 9 = .ok (.ireturn, 1) := by decide +kernel
theorem dX6_proof_10 : decode cX6_proof 10 = .ok (.iload_n 2, 1) := by decide +kernel
theorem dX6_proof_11 : decode cX6_proof 11 = .ok (.invokestatic 87, 3) := by decide +kernel
theorem dX6_proof_14 : decode cX6_proof 14 = .ok (.ifCond .ne 6, 3) := by decide +kernel
theorem dX6_proof_17 : decode cX6_proof 17 = .ok (.bipush (-2), 2) := by decide +kernel
theorem dX6_proof_19 : decode cX6_proof 19 = .ok (.ireturn, 1) := by decide +kernel
theorem dX6_proof_20 : decode cX6_proof 20 = .ok (.aload_n 0, 1) := by decide +kernel
theorem dX6_proof_21 : decode cX6_proof 21 = .ok (.iload_n 1, 1) := by decide +kernel
theorem dX6_proof_22 : decode cX6_proof 22 = .ok (.iload_n 2, 1) := by decide +kernel
theorem dX6_proof_23 : decode cX6_proof 23 = .ok (.invokevirtual 134, 3) := by decide +kernel
theorem dX6_proof_26 : decode cX6_proof 26 = .ok (.istore_n 3, 1) := by decide +kernel
theorem dX6_proof_27 : decode cX6_proof 27 = .ok (.iload_n 3, 1) := by decide +kernel
theorem dX6_proof_28 : decode cX6_proof 28 = .ok (.ifCond .ne 7, 3) := by decide +kernel
theorem dX6_proof_31 : decode cX6_proof 31 = .ok (.iconst 0, 1) := by decide +kernel
theorem dX6_proof_32 : decode cX6_proof 32 = .ok (.goto 18, 3) := by decide +kernel
theorem dX6_proof_35 : decode cX6_proof 35 = .ok (.iload_n 3, 1) := by decide +kernel
theorem dX6_proof_36 : decode cX6_proof 36 = .ok (.aload_n 0, 1) := by decide +kernel
theorem dX6_proof_37 : decode cX6_proof 37 = .ok (.iload_n 1, 1) := by decide +kernel
theorem dX6_proof_38 : decode cX6_proof 38 = .ok (.iconst (-1), 1) := by decide +kernel
theorem dX6_proof_39 : decode cX6_proof 39 = .ok (.invokevirtual 134, 3) := by decide +kernel
theorem dX6_proof_42 : decode cX6_proof 42 = .ok (.if_icmp .ne 7, 3) := by decide +kernel
theorem dX6_proof_45 : decode cX6_proof 45 = .ok (.iconst 2, 1) := by decide +kernel
theorem dX6_proof_46 : decode cX6_proof 46 = .ok (.goto 4, 3) := by decide +kernel
theorem dX6_proof_49 : decode cX6_proof 49 = .ok (.iconst 1, 1) := by decide +kernel
theorem dX6_proof_50 : decode cX6_proof 50 = .ok (.ireturn, 1) := by decide +kernel
set_option maxRecDepth 20000 in
theorem ggX6_bindingCase_X6_doubt : GoodIn wsX6_bindingCase wsX6_doubt := goodIn_r _ [8, 9, 10, 11, 7, 12, 13, 14, 15, 16, 17, 18, 19, 20, 21, 22, 23, 24, 25, 26, 27, 28, 29, 30, 31, 32, 33, 34, 35, 36, 37, 38, 39, 40, 41, 42, 43, 44] (by decide +kernel) (by decide +kernel)
set_option maxRecDepth 20000 in
theorem gX6_bindingCase_X6_doubt : GoodIn wsX6_bindingCase (wsV RX6 131 RX6 yX6_doubt wsX6_doubt) := goodIn_app (goodIn_of _ (by decide +kernel)) ggX6_bindingCase_X6_doubt
set_option maxRecDepth 20000 in
theorem ggX6_bindingCase_X6_so : GoodIn wsX6_bindingCase wsX6_so := goodIn_r _ [17, 18, 19, 24, 25, 26, 27, 28, 29, 30, 31, 32, 33, 34, 35, 36, 37, 38, 39, 40, 41, 42, 43, 44] (by decide +kernel) (by decide +kernel)
set_option maxRecDepth 20000 in
theorem gX6_bindingCase_X6_so : GoodIn wsX6_bindingCase (wsV RX6 121 RX6 yX6_so wsX6_so) := goodIn_app (goodIn_of _ (by decide +kernel)) ggX6_bindingCase_X6_so
theorem dX6_bindingCase_0 : decode cX6_bindingCase 0 = .ok (.iconst 0, 1) := by decide +kernel
theorem dX6_bindingCase_1 : decode cX6_bindingCase 1 = .ok (.istore_n 2, 1) := by decide +kernel
theorem dX6_bindingCase_2 : decode cX6_bindingCase 2 = .ok (.iload_n 2, 1) := by decide +kernel
theorem dX6_bindingCase_3 : decode cX6_bindingCase 3 = .ok (.aload_n 0, 1) := by decide +kernel
theorem dX6_bindingCase_4 : decode cX6_bindingCase 4 = .ok (.getfield 76, 3) := by decide +kernel
theorem dX6_bindingCase_7 : decode cX6_bindingCase 7 = .ok (.if_icmp .ge 45, 3) := by decide +kernel
theorem dX6_bindingCase_10 : decode cX6_bindingCase 10 = .ok (.aload_n 0, 1) := by decide +kernel
theorem dX6_bindingCase_11 : decode cX6_bindingCase 11 = .ok (.getfield 48, 3) := by decide +kernel
theorem dX6_bindingCase_14 : decode cX6_bindingCase 14 = .ok (.iload_n 2, 1) := by decide +kernel
theorem dX6_bindingCase_15 : decode cX6_bindingCase 15 = .ok (.iaload, 1) := by decide +kernel
theorem dX6_bindingCase_16 : decode cX6_bindingCase 16 = .ok (.istore_n 3, 1) := by decide +kernel
theorem dX6_bindingCase_17 : decode cX6_bindingCase 17 = .ok (.iload_n 3, 1) := by decide +kernel
theorem dX6_bindingCase_18 : decode cX6_bindingCase 18 = .ok (.aload_n 0, 1) := by decide +kernel
theorem dX6_bindingCase_19 : decode cX6_bindingCase 19 = .ok (.iload_n 1, 1) := by decide +kernel
theorem dX6_bindingCase_20 : decode cX6_bindingCase 20 = .ok (.invokevirtual 131, 3) := by decide +kernel
theorem dX6_bindingCase_23 : decode cX6_bindingCase 23 = .ok (.iand, 1) := by decide +kernel
theorem dX6_bindingCase_24 : decode cX6_bindingCase 24 = .ok (.ifCond .ne 22, 3) := by decide +kernel
theorem dX6_bindingCase_27 : decode cX6_bindingCase 27 = .ok (.aload_n 0, 1) := by decide +kernel
theorem dX6_bindingCase_28 : decode cX6_bindingCase 28 = .ok (.iload_n 1, 1) := by decide +kernel
theorem dX6_bindingCase_29 : decode cX6_bindingCase 29 = .ok (.invokevirtual 121, 3) := by decide +kernel
theorem dX6_bindingCase_32 : decode cX6_bindingCase 32 = .ok (.aload_n 0, 1) := by decide +kernel
theorem dX6_bindingCase_33 : decode cX6_bindingCase 33 = .ok (.getfield 42, 3) := by decide +kernel
theorem dX6_bindingCase_36 : decode cX6_bindingCase 36 = .ok (.iload_n 2, 1) := by decide +kernel
theorem dX6_bindingCase_37 : decode cX6_bindingCase 37 = .ok (.iaload, 1) := by decide +kernel
theorem dX6_bindingCase_38 : decode cX6_bindingCase 38 = .ok (.ixor, 1) := by decide +kernel
theorem dX6_bindingCase_39 : decode cX6_bindingCase 39 = .ok (.iload_n 3, 1) := by decide +kernel
theorem dX6_bindingCase_40 : decode cX6_bindingCase 40 = .ok (.iand, 1) := by decide +kernel
theorem dX6_bindingCase_41 : decode cX6_bindingCase 41 = .ok (.ifCond .ne 5, 3) := by decide +kernel
theorem dX6_bindingCase_44 : decode cX6_bindingCase 44 = .ok (.iload_n 2, 1) := by decide +kernel
theorem dX6_bindingCase_45 : decode cX6_bindingCase 45 = .ok (.ireturn, 1) := by decide +kernel
theorem dX6_bindingCase_46 : decode cX6_bindingCase 46 = .ok (.iinc 2 1, 3) := by decide +kernel
theorem dX6_bindingCase_49 : decode cX6_bindingCase 49 = .ok (.goto (-47), 3) := by decide +kernel
theorem dX6_bindingCase_52 : decode cX6_bindingCase 52 = .ok (.bipush (-6), 2) := by decide +kernel
theorem dX6_bindingCase_54 : decode cX6_bindingCase 54 = .ok (.ireturn, 1) := by decide +kernel
set_option maxRecDepth 20000 in
theorem ggX6_binds_X6_isMoment : GoodIn wsX6_binds wsX6_isMoment := goodIn_r _ [5, 6, 7, 8, 4, 9, 36, 37, 38, 39, 40, 41, 42, 43, 44, 45, 46, 47, 48, 49, 50, 51, 52, 53, 54, 55, 56] (by decide +kernel) (by decide +kernel)
set_option maxRecDepth 20000 in
theorem gX6_binds_X6_isMoment : GoodIn wsX6_binds (wsV RX6 118 RX6 yX6_isMoment wsX6_isMoment) := goodIn_app (goodIn_of _ (by decide +kernel)) ggX6_binds_X6_isMoment
set_option maxRecDepth 20000 in
theorem ggX6_binds_X6_bindingCase : GoodIn wsX6_binds wsX6_bindingCase := goodIn_r _ [13, 14, 15, 16, 17, 18, 19, 4, 20, 21, 22, 23, 24, 25, 26, 27, 28, 29, 30, 31, 32, 33, 34, 35, 36, 37, 38, 39, 40, 41, 42, 43, 44, 45, 46, 47, 48, 49, 50, 51, 52, 53, 54, 55, 56] (by decide +kernel) (by decide +kernel)
set_option maxRecDepth 20000 in
theorem gX6_binds_X6_bindingCase : GoodIn wsX6_binds (wsV RX6 138 RX6 yX6_bindingCase wsX6_bindingCase) := goodIn_app (goodIn_of _ (by decide +kernel)) ggX6_binds_X6_bindingCase
theorem dX6_binds_0 : decode cX6_binds 0 = .ok (.aload_n 0, 1) := by decide +kernel
theorem dX6_binds_1 : decode cX6_binds 1 = .ok (.iload_n 1, 1) := by decide +kernel
theorem dX6_binds_2 : decode cX6_binds 2 = .ok (.invokevirtual 118, 3) := by decide +kernel
theorem dX6_binds_5 : decode cX6_binds 5 = .ok (.ifCond .eq 11, 3) := by decide +kernel
theorem dX6_binds_8 : decode cX6_binds 8 = .ok (.aload_n 0, 1) := by decide +kernel
theorem dX6_binds_9 : decode cX6_binds 9 = .ok (.iload_n 1, 1) := by decide +kernel
theorem dX6_binds_10 : decode cX6_binds 10 = .ok (.invokevirtual 138, 3) := by decide +kernel
theorem dX6_binds_13 : decode cX6_binds 13 = .ok (.goto 4, 3) := by decide +kernel
theorem dX6_binds_16 : decode cX6_binds 16 = .ok (.iconst (-1), 1) := by decide +kernel
theorem dX6_binds_17 : decode cX6_binds 17 = .ok (.ireturn, 1) := by decide +kernel
set_option maxRecDepth 20000 in
theorem ggX6_verdictOf_X6_mayBes : GoodIn wsX6_verdictOf wsX6_mayBes := goodIn_r _ [7, 8, 9, 10, 6, 11, 12, 13, 14, 15, 16, 17, 18, 19, 20, 21, 22, 23, 24, 25, 26, 27, 28, 29, 30, 31, 32, 33, 34, 35, 36, 37, 38, 39, 40, 41, 42, 43, 44, 45, 46, 47, 48, 49, 50, 51, 52, 64, 65, 66, 67, 68, 69, 70, 71, 72, 73, 74, 75, 76, 77, 78, 79, 80, 81, 82, 83, 84] (by decide +kernel) (by decide +kernel)
set_option maxRecDepth 20000 in
theorem gX6_verdictOf_X6_mayBes : GoodIn wsX6_verdictOf (wsV RX6 134 RX6 yX6_mayBes wsX6_mayBes) := goodIn_app (goodIn_of _ (by decide +kernel)) ggX6_verdictOf_X6_mayBes
set_option maxRecDepth 20000 in
theorem ggX6_verdictOf_X6_bindingCase : GoodIn wsX6_verdictOf wsX6_bindingCase := goodIn_r _ [56, 57, 58, 59, 60, 61, 62, 6, 63, 8, 9, 10, 11, 12, 25, 26, 27, 28, 29, 30, 31, 32, 33, 34, 64, 65, 66, 67, 68, 69, 70, 71, 72, 73, 74, 75, 76, 77, 78, 79, 80, 81, 82, 83, 84] (by decide +kernel) (by decide +kernel)
set_option maxRecDepth 20000 in
theorem gX6_verdictOf_X6_bindingCase : GoodIn wsX6_verdictOf (wsV RX6 138 RX6 yX6_bindingCase wsX6_bindingCase) := goodIn_app (goodIn_of _ (by decide +kernel)) ggX6_verdictOf_X6_bindingCase
theorem dX6_verdictOf_0 : decode cX6_verdictOf 0 = .ok (.aload_n 0, 1) := by decide +kernel
theorem dX6_verdictOf_1 : decode cX6_verdictOf 1 = .ok (.getfield 39, 3) := by decide +kernel
theorem dX6_verdictOf_4 : decode cX6_verdictOf 4 = .ok (.iload_n 1, 1) := by decide +kernel
theorem dX6_verdictOf_5 : decode cX6_verdictOf 5 = .ok (.iaload, 1) := by decide +kernel
theorem dX6_verdictOf_6 : decode cX6_verdictOf 6 = .ok (.ifCond .lt 10, 3) := by decide +kernel
theorem dX6_verdictOf_9 : decode cX6_verdictOf 9 = .ok (.aload_n 0, 1) := by decide +kernel
theorem dX6_verdictOf_10 : decode cX6_verdictOf 10 = .ok (.getfield 39, 3) := by decide +kernel
theorem dX6_verdictOf_13 : decode cX6_verdictOf 13 = .ok (.iload_n 1, 1) := by decide +kernel
theorem dX6_verdictOf_14 : decode cX6_verdictOf 14 = .ok (.iaload, 1) := by decide +kernel
theorem dX6_verdictOf_15 : decode cX6_verdictOf 15 = .ok (.ireturn, 1) := by decide +kernel
theorem dX6_verdictOf_16 : decode cX6_verdictOf 16 = .ok (.aload_n 0, 1) := by decide +kernel
theorem dX6_verdictOf_17 : decode cX6_verdictOf 17 = .ok (.iload_n 1, 1) := by decide +kernel
theorem dX6_verdictOf_18 : decode cX6_verdictOf 18 = .ok (.iconst (-1), 1) := by decide +kernel
theorem dX6_verdictOf_19 : decode cX6_verdictOf 19 = .ok (.invokevirtual 134, 3) := by decide +kernel
theorem dX6_verdictOf_22 : decode cX6_verdictOf 22 = .ok (.istore_n 2, 1) := by decide +kernel
theorem dX6_verdictOf_23 : decode cX6_verdictOf 23 = .ok (.iload_n 2, 1) := by decide +kernel
theorem dX6_verdictOf_24 : decode cX6_verdictOf 24 = .ok (.ifCond .ne 5, 3) := by decide +kernel
theorem dX6_verdictOf_27 : decode cX6_verdictOf 27 = .ok (.iconst 0, 1) := by decide +kernel
theorem dX6_verdictOf_28 : decode cX6_verdictOf 28 = .ok (.ireturn, 1) := by decide +kernel
theorem dX6_verdictOf_29 : decode cX6_verdictOf 29 = .ok (.aload_n 0, 1) := by decide +kernel
theorem dX6_verdictOf_30 : decode cX6_verdictOf 30 = .ok (.iload_n 1, 1) := by decide +kernel
theorem dX6_verdictOf_31 : decode cX6_verdictOf 31 = .ok (.invokevirtual 138, 3) := by decide +kernel
theorem dX6_verdictOf_34 : decode cX6_verdictOf 34 = .ok (.istore_n 3, 1) := by decide +kernel
theorem dX6_verdictOf_35 : decode cX6_verdictOf 35 = .ok (.iload_n 3, 1) := by decide +kernel
theorem dX6_verdictOf_36 : decode cX6_verdictOf 36 = .ok (.ifCond .lt 10, 3) := by decide +kernel
theorem dX6_verdictOf_39 : decode cX6_verdictOf 39 = .ok (.aload_n 0, 1) := by decide +kernel
theorem dX6_verdictOf_40 : decode cX6_verdictOf 40 = .ok (.getfield 45, 3) := by decide +kernel
theorem dX6_verdictOf_43 : decode cX6_verdictOf 43 = .ok (.iload_n 3, 1) := by decide +kernel
theorem dX6_verdictOf_44 : decode cX6_verdictOf 44 = .ok (.iaload, 1) := by decide +kernel
theorem dX6_verdictOf_45 : decode cX6_verdictOf 45 = .ok (.ireturn, 1) := by decide +kernel
theorem dX6_verdictOf_46 : decode cX6_verdictOf 46 = .ok (.iconst 0, 1) := by decide +kernel
theorem dX6_verdictOf_47 : decode cX6_verdictOf 47 = .ok (.istore 4, 2) := by decide +kernel
theorem dX6_verdictOf_49 : decode cX6_verdictOf 49 = .ok (.iload 4, 2) := by decide +kernel
theorem dX6_verdictOf_51 : decode cX6_verdictOf 51 = .ok (.iconst 5, 1) := by decide +kernel
theorem dX6_verdictOf_52 : decode cX6_verdictOf 52 = .ok (.if_icmp .ge 23, 3) := by decide +kernel
theorem dX6_verdictOf_55 : decode cX6_verdictOf 55 = .ok (.aload_n 0, 1) := by decide +kernel
theorem dX6_verdictOf_56 : decode cX6_verdictOf 56 = .ok (.iload_n 1, 1) := by decide +kernel
theorem dX6_verdictOf_57 : decode cX6_verdictOf 57 = .ok (.iload 4, 2) := by decide +kernel
theorem dX6_verdictOf_59 : decode cX6_verdictOf 59 = .ok (.invokevirtual 134, 3) := by decide +kernel
theorem dX6_verdictOf_62 : decode cX6_verdictOf 62 = .ok (.iload_n 2, 1) := by decide +kernel
theorem dX6_verdictOf_63 : decode cX6_verdictOf 63 = .ok (.if_icmp .ne 6, 3) := by decide +kernel
theorem dX6_verdictOf_66 : decode cX6_verdictOf 66 = .ok (.iload 4, 2) := by decide +kernel
theorem dX6_verdictOf_68 : decode cX6_verdictOf 68 = .ok (.ireturn, 1) := by decide +kernel
theorem dX6_verdictOf_69 : decode cX6_verdictOf 69 = .ok (.iinc 4 1, 3) := by decide +kernel
theorem dX6_verdictOf_72 : decode cX6_verdictOf 72 = .ok (.goto (-23), 3) := by decide +kernel
theorem dX6_verdictOf_75 : decode cX6_verdictOf 75 = .ok (.iconst 0, 1) := by decide +kernel
theorem dX6_verdictOf_76 : decode cX6_verdictOf 76 = .ok (.ireturn, 1) := by decide +kernel
set_option maxRecDepth 20000 in
theorem ggX6_verdict_X6_isMoment : GoodIn wsX6_verdict wsX6_isMoment := goodIn_r _ [5, 6, 7, 8, 4, 9, 73, 74, 75, 76, 77, 78, 79, 80, 81, 82, 83, 84, 85, 86, 87, 88, 89, 90, 91, 92, 93] (by decide +kernel) (by decide +kernel)
set_option maxRecDepth 20000 in
theorem gX6_verdict_X6_isMoment : GoodIn wsX6_verdict (wsV RX6 118 RX6 yX6_isMoment wsX6_isMoment) := goodIn_app (goodIn_of _ (by decide +kernel)) ggX6_verdict_X6_isMoment
set_option maxRecDepth 20000 in
theorem ggX6_verdict_X6_verdictOf : GoodIn wsX6_verdict wsX6_verdictOf := goodIn_r _ [13, 14, 15, 16, 17, 18, 4, 19, 20, 21, 22, 23, 24, 25, 26, 27, 28, 29, 30, 31, 32, 33, 7, 8, 9, 34, 35, 36, 37, 38, 39, 40, 41, 42, 43, 44, 45, 46, 47, 48, 49, 50, 51, 52, 53, 54, 55, 56, 57, 58, 59, 60, 61, 62, 63, 64, 65, 66, 67, 68, 69, 70, 71, 72, 73, 74, 75, 76, 77, 78, 79, 80, 81, 82, 83, 84, 85, 86, 87, 88, 89, 90, 91, 92, 93] (by decide +kernel) (by decide +kernel)
set_option maxRecDepth 20000 in
theorem gX6_verdict_X6_verdictOf : GoodIn wsX6_verdict (wsV RX6 141 RX6 yX6_verdictOf wsX6_verdictOf) := goodIn_app (goodIn_of _ (by decide +kernel)) ggX6_verdict_X6_verdictOf
theorem dX6_verdict_0 : decode cX6_verdict 0 = .ok (.aload_n 0, 1) := by decide +kernel
theorem dX6_verdict_1 : decode cX6_verdict 1 = .ok (.iload_n 1, 1) := by decide +kernel
theorem dX6_verdict_2 : decode cX6_verdict 2 = .ok (.invokevirtual 118, 3) := by decide +kernel
theorem dX6_verdict_5 : decode cX6_verdict 5 = .ok (.ifCond .eq 11, 3) := by decide +kernel
theorem dX6_verdict_8 : decode cX6_verdict 8 = .ok (.aload_n 0, 1) := by decide +kernel
theorem dX6_verdict_9 : decode cX6_verdict 9 = .ok (.iload_n 1, 1) := by decide +kernel
theorem dX6_verdict_10 : decode cX6_verdict 10 = .ok (.invokevirtual 141, 3) := by decide +kernel
theorem dX6_verdict_13 : decode cX6_verdict 13 = .ok (.goto 4, 3) := by decide +kernel
theorem dX6_verdict_16 : decode cX6_verdict 16 = .ok (.iconst (-1), 1) := by decide +kernel
theorem dX6_verdict_17 : decode cX6_verdict 17 = .ok (.ireturn, 1) := by decide +kernel
set_option maxRecDepth 20000 in
theorem ggX6_rule_X6_isMoment : GoodIn wsX6_rule wsX6_isMoment := goodIn_r _ [6, 7, 8, 9, 5, 10, 76, 77, 78, 79, 80, 81, 82, 83, 84, 85, 86, 87, 88, 89, 90, 91, 92, 93, 94, 95, 96] (by decide +kernel) (by decide +kernel)
set_option maxRecDepth 20000 in
theorem gX6_rule_X6_isMoment : GoodIn wsX6_rule (wsV RX6 118 RX6 yX6_isMoment wsX6_isMoment) := goodIn_app (goodIn_of _ (by decide +kernel)) ggX6_rule_X6_isMoment
set_option maxRecDepth 20000 in
theorem ggX6_rule_X6_isRuling : GoodIn wsX6_rule wsX6_isRuling := goodIn_r _ [13, 8, 9, 5, 10] (by decide +kernel) (by decide +kernel)
set_option maxRecDepth 20000 in
theorem gX6_rule_X6_isRuling : GoodIn wsX6_rule (va_wsS RX6 87 yX6_isRuling wsX6_isRuling) := goodIn_app (goodIn_of _ (by decide +kernel)) ggX6_rule_X6_isRuling
set_option maxRecDepth 20000 in
theorem ggX6_rule_X6_verdictOf : GoodIn wsX6_rule wsX6_verdictOf := goodIn_r _ [17, 1, 18, 19, 20, 21, 5, 22, 23, 24, 25, 26, 27, 28, 29, 30, 31, 32, 33, 34, 35, 36, 8, 9, 10, 37, 38, 39, 40, 41, 42, 43, 44, 45, 46, 47, 48, 49, 50, 51, 52, 53, 54, 55, 56, 57, 58, 59, 60, 61, 62, 63, 64, 65, 66, 67, 68, 69, 70, 71, 72, 73, 74, 75, 76, 77, 78, 79, 80, 81, 82, 83, 84, 85, 86, 87, 88, 89, 90, 91, 92, 93, 94, 95, 96] (by decide +kernel) (by decide +kernel)
set_option maxRecDepth 20000 in
theorem gX6_rule_X6_verdictOf : GoodIn wsX6_rule (wsV RX6 141 RX6 yX6_verdictOf wsX6_verdictOf) := goodIn_app (goodIn_of _ (by decide +kernel)) ggX6_rule_X6_verdictOf
theorem dX6_rule_0 : decode cX6_rule 0 = .ok (.aload_n 0, 1) := by decide +kernel
theorem dX6_rule_1 : decode cX6_rule 1 = .ok (.iload_n 1, 1) := by decide +kernel
theorem dX6_rule_2 : decode cX6_rule 2 = .ok (.invokevirtual 118, 3) := by decide +kernel
theorem dX6_rule_5 : decode cX6_rule 5 = .ok (.ifCond .ne 5, 3) := by decide +kernel
theorem dX6_rule_8 : decode cX6_rule 8 = .ok (.iconst (-1), 1) := by decide +kernel
theorem dX6_rule_9 : decode cX6_rule 9 = .ok (.ireturn, 1) := by decide +kernel
theorem dX6_rule_10 : decode cX6_rule 10 = .ok (.iload_n 2, 1) := by decide +kernel
theorem dX6_rule_11 : decode cX6_rule 11 = .ok (.iconst (-1), 1) := by decide +kernel
theorem dX6_rule_12 : decode cX6_rule 12 = .ok (.if_icmp .eq 13, 3) := by decide +kernel
theorem dX6_rule_15 : decode cX6_rule 15 = .ok (.iload_n 2, 1) := by decide +kernel
theorem dX6_rule_16 : decode cX6_rule 16 = .ok (.invokestatic 87, 3) := by decide +kernel
theorem dX6_rule_19 : decode cX6_rule 19 = .ok (.ifCond .ne 6, 3) := by decide +kernel
theorem dX6_rule_22 : decode cX6_rule 22 = .ok (.bipush (-2), 2) := by decide +kernel
theorem dX6_rule_24 : decode cX6_rule 24 = .ok (.ireturn, 1) := by decide +kernel
theorem dX6_rule_25 : decode cX6_rule 25 = .ok (.aload_n 0, 1) := by decide +kernel
theorem dX6_rule_26 : decode cX6_rule 26 = .ok (.iload_n 1, 1) := by decide +kernel
theorem dX6_rule_27 : decode cX6_rule 27 = .ok (.invokevirtual 141, 3) := by decide +kernel
theorem dX6_rule_30 : decode cX6_rule 30 = .ok (.istore_n 3, 1) := by decide +kernel
theorem dX6_rule_31 : decode cX6_rule 31 = .ok (.aload_n 0, 1) := by decide +kernel
theorem dX6_rule_32 : decode cX6_rule 32 = .ok (.getfield 39, 3) := by decide +kernel
theorem dX6_rule_35 : decode cX6_rule 35 = .ok (.iload_n 1, 1) := by decide +kernel
theorem dX6_rule_36 : decode cX6_rule 36 = .ok (.iload_n 2, 1) := by decide +kernel
theorem dX6_rule_37 : decode cX6_rule 37 = .ok (.iastore, 1) := by decide +kernel
theorem dX6_rule_38 : decode cX6_rule 38 = .ok (.iload_n 3, 1) := by decide +kernel
theorem dX6_rule_39 : decode cX6_rule 39 = .ok (.ireturn, 1) := by decide +kernel
set_option maxRecDepth 20000 in
theorem ggX6_make_X6_isMoment : GoodIn wsX6_make wsX6_isMoment := goodIn_r _ [9, 10, 11, 12, 8, 13, 77, 78, 79, 80, 81, 82, 83, 84, 85, 86, 87, 88, 89, 90, 91, 92, 93, 94, 95, 96, 97] (by decide +kernel) (by decide +kernel)
set_option maxRecDepth 20000 in
theorem gX6_make_X6_isMoment : GoodIn wsX6_make (wsV RX6 118 RX6 yX6_isMoment wsX6_isMoment) := goodIn_app (goodIn_of _ (by decide +kernel)) ggX6_make_X6_isMoment
set_option maxRecDepth 20000 in
theorem ggX6_make_X6_doubt : GoodIn wsX6_make wsX6_doubt := goodIn_r _ [17, 18, 19, 20, 8, 21, 22, 23, 24, 25, 26, 27, 28, 29, 30, 31, 32, 77, 78, 79, 80, 81, 82, 83, 84, 85, 86, 87, 88, 89, 90, 91, 92, 93, 94, 95, 96, 97] (by decide +kernel) (by decide +kernel)
set_option maxRecDepth 20000 in
theorem gX6_make_X6_doubt : GoodIn wsX6_make (wsV RX6 131 RX6 yX6_doubt wsX6_doubt) := goodIn_app (goodIn_of _ (by decide +kernel)) ggX6_make_X6_doubt
set_option maxRecDepth 20000 in
theorem ggX6_make_X6_mayBes : GoodIn wsX6_make wsX6_mayBes := goodIn_r _ [36, 18, 19, 20, 8, 21, 22, 37, 38, 39, 40, 41, 42, 43, 44, 45, 11, 12, 13, 23, 24, 25, 26, 27, 28, 29, 30, 31, 32, 46, 47, 48, 49, 50, 51, 52, 53, 54, 55, 56, 57, 58, 59, 60, 61, 62, 63, 77, 78, 79, 80, 81, 82, 83, 84, 85, 86, 87, 88, 89, 90, 91, 92, 93, 94, 95, 96, 97] (by decide +kernel) (by decide +kernel)
set_option maxRecDepth 20000 in
theorem gX6_make_X6_mayBes : GoodIn wsX6_make (wsV RX6 134 RX6 yX6_mayBes wsX6_mayBes) := goodIn_app (goodIn_of _ (by decide +kernel)) ggX6_make_X6_mayBes
set_option maxRecDepth 20000 in
theorem ggX6_make_X6_so : GoodIn wsX6_make wsX6_so := goodIn_r _ [26, 27, 28, 77, 78, 79, 80, 81, 82, 83, 84, 85, 86, 87, 88, 89, 90, 91, 92, 93, 94, 95, 96, 97] (by decide +kernel) (by decide +kernel)
set_option maxRecDepth 20000 in
theorem gX6_make_X6_so : GoodIn wsX6_make (wsV RX6 121 RX6 yX6_so wsX6_so) := goodIn_app (goodIn_of _ (by decide +kernel)) ggX6_make_X6_so
set_option maxRecDepth 20000 in
theorem ggX6_make_X6_lineFor : GoodIn wsX6_make wsX6_lineFor := goodIn_r _ [54, 55, 56, 57, 58, 59, 8, 60, 61, 62, 63, 77, 78, 79, 80, 81, 82, 83, 84, 85, 86, 87, 88, 89, 90, 91, 92, 93, 94, 95, 96, 97] (by decide +kernel) (by decide +kernel)
set_option maxRecDepth 20000 in
theorem gX6_make_X6_lineFor : GoodIn wsX6_make (wsV RX6 106 RX6 yX6_lineFor wsX6_lineFor) := goodIn_app (goodIn_of _ (by decide +kernel)) ggX6_make_X6_lineFor
set_option maxRecDepth 20000 in
theorem ggX6_make_X6_verdictOf : GoodIn wsX6_make wsX6_verdictOf := goodIn_r _ [67, 68, 2, 33, 34, 35, 8, 36, 18, 19, 20, 21, 22, 37, 38, 39, 40, 41, 42, 43, 44, 45, 11, 12, 13, 23, 24, 25, 26, 27, 28, 29, 30, 31, 32, 46, 47, 48, 49, 50, 51, 52, 53, 54, 55, 56, 57, 58, 59, 60, 61, 62, 63, 69, 70, 71, 72, 1, 4, 3, 14, 15, 16, 17, 77, 78, 79, 80, 81, 82, 83, 84, 85, 86, 87, 88, 89, 90, 91, 92, 93, 94, 95, 96, 97] (by decide +kernel) (by decide +kernel)
set_option maxRecDepth 20000 in
theorem gX6_make_X6_verdictOf : GoodIn wsX6_make (wsV RX6 141 RX6 yX6_verdictOf wsX6_verdictOf) := goodIn_app (goodIn_of _ (by decide +kernel)) ggX6_make_X6_verdictOf
set_option maxRecDepth 20000 in
theorem ggX6_make_X6_allFacts : GoodIn wsX6_make wsX6_allFacts := goodIn_r _ [21, 22, 77, 78, 79, 80, 81, 82, 83, 84, 85, 86, 87, 88, 89, 90, 91, 92, 93, 94, 95, 96, 97] (by decide +kernel) (by decide +kernel)
set_option maxRecDepth 20000 in
theorem gX6_make_X6_allFacts : GoodIn wsX6_make (wsV RX6 83 RX6 yX6_allFacts wsX6_allFacts) := goodIn_app (goodIn_of _ (by decide +kernel)) ggX6_make_X6_allFacts
set_option maxRecDepth 20000 in
theorem ggX6_make_X6_namedBy : GoodIn wsX6_make wsX6_namedBy := goodIn_r _ [76, 55, 61, 62, 63, 56, 77, 78, 79, 80, 81, 82, 83, 84, 85, 86, 87, 88, 89, 90, 91, 92, 93, 94, 95, 96, 97] (by decide +kernel) (by decide +kernel)
set_option maxRecDepth 20000 in
theorem gX6_make_X6_namedBy : GoodIn wsX6_make (wsV RX6 97 RX6 yX6_namedBy wsX6_namedBy) := goodIn_app (goodIn_of _ (by decide +kernel)) ggX6_make_X6_namedBy
theorem dX6_make_0 : decode cX6_make 0 = .ok (.aload_n 0, 1) := by decide +kernel
theorem dX6_make_1 : decode cX6_make 1 = .ok (.iload_n 1, 1) := by decide +kernel
theorem dX6_make_2 : decode cX6_make 2 = .ok (.invokevirtual 118, 3) := by decide +kernel
theorem dX6_make_5 : decode cX6_make 5 = .ok (.ifCond .ne 5, 3) := by decide +kernel
theorem dX6_make_8 : decode cX6_make 8 = .ok (.iconst (-1), 1) := by decide +kernel
theorem dX6_make_9 : decode cX6_make 9 = .ok (.ireturn, 1) := by decide +kernel
theorem dX6_make_10 : decode cX6_make 10 = .ok (.aload_n 0, 1) := by decide +kernel
theorem dX6_make_11 : decode cX6_make 11 = .ok (.iload_n 1, 1) := by decide +kernel
theorem dX6_make_12 : decode cX6_make 12 = .ok (.invokevirtual 131, 3) := by decide +kernel
theorem dX6_make_15 : decode cX6_make 15 = .ok (.ifCond .ne 12, 3) := by decide +kernel
theorem dX6_make_18 : decode cX6_make 18 = .ok (.aload_n 0, 1) := by decide +kernel
theorem dX6_make_19 : decode cX6_make 19 = .ok (.iload_n 1, 1) := by decide +kernel
theorem dX6_make_20 : decode cX6_make 20 = .ok (.iconst (-1), 1) := by decide +kernel
theorem dX6_make_21 : decode cX6_make 21 = .ok (.invokevirtual 134, 3) := by decide +kernel
theorem dX6_make_24 : decode cX6_make 24 = .ok (.ifCond .ne 6, 3) := by decide +kernel
theorem dX6_make_27 : decode cX6_make 27 = .ok (.bipush (-3), 2) := by decide +kernel
theorem dX6_make_29 : decode cX6_make 29 = .ok (.ireturn, 1) := by decide +kernel
theorem dX6_make_30 : decode cX6_make 30 = .ok (.aload_n 0, 1) := by decide +kernel
theorem dX6_make_31 : decode cX6_make 31 = .ok (.getfield 76, 3) := by decide +kernel
theorem dX6_make_34 : decode cX6_make 34 = .ok (.bipush 12, 2) := by decide +kernel
theorem dX6_make_36 : decode cX6_make 36 = .ok (.if_icmp .ne 6, 3) := by decide +kernel
theorem dX6_make_39 : decode cX6_make 39 = .ok (.bipush (-4), 2) := by decide +kernel
theorem dX6_make_41 : decode cX6_make 41 = .ok (.ireturn, 1) := by decide +kernel
theorem dX6_make_42 : decode cX6_make 42 = .ok (.aload_n 0, 1) := by decide +kernel
theorem dX6_make_43 : decode cX6_make 43 = .ok (.iload_n 1, 1) := by decide +kernel
theorem dX6_make_44 : decode cX6_make 44 = .ok (.invokevirtual 121, 3) := by decide +kernel
theorem dX6_make_47 : decode cX6_make 47 = .ok (.istore_n 2, 1) := by decide +kernel
theorem dX6_make_48 : decode cX6_make 48 = .ok (.aload_n 0, 1) := by decide +kernel
theorem dX6_make_49 : decode cX6_make 49 = .ok (.iload_n 2, 1) := by decide +kernel
theorem dX6_make_50 : decode cX6_make 50 = .ok (.invokevirtual 106, 3) := by decide +kernel
theorem dX6_make_53 : decode cX6_make 53 = .ok (.istore_n 3, 1) := by decide +kernel
theorem dX6_make_54 : decode cX6_make 54 = .ok (.aload_n 0, 1) := by decide +kernel
theorem dX6_make_55 : decode cX6_make 55 = .ok (.getfield 45, 3) := by decide +kernel
theorem dX6_make_58 : decode cX6_make 58 = .ok (.aload_n 0, 1) := by decide +kernel
theorem dX6_make_59 : decode cX6_make 59 = .ok (.getfield 76, 3) := by decide +kernel
theorem dX6_make_62 : decode cX6_make 62 = .ok (.aload_n 0, 1) := by decide +kernel
theorem dX6_make_63 : decode cX6_make 63 = .ok (.iload_n 1, 1) := by decide +kernel
theorem dX6_make_64 : decode cX6_make 64 = .ok (.invokevirtual 141, 3) := by decide +kernel
theorem dX6_make_67 : decode cX6_make 67 = .ok (.iastore, 1) := by decide +kernel
theorem dX6_make_68 : decode cX6_make 68 = .ok (.aload_n 0, 1) := by decide +kernel
theorem dX6_make_69 : decode cX6_make 69 = .ok (.getfield 42, 3) := by decide +kernel
theorem dX6_make_72 : decode cX6_make 72 = .ok (.aload_n 0, 1) := by decide +kernel
theorem dX6_make_73 : decode cX6_make 73 = .ok (.getfield 76, 3) := by decide +kernel
theorem dX6_make_76 : decode cX6_make 76 = .ok (.iload_n 2, 1) := by decide +kernel
theorem dX6_make_77 : decode cX6_make 77 = .ok (.iastore, 1) := by decide +kernel
theorem dX6_make_78 : decode cX6_make 78 = .ok (.aload_n 0, 1) := by decide +kernel
theorem dX6_make_79 : decode cX6_make 79 = .ok (.getfield 48, 3) := by decide +kernel
theorem dX6_make_82 : decode cX6_make 82 = .ok (.aload_n 0, 1) := by decide +kernel
theorem dX6_make_83 : decode cX6_make 83 = .ok (.getfield 76, 3) := by decide +kernel
theorem dX6_make_86 : decode cX6_make 86 = .ok (.iload_n 3, 1) := by decide +kernel
theorem dX6_make_87 : decode cX6_make 87 = .ok (.ifCond .ge 10, 3) := by decide +kernel
theorem dX6_make_90 : decode cX6_make 90 = .ok (.aload_n 0, 1) := by decide +kernel
theorem dX6_make_91 : decode cX6_make 91 = .ok (.invokevirtual 83, 3) := by decide +kernel
theorem dX6_make_94 : decode cX6_make 94 = .ok (.goto 8, 3) := by decide +kernel
theorem dX6_make_97 : decode cX6_make 97 = .ok (.aload_n 0, 1) := by decide +kernel
theorem dX6_make_98 : decode cX6_make 98 = .ok (.iload_n 3, 1) := by decide +kernel
theorem dX6_make_99 : decode cX6_make 99 = .ok (.invokevirtual 97, 3) := by decide +kernel
theorem dX6_make_102 : decode cX6_make 102 = .ok (.iastore, 1) := by decide +kernel
theorem dX6_make_103 : decode cX6_make 103 = .ok (.aload_n 0, 1) := by decide +kernel
theorem dX6_make_104 : decode cX6_make 104 = .ok (.dup, 1) := by decide +kernel
theorem dX6_make_105 : decode cX6_make 105 = .ok (.getfield 76, 3) := by decide +kernel
theorem dX6_make_108 : decode cX6_make 108 = .ok (.iconst 1, 1) := by decide +kernel
theorem dX6_make_109 : decode cX6_make 109 = .ok (.iadd, 1) := by decide +kernel
theorem dX6_make_110 : decode cX6_make 110 = .ok (.putfield 76, 3) := by decide +kernel
theorem dX6_make_113 : decode cX6_make 113 = .ok (.aload_n 0, 1) := by decide +kernel
theorem dX6_make_114 : decode cX6_make 114 = .ok (.getfield 76, 3) := by decide +kernel
theorem dX6_make_117 : decode cX6_make 117 = .ok (.iconst 1, 1) := by decide +kernel
theorem dX6_make_118 : decode cX6_make 118 = .ok (.isub, 1) := by decide +kernel
theorem dX6_make_119 : decode cX6_make 119 = .ok (.ireturn, 1) := by decide +kernel
set_option maxRecDepth 20000 in
theorem ggX6_ofCase_X6_in : GoodIn wsX6_ofCase wsX6_in := goodIn_r _ [8] (by decide +kernel) (by decide +kernel)
set_option maxRecDepth 20000 in
theorem gX6_ofCase_X6_in : GoodIn wsX6_ofCase (va_wsS RX6 66 yX6_in wsX6_in) := goodIn_app (goodIn_of _ (by decide +kernel)) ggX6_ofCase_X6_in
theorem dX6_ofCase_0 : decode cX6_ofCase 0 = .ok (.iload_n 1, 1) := by decide +kernel
theorem dX6_ofCase_1 : decode cX6_ofCase 1 = .ok (.iconst 0, 1) := by decide +kernel
theorem dX6_ofCase_2 : decode cX6_ofCase 2 = .ok (.aload_n 0, 1) := by decide +kernel
theorem dX6_ofCase_3 : decode cX6_ofCase 3 = .ok (.getfield 76, 3) := by decide +kernel
theorem dX6_ofCase_6 : decode cX6_ofCase 6 = .ok (.iconst 1, 1) := by decide +kernel
theorem dX6_ofCase_7 : decode cX6_ofCase 7 = .ok (.isub, 1) := by decide +kernel
theorem dX6_ofCase_8 : decode cX6_ofCase 8 = .ok (.invokestatic 66, 3) := by decide +kernel
theorem dX6_ofCase_11 : decode cX6_ofCase 11 = .ok (.ifCond .ne 5, 3) := by decide +kernel
theorem dX6_ofCase_14 : decode cX6_ofCase 14 = .ok (.iconst (-1), 1) := by decide +kernel
theorem dX6_ofCase_15 : decode cX6_ofCase 15 = .ok (.ireturn, 1) := by decide +kernel
theorem dX6_ofCase_16 : decode cX6_ofCase 16 = .ok (.iload_n 2, 1) := by decide +kernel
theorem dX6_ofCase_17 : decode cX6_ofCase 17 = .ok (.ifCond .ne 12, 3) := by decide +kernel
theorem dX6_ofCase_20 : decode cX6_ofCase 20 = .ok (.aload_n 0, 1) := by decide +kernel
theorem dX6_ofCase_21 : decode cX6_ofCase 21 = .ok (.getfield 42, 3) := by decide +kernel
theorem dX6_ofCase_24 : decode cX6_ofCase 24 = .ok (.iload_n 1, 1) := by decide +kernel
theorem dX6_ofCase_25 : decode cX6_ofCase 25 = .ok (.iaload, 1) := by decide +kernel
theorem dX6_ofCase_26 : decode cX6_ofCase 26 = .ok (.goto 33, 3) := by decide +kernel
theorem dX6_ofCase_29 : decode cX6_ofCase 29 = .ok (.iload_n 2, 1) := by decide +kernel
theorem dX6_ofCase_30 : decode cX6_ofCase 30 = .ok (.iconst 1, 1) := by decide +kernel
theorem dX6_ofCase_31 : decode cX6_ofCase 31 = .ok (.if_icmp .ne 12, 3) := by decide +kernel
theorem dX6_ofCase_34 : decode cX6_ofCase 34 = .ok (.aload_n 0, 1) := by decide +kernel
theorem dX6_ofCase_35 : decode cX6_ofCase 35 = .ok (.getfield 45, 3) := by decide +kernel
theorem dX6_ofCase_38 : decode cX6_ofCase 38 = .ok (.iload_n 1, 1) := by decide +kernel
theorem dX6_ofCase_39 : decode cX6_ofCase 39 = .ok (.iaload, 1) := by decide +kernel
theorem dX6_ofCase_40 : decode cX6_ofCase 40 = .ok (.goto 19, 3) := by decide +kernel
theorem dX6_ofCase_43 : decode cX6_ofCase 43 = .ok (.iload_n 2, 1) := by decide +kernel
theorem dX6_ofCase_44 : decode cX6_ofCase 44 = .ok (.iconst 2, 1) := by decide +kernel
theorem dX6_ofCase_45 : decode cX6_ofCase 45 = .ok (.if_icmp .ne 12, 3) := by decide +kernel
theorem dX6_ofCase_48 : decode cX6_ofCase 48 = .ok (.aload_n 0, 1) := by decide +kernel
theorem dX6_ofCase_49 : decode cX6_ofCase 49 = .ok (.getfield 48, 3) := by decide +kernel
theorem dX6_ofCase_52 : decode cX6_ofCase 52 = .ok (.iload_n 1, 1) := by decide +kernel
theorem dX6_ofCase_53 : decode cX6_ofCase 53 = .ok (.iaload, 1) := by decide +kernel
theorem dX6_ofCase_54 : decode cX6_ofCase 54 = .ok (.goto 5, 3) := by decide +kernel
theorem dX6_ofCase_57 : decode cX6_ofCase 57 = .ok (.bipush (-2), 2) := by decide +kernel
theorem dX6_ofCase_59 : decode cX6_ofCase 59 = .ok (.ireturn, 1) := by decide +kernel
set_option maxRecDepth 20000 in
theorem ggX6_turned_X6_rulingFor : GoodIn wsX6_turned wsX6_rulingFor := goodIn_r _ [8, 9, 10, 11, 12, 7, 13, 14, 15, 16, 17, 18, 19, 20, 21, 22, 23, 24, 25, 26, 27, 28, 29, 30, 31, 32, 33, 34, 35, 36, 37, 38, 39, 40, 41, 42, 43] (by decide +kernel) (by decide +kernel)
set_option maxRecDepth 20000 in
theorem gX6_turned_X6_rulingFor : GoodIn wsX6_turned (wsV RX6 109 RX6 yX6_rulingFor wsX6_rulingFor) := goodIn_app (goodIn_of _ (by decide +kernel)) ggX6_turned_X6_rulingFor
theorem dX6_turned_0 : decode cX6_turned 0 = .ok (.iconst 0, 1) := by decide +kernel
theorem dX6_turned_1 : decode cX6_turned 1 = .ok (.istore_n 1, 1) := by decide +kernel
theorem dX6_turned_2 : decode cX6_turned 2 = .ok (.iconst 0, 1) := by decide +kernel
theorem dX6_turned_3 : decode cX6_turned 3 = .ok (.istore_n 2, 1) := by decide +kernel
theorem dX6_turned_4 : decode cX6_turned 4 = .ok (.iload_n 2, 1) := by decide +kernel
theorem dX6_turned_5 : decode cX6_turned 5 = .ok (.aload_n 0, 1) := by decide +kernel
theorem dX6_turned_6 : decode cX6_turned 6 = .ok (.getfield 76, 3) := by decide +kernel
theorem dX6_turned_9 : decode cX6_turned 9 = .ok (.if_icmp .ge 38, 3) := by decide +kernel
theorem dX6_turned_12 : decode cX6_turned 12 = .ok (.iload_n 1, 1) := by decide +kernel
theorem dX6_turned_13 : decode cX6_turned 13 = .ok (.aload_n 0, 1) := by decide +kernel
theorem dX6_turned_14 : decode cX6_turned 14 = .ok (.getfield 45, 3) := by decide +kernel
theorem dX6_turned_17 : decode cX6_turned 17 = .ok (.iload_n 2, 1) := by decide +kernel
theorem dX6_turned_18 : decode cX6_turned 18 = .ok (.iaload, 1) := by decide +kernel
theorem dX6_turned_19 : decode cX6_turned 19 = .ok (.aload_n 0, 1) := by decide +kernel
theorem dX6_turned_20 : decode cX6_turned 20 = .ok (.aload_n 0, 1) := by decide +kernel
theorem dX6_turned_21 : decode cX6_turned 21 = .ok (.getfield 42, 3) := by decide +kernel
theorem dX6_turned_24 : decode cX6_turned 24 = .ok (.iload_n 2, 1) := by decide +kernel
theorem dX6_turned_25 : decode cX6_turned 25 = .ok (.iaload, 1) := by decide +kernel
theorem dX6_turned_26 : decode cX6_turned 26 = .ok (.invokevirtual 109, 3) := by decide +kernel
theorem dX6_turned_29 : decode cX6_turned 29 = .ok (.if_icmp .eq 9, 3) := by decide +kernel
theorem dX6_turned_32 : decode cX6_turned 32 = .ok (.iconst 1, 1) := by decide +kernel
theorem dX6_turned_33 : decode cX6_turned 33 = .ok (.iload_n 2, 1) := by decide +kernel
theorem dX6_turned_34 : decode cX6_turned 34 = .ok (.ishl, 1) := by decide +kernel
theorem dX6_turned_35 : decode cX6_turned 35 = .ok (.goto 4, 3) := by decide +kernel
theorem dX6_turned_38 : decode cX6_turned 38 = .ok (.iconst 0, 1) := by decide +kernel
theorem dX6_turned_39 : decode cX6_turned 39 = .ok (.ior, 1) := by decide +kernel
theorem dX6_turned_40 : decode cX6_turned 40 = .ok (.istore_n 1, 1) := by decide +kernel
theorem dX6_turned_41 : decode cX6_turned 41 = .ok (.iinc 2 1, 3) := by decide +kernel
theorem dX6_turned_44 : decode cX6_turned 44 = .ok (.goto (-40), 3) := by decide +kernel
theorem dX6_turned_47 : decode cX6_turned 47 = .ok (.iload_n 1, 1) := by decide +kernel
theorem dX6_turned_48 : decode cX6_turned 48 = .ok (.ireturn, 1) := by decide +kernel
set_option maxRecDepth 20000 in
theorem ggX6_mend_X6_isLine : GoodIn wsX6_mend wsX6_isLine := goodIn_r _ [11, 12, 13, 14, 10, 15, 83, 84, 85, 86, 87, 88, 89, 90, 91, 92, 93, 94, 95, 96, 97, 98, 99, 100, 101, 102, 103] (by decide +kernel) (by decide +kernel)
set_option maxRecDepth 20000 in
theorem gX6_mend_X6_isLine : GoodIn wsX6_mend (wsV RX6 90 RX6 yX6_isLine wsX6_isLine) := goodIn_app (goodIn_of _ (by decide +kernel)) ggX6_mend_X6_isLine
set_option maxRecDepth 20000 in
theorem ggX6_mend_X6_in : GoodIn wsX6_mend wsX6_in := goodIn_r _ [15] (by decide +kernel) (by decide +kernel)
set_option maxRecDepth 20000 in
theorem gX6_mend_X6_in : GoodIn wsX6_mend (va_wsS RX6 66 yX6_in wsX6_in) := goodIn_app (goodIn_of _ (by decide +kernel)) ggX6_mend_X6_in
set_option maxRecDepth 20000 in
theorem ggX6_mend_X6_turnedKinds : GoodIn wsX6_mend wsX6_turnedKinds := goodIn_r _ [19, 2, 6, 20, 21, 22, 10, 23, 24, 25, 26, 27, 28, 29, 30, 31, 32, 33, 34, 35, 36, 37, 12, 38, 39, 40, 41, 42, 43, 44, 45, 46, 47, 48, 49, 13, 14, 15, 83, 84, 85, 86, 87, 88, 89, 90, 91, 92, 93, 94, 95, 96, 97, 98, 99, 100, 101, 102, 103] (by decide +kernel) (by decide +kernel)
set_option maxRecDepth 20000 in
theorem gX6_mend_X6_turnedKinds : GoodIn wsX6_mend (wsV RX6 115 RX6 yX6_turnedKinds wsX6_turnedKinds) := goodIn_app (goodIn_of _ (by decide +kernel)) ggX6_mend_X6_turnedKinds
set_option maxRecDepth 20000 in
theorem ggX6_mend_X6_verdictOf : GoodIn wsX6_mend wsX6_verdictOf := goodIn_r _ [53, 54, 55, 56, 57, 58, 10, 59, 20, 21, 22, 23, 24, 60, 61, 62, 63, 45, 46, 47, 48, 49, 13, 14, 15, 64, 65, 66, 67, 68, 69, 70, 71, 72, 73, 29, 30, 31, 32, 33, 34, 35, 36, 37, 12, 38, 39, 40, 41, 42, 6, 43, 44, 74, 75, 76, 77, 1, 78, 3, 79, 80, 81, 82, 83, 84, 85, 86, 87, 88, 89, 90, 91, 92, 93, 94, 95, 96, 97, 98, 99, 100, 101, 102, 103] (by decide +kernel) (by decide +kernel)
set_option maxRecDepth 20000 in
theorem gX6_mend_X6_verdictOf : GoodIn wsX6_mend (wsV RX6 141 RX6 yX6_verdictOf wsX6_verdictOf) := goodIn_app (goodIn_of _ (by decide +kernel)) ggX6_mend_X6_verdictOf
theorem dX6_mend_0 : decode cX6_mend 0 = .ok (.aload_n 0, 1) := by decide +kernel
theorem dX6_mend_1 : decode cX6_mend 1 = .ok (.iload_n 1, 1) := by decide +kernel
theorem dX6_mend_2 : decode cX6_mend 2 = .ok (.invokevirtual 90, 3) := by decide +kernel
theorem dX6_mend_5 : decode cX6_mend 5 = .ok (.ifCond .ne 5, 3) := by decide +kernel
theorem dX6_mend_8 : decode cX6_mend 8 = .ok (.iconst (-1), 1) := by decide +kernel
theorem dX6_mend_9 : decode cX6_mend 9 = .ok (.ireturn, 1) := by decide +kernel
theorem dX6_mend_10 : decode cX6_mend 10 = .ok (.iload_n 2, 1) := by decide +kernel
theorem dX6_mend_11 : decode cX6_mend 11 = .ok (.iconst 0, 1) := by decide +kernel
theorem dX6_mend_12 : decode cX6_mend 12 = .ok (.iconst 2, 1) := by decide +kernel
theorem dX6_mend_13 : decode cX6_mend 13 = .ok (.invokestatic 66, 3) := by decide +kernel
theorem dX6_mend_16 : decode cX6_mend 16 = .ok (.ifCond .ne 6, 3) := by decide +kernel
theorem dX6_mend_19 : decode cX6_mend 19 = .ok (.bipush (-2), 2) := by decide +kernel
theorem dX6_mend_21 : decode cX6_mend 21 = .ok (.ireturn, 1) := by decide +kernel
theorem dX6_mend_22 : decode cX6_mend 22 = .ok (.aload_n 0, 1) := by decide +kernel
theorem dX6_mend_23 : decode cX6_mend 23 = .ok (.iload_n 1, 1) := by decide +kernel
theorem dX6_mend_24 : decode cX6_mend 24 = .ok (.invokevirtual 115, 3) := by decide +kernel
theorem dX6_mend_27 : decode cX6_mend 27 = .ok (.istore_n 3, 1) := by decide +kernel
theorem dX6_mend_28 : decode cX6_mend 28 = .ok (.iload_n 2, 1) := by decide +kernel
theorem dX6_mend_29 : decode cX6_mend 29 = .ok (.ifCond .ne 5, 3) := by decide +kernel
theorem dX6_mend_32 : decode cX6_mend 32 = .ok (.iload_n 3, 1) := by decide +kernel
theorem dX6_mend_33 : decode cX6_mend 33 = .ok (.ireturn, 1) := by decide +kernel
theorem dX6_mend_34 : decode cX6_mend 34 = .ok (.iconst 0, 1) := by decide +kernel
theorem dX6_mend_35 : decode cX6_mend 35 = .ok (.istore 4, 2) := by decide +kernel
theorem dX6_mend_37 : decode cX6_mend 37 = .ok (.iconst 0, 1) := by decide +kernel
theorem dX6_mend_38 : decode cX6_mend 38 = .ok (.istore 5, 2) := by decide +kernel
theorem dX6_mend_40 : decode cX6_mend 40 = .ok (.iload 5, 2) := by decide +kernel
theorem dX6_mend_42 : decode cX6_mend 42 = .ok (.aload_n 0, 1) := by decide +kernel
theorem dX6_mend_43 : decode cX6_mend 43 = .ok (.getfield 76, 3) := by decide +kernel
theorem dX6_mend_46 : decode cX6_mend 46 = .ok (.if_icmp .ge 31, 3) := by decide +kernel
theorem dX6_mend_49 : decode cX6_mend 49 = .ok (.iload_n 2, 1) := by decide +kernel
theorem dX6_mend_50 : decode cX6_mend 50 = .ok (.iconst 1, 1) := by decide +kernel
theorem dX6_mend_51 : decode cX6_mend 51 = .ok (.if_icmp .ne 26, 3) := by decide +kernel
theorem dX6_mend_54 : decode cX6_mend 54 = .ok (.iload 4, 2) := by decide +kernel
theorem dX6_mend_56 : decode cX6_mend 56 = .ok (.aload_n 0, 1) := by decide +kernel
theorem dX6_mend_57 : decode cX6_mend 57 = .ok (.getfield 54, 3) := by decide +kernel
theorem dX6_mend_60 : decode cX6_mend 60 = .ok (.aload_n 0, 1) := by decide +kernel
theorem dX6_mend_61 : decode cX6_mend 61 = .ok (.getfield 42, 3) := by decide +kernel
theorem dX6_mend_64 : decode cX6_mend 64 = .ok (.iload 5, 2) := by decide +kernel
theorem dX6_mend_66 : decode cX6_mend 66 = .ok (.iaload, 1) := by decide +kernel
theorem dX6_mend_67 : decode cX6_mend 67 = .ok (.iaload, 1) := by decide +kernel
theorem dX6_mend_68 : decode cX6_mend 68 = .ok (.iadd, 1) := by decide +kernel
theorem dX6_mend_69 : decode cX6_mend 69 = .ok (.istore 4, 2) := by decide +kernel
theorem dX6_mend_71 : decode cX6_mend 71 = .ok (.iinc 5 1, 3) := by decide +kernel
theorem dX6_mend_74 : decode cX6_mend 74 = .ok (.goto (-34), 3) := by decide +kernel
theorem dX6_mend_77 : decode cX6_mend 77 = .ok (.iconst 0, 1) := by decide +kernel
theorem dX6_mend_78 : decode cX6_mend 78 = .ok (.istore 5, 2) := by decide +kernel
theorem dX6_mend_80 : decode cX6_mend 80 = .ok (.iload 5, 2) := by decide +kernel
theorem dX6_mend_82 : decode cX6_mend 82 = .ok (.aload_n 0, 1) := by decide +kernel
theorem dX6_mend_83 : decode cX6_mend 83 = .ok (.getfield 73, 3) := by decide +kernel
theorem dX6_mend_86 : decode cX6_mend 86 = .ok (.if_icmp .ge 22, 3) := by decide +kernel
theorem dX6_mend_89 : decode cX6_mend 89 = .ok (.aload_n 0, 1) := by decide +kernel
theorem dX6_mend_90 : decode cX6_mend 90 = .ok (.getfield 57, 3) := by decide +kernel
theorem dX6_mend_93 : decode cX6_mend 93 = .ok (.iload 5, 2) := by decide +kernel
theorem dX6_mend_95 : decode cX6_mend 95 = .ok (.aload_n 0, 1) := by decide +kernel
theorem dX6_mend_96 : decode cX6_mend 96 = .ok (.iload 5, 2) := by decide +kernel
theorem dX6_mend_98 : decode cX6_mend 98 = .ok (.invokevirtual 141, 3) := by decide +kernel
theorem dX6_mend_101 : decode cX6_mend 101 = .ok (.iastore, 1) := by decide +kernel
theorem dX6_mend_102 : decode cX6_mend 102 = .ok (.iinc 5 1, 3) := by decide +kernel
theorem dX6_mend_105 : decode cX6_mend 105 = .ok (.goto (-25), 3) := by decide +kernel
theorem dX6_mend_108 : decode cX6_mend 108 = .ok (.aload_n 0, 1) := by decide +kernel
theorem dX6_mend_109 : decode cX6_mend 109 = .ok (.getfield 26, 3) := by decide +kernel
theorem dX6_mend_112 : decode cX6_mend 112 = .ok (.iload_n 1, 1) := by decide +kernel
theorem dX6_mend_113 : decode cX6_mend 113 = .ok (.aload_n 0, 1) := by decide +kernel
theorem dX6_mend_114 : decode cX6_mend 114 = .ok (.getfield 26, 3) := by decide +kernel
theorem dX6_mend_117 : decode cX6_mend 117 = .ok (.iload_n 1, 1) := by decide +kernel
theorem dX6_mend_118 : decode cX6_mend 118 = .ok (.baload, 1) := by decide +kernel
theorem dX6_mend_119 : decode cX6_mend 119 = .ok (.ifCond .ne 7, 3) := by decide +kernel
theorem dX6_mend_122 : decode cX6_mend 122 = .ok (.iconst 1, 1) := by decide +kernel
theorem dX6_mend_123 : decode cX6_mend 123 = .ok (.goto 4, 3) := by decide +kernel
theorem dX6_mend_126 : decode cX6_mend 126 = .ok (.iconst 0, 1) := by decide +kernel
theorem dX6_mend_127 : decode cX6_mend 127 = .ok (.bastore, 1) := by decide +kernel
theorem dX6_mend_128 : decode cX6_mend 128 = .ok (.iconst 0, 1) := by decide +kernel
theorem dX6_mend_129 : decode cX6_mend 129 = .ok (.istore 5, 2) := by decide +kernel
theorem dX6_mend_131 : decode cX6_mend 131 = .ok (.iload 5, 2) := by decide +kernel
theorem dX6_mend_133 : decode cX6_mend 133 = .ok (.aload_n 0, 1) := by decide +kernel
theorem dX6_mend_134 : decode cX6_mend 134 = .ok (.getfield 73, 3) := by decide +kernel
theorem dX6_mend_137 : decode cX6_mend 137 = .ok (.if_icmp .ge 40, 3) := by decide +kernel
theorem dX6_mend_140 : decode cX6_mend 140 = .ok (.iload_n 2, 1) := by decide +kernel
theorem dX6_mend_141 : decode cX6_mend 141 = .ok (.iconst 2, 1) := by decide +kernel
theorem dX6_mend_142 : decode cX6_mend 142 = .ok (.if_icmp .ne 35, 3) := by decide +kernel
theorem dX6_mend_145 : decode cX6_mend 145 = .ok (.iload 4, 2) := by decide +kernel
theorem dX6_mend_147 : decode cX6_mend 147 = .ok (.aload_n 0, 1) := by decide +kernel
theorem dX6_mend_148 : decode cX6_mend 148 = .ok (.getfield 57, 3) := by decide +kernel
theorem dX6_mend_151 : decode cX6_mend 151 = .ok (.iload 5, 2) := by decide +kernel
theorem dX6_mend_153 : decode cX6_mend 153 = .ok (.iaload, 1) := by decide +kernel
theorem dX6_mend_154 : decode cX6_mend 154 = .ok (.aload_n 0, 1) := by decide +kernel
theorem dX6_mend_155 : decode cX6_mend 155 = .ok (.iload 5, 2) := by decide +kernel
theorem dX6_mend_157 : decode cX6_mend 157 = .ok (.invokevirtual 141, 3) := by decide +kernel
theorem dX6_mend_160 : decode cX6_mend 160 = .ok (.if_icmp .eq 7, 3) := by decide +kernel
theorem dX6_mend_163 : decode cX6_mend 163 = .ok (.iconst 1, 1) := by decide +kernel
theorem dX6_mend_164 : decode cX6_mend 164 = .ok (.goto 4, 3) := by decide +kernel
theorem dX6_mend_167 : decode cX6_mend 167 = .ok (.iconst 0, 1) := by decide +kernel
theorem dX6_mend_168 : decode cX6_mend 168 = .ok (.iadd, 1) := by decide +kernel
theorem dX6_mend_169 : decode cX6_mend 169 = .ok (.istore 4, 2) := by decide +kernel
theorem dX6_mend_171 : decode cX6_mend 171 = .ok (.iinc 5 1, 3) := by decide +kernel
theorem dX6_mend_174 : decode cX6_mend 174 = .ok (.goto (-43), 3) := by decide +kernel
theorem dX6_mend_177 : decode cX6_mend 177 = .ok (.aload_n 0, 1) := by decide +kernel
theorem dX6_mend_178 : decode cX6_mend 178 = .ok (.getfield 26, 3) := by decide +kernel
theorem dX6_mend_181 : decode cX6_mend 181 = .ok (.iload_n 1, 1) := by decide +kernel
theorem dX6_mend_182 : decode cX6_mend 182 = .ok (.aload_n 0, 1) := by decide +kernel
theorem dX6_mend_183 : decode cX6_mend 183 = .ok (.getfield 26, 3) := by decide +kernel
theorem dX6_mend_186 : decode cX6_mend 186 = .ok (.iload_n 1, 1) := by decide +kernel
theorem dX6_mend_187 : decode cX6_mend 187 = .ok (.baload, 1) := by decide +kernel
theorem dX6_mend_188 : decode cX6_mend 188 = .ok (.ifCond .ne 7, 3) := by decide +kernel
theorem dX6_mend_191 : decode cX6_mend 191 = .ok (.iconst 1, 1) := by decide +kernel
theorem dX6_mend_192 : decode cX6_mend 192 = .ok (.goto 4, 3) := by decide +kernel
theorem dX6_mend_195 : decode cX6_mend 195 = .ok (.iconst 0, 1) := by decide +kernel
theorem dX6_mend_196 : decode cX6_mend 196 = .ok (.bastore, 1) := by decide +kernel
theorem dX6_mend_197 : decode cX6_mend 197 = .ok (.iload 4, 2) := by decide +kernel
theorem dX6_mend_199 : decode cX6_mend 199 = .ok (.ireturn, 1) := by decide +kernel
set_option maxRecDepth 20000 in
theorem ggX6_goal_X6_in : GoodIn wsX6_goal wsX6_in := goodIn_r _ [5] (by decide +kernel) (by decide +kernel)
set_option maxRecDepth 20000 in
theorem gX6_goal_X6_in : GoodIn wsX6_goal (va_wsS RX6 66 yX6_in wsX6_in) := goodIn_app (goodIn_of _ (by decide +kernel)) ggX6_goal_X6_in
theorem dX6_goal_0 : decode cX6_goal 0 = .ok (.iload_n 1, 1) := by decide +kernel
theorem dX6_goal_1 : decode cX6_goal 1 = .ok (.iconst 1, 1) := by decide +kernel
theorem dX6_goal_2 : decode cX6_goal 2 = .ok (.bipush 20, 2) := by decide +kernel
theorem dX6_goal_4 : decode cX6_goal 4 = .ok (.invokestatic 66, 3) := by decide +kernel
theorem dX6_goal_7 : decode cX6_goal 7 = .ok (.ifCond .ne 6, 3) := by decide +kernel
theorem dX6_goal_10 : decode cX6_goal 10 = .ok (.bipush (-2), 2) := by decide +kernel
theorem dX6_goal_12 : decode cX6_goal 12 = .ok (.ireturn, 1) := by decide +kernel
theorem dX6_goal_13 : decode cX6_goal 13 = .ok (.aload_n 0, 1) := by decide +kernel
theorem dX6_goal_14 : decode cX6_goal 14 = .ok (.getfield 51, 3) := by decide +kernel
theorem dX6_goal_17 : decode cX6_goal 17 = .ok (.istore_n 2, 1) := by decide +kernel
theorem dX6_goal_18 : decode cX6_goal 18 = .ok (.aload_n 0, 1) := by decide +kernel
theorem dX6_goal_19 : decode cX6_goal 19 = .ok (.iload_n 1, 1) := by decide +kernel
theorem dX6_goal_20 : decode cX6_goal 20 = .ok (.putfield 51, 3) := by decide +kernel
theorem dX6_goal_23 : decode cX6_goal 23 = .ok (.iload_n 2, 1) := by decide +kernel
theorem dX6_goal_24 : decode cX6_goal 24 = .ok (.ireturn, 1) := by decide +kernel
theorem dX6_begin_0 : decode cX6_begin 0 = .ok (.aload_n 0, 1) := by decide +kernel
theorem dX6_begin_1 : decode cX6_begin 1 = .ok (.getfield 60, 3) := by decide +kernel
theorem dX6_begin_4 : decode cX6_begin 4 = .ok (.iconst 0, 1) := by decide +kernel
theorem dX6_begin_5 : decode cX6_begin 5 = .ok (.iconst 0, 1) := by decide +kernel
theorem dX6_begin_6 : decode cX6_begin 6 = .ok (.iastore, 1) := by decide +kernel
theorem dX6_begin_7 : decode cX6_begin 7 = .ok (.aload_n 0, 1) := by decide +kernel
theorem dX6_begin_8 : decode cX6_begin 8 = .ok (.getfield 60, 3) := by decide +kernel
theorem dX6_begin_11 : decode cX6_begin 11 = .ok (.iconst 1, 1) := by decide +kernel
theorem dX6_begin_12 : decode cX6_begin 12 = .ok (.iconst 0, 1) := by decide +kernel
theorem dX6_begin_13 : decode cX6_begin 13 = .ok (.iastore, 1) := by decide +kernel
theorem dX6_begin_14 : decode cX6_begin 14 = .ok (.aload_n 0, 1) := by decide +kernel
theorem dX6_begin_15 : decode cX6_begin 15 = .ok (.getfield 60, 3) := by decide +kernel
theorem dX6_begin_18 : decode cX6_begin 18 = .ok (.iconst 2, 1) := by decide +kernel
theorem dX6_begin_19 : decode cX6_begin 19 = .ok (.iconst 0, 1) := by decide +kernel
theorem dX6_begin_20 : decode cX6_begin 20 = .ok (.iastore, 1) := by decide +kernel
theorem dX6_begin_21 : decode cX6_begin 21 = .ok (.aload_n 0, 1) := by decide +kernel
theorem dX6_begin_22 : decode cX6_begin 22 = .ok (.getfield 60, 3) := by decide +kernel
theorem dX6_begin_25 : decode cX6_begin 25 = .ok (.iconst 3, 1) := by decide +kernel
theorem dX6_begin_26 : decode cX6_begin 26 = .ok (.bipush (-6), 2) := by decide +kernel
theorem dX6_begin_28 : decode cX6_begin 28 = .ok (.iastore, 1) := by decide +kernel
theorem dX6_begin_29 : decode cX6_begin 29 = .ok (.return_, 1) := by decide +kernel
theorem dX6_play_0 : decode cX6_play 0 = .ok (.aload_n 0, 1) := by decide +kernel
theorem dX6_play_1 : decode cX6_play 1 = .ok (.getfield 60, 3) := by decide +kernel
theorem dX6_play_4 : decode cX6_play 4 = .ok (.iconst 3, 1) := by decide +kernel
theorem dX6_play_5 : decode cX6_play 5 = .ok (.iaload, 1) := by decide +kernel
theorem dX6_play_6 : decode cX6_play 6 = .ok (.ifCond .lt 4, 3) := by decide +kernel
theorem dX6_play_9 : decode cX6_play 9 = .ok (.return_, 1) := by decide +kernel
theorem dX6_play_10 : decode cX6_play 10 = .ok (.aload_n 0, 1) := by decide +kernel
theorem dX6_play_11 : decode cX6_play 11 = .ok (.getfield 60, 3) := by decide +kernel
theorem dX6_play_14 : decode cX6_play 14 = .ok (.iconst 2, 1) := by decide +kernel
theorem dX6_play_15 : decode cX6_play 15 = .ok (.iaload, 1) := by decide +kernel
theorem dX6_play_16 : decode cX6_play 16 = .ok (.istore_n 2, 1) := by decide +kernel
theorem dX6_play_17 : decode cX6_play 17 = .ok (.aload_n 0, 1) := by decide +kernel
theorem dX6_play_18 : decode cX6_play 18 = .ok (.getfield 60, 3) := by decide +kernel
theorem dX6_play_21 : decode cX6_play 21 = .ok (.iload_n 2, 1) := by decide +kernel
theorem dX6_play_22 : decode cX6_play 22 = .ok (.dup2, 1) := by decide +kernel
theorem dX6_play_23 : decode cX6_play 23 = .ok (.iaload, 1) := by decide +kernel
theorem dX6_play_24 : decode cX6_play 24 = .ok (.iload_n 1, 1) := by decide +kernel
theorem dX6_play_25 : decode cX6_play 25 = .ok (.iconst 1, 1) := by decide +kernel
theorem dX6_play_26 : decode cX6_play 26 = .ok (.if_icmp .ne 7, 3) := by decide +kernel
theorem dX6_play_29 : decode cX6_play 29 = .ok (.iconst 1, 1) := by decide +kernel
theorem dX6_play_30 : decode cX6_play 30 = .ok (.goto 4, 3) := by decide +kernel
theorem dX6_play_33 : decode cX6_play 33 = .ok (.iconst 0, 1) := by decide +kernel
theorem dX6_play_34 : decode cX6_play 34 = .ok (.iadd, 1) := by decide +kernel
theorem dX6_play_35 : decode cX6_play 35 = .ok (.iastore, 1) := by decide +kernel
theorem dX6_play_36 : decode cX6_play 36 = .ok (.aload_n 0, 1) := by decide +kernel
theorem dX6_play_37 : decode cX6_play 37 = .ok (.getfield 60, 3) := by decide +kernel
theorem dX6_play_40 : decode cX6_play 40 = .ok (.iconst 1, 1) := by decide +kernel
theorem dX6_play_41 : decode cX6_play 41 = .ok (.iload_n 2, 1) := by decide +kernel
theorem dX6_play_42 : decode cX6_play 42 = .ok (.isub, 1) := by decide +kernel
theorem dX6_play_43 : decode cX6_play 43 = .ok (.dup2, 1) := by decide +kernel
theorem dX6_play_44 : decode cX6_play 44 = .ok (.iaload, 1) := by decide +kernel
theorem dX6_play_45 : decode cX6_play 45 = .ok (.iload_n 1, 1) := by decide +kernel
theorem dX6_play_46 : decode cX6_play 46 = .ok (.iconst 3, 1) := by decide +kernel
theorem dX6_play_47 : decode cX6_play 47 = .ok (.if_icmp .ne 7, 3) := by decide +kernel
theorem dX6_play_50 : decode cX6_play 50 = .ok (.iconst 1, 1) := by decide +kernel
theorem dX6_play_51 : decode cX6_play 51 = .ok (.goto 4, 3) := by decide +kernel
theorem dX6_play_54 : decode cX6_play 54 = .ok (.iconst 0, 1) := by decide +kernel
theorem dX6_play_55 : decode cX6_play 55 = .ok (.iadd, 1) := by decide +kernel
theorem dX6_play_56 : decode cX6_play 56 = .ok (.iastore, 1) := by decide +kernel
theorem dX6_play_57 : decode cX6_play 57 = .ok (.aload_n 0, 1) := by decide +kernel
theorem dX6_play_58 : decode cX6_play 58 = .ok (.getfield 60, 3) := by decide +kernel
theorem dX6_play_61 : decode cX6_play 61 = .ok (.iconst 2, 1) := by decide +kernel
theorem dX6_play_62 : decode cX6_play 62 = .ok (.iload_n 1, 1) := by decide +kernel
theorem dX6_play_63 : decode cX6_play 63 = .ok (.iconst 2, 1) := by decide +kernel
theorem dX6_play_64 : decode cX6_play 64 = .ok (.if_icmp .eq 8, 3) := by decide +kernel
theorem dX6_play_67 : decode cX6_play 67 = .ok (.iload_n 1, 1) := by decide +kernel
theorem dX6_play_68 : decode cX6_play 68 = .ok (.iconst 3, 1) := by decide +kernel
theorem dX6_play_69 : decode cX6_play 69 = .ok (.if_icmp .ne 9, 3) := by decide +kernel
theorem dX6_play_72 : decode cX6_play 72 = .ok (.iconst 1, 1) := by decide +kernel
theorem dX6_play_73 : decode cX6_play 73 = .ok (.iload_n 2, 1) := by decide +kernel
theorem dX6_play_74 : decode cX6_play 74 = .ok (.isub, 1) := by decide +kernel
theorem dX6_play_75 : decode cX6_play 75 = .ok (.goto 4, 3) := by decide +kernel
theorem dX6_play_78 : decode cX6_play 78 = .ok (.iload_n 2, 1) := by decide +kernel
theorem dX6_play_79 : decode cX6_play 79 = .ok (.iastore, 1) := by decide +kernel
theorem dX6_play_80 : decode cX6_play 80 = .ok (.aload_n 0, 1) := by decide +kernel
theorem dX6_play_81 : decode cX6_play 81 = .ok (.getfield 60, 3) := by decide +kernel
theorem dX6_play_84 : decode cX6_play 84 = .ok (.iconst 3, 1) := by decide +kernel
theorem dX6_play_85 : decode cX6_play 85 = .ok (.aload_n 0, 1) := by decide +kernel
theorem dX6_play_86 : decode cX6_play 86 = .ok (.getfield 60, 3) := by decide +kernel
theorem dX6_play_89 : decode cX6_play 89 = .ok (.iconst 0, 1) := by decide +kernel
theorem dX6_play_90 : decode cX6_play 90 = .ok (.iaload, 1) := by decide +kernel
theorem dX6_play_91 : decode cX6_play 91 = .ok (.aload_n 0, 1) := by decide +kernel
theorem dX6_play_92 : decode cX6_play 92 = .ok (.getfield 51, 3) := by decide +kernel
theorem dX6_play_95 : decode cX6_play 95 = .ok (.if_icmp .lt 7, 3) := by decide +kernel
theorem dX6_play_98 : decode cX6_play 98 = .ok (.iconst 0, 1) := by decide +kernel
theorem dX6_play_99 : decode cX6_play 99 = .ok (.goto 22, 3) := by decide +kernel
theorem dX6_play_102 : decode cX6_play 102 = .ok (.aload_n 0, 1) := by decide +kernel
theorem dX6_play_103 : decode cX6_play 103 = .ok (.getfield 60, 3) := by decide +kernel
theorem dX6_play_106 : decode cX6_play 106 = .ok (.iconst 1, 1) := by decide +kernel
theorem dX6_play_107 : decode cX6_play 107 = .ok (.iaload, 1) := by decide +kernel
theorem dX6_play_108 : decode cX6_play 108 = .ok (.aload_n 0, 1) := by decide +kernel
theorem dX6_play_109 : decode cX6_play 109 = .ok (.getfield 51, 3) := by decide +kernel
theorem dX6_play_112 : decode cX6_play 112 = .ok (.if_icmp .lt 7, 3) := by decide +kernel
theorem dX6_play_115 : decode cX6_play 115 = .ok (.iconst 1, 1) := by decide +kernel
theorem dX6_play_116 : decode cX6_play 116 = .ok (.goto 5, 3) := by decide +kernel
theorem dX6_play_119 : decode cX6_play 119 = .ok (.bipush (-6), 2) := by decide +kernel
theorem dX6_play_121 : decode cX6_play 121 = .ok (.iastore, 1) := by decide +kernel
theorem dX6_play_122 : decode cX6_play 122 = .ok (.return_, 1) := by decide +kernel
set_option maxRecDepth 20000 in
theorem ggX6_score_X6_in : GoodIn wsX6_score wsX6_in := goodIn_r _ [6] (by decide +kernel) (by decide +kernel)
set_option maxRecDepth 20000 in
theorem gX6_score_X6_in : GoodIn wsX6_score (va_wsS RX6 66 yX6_in wsX6_in) := goodIn_app (goodIn_of _ (by decide +kernel)) ggX6_score_X6_in
set_option maxRecDepth 20000 in
theorem ggX6_score_X6_begin : GoodIn wsX6_score wsX6_begin := goodIn_r _ [10, 2, 79, 80, 81, 82, 83, 84, 85, 86, 87, 88, 89, 90, 91, 92, 93, 94, 95, 96, 97, 98, 99] (by decide +kernel) (by decide +kernel)
set_option maxRecDepth 20000 in
theorem gX6_score_X6_begin : GoodIn wsX6_score (wsV RX6 144 RX6 yX6_begin wsX6_begin) := goodIn_app (goodIn_of _ (by decide +kernel)) ggX6_score_X6_begin
set_option maxRecDepth 20000 in
theorem ggX6_score_X6_verdictOf : GoodIn wsX6_score wsX6_verdictOf := goodIn_r _ [14, 15, 16, 17, 18, 19, 5, 20, 21, 22, 23, 24, 25, 26, 27, 28, 29, 30, 31, 32, 33, 34, 3, 4, 6, 35, 36, 37, 38, 39, 40, 41, 42, 43, 44, 45, 46, 47, 48, 49, 50, 51, 52, 53, 54, 55, 56, 57, 58, 59, 60, 61, 62, 63, 64, 65, 66, 67, 68, 69, 70, 71, 72, 73, 79, 80, 81, 82, 83, 84, 85, 86, 87, 88, 89, 90, 91, 92, 93, 94, 95, 96, 97, 98, 99] (by decide +kernel) (by decide +kernel)
set_option maxRecDepth 20000 in
theorem gX6_score_X6_verdictOf : GoodIn wsX6_score (wsV RX6 141 RX6 yX6_verdictOf wsX6_verdictOf) := goodIn_app (goodIn_of _ (by decide +kernel)) ggX6_score_X6_verdictOf
set_option maxRecDepth 20000 in
theorem ggX6_score_X6_play : GoodIn wsX6_score wsX6_play := goodIn_r _ [77, 2, 78, 79, 80, 81, 82, 83, 84, 85, 86, 87, 88, 89, 90, 91, 92, 93, 94, 95, 96, 97, 98, 99] (by decide +kernel) (by decide +kernel)
set_option maxRecDepth 20000 in
theorem gX6_score_X6_play : GoodIn wsX6_score (wsV RX6 147 RX6 yX6_play wsX6_play) := goodIn_app (goodIn_of _ (by decide +kernel)) ggX6_score_X6_play
theorem dX6_score_0 : decode cX6_score 0 = .ok (.iload_n 1, 1) := by decide +kernel
theorem dX6_score_1 : decode cX6_score 1 = .ok (.iconst 0, 1) := by decide +kernel
theorem dX6_score_2 : decode cX6_score 2 = .ok (.aload_n 0, 1) := by decide +kernel
theorem dX6_score_3 : decode cX6_score 3 = .ok (.getfield 73, 3) := by decide +kernel
theorem dX6_score_6 : decode cX6_score 6 = .ok (.invokestatic 66, 3) := by decide +kernel
theorem dX6_score_9 : decode cX6_score 9 = .ok (.ifCond .eq 12, 3) := by decide +kernel
theorem dX6_score_12 : decode cX6_score 12 = .ok (.iload_n 2, 1) := by decide +kernel
theorem dX6_score_13 : decode cX6_score 13 = .ok (.iconst 0, 1) := by decide +kernel
theorem dX6_score_14 : decode cX6_score 14 = .ok (.iconst 3, 1) := by decide +kernel
theorem dX6_score_15 : decode cX6_score 15 = .ok (.invokestatic 66, 3) := by decide +kernel
theorem dX6_score_18 : decode cX6_score 18 = .ok (.ifCond .ne 6, 3) := by decide +kernel
theorem dX6_score_21 : decode cX6_score 21 = .ok (.bipush (-2), 2) := by decide +kernel
theorem dX6_score_23 : decode cX6_score 23 = .ok (.ireturn, 1) := by decide +kernel
theorem dX6_score_24 : decode cX6_score 24 = .ok (.aload_n 0, 1) := by decide +kernel
theorem dX6_score_25 : decode cX6_score 25 = .ok (.invokevirtual 144, 3) := by decide +kernel
theorem dX6_score_28 : decode cX6_score 28 = .ok (.iconst 0, 1) := by decide +kernel
theorem dX6_score_29 : decode cX6_score 29 = .ok (.istore_n 3, 1) := by decide +kernel
theorem dX6_score_30 : decode cX6_score 30 = .ok (.iload_n 3, 1) := by decide +kernel
theorem dX6_score_31 : decode cX6_score 31 = .ok (.iload_n 1, 1) := by decide +kernel
theorem dX6_score_32 : decode cX6_score 32 = .ok (.if_icmp .ge 18, 3) := by decide +kernel
theorem dX6_score_35 : decode cX6_score 35 = .ok (.aload_n 0, 1) := by decide +kernel
theorem dX6_score_36 : decode cX6_score 36 = .ok (.aload_n 0, 1) := by decide +kernel
theorem dX6_score_37 : decode cX6_score 37 = .ok (.iload_n 3, 1) := by decide +kernel
theorem dX6_score_38 : decode cX6_score 38 = .ok (.invokevirtual 141, 3) := by decide +kernel
theorem dX6_score_41 : decode cX6_score 41 = .ok (.invokevirtual 147, 3) := by decide +kernel
theorem dX6_score_44 : decode cX6_score 44 = .ok (.iinc 3 1, 3) := by decide +kernel
theorem dX6_score_47 : decode cX6_score 47 = .ok (.goto (-17), 3) := by decide +kernel
theorem dX6_score_50 : decode cX6_score 50 = .ok (.aload_n 0, 1) := by decide +kernel
theorem dX6_score_51 : decode cX6_score 51 = .ok (.getfield 60, 3) := by decide +kernel
theorem dX6_score_54 : decode cX6_score 54 = .ok (.iload_n 2, 1) := by decide +kernel
theorem dX6_score_55 : decode cX6_score 55 = .ok (.iaload, 1) := by decide +kernel
theorem dX6_score_56 : decode cX6_score 56 = .ok (.ireturn, 1) := by decide +kernel
theorem dX6_packed_0 : decode cX6_packed 0 = .ok (.aload_n 0, 1) := by decide +kernel
theorem dX6_packed_1 : decode cX6_packed 1 = .ok (.getfield 60, 3) := by decide +kernel
theorem dX6_packed_4 : decode cX6_packed 4 = .ok (.iconst 0, 1) := by decide +kernel
theorem dX6_packed_5 : decode cX6_packed 5 = .ok (.iaload, 1) := by decide +kernel
theorem dX6_packed_6 : decode cX6_packed 6 = .ok (.bipush 32, 2) := by decide +kernel
theorem dX6_packed_8 : decode cX6_packed 8 = .ok (.imul, 1) := by decide +kernel
theorem dX6_packed_9 : decode cX6_packed 9 = .ok (.aload_n 0, 1) := by decide +kernel
theorem dX6_packed_10 : decode cX6_packed 10 = .ok (.getfield 60, 3) := by decide +kernel
theorem dX6_packed_13 : decode cX6_packed 13 = .ok (.iconst 1, 1) := by decide +kernel
theorem dX6_packed_14 : decode cX6_packed 14 = .ok (.iaload, 1) := by decide +kernel
theorem dX6_packed_15 : decode cX6_packed 15 = .ok (.iadd, 1) := by decide +kernel
theorem dX6_packed_16 : decode cX6_packed 16 = .ok (.iconst 2, 1) := by decide +kernel
theorem dX6_packed_17 : decode cX6_packed 17 = .ok (.imul, 1) := by decide +kernel
theorem dX6_packed_18 : decode cX6_packed 18 = .ok (.aload_n 0, 1) := by decide +kernel
theorem dX6_packed_19 : decode cX6_packed 19 = .ok (.getfield 60, 3) := by decide +kernel
theorem dX6_packed_22 : decode cX6_packed 22 = .ok (.iconst 2, 1) := by decide +kernel
theorem dX6_packed_23 : decode cX6_packed 23 = .ok (.iaload, 1) := by decide +kernel
theorem dX6_packed_24 : decode cX6_packed 24 = .ok (.iadd, 1) := by decide +kernel
theorem dX6_packed_25 : decode cX6_packed 25 = .ok (.bipush 8, 2) := by decide +kernel
theorem dX6_packed_27 : decode cX6_packed 27 = .ok (.imul, 1) := by decide +kernel
theorem dX6_packed_28 : decode cX6_packed 28 = .ok (.aload_n 0, 1) := by decide +kernel
theorem dX6_packed_29 : decode cX6_packed 29 = .ok (.getfield 60, 3) := by decide +kernel
theorem dX6_packed_32 : decode cX6_packed 32 = .ok (.iconst 3, 1) := by decide +kernel
theorem dX6_packed_33 : decode cX6_packed 33 = .ok (.iaload, 1) := by decide +kernel
theorem dX6_packed_34 : decode cX6_packed 34 = .ok (.iadd, 1) := by decide +kernel
theorem dX6_packed_35 : decode cX6_packed 35 = .ok (.bipush 6, 2) := by decide +kernel
theorem dX6_packed_37 : decode cX6_packed 37 = .ok (.iadd, 1) := by decide +kernel
theorem dX6_packed_38 : decode cX6_packed 38 = .ok (.ireturn, 1) := by decide +kernel
set_option maxRecDepth 20000 in
theorem ggX6_appeal_X6_isMoment : GoodIn wsX6_appeal wsX6_isMoment := goodIn_r _ [8, 1, 9, 10, 7, 11, 92, 93, 94, 95, 96, 97, 98, 99, 100, 101, 102, 103, 104, 105, 106, 107, 108, 109, 110, 111, 112] (by decide +kernel) (by decide +kernel)
set_option maxRecDepth 20000 in
theorem gX6_appeal_X6_isMoment : GoodIn wsX6_appeal (wsV RX6 118 RX6 yX6_isMoment wsX6_isMoment) := goodIn_app (goodIn_of _ (by decide +kernel)) ggX6_appeal_X6_isMoment
set_option maxRecDepth 20000 in
theorem ggX6_appeal_X6_isRuling : GoodIn wsX6_appeal wsX6_isRuling := goodIn_r _ [14, 9, 10, 7, 11] (by decide +kernel) (by decide +kernel)
set_option maxRecDepth 20000 in
theorem gX6_appeal_X6_isRuling : GoodIn wsX6_appeal (va_wsS RX6 87 yX6_isRuling wsX6_isRuling) := goodIn_app (goodIn_of _ (by decide +kernel)) ggX6_appeal_X6_isRuling
set_option maxRecDepth 20000 in
theorem ggX6_appeal_X6_begin : GoodIn wsX6_appeal wsX6_begin := goodIn_r _ [18, 19, 92, 93, 94, 95, 96, 97, 98, 99, 100, 101, 102, 103, 104, 105, 106, 107, 108, 109, 110, 111, 112] (by decide +kernel) (by decide +kernel)
set_option maxRecDepth 20000 in
theorem gX6_appeal_X6_begin : GoodIn wsX6_appeal (wsV RX6 144 RX6 yX6_begin wsX6_begin) := goodIn_app (goodIn_of _ (by decide +kernel)) ggX6_appeal_X6_begin
set_option maxRecDepth 20000 in
theorem ggX6_appeal_X6_verdictOf : GoodIn wsX6_appeal wsX6_verdictOf := goodIn_r _ [23, 24, 25, 26, 27, 28, 7, 29, 30, 31, 32, 33, 34, 35, 36, 37, 38, 39, 40, 41, 42, 43, 9, 10, 11, 44, 45, 46, 47, 48, 49, 50, 51, 52, 53, 54, 55, 56, 57, 58, 59, 60, 61, 62, 63, 64, 65, 66, 67, 68, 69, 70, 71, 72, 73, 74, 75, 76, 77, 78, 79, 80, 81, 82, 92, 93, 94, 95, 96, 97, 98, 99, 100, 101, 102, 103, 104, 105, 106, 107, 108, 109, 110, 111, 112] (by decide +kernel) (by decide +kernel)
set_option maxRecDepth 20000 in
theorem gX6_appeal_X6_verdictOf : GoodIn wsX6_appeal (wsV RX6 141 RX6 yX6_verdictOf wsX6_verdictOf) := goodIn_app (goodIn_of _ (by decide +kernel)) ggX6_appeal_X6_verdictOf
set_option maxRecDepth 20000 in
theorem ggX6_appeal_X6_play : GoodIn wsX6_appeal wsX6_play := goodIn_r _ [86, 19, 87, 92, 93, 94, 95, 96, 97, 98, 99, 100, 101, 102, 103, 104, 105, 106, 107, 108, 109, 110, 111, 112] (by decide +kernel) (by decide +kernel)
set_option maxRecDepth 20000 in
theorem gX6_appeal_X6_play : GoodIn wsX6_appeal (wsV RX6 147 RX6 yX6_play wsX6_play) := goodIn_app (goodIn_of _ (by decide +kernel)) ggX6_appeal_X6_play
set_option maxRecDepth 20000 in
theorem ggX6_appeal_X6_packed : GoodIn wsX6_appeal wsX6_packed := goodIn_r _ [91, 19, 92, 93, 94, 95, 96, 97, 98, 99, 100, 101, 102, 103, 104, 105, 106, 107, 108, 109, 110, 111, 112] (by decide +kernel) (by decide +kernel)
set_option maxRecDepth 20000 in
theorem gX6_appeal_X6_packed : GoodIn wsX6_appeal (wsV RX6 151 RX6 yX6_packed wsX6_packed) := goodIn_app (goodIn_of _ (by decide +kernel)) ggX6_appeal_X6_packed
theorem dX6_appeal_0 : decode cX6_appeal 0 = .ok (.aload_n 0, 1) := by decide +kernel
theorem dX6_appeal_1 : decode cX6_appeal 1 = .ok (.iload_n 1, 1) := by decide +kernel
theorem dX6_appeal_2 : decode cX6_appeal 2 = .ok (.invokevirtual 118, 3) := by decide +kernel
theorem dX6_appeal_5 : decode cX6_appeal 5 = .ok (.ifCond .ne 5, 3) := by decide +kernel
theorem dX6_appeal_8 : decode cX6_appeal 8 = .ok (.iconst (-1), 1) := by decide +kernel
theorem dX6_appeal_9 : decode cX6_appeal 9 = .ok (.ireturn, 1) := by decide +kernel
theorem dX6_appeal_10 : decode cX6_appeal 10 = .ok (.iload_n 2, 1) := by decide +kernel
theorem dX6_appeal_11 : decode cX6_appeal 11 = .ok (.invokestatic 87, 3) := by decide +kernel
theorem dX6_appeal_14 : decode cX6_appeal 14 = .ok (.ifCond .ne 6, 3) := by decide +kernel
theorem dX6_appeal_17 : decode cX6_appeal 17 = .ok (.bipush (-2), 2) := by decide +kernel
theorem dX6_appeal_19 : decode cX6_appeal 19 = .ok (.ireturn, 1) := by decide +kernel
theorem dX6_appeal_20 : decode cX6_appeal 20 = .ok (.aload_n 0, 1) := by decide +kernel
theorem dX6_appeal_21 : decode cX6_appeal 21 = .ok (.invokevirtual 144, 3) := by decide +kernel
theorem dX6_appeal_24 : decode cX6_appeal 24 = .ok (.iconst 0, 1) := by decide +kernel
theorem dX6_appeal_25 : decode cX6_appeal 25 = .ok (.istore_n 3, 1) := by decide +kernel
theorem dX6_appeal_26 : decode cX6_appeal 26 = .ok (.iload_n 3, 1) := by decide +kernel
theorem dX6_appeal_27 : decode cX6_appeal 27 = .ok (.aload_n 0, 1) := by decide +kernel
theorem dX6_appeal_28 : decode cX6_appeal 28 = .ok (.getfield 73, 3) := by decide +kernel
theorem dX6_appeal_31 : decode cX6_appeal 31 = .ok (.if_icmp .ge 40, 3) := by decide +kernel
theorem dX6_appeal_34 : decode cX6_appeal 34 = .ok (.aload_n 0, 1) := by decide +kernel
theorem dX6_appeal_35 : decode cX6_appeal 35 = .ok (.getfield 57, 3) := by decide +kernel
theorem dX6_appeal_38 : decode cX6_appeal 38 = .ok (.iload_n 3, 1) := by decide +kernel
theorem dX6_appeal_39 : decode cX6_appeal 39 = .ok (.aload_n 0, 1) := by decide +kernel
theorem dX6_appeal_40 : decode cX6_appeal 40 = .ok (.iload_n 3, 1) := by decide +kernel
theorem dX6_appeal_41 : decode cX6_appeal 41 = .ok (.invokevirtual 141, 3) := by decide +kernel
theorem dX6_appeal_44 : decode cX6_appeal 44 = .ok (.iastore, 1) := by decide +kernel
theorem dX6_appeal_45 : decode cX6_appeal 45 = .ok (.aload_n 0, 1) := by decide +kernel
theorem dX6_appeal_46 : decode cX6_appeal 46 = .ok (.aload_n 0, 1) := by decide +kernel
theorem dX6_appeal_47 : decode cX6_appeal 47 = .ok (.getfield 57, 3) := by decide +kernel
theorem dX6_appeal_50 : decode cX6_appeal 50 = .ok (.iload_n 3, 1) := by decide +kernel
theorem dX6_appeal_51 : decode cX6_appeal 51 = .ok (.iaload, 1) := by decide +kernel
theorem dX6_appeal_52 : decode cX6_appeal 52 = .ok (.invokevirtual 147, 3) := by decide +kernel
theorem dX6_appeal_55 : decode cX6_appeal 55 = .ok (.aload_n 0, 1) := by decide +kernel
theorem dX6_appeal_56 : decode cX6_appeal 56 = .ok (.getfield 63, 3) := by decide +kernel
theorem dX6_appeal_59 : decode cX6_appeal 59 = .ok (.iload_n 3, 1) := by decide +kernel
theorem dX6_appeal_60 : decode cX6_appeal 60 = .ok (.aload_n 0, 1) := by decide +kernel
theorem dX6_appeal_61 : decode cX6_appeal 61 = .ok (.invokevirtual 151, 3) := by decide +kernel
theorem dX6_appeal_64 : decode cX6_appeal 64 = .ok (.iastore, 1) := by decide +kernel
theorem dX6_appeal_65 : decode cX6_appeal 65 = .ok (.iinc 3 1, 3) := by decide +kernel
theorem dX6_appeal_68 : decode cX6_appeal 68 = .ok (.goto (-42), 3) := by decide +kernel
theorem dX6_appeal_71 : decode cX6_appeal 71 = .ok (.aload_n 0, 1) := by decide +kernel
theorem dX6_appeal_72 : decode cX6_appeal 72 = .ok (.invokevirtual 144, 3) := by decide +kernel
theorem dX6_appeal_75 : decode cX6_appeal 75 = .ok (.iconst 0, 1) := by decide +kernel
theorem dX6_appeal_76 : decode cX6_appeal 76 = .ok (.istore_n 3, 1) := by decide +kernel
theorem dX6_appeal_77 : decode cX6_appeal 77 = .ok (.iload_n 3, 1) := by decide +kernel
theorem dX6_appeal_78 : decode cX6_appeal 78 = .ok (.aload_n 0, 1) := by decide +kernel
theorem dX6_appeal_79 : decode cX6_appeal 79 = .ok (.getfield 73, 3) := by decide +kernel
theorem dX6_appeal_82 : decode cX6_appeal 82 = .ok (.if_icmp .ge 43, 3) := by decide +kernel
theorem dX6_appeal_85 : decode cX6_appeal 85 = .ok (.aload_n 0, 1) := by decide +kernel
theorem dX6_appeal_86 : decode cX6_appeal 86 = .ok (.iload_n 3, 1) := by decide +kernel
theorem dX6_appeal_87 : decode cX6_appeal 87 = .ok (.iload_n 1, 1) := by decide +kernel
theorem dX6_appeal_88 : decode cX6_appeal 88 = .ok (.if_icmp .ne 7, 3) := by decide +kernel
theorem dX6_appeal_91 : decode cX6_appeal 91 = .ok (.iload_n 2, 1) := by decide +kernel
theorem dX6_appeal_92 : decode cX6_appeal 92 = .ok (.goto 9, 3) := by decide +kernel
theorem dX6_appeal_95 : decode cX6_appeal 95 = .ok (.aload_n 0, 1) := by decide +kernel
theorem dX6_appeal_96 : decode cX6_appeal 96 = .ok (.getfield 57, 3) := by decide +kernel
theorem dX6_appeal_99 : decode cX6_appeal 99 = .ok (.iload_n 3, 1) := by decide +kernel
theorem dX6_appeal_100 : decode cX6_appeal 100 = .ok (.iaload, 1) := by decide +kernel
theorem dX6_appeal_101 : decode cX6_appeal 101 = .ok (.invokevirtual 147, 3) := by decide +kernel
theorem dX6_appeal_104 : decode cX6_appeal 104 = .ok (.aload_n 0, 1) := by decide +kernel
theorem dX6_appeal_105 : decode cX6_appeal 105 = .ok (.invokevirtual 151, 3) := by decide +kernel
theorem dX6_appeal_108 : decode cX6_appeal 108 = .ok (.aload_n 0, 1) := by decide +kernel
theorem dX6_appeal_109 : decode cX6_appeal 109 = .ok (.getfield 63, 3) := by decide +kernel
theorem dX6_appeal_112 : decode cX6_appeal 112 = .ok (.iload_n 3, 1) := by decide +kernel
theorem dX6_appeal_113 : decode cX6_appeal 113 = .ok (.iaload, 1) := by decide +kernel
theorem dX6_appeal_114 : decode cX6_appeal 114 = .ok (.if_icmp .eq 5, 3) := by decide +kernel
theorem dX6_appeal_117 : decode cX6_appeal 117 = .ok (.iload_n 3, 1) := by decide +kernel
theorem dX6_appeal_118 : decode cX6_appeal 118 = .ok (.ireturn, 1) := by decide +kernel
theorem dX6_appeal_119 : decode cX6_appeal 119 = .ok (.iinc 3 1, 3) := by decide +kernel
theorem dX6_appeal_122 : decode cX6_appeal 122 = .ok (.goto (-45), 3) := by decide +kernel
theorem dX6_appeal_125 : decode cX6_appeal 125 = .ok (.bipush (-6), 2) := by decide +kernel
theorem dX6_appeal_127 : decode cX6_appeal 127 = .ok (.ireturn, 1) := by decide +kernel
set_option maxRecDepth 20000 in
theorem ggX6_kinds_X6_allFacts : GoodIn wsX6_kinds wsX6_allFacts := goodIn_r _ [5, 6, 28, 29, 30, 31, 32, 33, 34, 35, 36, 37, 38, 39, 40, 41, 42, 43, 44, 45, 46, 47, 48] (by decide +kernel) (by decide +kernel)
set_option maxRecDepth 20000 in
theorem gX6_kinds_X6_allFacts : GoodIn wsX6_kinds (wsV RX6 83 RX6 yX6_allFacts wsX6_allFacts) := goodIn_app (goodIn_of _ (by decide +kernel)) ggX6_kinds_X6_allFacts
set_option maxRecDepth 20000 in
theorem ggX6_kinds_X6_isKind : GoodIn wsX6_kinds wsX6_isKind := goodIn_r _ [10, 6, 11, 1, 2, 3, 4, 5, 12, 13, 14, 28, 29, 30, 31, 32, 33, 34, 35, 36, 37, 38, 39, 40, 41, 42, 43, 44, 45, 46, 47, 48] (by decide +kernel) (by decide +kernel)
set_option maxRecDepth 20000 in
theorem gX6_kinds_X6_isKind : GoodIn wsX6_kinds (wsV RX6 100 RX6 yX6_isKind wsX6_isKind) := goodIn_app (goodIn_of _ (by decide +kernel)) ggX6_kinds_X6_isKind
set_option maxRecDepth 20000 in
theorem ggX6_kinds_X6_lineFor : GoodIn wsX6_kinds wsX6_lineFor := goodIn_r _ [18, 19, 20, 21, 22, 23, 4, 24, 25, 26, 27, 28, 29, 30, 31, 32, 33, 34, 35, 36, 37, 38, 39, 40, 41, 42, 43, 44, 45, 46, 47, 48] (by decide +kernel) (by decide +kernel)
set_option maxRecDepth 20000 in
theorem gX6_kinds_X6_lineFor : GoodIn wsX6_kinds (wsV RX6 106 RX6 yX6_lineFor wsX6_lineFor) := goodIn_app (goodIn_of _ (by decide +kernel)) ggX6_kinds_X6_lineFor
theorem dX6_kinds_0 : decode cX6_kinds 0 = .ok (.iconst 0, 1) := by decide +kernel
theorem dX6_kinds_1 : decode cX6_kinds 1 = .ok (.istore_n 2, 1) := by decide +kernel
theorem dX6_kinds_2 : decode cX6_kinds 2 = .ok (.iconst 0, 1) := by decide +kernel
theorem dX6_kinds_3 : decode cX6_kinds 3 = .ok (.istore_n 3, 1) := by decide +kernel
theorem dX6_kinds_4 : decode cX6_kinds 4 = .ok (.iload_n 3, 1) := by decide +kernel
theorem dX6_kinds_5 : decode cX6_kinds 5 = .ok (.aload_n 0, 1) := by decide +kernel
theorem dX6_kinds_6 : decode cX6_kinds 6 = .ok (.invokevirtual 83, 3) := by decide +kernel
theorem dX6_kinds_9 : decode cX6_kinds 9 = .ok (.if_icmp .gt 37, 3) := by decide +kernel
theorem dX6_kinds_12 : decode cX6_kinds 12 = .ok (.iload_n 2, 1) := by decide +kernel
theorem dX6_kinds_13 : decode cX6_kinds 13 = .ok (.aload_n 0, 1) := by decide +kernel
theorem dX6_kinds_14 : decode cX6_kinds 14 = .ok (.iload_n 3, 1) := by decide +kernel
theorem dX6_kinds_15 : decode cX6_kinds 15 = .ok (.invokevirtual 100, 3) := by decide +kernel
theorem dX6_kinds_18 : decode cX6_kinds 18 = .ok (.ifCond .eq 19, 3) := by decide +kernel
theorem dX6_kinds_21 : decode cX6_kinds 21 = .ok (.iload_n 1, 1) := by decide +kernel
theorem dX6_kinds_22 : decode cX6_kinds 22 = .ok (.ifCond .eq 11, 3) := by decide +kernel
theorem dX6_kinds_25 : decode cX6_kinds 25 = .ok (.aload_n 0, 1) := by decide +kernel
theorem dX6_kinds_26 : decode cX6_kinds 26 = .ok (.iload_n 3, 1) := by decide +kernel
theorem dX6_kinds_27 : decode cX6_kinds 27 = .ok (.invokevirtual 106, 3) := by decide +kernel
theorem dX6_kinds_30 : decode cX6_kinds 30 = .ok (.ifCond .lt 7, 3) := by decide +kernel
theorem dX6_kinds_33 : decode cX6_kinds 33 = .ok (.iconst 1, 1) := by decide +kernel
theorem dX6_kinds_34 : decode cX6_kinds 34 = .ok (.goto 4, 3) := by decide +kernel
theorem dX6_kinds_37 : decode cX6_kinds 37 = .ok (.iconst 0, 1) := by decide +kernel
theorem dX6_kinds_38 : decode cX6_kinds 38 = .ok (.iadd, 1) := by decide +kernel
theorem dX6_kinds_39 : decode cX6_kinds 39 = .ok (.istore_n 2, 1) := by decide +kernel
theorem dX6_kinds_40 : decode cX6_kinds 40 = .ok (.iinc 3 1, 3) := by decide +kernel
theorem dX6_kinds_43 : decode cX6_kinds 43 = .ok (.goto (-39), 3) := by decide +kernel
theorem dX6_kinds_46 : decode cX6_kinds 46 = .ok (.iload_n 2, 1) := by decide +kernel
theorem dX6_kinds_47 : decode cX6_kinds 47 = .ok (.ireturn, 1) := by decide +kernel
set_option maxRecDepth 20000 in
theorem ggX6_told_X6_kinds : GoodIn wsX6_told wsX6_kinds := goodIn_r _ [10, 11, 12, 13, 9, 14, 1, 15, 16, 17, 18, 19, 20, 21, 22, 23, 24, 25, 26, 2, 27, 28, 29, 30, 31, 32, 33, 34, 35, 36, 37, 38, 39, 40, 41, 42, 43, 44, 45, 46, 47, 48, 49, 50, 51, 52, 53, 54, 55] (by decide +kernel) (by decide +kernel)
set_option maxRecDepth 20000 in
theorem gX6_told_X6_kinds : GoodIn wsX6_told (wsV RX6 154 RX6 yX6_kinds wsX6_kinds) := goodIn_app (goodIn_of _ (by decide +kernel)) ggX6_told_X6_kinds
theorem dX6_told_0 : decode cX6_told 0 = .ok (.iload_n 1, 1) := by decide +kernel
theorem dX6_told_1 : decode cX6_told 1 = .ok (.tableswitch 80 0 6 #[43, 48, 54, 59, 64, 69, 74], 43) := by decide +kernel
theorem dX6_told_44 : decode cX6_told 44 = .ok (.aload_n 0, 1) := by decide +kernel
theorem dX6_told_45 : decode cX6_told 45 = .ok (.getfield 7, 3) := by decide +kernel
theorem dX6_told_48 : decode cX6_told 48 = .ok (.ireturn, 1) := by decide +kernel
theorem dX6_told_49 : decode cX6_told 49 = .ok (.aload_n 0, 1) := by decide +kernel
theorem dX6_told_50 : decode cX6_told 50 = .ok (.iconst 0, 1) := by decide +kernel
theorem dX6_told_51 : decode cX6_told 51 = .ok (.invokevirtual 154, 3) := by decide +kernel
theorem dX6_told_54 : decode cX6_told 54 = .ok (.ireturn, 1) := by decide +kernel
theorem dX6_told_55 : decode cX6_told 55 = .ok (.aload_n 0, 1) := by decide +kernel
theorem dX6_told_56 : decode cX6_told 56 = .ok (.getfield 70, 3) := by decide +kernel
theorem dX6_told_59 : decode cX6_told 59 = .ok (.ireturn, 1) := by decide +kernel
theorem dX6_told_60 : decode cX6_told 60 = .ok (.aload_n 0, 1) := by decide +kernel
theorem dX6_told_61 : decode cX6_told 61 = .ok (.getfield 73, 3) := by decide +kernel
theorem dX6_told_64 : decode cX6_told 64 = .ok (.ireturn, 1) := by decide +kernel
theorem dX6_told_65 : decode cX6_told 65 = .ok (.aload_n 0, 1) := by decide +kernel
theorem dX6_told_66 : decode cX6_told 66 = .ok (.getfield 76, 3) := by decide +kernel
theorem dX6_told_69 : decode cX6_told 69 = .ok (.ireturn, 1) := by decide +kernel
theorem dX6_told_70 : decode cX6_told 70 = .ok (.aload_n 0, 1) := by decide +kernel
theorem dX6_told_71 : decode cX6_told 71 = .ok (.getfield 51, 3) := by decide +kernel
theorem dX6_told_74 : decode cX6_told 74 = .ok (.ireturn, 1) := by decide +kernel
theorem dX6_told_75 : decode cX6_told 75 = .ok (.aload_n 0, 1) := by decide +kernel
theorem dX6_told_76 : decode cX6_told 76 = .ok (.iconst 1, 1) := by decide +kernel
theorem dX6_told_77 : decode cX6_told 77 = .ok (.invokevirtual 154, 3) := by decide +kernel
theorem dX6_told_80 : decode cX6_told 80 = .ok (.ireturn, 1) := by decide +kernel
theorem dX6_told_81 : decode cX6_told 81 = .ok (.bipush (-2), 2) := by decide +kernel
theorem dX6_told_83 : decode cX6_told 83 = .ok (.ireturn, 1) := by decide +kernel
end
section
def wsL_law_r1 : List Cond := [Cond.classLink RL 7 RX5, Cond.instantiable RX5 8, Cond.initialized RX5, Cond.classLink RL 10 RX6, Cond.instantiable RX6 21, Cond.initialized RX6, Cond.methodLink RL 9 yX5_init, Cond.instanceMethod yX5_init, Cond.code yX5_init cX5_init 1 none, Cond.methodLink RX5 1 objectInit, Cond.instanceMethod objectInit, Cond.code objectInit ⟨#[0xb1]⟩ 1 none, Cond.classLink RX5 7 RX0, Cond.instantiable RX0 11, Cond.initialized RX0, Cond.fieldLink RX5 10 "BallCourt" "book" "LBallCourt$Book;", Cond.classLink RX5 16 RX3, Cond.instantiable RX3 2, Cond.initialized RX3, Cond.fieldLink RX5 21 "BallCourt" "laws" "LBallCourt$Laws;", Cond.fieldLink RX5 25 "BallCourt" "lawsIfMended" "LBallCourt$Laws;", Cond.classLink RX5 28 RX4, Cond.instantiable RX4 4, Cond.initialized RX4]
def wsL_law_r2 : List Cond := [Cond.fieldLink RX5 31 "BallCourt" "played" "LBallCourt$Moments;", Cond.classLink RX5 35 RX1, Cond.instantiable RX1 4, Cond.initialized RX1, Cond.fieldLink RX5 38 "BallCourt" "cases" "LBallCourt$Cases;", Cond.classLink RX5 42 RX2, Cond.instantiable RX2 4, Cond.initialized RX2, Cond.fieldLink RX5 45 "BallCourt" "game" "LBallCourt$Game;", Cond.fieldLink RX5 49 "BallCourt" "gameIfRuled" "LBallCourt$Game;", Cond.fieldLink RX5 52 "BallCourt" "hoopsToWin" "I", Cond.instanceMethod yX0_init, Cond.code yX0_init cX0_init 1 none, Cond.methodLink RX0 3 objectInit, Cond.arrayClass .boolean, Cond.fieldLink RX0 9 "BallCourt$Book" "isKind" "[Z", Cond.arrayClass .int, Cond.fieldLink RX0 15 "BallCourt$Book" "barredWith" "[I", Cond.fieldLink RX0 19 "BallCourt$Book" "must" "[I", Cond.fieldLink RX0 22 "BallCourt$Book" "mustNot" "[I", Cond.fieldLink RX0 25 "BallCourt$Book" "ruling" "[I", Cond.fieldLink RX0 28 "BallCourt$Book" "excepters" "[I", Cond.methodLink RX5 18 yX3_init, Cond.instanceMethod yX3_init]
def wsL_law_r3 : List Cond := [Cond.code yX3_init cX3_init 2 none, Cond.methodLink RX3 3 objectInit, Cond.fieldLink RX3 9 "BallCourt$Laws" "lineOf" "[I", Cond.fieldLink RX3 15 "BallCourt$Laws" "book" "LBallCourt$Book;", Cond.instanceMethod yX4_init, Cond.code yX4_init cX4_init 1 none, Cond.methodLink RX4 3 objectInit, Cond.fieldLink RX4 9 "BallCourt$Moments" "toldSo" "[I", Cond.fieldLink RX4 15 "BallCourt$Moments" "toldNotSo" "[I", Cond.fieldLink RX4 18 "BallCourt$Moments" "ruled" "[I", Cond.instanceMethod yX1_init, Cond.code yX1_init cX1_init 1 none, Cond.methodLink RX1 3 objectInit, Cond.fieldLink RX1 9 "BallCourt$Cases" "kind" "[I", Cond.fieldLink RX1 15 "BallCourt$Cases" "ruling" "[I", Cond.fieldLink RX1 18 "BallCourt$Cases" "names" "[I", Cond.instanceMethod yX2_init, Cond.code yX2_init cX2_init 1 none, Cond.methodLink RX2 3 objectInit, Cond.methodLink RX5 56 yX5_beginAnew, Cond.instanceMethod yX5_beginAnew, Cond.selects RX5 yX5_beginAnew yX5_beginAnew, Cond.code yX5_beginAnew cX5_beginAnew 2 none, Cond.methodLink RX5 60 yX0_begin]
def wsL_law_r4 : List Cond := [Cond.instanceMethod yX0_begin, Cond.selects RX0 yX0_begin yX0_begin, Cond.code yX0_begin cX0_begin 3 none, Cond.fieldLink RX0 31 "BallCourt$Book" "facts" "I", Cond.fieldLink RX0 35 "BallCourt$Book" "numbers" "I", Cond.fieldLink RX0 38 "BallCourt$Book" "lines" "I", Cond.fieldLink RX0 41 "BallCourt$Book" "repealed" "I", Cond.fieldLink RX0 44 "BallCourt$Book" "excepting" "I", Cond.methodLink RX0 47 yX0_workKinds, Cond.instanceMethod yX0_workKinds, Cond.selects RX0 yX0_workKinds yX0_workKinds, Cond.code yX0_workKinds cX0_workKinds 2 none, Cond.methodLink RX0 54 yX0_hasBarredPair, Cond.instanceMethod yX0_hasBarredPair, Cond.selects RX0 yX0_hasBarredPair yX0_hasBarredPair, Cond.code yX0_hasBarredPair cX0_hasBarredPair 3 (some .boolean), Cond.static yX5_hasBit, Cond.code yX5_hasBit cX5_hasBit 2 (some .boolean), Cond.methodLink RX5 70 yX3_work, Cond.instanceMethod yX3_work, Cond.selects RX3 yX3_work yX3_work, Cond.code yX3_work cX3_work 3 none, Cond.methodLink RX3 25 yX0_lawLine, Cond.instanceMethod yX0_lawLine]
def wsL_law_r5 : List Cond := [Cond.selects RX0 yX0_lawLine yX0_lawLine, Cond.code yX0_lawLine cX0_lawLine 5 (some .int), Cond.methodLink RX0 62 yX0_holding, Cond.instanceMethod yX0_holding, Cond.selects RX0 yX0_holding yX0_holding, Cond.code yX0_holding cX0_holding 6 (some .int), Cond.methodLink RL 12 yX6_init, Cond.instanceMethod yX6_init, Cond.code yX6_init cX6_init 1 none, Cond.methodLink RX6 1 objectInit, Cond.fieldLink RX6 7 "BallCourtModel" "facts" "I", Cond.fieldLink RX6 13 "BallCourtModel" "bars" "[I", Cond.fieldLink RX6 17 "BallCourtModel" "must" "[I", Cond.fieldLink RX6 20 "BallCourtModel" "mustNot" "[I", Cond.fieldLink RX6 23 "BallCourtModel" "ruling" "[I", Cond.fieldLink RX6 26 "BallCourtModel" "isRepealed" "[Z", Cond.fieldLink RX6 30 "BallCourtModel" "excepts" "[I", Cond.fieldLink RX6 33 "BallCourtModel" "toldSo" "[I", Cond.fieldLink RX6 36 "BallCourtModel" "toldNot" "[I", Cond.fieldLink RX6 39 "BallCourtModel" "ruled" "[I", Cond.fieldLink RX6 42 "BallCourtModel" "caseKind" "[I", Cond.fieldLink RX6 45 "BallCourtModel" "caseRuling" "[I", Cond.fieldLink RX6 48 "BallCourtModel" "caseNames" "[I", Cond.fieldLink RX6 51 "BallCourtModel" "goal" "I"]
def wsL_law_r6 : List Cond := [Cond.fieldLink RX6 54 "BallCourtModel" "before" "[I", Cond.fieldLink RX6 57 "BallCourtModel" "verdict" "[I", Cond.fieldLink RX6 60 "BallCourtModel" "state" "[I", Cond.fieldLink RX6 63 "BallCourtModel" "course" "[I", Cond.methodLink RL 13 yX5_facts, Cond.instanceMethod yX5_facts, Cond.selects RX5 yX5_facts yX5_facts, Cond.code yX5_facts cX5_facts 3 (some .int), Cond.methodLink RL 17 yX6_facts, Cond.instanceMethod yX6_facts, Cond.selects RX6 yX6_facts yX6_facts, Cond.code yX6_facts cX6_facts 4 (some .int), Cond.fieldLink RX6 70 "BallCourtModel" "lines" "I", Cond.fieldLink RX6 73 "BallCourtModel" "moments" "I", Cond.fieldLink RX6 76 "BallCourtModel" "cases" "I", Cond.methodLink RX6 66 yX6_in, Cond.static yX6_in, Cond.code yX6_in cX6_in 3 (some .boolean), Cond.methodLink RL 18 yX5_barred, Cond.instanceMethod yX5_barred, Cond.selects RX5 yX5_barred yX5_barred, Cond.code yX5_barred cX5_barred 5 (some .int), Cond.methodLink RX5 76 yX0_hasFact, Cond.instanceMethod yX0_hasFact]
def wsL_law_r7 : List Cond := [Cond.selects RX0 yX0_hasFact yX0_hasFact, Cond.code yX0_hasFact cX0_hasFact 2 (some .boolean), Cond.methodLink RX5 80 yX0_areBarred, Cond.instanceMethod yX0_areBarred, Cond.selects RX0 yX0_areBarred yX0_areBarred, Cond.code yX0_areBarred cX0_areBarred 3 (some .boolean), Cond.methodLink RX5 84 yX0_bar, Cond.instanceMethod yX0_bar, Cond.selects RX0 yX0_bar yX0_bar, Cond.code yX0_bar cX0_bar 4 none, Cond.methodLink RX5 88 yX5_oneIf, Cond.static yX5_oneIf, Cond.code yX5_oneIf cX5_oneIf 1 (some .int), Cond.methodLink RL 22 yX6_barred, Cond.instanceMethod yX6_barred, Cond.selects RX6 yX6_barred yX6_barred, Cond.code yX6_barred cX6_barred 5 (some .int), Cond.methodLink RX6 79 yX6_isFact, Cond.instanceMethod yX6_isFact, Cond.selects RX6 yX6_isFact yX6_isFact, Cond.code yX6_isFact cX6_isFact 2 (some .boolean), Cond.methodLink RL 23 yX5_line, Cond.instanceMethod yX5_line, Cond.selects RX5 yX5_line yX5_line]
def wsL_law_r8 : List Cond := [Cond.code yX5_line cX5_line 5 (some .int), Cond.methodLink RX5 92 yX0_areFacts, Cond.instanceMethod yX0_areFacts, Cond.selects RX0 yX0_areFacts yX0_areFacts, Cond.code yX0_areFacts cX0_areFacts 2 (some .boolean), Cond.methodLink RX5 95 yX5_isRuling, Cond.static yX5_isRuling, Cond.code yX5_isRuling cX5_isRuling 1 (some .boolean), Cond.methodLink RX5 101 yX0_addLine, Cond.instanceMethod yX0_addLine, Cond.selects RX0 yX0_addLine yX0_addLine, Cond.code yX0_addLine cX0_addLine 5 (some .int), Cond.methodLink RL 27 yX6_line, Cond.instanceMethod yX6_line, Cond.selects RX6 yX6_line yX6_line, Cond.code yX6_line cX6_line 4 (some .int), Cond.methodLink RX6 83 yX6_allFacts, Cond.instanceMethod yX6_allFacts, Cond.selects RX6 yX6_allFacts yX6_allFacts, Cond.code yX6_allFacts cX6_allFacts 1 (some .int), Cond.methodLink RX6 87 yX6_isRuling, Cond.static yX6_isRuling, Cond.code yX6_isRuling cX6_isRuling 1 (some .boolean), Cond.methodLink RL 28 yX5_except]
def wsL_law_r9 : List Cond := [Cond.instanceMethod yX5_except, Cond.selects RX5 yX5_except yX5_except, Cond.code yX5_except cX5_except 3 (some .int), Cond.methodLink RX5 105 yX0_hasLine, Cond.instanceMethod yX0_hasLine, Cond.selects RX0 yX0_hasLine yX0_hasLine, Cond.code yX0_hasLine cX0_hasLine 2 (some .boolean), Cond.methodLink RX5 108 yX0_excepts, Cond.instanceMethod yX0_excepts, Cond.selects RX0 yX0_excepts yX0_excepts, Cond.code yX0_excepts cX0_excepts 3 (some .boolean), Cond.methodLink RX5 111 yX0_addException, Cond.instanceMethod yX0_addException, Cond.selects RX0 yX0_addException yX0_addException, Cond.code yX0_addException cX0_addException 3 none, Cond.methodLink RX5 119 yJ6_bitCount_0f7a4, Cond.static yJ6_bitCount_0f7a4, Cond.initialized RJ6, Cond.code yJ6_bitCount_0f7a4 cJ6_bitCount_0f7a4 1 (some .int), Cond.constant RJ6 265 (1431655765), Cond.constant RJ6 266 (858993459), Cond.constant RJ6 267 (252645135), Cond.methodLink RL 32 yX6_except, Cond.instanceMethod yX6_except]
def wsL_law_r10 : List Cond := [Cond.selects RX6 yX6_except yX6_except, Cond.code yX6_except cX6_except 3 (some .int), Cond.methodLink RX6 90 yX6_isLine, Cond.instanceMethod yX6_isLine, Cond.selects RX6 yX6_isLine yX6_isLine, Cond.code yX6_isLine cX6_isLine 2 (some .boolean), Cond.methodLink RX6 93 yX6_bits, Cond.static yX6_bits, Cond.code yX6_bits cX6_bits 3 (some .int), Cond.methodLink RL 33 yX5_repeal, Cond.instanceMethod yX5_repeal, Cond.selects RX5 yX5_repeal yX5_repeal, Cond.code yX5_repeal cX5_repeal 4 (some .int), Cond.methodLink RX5 125 yX0_isRepealed, Cond.instanceMethod yX0_isRepealed, Cond.selects RX0 yX0_isRepealed yX0_isRepealed, Cond.code yX0_isRepealed cX0_isRepealed 2 (some .boolean), Cond.methodLink RX5 128 yX0_repealedIfMended, Cond.instanceMethod yX0_repealedIfMended, Cond.selects RX0 yX0_repealedIfMended yX0_repealedIfMended, Cond.code yX0_repealedIfMended cX0_repealedIfMended 2 (some .int), Cond.methodLink RL 37 yX6_repeal, Cond.instanceMethod yX6_repeal, Cond.selects RX6 yX6_repeal yX6_repeal]
def wsL_law_r11 : List Cond := [Cond.code yX6_repeal cX6_repeal 4 (some .int), Cond.methodLink RL 38 yX5_about, Cond.instanceMethod yX5_about, Cond.selects RX5 yX5_about yX5_about, Cond.code yX5_about cX5_about 3 (some .int), Cond.methodLink RX5 140 yX0_namedBy, Cond.instanceMethod yX0_namedBy, Cond.selects RX0 yX0_namedBy yX0_namedBy, Cond.code yX0_namedBy cX0_namedBy 5 (some .int), Cond.methodLink RL 41 yX6_about, Cond.instanceMethod yX6_about, Cond.selects RX6 yX6_about yX6_about, Cond.code yX6_about cX6_about 3 (some .int), Cond.methodLink RX6 97 yX6_namedBy, Cond.instanceMethod yX6_namedBy, Cond.selects RX6 yX6_namedBy yX6_namedBy, Cond.code yX6_namedBy cX6_namedBy 5 (some .int), Cond.methodLink RL 42 yX5_holds, Cond.instanceMethod yX5_holds, Cond.selects RX5 yX5_holds yX5_holds, Cond.code yX5_holds cX5_holds 3 (some .int), Cond.methodLink RX5 143 yX0_hasKind, Cond.instanceMethod yX0_hasKind, Cond.selects RX0 yX0_hasKind yX0_hasKind]
def wsL_law_r12 : List Cond := [Cond.code yX0_hasKind cX0_hasKind 2 (some .boolean), Cond.methodLink RX5 146 yX0_holding, Cond.methodLink RX5 150 yX5_hasBit, Cond.methodLink RL 45 yX6_holds, Cond.instanceMethod yX6_holds, Cond.selects RX6 yX6_holds yX6_holds, Cond.code yX6_holds cX6_holds 3 (some .int), Cond.methodLink RX6 100 yX6_isKind, Cond.instanceMethod yX6_isKind, Cond.selects RX6 yX6_isKind yX6_isKind, Cond.code yX6_isKind cX6_isKind 4 (some .boolean), Cond.methodLink RX6 103 yX6_holding, Cond.instanceMethod yX6_holding, Cond.selects RX6 yX6_holding yX6_holding, Cond.code yX6_holding cX6_holding 5 (some .int), Cond.methodLink RL 46 yX5_law, Cond.instanceMethod yX5_law, Cond.selects RX5 yX5_law yX5_law, Cond.code yX5_law cX5_law 3 (some .int), Cond.methodLink RX5 156 yX3_rulingFor, Cond.instanceMethod yX3_rulingFor, Cond.selects RX3 yX3_rulingFor yX3_rulingFor, Cond.code yX3_rulingFor cX3_rulingFor 2 (some .int), Cond.methodLink RX3 29 yX3_covers]
def wsL_law_r13 : List Cond := [Cond.instanceMethod yX3_covers, Cond.selects RX3 yX3_covers yX3_covers, Cond.code yX3_covers cX3_covers 2 (some .boolean), Cond.methodLink RL 49 yX6_law, Cond.instanceMethod yX6_law, Cond.selects RX6 yX6_law yX6_law, Cond.code yX6_law cX6_law 3 (some .int), Cond.methodLink RX6 106 yX6_lineFor, Cond.instanceMethod yX6_lineFor, Cond.selects RX6 yX6_lineFor yX6_lineFor, Cond.code yX6_lineFor cX6_lineFor 5 (some .int), Cond.methodLink RX6 109 yX6_rulingFor, Cond.instanceMethod yX6_rulingFor, Cond.selects RX6 yX6_rulingFor yX6_rulingFor, Cond.code yX6_rulingFor cX6_rulingFor 3 (some .int), Cond.methodLink RL 50 yX5_open, Cond.instanceMethod yX5_open, Cond.selects RX5 yX5_open yX5_open, Cond.code yX5_open cX5_open 4 (some .int), Cond.methodLink RX5 162 yX3_covers, Cond.methodLink RL 53 yX6_open, Cond.instanceMethod yX6_open, Cond.selects RX6 yX6_open yX6_open, Cond.code yX6_open cX6_open 4 (some .int)]
def wsL_law_r14 : List Cond := [Cond.methodLink RL 54 yX5_idle, Cond.instanceMethod yX5_idle, Cond.selects RX5 yX5_idle yX5_idle, Cond.code yX5_idle cX5_idle 2 (some .int), Cond.methodLink RX5 165 yX5_turnedKinds, Cond.instanceMethod yX5_turnedKinds, Cond.selects RX5 yX5_turnedKinds yX5_turnedKinds, Cond.code yX5_turnedKinds cX5_turnedKinds 3 (some .int), Cond.methodLink RX5 246 yX3_differFor, Cond.instanceMethod yX3_differFor, Cond.selects RX3 yX3_differFor yX3_differFor, Cond.code yX3_differFor cX3_differFor 3 (some .boolean), Cond.methodLink RX3 36 yX3_rulingFor, Cond.methodLink RL 57 yX6_idle, Cond.instanceMethod yX6_idle, Cond.selects RX6 yX6_idle yX6_idle, Cond.code yX6_idle cX6_idle 2 (some .int), Cond.methodLink RX6 115 yX6_turnedKinds, Cond.instanceMethod yX6_turnedKinds, Cond.selects RX6 yX6_turnedKinds yX6_turnedKinds, Cond.code yX6_turnedKinds cX6_turnedKinds 4 (some .int), Cond.methodLink RX6 112 yX6_bound, Cond.instanceMethod yX6_bound, Cond.selects RX6 yX6_bound yX6_bound]
def wsL_law_r15 : List Cond := [Cond.code yX6_bound cX6_bound 2 (some .int), Cond.methodLink RL 58 yX5_moment, Cond.instanceMethod yX5_moment, Cond.selects RX5 yX5_moment yX5_moment, Cond.code yX5_moment cX5_moment 1 (some .int), Cond.methodLink RX5 169 yX4_add, Cond.instanceMethod yX4_add, Cond.selects RX4 yX4_add yX4_add, Cond.code yX4_add cX4_add 3 (some .int), Cond.fieldLink RX4 21 "BallCourt$Moments" "count" "I", Cond.methodLink RL 62 yX6_moment, Cond.instanceMethod yX6_moment, Cond.selects RX6 yX6_moment yX6_moment, Cond.code yX6_moment cX6_moment 2 (some .int), Cond.methodLink RL 63 yX5_tell, Cond.instanceMethod yX5_tell, Cond.selects RX5 yX5_tell yX5_tell, Cond.code yX5_tell cX5_tell 5 (some .int), Cond.methodLink RX5 172 yX4_has, Cond.instanceMethod yX4_has, Cond.selects RX4 yX4_has yX4_has, Cond.code yX4_has cX4_has 2 (some .boolean), Cond.methodLink RX5 175 yX4_hear, Cond.instanceMethod yX4_hear]
def wsL_law_r16 : List Cond := [Cond.selects RX4 yX4_hear yX4_hear, Cond.code yX4_hear cX4_hear 7 (some .int), Cond.methodLink RL 67 yX6_tell, Cond.instanceMethod yX6_tell, Cond.selects RX6 yX6_tell yX6_tell, Cond.code yX6_tell cX6_tell 7 (some .int), Cond.methodLink RX6 118 yX6_isMoment, Cond.instanceMethod yX6_isMoment, Cond.selects RX6 yX6_isMoment yX6_isMoment, Cond.code yX6_isMoment cX6_isMoment 2 (some .boolean), Cond.methodLink RL 68 yX5_known, Cond.instanceMethod yX5_known, Cond.selects RX5 yX5_known yX5_known, Cond.code yX5_known cX5_known 5 (some .int), Cond.methodLink RX5 179 yX4_knownSo, Cond.instanceMethod yX4_knownSo, Cond.selects RX4 yX4_knownSo yX4_knownSo, Cond.code yX4_knownSo cX4_knownSo 2 (some .int), Cond.methodLink RX4 29 yX4_ofAll, Cond.static yX4_ofAll, Cond.code yX4_ofAll cX4_ofAll 4 (some .int), Cond.methodLink RX5 182 yX4_knownNotSo, Cond.instanceMethod yX4_knownNotSo, Cond.selects RX4 yX4_knownNotSo yX4_knownNotSo]
def wsL_law_r17 : List Cond := [Cond.code yX4_knownNotSo cX4_knownNotSo 2 (some .int), Cond.methodLink RX5 185 yX0_allFacts, Cond.instanceMethod yX0_allFacts, Cond.selects RX0 yX0_allFacts yX0_allFacts, Cond.code yX0_allFacts cX0_allFacts 1 (some .int), Cond.methodLink RX5 188 yX0_countMayBe, Cond.instanceMethod yX0_countMayBe, Cond.selects RX0 yX0_countMayBe yX0_countMayBe, Cond.code yX0_countMayBe cX0_countMayBe 5 (some .int), Cond.methodLink RX0 58 yX0_mayBe, Cond.instanceMethod yX0_mayBe, Cond.selects RX0 yX0_mayBe yX0_mayBe, Cond.code yX0_mayBe cX0_mayBe 4 (some .boolean), Cond.methodLink RL 71 yX6_known, Cond.instanceMethod yX6_known, Cond.selects RX6 yX6_known yX6_known, Cond.code yX6_known cX6_known 3 (some .int), Cond.methodLink RX6 121 yX6_so, Cond.instanceMethod yX6_so, Cond.selects RX6 yX6_so yX6_so, Cond.code yX6_so cX6_so 4 (some .int), Cond.methodLink RX6 124 yX6_notSo, Cond.instanceMethod yX6_notSo, Cond.selects RX6 yX6_notSo yX6_notSo]
def wsL_law_r18 : List Cond := [Cond.code yX6_notSo cX6_notSo 4 (some .int), Cond.methodLink RX6 131 yX6_doubt, Cond.instanceMethod yX6_doubt, Cond.selects RX6 yX6_doubt yX6_doubt, Cond.code yX6_doubt cX6_doubt 2 (some .int), Cond.methodLink RX6 134 yX6_mayBes, Cond.instanceMethod yX6_mayBes, Cond.selects RX6 yX6_mayBes yX6_mayBes, Cond.code yX6_mayBes cX6_mayBes 5 (some .int), Cond.methodLink RX6 127 yX6_mayBe, Cond.instanceMethod yX6_mayBe, Cond.selects RX6 yX6_mayBe yX6_mayBe, Cond.code yX6_mayBe cX6_mayBe 3 (some .boolean), Cond.methodLink RL 72 yX5_proof, Cond.instanceMethod yX5_proof, Cond.selects RX5 yX5_proof yX5_proof, Cond.code yX5_proof cX5_proof 6 (some .int), Cond.methodLink RX5 191 yX3_countMayBeRuled, Cond.instanceMethod yX3_countMayBeRuled, Cond.selects RX3 yX3_countMayBeRuled yX3_countMayBeRuled, Cond.code yX3_countMayBeRuled cX3_countMayBeRuled 6 (some .int), Cond.methodLink RX3 40 yX0_mayBe, Cond.methodLink RL 75 yX6_proof, Cond.instanceMethod yX6_proof]
def wsL_law_r19 : List Cond := [Cond.selects RX6 yX6_proof yX6_proof, Cond.code yX6_proof cX6_proof 4 (some .int), Cond.methodLink RL 76 yX5_binds, Cond.instanceMethod yX5_binds, Cond.selects RX5 yX5_binds yX5_binds, Cond.code yX5_binds cX5_binds 2 (some .int), Cond.methodLink RX5 194 yX1_firstThatBinds, Cond.instanceMethod yX1_firstThatBinds, Cond.selects RX1 yX1_firstThatBinds yX1_firstThatBinds, Cond.code yX1_firstThatBinds cX1_firstThatBinds 6 (some .int), Cond.fieldLink RX1 21 "BallCourt$Cases" "count" "I", Cond.methodLink RL 79 yX6_binds, Cond.instanceMethod yX6_binds, Cond.selects RX6 yX6_binds yX6_binds, Cond.code yX6_binds cX6_binds 2 (some .int), Cond.methodLink RX6 138 yX6_bindingCase, Cond.instanceMethod yX6_bindingCase, Cond.selects RX6 yX6_bindingCase yX6_bindingCase, Cond.code yX6_bindingCase cX6_bindingCase 4 (some .int), Cond.methodLink RL 80 yX5_verdict, Cond.instanceMethod yX5_verdict, Cond.selects RX5 yX5_verdict yX5_verdict, Cond.code yX5_verdict cX5_verdict 2 (some .int), Cond.methodLink RX5 197 yX5_verdictUnder]
def wsL_law_r20 : List Cond := [Cond.instanceMethod yX5_verdictUnder, Cond.selects RX5 yX5_verdictUnder yX5_verdictUnder, Cond.code yX5_verdictUnder cX5_verdictUnder 6 (some .int), Cond.methodLink RX5 243 yX3_rulingForAll, Cond.instanceMethod yX3_rulingForAll, Cond.selects RX3 yX3_rulingForAll yX3_rulingForAll, Cond.code yX3_rulingForAll cX3_rulingForAll 6 (some .int), Cond.methodLink RL 83 yX6_verdict, Cond.instanceMethod yX6_verdict, Cond.selects RX6 yX6_verdict yX6_verdict, Cond.code yX6_verdict cX6_verdict 2 (some .int), Cond.methodLink RX6 141 yX6_verdictOf, Cond.instanceMethod yX6_verdictOf, Cond.selects RX6 yX6_verdictOf yX6_verdictOf, Cond.code yX6_verdictOf cX6_verdictOf 5 (some .int), Cond.methodLink RL 84 yX5_rule, Cond.instanceMethod yX5_rule, Cond.selects RX5 yX5_rule yX5_rule, Cond.code yX5_rule cX5_rule 4 (some .int), Cond.methodLink RL 87 yX6_rule, Cond.instanceMethod yX6_rule, Cond.selects RX6 yX6_rule yX6_rule, Cond.code yX6_rule cX6_rule 4 (some .int), Cond.methodLink RL 88 yX5_make]
def wsL_law_r21 : List Cond := [Cond.instanceMethod yX5_make, Cond.selects RX5 yX5_make yX5_make, Cond.code yX5_make cX5_make 5 (some .int), Cond.methodLink RX5 204 yX1_add, Cond.instanceMethod yX1_add, Cond.selects RX1 yX1_add yX1_add, Cond.code yX1_add cX1_add 5 (some .int), Cond.methodLink RL 91 yX6_make, Cond.instanceMethod yX6_make, Cond.selects RX6 yX6_make yX6_make, Cond.code yX6_make cX6_make 4 (some .int), Cond.methodLink RL 92 yX5_ofCase, Cond.instanceMethod yX5_ofCase, Cond.selects RX5 yX5_ofCase yX5_ofCase, Cond.code yX5_ofCase cX5_ofCase 3 (some .int), Cond.methodLink RX5 206 yX1_has, Cond.instanceMethod yX1_has, Cond.selects RX1 yX1_has yX1_has, Cond.code yX1_has cX1_has 2 (some .boolean), Cond.methodLink RL 95 yX6_ofCase, Cond.instanceMethod yX6_ofCase, Cond.selects RX6 yX6_ofCase yX6_ofCase, Cond.code yX6_ofCase cX6_ofCase 3 (some .int), Cond.methodLink RL 96 yX5_turned]
def wsL_law_r22 : List Cond := [Cond.instanceMethod yX5_turned, Cond.selects RX5 yX5_turned yX5_turned, Cond.code yX5_turned cX5_turned 3 (some .int), Cond.methodLink RL 99 yX6_turned, Cond.instanceMethod yX6_turned, Cond.selects RX6 yX6_turned yX6_turned, Cond.code yX6_turned cX6_turned 3 (some .int), Cond.methodLink RL 100 yX5_mend, Cond.instanceMethod yX5_mend, Cond.selects RX5 yX5_mend yX5_mend, Cond.code yX5_mend cX5_mend 3 (some .int), Cond.methodLink RX5 214 yX5_casesOfTurnedKinds, Cond.instanceMethod yX5_casesOfTurnedKinds, Cond.selects RX5 yX5_casesOfTurnedKinds yX5_casesOfTurnedKinds, Cond.code yX5_casesOfTurnedKinds cX5_casesOfTurnedKinds 3 (some .int), Cond.methodLink RX5 217 yX5_turnedVerdicts, Cond.instanceMethod yX5_turnedVerdicts, Cond.selects RX5 yX5_turnedVerdicts yX5_turnedVerdicts, Cond.code yX5_turnedVerdicts cX5_turnedVerdicts 3 (some .int), Cond.methodLink RL 103 yX6_mend, Cond.instanceMethod yX6_mend, Cond.selects RX6 yX6_mend yX6_mend, Cond.code yX6_mend cX6_mend 6 (some .int), Cond.methodLink RL 104 yX5_goal]
def wsL_law_r23 : List Cond := [Cond.instanceMethod yX5_goal, Cond.selects RX5 yX5_goal yX5_goal, Cond.code yX5_goal cX5_goal 3 (some .int), Cond.methodLink RL 107 yX6_goal, Cond.instanceMethod yX6_goal, Cond.selects RX6 yX6_goal yX6_goal, Cond.code yX6_goal cX6_goal 3 (some .int), Cond.methodLink RL 108 yX5_score, Cond.instanceMethod yX5_score, Cond.selects RX5 yX5_score yX5_score, Cond.code yX5_score cX5_score 4 (some .int), Cond.methodLink RX5 220 yX2_begin, Cond.instanceMethod yX2_begin, Cond.selects RX2 yX2_begin yX2_begin, Cond.code yX2_begin cX2_begin 2 none, Cond.fieldLink RX2 9 "BallCourt$Game" "toWin" "I", Cond.fieldLink RX2 15 "BallCourt$Game" "hoopsOf0" "I", Cond.fieldLink RX2 18 "BallCourt$Game" "hoopsOf1" "I", Cond.fieldLink RX2 21 "BallCourt$Game" "striker" "I", Cond.methodLink RX5 221 yX2_play, Cond.instanceMethod yX2_play, Cond.selects RX2 yX2_play yX2_play, Cond.code yX2_play cX2_play 2 none, Cond.methodLink RX2 24 yX2_winner]
def wsL_law_r24 : List Cond := [Cond.instanceMethod yX2_winner, Cond.selects RX2 yX2_winner yX2_winner, Cond.code yX2_winner cX2_winner 1 (some .int), Cond.methodLink RX2 28 yX2_giveHoop, Cond.instanceMethod yX2_giveHoop, Cond.selects RX2 yX2_giveHoop yX2_giveHoop, Cond.code yX2_giveHoop cX2_giveHoop 2 none, Cond.methodLink RX5 233 yX2_winner, Cond.methodLink RL 111 yX6_score, Cond.instanceMethod yX6_score, Cond.selects RX6 yX6_score yX6_score, Cond.code yX6_score cX6_score 4 (some .int), Cond.methodLink RX6 144 yX6_begin, Cond.instanceMethod yX6_begin, Cond.selects RX6 yX6_begin yX6_begin, Cond.code yX6_begin cX6_begin 1 none, Cond.methodLink RX6 147 yX6_play, Cond.instanceMethod yX6_play, Cond.selects RX6 yX6_play yX6_play, Cond.code yX6_play cX6_play 3 none, Cond.methodLink RL 112 yX5_appeal, Cond.instanceMethod yX5_appeal, Cond.selects RX5 yX5_appeal yX5_appeal, Cond.code yX5_appeal cX5_appeal 5 (some .int)]
def wsL_law_r25 : List Cond := [Cond.methodLink RX5 236 yX2_standsAs, Cond.instanceMethod yX2_standsAs, Cond.selects RX2 yX2_standsAs yX2_standsAs, Cond.code yX2_standsAs cX2_standsAs 2 (some .boolean), Cond.methodLink RL 115 yX6_appeal, Cond.instanceMethod yX6_appeal, Cond.selects RX6 yX6_appeal yX6_appeal, Cond.code yX6_appeal cX6_appeal 4 (some .int), Cond.methodLink RX6 151 yX6_packed, Cond.instanceMethod yX6_packed, Cond.selects RX6 yX6_packed yX6_packed, Cond.code yX6_packed cX6_packed 1 (some .int), Cond.methodLink RL 116 yX5_told, Cond.instanceMethod yX5_told, Cond.selects RX5 yX5_told yX5_told, Cond.code yX5_told cX5_told 2 (some .int), Cond.methodLink RX5 240 yX5_coveredKinds, Cond.instanceMethod yX5_coveredKinds, Cond.selects RX5 yX5_coveredKinds yX5_coveredKinds, Cond.code yX5_coveredKinds cX5_coveredKinds 3 (some .int), Cond.methodLink RL 119 yX6_told, Cond.instanceMethod yX6_told, Cond.selects RX6 yX6_told yX6_told, Cond.code yX6_told cX6_told 2 (some .int)]
def wsL_law_r26 : List Cond := [Cond.methodLink RX6 154 yX6_kinds, Cond.instanceMethod yX6_kinds, Cond.selects RX6 yX6_kinds yX6_kinds, Cond.code yX6_kinds cX6_kinds 4 (some .int)]
def wsL_law : List Cond := (wsL_law_r1 ++ (wsL_law_r2 ++ (wsL_law_r3 ++ (wsL_law_r4 ++ (wsL_law_r5 ++ (wsL_law_r6 ++ (wsL_law_r7 ++ (wsL_law_r8 ++ (wsL_law_r9 ++ (wsL_law_r10 ++ (wsL_law_r11 ++ (wsL_law_r12 ++ (wsL_law_r13 ++ (wsL_law_r14 ++ (wsL_law_r15 ++ (wsL_law_r16 ++ (wsL_law_r17 ++ (wsL_law_r18 ++ (wsL_law_r19 ++ (wsL_law_r20 ++ (wsL_law_r21 ++ (wsL_law_r22 ++ (wsL_law_r23 ++ (wsL_law_r24 ++ (wsL_law_r25 ++ wsL_law_r26))))))))))))))))))))))))) ++ wsX50 ++ wsX60 ++ wsX00 ++ wsX30 ++ wsX40 ++ wsX10 ++ wsX20 ++ ([] : List Cond)
theorem il_X0 : ∀ w ∈ wsX00, w ∈ lw_tbl := by
  show ∀ w ∈ (List.range 11).map (u_lay RX0 TX0), w ∈ lw_tbl
  intro w hw
  obtain ⟨k, hk, rfl⟩ := List.mem_map.mp hw
  have hk := List.mem_range.mp hk
  rcases (show k = 0 ∨ k = 1 ∨ k = 2 ∨ k = 3 ∨ k = 4 ∨ k = 5 ∨ k = 6 ∨ k = 7 ∨ k = 8 ∨ k = 9 ∨ k = 10 by omega) with rfl | rfl | rfl | rfl | rfl | rfl | rfl | rfl | rfl | rfl | rfl
  · exact List.mem_of_getElem? (i := 75) (by decide +kernel)
  · exact List.mem_of_getElem? (i := 77) (by decide +kernel)
  · exact List.mem_of_getElem? (i := 79) (by decide +kernel)
  · exact List.mem_of_getElem? (i := 81) (by decide +kernel)
  · exact List.mem_of_getElem? (i := 83) (by decide +kernel)
  · exact List.mem_of_getElem? (i := 85) (by decide +kernel)
  · exact List.mem_of_getElem? (i := 87) (by decide +kernel)
  · exact List.mem_of_getElem? (i := 89) (by decide +kernel)
  · exact List.mem_of_getElem? (i := 91) (by decide +kernel)
  · exact List.mem_of_getElem? (i := 93) (by decide +kernel)
  · exact List.mem_of_getElem? (i := 95) (by decide +kernel)
theorem il_X1 : ∀ w ∈ wsX10, w ∈ lw_tbl := by
  show ∀ w ∈ (List.range 4).map (u_lay RX1 TX1), w ∈ lw_tbl
  intro w hw
  obtain ⟨k, hk, rfl⟩ := List.mem_map.mp hw
  have hk := List.mem_range.mp hk
  rcases (show k = 0 ∨ k = 1 ∨ k = 2 ∨ k = 3 by omega) with rfl | rfl | rfl | rfl
  · exact List.mem_of_getElem? (i := 149) (by decide +kernel)
  · exact List.mem_of_getElem? (i := 151) (by decide +kernel)
  · exact List.mem_of_getElem? (i := 153) (by decide +kernel)
  · exact List.mem_of_getElem? (i := 155) (by decide +kernel)
theorem il_X2 : ∀ w ∈ wsX20, w ∈ lw_tbl := by
  show ∀ w ∈ (List.range 4).map (u_lay RX2 TX2), w ∈ lw_tbl
  intro w hw
  obtain ⟨k, hk, rfl⟩ := List.mem_map.mp hw
  have hk := List.mem_range.mp hk
  rcases (show k = 0 ∨ k = 1 ∨ k = 2 ∨ k = 3 by omega) with rfl | rfl | rfl | rfl
  · exact List.mem_of_getElem? (i := 171) (by decide +kernel)
  · exact List.mem_of_getElem? (i := 173) (by decide +kernel)
  · exact List.mem_of_getElem? (i := 175) (by decide +kernel)
  · exact List.mem_of_getElem? (i := 177) (by decide +kernel)
theorem il_X3 : ∀ w ∈ wsX30, w ∈ lw_tbl := by
  show ∀ w ∈ (List.range 2).map (u_lay RX3 TX3), w ∈ lw_tbl
  intro w hw
  obtain ⟨k, hk, rfl⟩ := List.mem_map.mp hw
  have hk := List.mem_range.mp hk
  rcases (show k = 0 ∨ k = 1 by omega) with rfl | rfl
  · exact List.mem_of_getElem? (i := 109) (by decide +kernel)
  · exact List.mem_of_getElem? (i := 111) (by decide +kernel)
theorem il_X4 : ∀ w ∈ wsX40, w ∈ lw_tbl := by
  show ∀ w ∈ (List.range 4).map (u_lay RX4 TX4), w ∈ lw_tbl
  intro w hw
  obtain ⟨k, hk, rfl⟩ := List.mem_map.mp hw
  have hk := List.mem_range.mp hk
  rcases (show k = 0 ∨ k = 1 ∨ k = 2 ∨ k = 3 by omega) with rfl | rfl | rfl | rfl
  · exact List.mem_of_getElem? (i := 126) (by decide +kernel)
  · exact List.mem_of_getElem? (i := 128) (by decide +kernel)
  · exact List.mem_of_getElem? (i := 130) (by decide +kernel)
  · exact List.mem_of_getElem? (i := 132) (by decide +kernel)
theorem il_X5 : ∀ w ∈ wsX50, w ∈ lw_tbl := by
  show ∀ w ∈ (List.range 8).map (u_lay RX5 TX5), w ∈ lw_tbl
  intro w hw
  obtain ⟨k, hk, rfl⟩ := List.mem_map.mp hw
  have hk := List.mem_range.mp hk
  rcases (show k = 0 ∨ k = 1 ∨ k = 2 ∨ k = 3 ∨ k = 4 ∨ k = 5 ∨ k = 6 ∨ k = 7 by omega) with rfl | rfl | rfl | rfl | rfl | rfl | rfl | rfl
  · exact List.mem_of_getElem? (i := 219) (by decide +kernel)
  · exact List.mem_of_getElem? (i := 221) (by decide +kernel)
  · exact List.mem_of_getElem? (i := 223) (by decide +kernel)
  · exact List.mem_of_getElem? (i := 225) (by decide +kernel)
  · exact List.mem_of_getElem? (i := 227) (by decide +kernel)
  · exact List.mem_of_getElem? (i := 229) (by decide +kernel)
  · exact List.mem_of_getElem? (i := 231) (by decide +kernel)
  · exact List.mem_of_getElem? (i := 233) (by decide +kernel)
theorem il_X6 : ∀ w ∈ wsX60, w ∈ lw_tbl := by
  show ∀ w ∈ (List.range 21).map (u_lay RX6 TX6), w ∈ lw_tbl
  intro w hw
  obtain ⟨k, hk, rfl⟩ := List.mem_map.mp hw
  have hk := List.mem_range.mp hk
  rcases (show k = 0 ∨ k = 1 ∨ k = 2 ∨ k = 3 ∨ k = 4 ∨ k = 5 ∨ k = 6 ∨ k = 7 ∨ k = 8 ∨ k = 9 ∨ k = 10 ∨ k = 11 ∨ k = 12 ∨ k = 13 ∨ k = 14 ∨ k = 15 ∨ k = 16 ∨ k = 17 ∨ k = 18 ∨ k = 19 ∨ k = 20 by omega) with rfl | rfl | rfl | rfl | rfl | rfl | rfl | rfl | rfl | rfl | rfl | rfl | rfl | rfl | rfl | rfl | rfl | rfl | rfl | rfl | rfl
  · exact List.mem_of_getElem? (i := 537) (by decide +kernel)
  · exact List.mem_of_getElem? (i := 539) (by decide +kernel)
  · exact List.mem_of_getElem? (i := 541) (by decide +kernel)
  · exact List.mem_of_getElem? (i := 543) (by decide +kernel)
  · exact List.mem_of_getElem? (i := 545) (by decide +kernel)
  · exact List.mem_of_getElem? (i := 547) (by decide +kernel)
  · exact List.mem_of_getElem? (i := 549) (by decide +kernel)
  · exact List.mem_of_getElem? (i := 551) (by decide +kernel)
  · exact List.mem_of_getElem? (i := 553) (by decide +kernel)
  · exact List.mem_of_getElem? (i := 555) (by decide +kernel)
  · exact List.mem_of_getElem? (i := 557) (by decide +kernel)
  · exact List.mem_of_getElem? (i := 559) (by decide +kernel)
  · exact List.mem_of_getElem? (i := 561) (by decide +kernel)
  · exact List.mem_of_getElem? (i := 563) (by decide +kernel)
  · exact List.mem_of_getElem? (i := 565) (by decide +kernel)
  · exact List.mem_of_getElem? (i := 567) (by decide +kernel)
  · exact List.mem_of_getElem? (i := 569) (by decide +kernel)
  · exact List.mem_of_getElem? (i := 571) (by decide +kernel)
  · exact List.mem_of_getElem? (i := 573) (by decide +kernel)
  · exact List.mem_of_getElem? (i := 575) (by decide +kernel)
  · exact List.mem_of_getElem? (i := 577) (by decide +kernel)
theorem il_r1 : ∀ w ∈ wsL_law_r1, w ∈ lw_tbl := List.forall_mem_cons.mpr ⟨List.mem_of_getElem? (i := 40) (by decide +kernel), List.forall_mem_cons.mpr ⟨List.mem_of_getElem? (i := 41) (by decide +kernel), List.forall_mem_cons.mpr ⟨List.mem_of_getElem? (i := 32) (by decide +kernel), List.forall_mem_cons.mpr ⟨List.mem_of_getElem? (i := 510) (by decide +kernel), List.forall_mem_cons.mpr ⟨List.mem_of_getElem? (i := 511) (by decide +kernel), List.forall_mem_cons.mpr ⟨List.mem_of_getElem? (i := 38) (by decide +kernel), List.forall_mem_cons.mpr ⟨List.mem_of_getElem? (i := 42) (by decide +kernel), List.forall_mem_cons.mpr ⟨List.mem_of_getElem? (i := 43) (by decide +kernel), List.forall_mem_cons.mpr ⟨List.mem_of_getElem? (i := 44) (by decide +kernel), List.forall_mem_cons.mpr ⟨List.mem_of_getElem? (i := 45) (by decide +kernel), List.forall_mem_cons.mpr ⟨List.mem_of_getElem? (i := 46) (by decide +kernel), List.forall_mem_cons.mpr ⟨List.mem_of_getElem? (i := 47) (by decide +kernel), List.forall_mem_cons.mpr ⟨List.mem_of_getElem? (i := 48) (by decide +kernel), List.forall_mem_cons.mpr ⟨List.mem_of_getElem? (i := 49) (by decide +kernel), List.forall_mem_cons.mpr ⟨List.mem_of_getElem? (i := 33) (by decide +kernel), List.forall_mem_cons.mpr ⟨List.mem_of_getElem? (i := 211) (by decide +kernel), List.forall_mem_cons.mpr ⟨List.mem_of_getElem? (i := 100) (by decide +kernel), List.forall_mem_cons.mpr ⟨List.mem_of_getElem? (i := 101) (by decide +kernel), List.forall_mem_cons.mpr ⟨List.mem_of_getElem? (i := 34) (by decide +kernel), List.forall_mem_cons.mpr ⟨List.mem_of_getElem? (i := 212) (by decide +kernel), List.forall_mem_cons.mpr ⟨List.mem_of_getElem? (i := 213) (by decide +kernel), List.forall_mem_cons.mpr ⟨List.mem_of_getElem? (i := 114) (by decide +kernel), List.forall_mem_cons.mpr ⟨List.mem_of_getElem? (i := 115) (by decide +kernel), List.forall_mem_cons.mpr ⟨List.mem_of_getElem? (i := 35) (by decide +kernel), fun _ h => absurd h List.not_mem_nil⟩⟩⟩⟩⟩⟩⟩⟩⟩⟩⟩⟩⟩⟩⟩⟩⟩⟩⟩⟩⟩⟩⟩⟩
theorem il_r2 : ∀ w ∈ wsL_law_r2, w ∈ lw_tbl := List.forall_mem_cons.mpr ⟨List.mem_of_getElem? (i := 214) (by decide +kernel), List.forall_mem_cons.mpr ⟨List.mem_of_getElem? (i := 135) (by decide +kernel), List.forall_mem_cons.mpr ⟨List.mem_of_getElem? (i := 136) (by decide +kernel), List.forall_mem_cons.mpr ⟨List.mem_of_getElem? (i := 36) (by decide +kernel), List.forall_mem_cons.mpr ⟨List.mem_of_getElem? (i := 215) (by decide +kernel), List.forall_mem_cons.mpr ⟨List.mem_of_getElem? (i := 158) (by decide +kernel), List.forall_mem_cons.mpr ⟨List.mem_of_getElem? (i := 159) (by decide +kernel), List.forall_mem_cons.mpr ⟨List.mem_of_getElem? (i := 37) (by decide +kernel), List.forall_mem_cons.mpr ⟨List.mem_of_getElem? (i := 216) (by decide +kernel), List.forall_mem_cons.mpr ⟨List.mem_of_getElem? (i := 217) (by decide +kernel), List.forall_mem_cons.mpr ⟨List.mem_of_getElem? (i := 218) (by decide +kernel), List.forall_mem_cons.mpr ⟨List.mem_of_getElem? (i := 51) (by decide +kernel), List.forall_mem_cons.mpr ⟨List.mem_of_getElem? (i := 52) (by decide +kernel), List.forall_mem_cons.mpr ⟨List.mem_of_getElem? (i := 53) (by decide +kernel), List.forall_mem_cons.mpr ⟨List.mem_of_getElem? (i := 98) (by decide +kernel), List.forall_mem_cons.mpr ⟨List.mem_of_getElem? (i := 59) (by decide +kernel), List.forall_mem_cons.mpr ⟨List.mem_of_getElem? (i := 99) (by decide +kernel), List.forall_mem_cons.mpr ⟨List.mem_of_getElem? (i := 60) (by decide +kernel), List.forall_mem_cons.mpr ⟨List.mem_of_getElem? (i := 66) (by decide +kernel), List.forall_mem_cons.mpr ⟨List.mem_of_getElem? (i := 68) (by decide +kernel), List.forall_mem_cons.mpr ⟨List.mem_of_getElem? (i := 70) (by decide +kernel), List.forall_mem_cons.mpr ⟨List.mem_of_getElem? (i := 73) (by decide +kernel), List.forall_mem_cons.mpr ⟨List.mem_of_getElem? (i := 102) (by decide +kernel), List.forall_mem_cons.mpr ⟨List.mem_of_getElem? (i := 103) (by decide +kernel), fun _ h => absurd h List.not_mem_nil⟩⟩⟩⟩⟩⟩⟩⟩⟩⟩⟩⟩⟩⟩⟩⟩⟩⟩⟩⟩⟩⟩⟩⟩
theorem il_r3 : ∀ w ∈ wsL_law_r3, w ∈ lw_tbl := List.forall_mem_cons.mpr ⟨List.mem_of_getElem? (i := 104) (by decide +kernel), List.forall_mem_cons.mpr ⟨List.mem_of_getElem? (i := 105) (by decide +kernel), List.forall_mem_cons.mpr ⟨List.mem_of_getElem? (i := 107) (by decide +kernel), List.forall_mem_cons.mpr ⟨List.mem_of_getElem? (i := 106) (by decide +kernel), List.forall_mem_cons.mpr ⟨List.mem_of_getElem? (i := 117) (by decide +kernel), List.forall_mem_cons.mpr ⟨List.mem_of_getElem? (i := 118) (by decide +kernel), List.forall_mem_cons.mpr ⟨List.mem_of_getElem? (i := 119) (by decide +kernel), List.forall_mem_cons.mpr ⟨List.mem_of_getElem? (i := 122) (by decide +kernel), List.forall_mem_cons.mpr ⟨List.mem_of_getElem? (i := 123) (by decide +kernel), List.forall_mem_cons.mpr ⟨List.mem_of_getElem? (i := 124) (by decide +kernel), List.forall_mem_cons.mpr ⟨List.mem_of_getElem? (i := 138) (by decide +kernel), List.forall_mem_cons.mpr ⟨List.mem_of_getElem? (i := 139) (by decide +kernel), List.forall_mem_cons.mpr ⟨List.mem_of_getElem? (i := 140) (by decide +kernel), List.forall_mem_cons.mpr ⟨List.mem_of_getElem? (i := 143) (by decide +kernel), List.forall_mem_cons.mpr ⟨List.mem_of_getElem? (i := 145) (by decide +kernel), List.forall_mem_cons.mpr ⟨List.mem_of_getElem? (i := 147) (by decide +kernel), List.forall_mem_cons.mpr ⟨List.mem_of_getElem? (i := 161) (by decide +kernel), List.forall_mem_cons.mpr ⟨List.mem_of_getElem? (i := 162) (by decide +kernel), List.forall_mem_cons.mpr ⟨List.mem_of_getElem? (i := 163) (by decide +kernel), List.forall_mem_cons.mpr ⟨List.mem_of_getElem? (i := 180) (by decide +kernel), List.forall_mem_cons.mpr ⟨List.mem_of_getElem? (i := 182) (by decide +kernel), List.forall_mem_cons.mpr ⟨List.mem_of_getElem? (i := 0) (by decide +kernel), List.forall_mem_cons.mpr ⟨List.mem_of_getElem? (i := 183) (by decide +kernel), List.forall_mem_cons.mpr ⟨List.mem_of_getElem? (i := 184) (by decide +kernel), fun _ h => absurd h List.not_mem_nil⟩⟩⟩⟩⟩⟩⟩⟩⟩⟩⟩⟩⟩⟩⟩⟩⟩⟩⟩⟩⟩⟩⟩⟩
theorem il_r4 : ∀ w ∈ wsL_law_r4, w ∈ lw_tbl := List.forall_mem_cons.mpr ⟨List.mem_of_getElem? (i := 185) (by decide +kernel), List.forall_mem_cons.mpr ⟨List.mem_of_getElem? (i := 186) (by decide +kernel), List.forall_mem_cons.mpr ⟨List.mem_of_getElem? (i := 187) (by decide +kernel), List.forall_mem_cons.mpr ⟨List.mem_of_getElem? (i := 54) (by decide +kernel), List.forall_mem_cons.mpr ⟨List.mem_of_getElem? (i := 57) (by decide +kernel), List.forall_mem_cons.mpr ⟨List.mem_of_getElem? (i := 61) (by decide +kernel), List.forall_mem_cons.mpr ⟨List.mem_of_getElem? (i := 63) (by decide +kernel), List.forall_mem_cons.mpr ⟨List.mem_of_getElem? (i := 65) (by decide +kernel), List.forall_mem_cons.mpr ⟨List.mem_of_getElem? (i := 188) (by decide +kernel), List.forall_mem_cons.mpr ⟨List.mem_of_getElem? (i := 190) (by decide +kernel), List.forall_mem_cons.mpr ⟨List.mem_of_getElem? (i := 1) (by decide +kernel), List.forall_mem_cons.mpr ⟨List.mem_of_getElem? (i := 191) (by decide +kernel), List.forall_mem_cons.mpr ⟨List.mem_of_getElem? (i := 192) (by decide +kernel), List.forall_mem_cons.mpr ⟨List.mem_of_getElem? (i := 194) (by decide +kernel), List.forall_mem_cons.mpr ⟨List.mem_of_getElem? (i := 2) (by decide +kernel), List.forall_mem_cons.mpr ⟨List.mem_of_getElem? (i := 195) (by decide +kernel), List.forall_mem_cons.mpr ⟨List.mem_of_getElem? (i := 197) (by decide +kernel), List.forall_mem_cons.mpr ⟨List.mem_of_getElem? (i := 198) (by decide +kernel), List.forall_mem_cons.mpr ⟨List.mem_of_getElem? (i := 199) (by decide +kernel), List.forall_mem_cons.mpr ⟨List.mem_of_getElem? (i := 200) (by decide +kernel), List.forall_mem_cons.mpr ⟨List.mem_of_getElem? (i := 201) (by decide +kernel), List.forall_mem_cons.mpr ⟨List.mem_of_getElem? (i := 202) (by decide +kernel), List.forall_mem_cons.mpr ⟨List.mem_of_getElem? (i := 203) (by decide +kernel), List.forall_mem_cons.mpr ⟨List.mem_of_getElem? (i := 204) (by decide +kernel), fun _ h => absurd h List.not_mem_nil⟩⟩⟩⟩⟩⟩⟩⟩⟩⟩⟩⟩⟩⟩⟩⟩⟩⟩⟩⟩⟩⟩⟩⟩
theorem il_r5 : ∀ w ∈ wsL_law_r5, w ∈ lw_tbl := List.forall_mem_cons.mpr ⟨List.mem_of_getElem? (i := 205) (by decide +kernel), List.forall_mem_cons.mpr ⟨List.mem_of_getElem? (i := 206) (by decide +kernel), List.forall_mem_cons.mpr ⟨List.mem_of_getElem? (i := 207) (by decide +kernel), List.forall_mem_cons.mpr ⟨List.mem_of_getElem? (i := 208) (by decide +kernel), List.forall_mem_cons.mpr ⟨List.mem_of_getElem? (i := 209) (by decide +kernel), List.forall_mem_cons.mpr ⟨List.mem_of_getElem? (i := 210) (by decide +kernel), List.forall_mem_cons.mpr ⟨List.mem_of_getElem? (i := 512) (by decide +kernel), List.forall_mem_cons.mpr ⟨List.mem_of_getElem? (i := 513) (by decide +kernel), List.forall_mem_cons.mpr ⟨List.mem_of_getElem? (i := 514) (by decide +kernel), List.forall_mem_cons.mpr ⟨List.mem_of_getElem? (i := 515) (by decide +kernel), List.forall_mem_cons.mpr ⟨List.mem_of_getElem? (i := 516) (by decide +kernel), List.forall_mem_cons.mpr ⟨List.mem_of_getElem? (i := 517) (by decide +kernel), List.forall_mem_cons.mpr ⟨List.mem_of_getElem? (i := 519) (by decide +kernel), List.forall_mem_cons.mpr ⟨List.mem_of_getElem? (i := 520) (by decide +kernel), List.forall_mem_cons.mpr ⟨List.mem_of_getElem? (i := 521) (by decide +kernel), List.forall_mem_cons.mpr ⟨List.mem_of_getElem? (i := 522) (by decide +kernel), List.forall_mem_cons.mpr ⟨List.mem_of_getElem? (i := 523) (by decide +kernel), List.forall_mem_cons.mpr ⟨List.mem_of_getElem? (i := 525) (by decide +kernel), List.forall_mem_cons.mpr ⟨List.mem_of_getElem? (i := 526) (by decide +kernel), List.forall_mem_cons.mpr ⟨List.mem_of_getElem? (i := 527) (by decide +kernel), List.forall_mem_cons.mpr ⟨List.mem_of_getElem? (i := 529) (by decide +kernel), List.forall_mem_cons.mpr ⟨List.mem_of_getElem? (i := 530) (by decide +kernel), List.forall_mem_cons.mpr ⟨List.mem_of_getElem? (i := 531) (by decide +kernel), List.forall_mem_cons.mpr ⟨List.mem_of_getElem? (i := 532) (by decide +kernel), fun _ h => absurd h List.not_mem_nil⟩⟩⟩⟩⟩⟩⟩⟩⟩⟩⟩⟩⟩⟩⟩⟩⟩⟩⟩⟩⟩⟩⟩⟩
theorem il_r6 : ∀ w ∈ wsL_law_r6, w ∈ lw_tbl := List.forall_mem_cons.mpr ⟨List.mem_of_getElem? (i := 533) (by decide +kernel), List.forall_mem_cons.mpr ⟨List.mem_of_getElem? (i := 534) (by decide +kernel), List.forall_mem_cons.mpr ⟨List.mem_of_getElem? (i := 535) (by decide +kernel), List.forall_mem_cons.mpr ⟨List.mem_of_getElem? (i := 536) (by decide +kernel), List.forall_mem_cons.mpr ⟨List.mem_of_getElem? (i := 236) (by decide +kernel), List.forall_mem_cons.mpr ⟨List.mem_of_getElem? (i := 237) (by decide +kernel), List.forall_mem_cons.mpr ⟨List.mem_of_getElem? (i := 238) (by decide +kernel), List.forall_mem_cons.mpr ⟨List.mem_of_getElem? (i := 239) (by decide +kernel), List.forall_mem_cons.mpr ⟨List.mem_of_getElem? (i := 580) (by decide +kernel), List.forall_mem_cons.mpr ⟨List.mem_of_getElem? (i := 581) (by decide +kernel), List.forall_mem_cons.mpr ⟨List.mem_of_getElem? (i := 582) (by decide +kernel), List.forall_mem_cons.mpr ⟨List.mem_of_getElem? (i := 583) (by decide +kernel), List.forall_mem_cons.mpr ⟨List.mem_of_getElem? (i := 518) (by decide +kernel), List.forall_mem_cons.mpr ⟨List.mem_of_getElem? (i := 524) (by decide +kernel), List.forall_mem_cons.mpr ⟨List.mem_of_getElem? (i := 528) (by decide +kernel), List.forall_mem_cons.mpr ⟨List.mem_of_getElem? (i := 584) (by decide +kernel), List.forall_mem_cons.mpr ⟨List.mem_of_getElem? (i := 585) (by decide +kernel), List.forall_mem_cons.mpr ⟨List.mem_of_getElem? (i := 586) (by decide +kernel), List.forall_mem_cons.mpr ⟨List.mem_of_getElem? (i := 240) (by decide +kernel), List.forall_mem_cons.mpr ⟨List.mem_of_getElem? (i := 241) (by decide +kernel), List.forall_mem_cons.mpr ⟨List.mem_of_getElem? (i := 242) (by decide +kernel), List.forall_mem_cons.mpr ⟨List.mem_of_getElem? (i := 243) (by decide +kernel), List.forall_mem_cons.mpr ⟨List.mem_of_getElem? (i := 244) (by decide +kernel), List.forall_mem_cons.mpr ⟨List.mem_of_getElem? (i := 245) (by decide +kernel), fun _ h => absurd h List.not_mem_nil⟩⟩⟩⟩⟩⟩⟩⟩⟩⟩⟩⟩⟩⟩⟩⟩⟩⟩⟩⟩⟩⟩⟩⟩
theorem il_r7 : ∀ w ∈ wsL_law_r7, w ∈ lw_tbl := List.forall_mem_cons.mpr ⟨List.mem_of_getElem? (i := 246) (by decide +kernel), List.forall_mem_cons.mpr ⟨List.mem_of_getElem? (i := 247) (by decide +kernel), List.forall_mem_cons.mpr ⟨List.mem_of_getElem? (i := 248) (by decide +kernel), List.forall_mem_cons.mpr ⟨List.mem_of_getElem? (i := 249) (by decide +kernel), List.forall_mem_cons.mpr ⟨List.mem_of_getElem? (i := 250) (by decide +kernel), List.forall_mem_cons.mpr ⟨List.mem_of_getElem? (i := 251) (by decide +kernel), List.forall_mem_cons.mpr ⟨List.mem_of_getElem? (i := 252) (by decide +kernel), List.forall_mem_cons.mpr ⟨List.mem_of_getElem? (i := 253) (by decide +kernel), List.forall_mem_cons.mpr ⟨List.mem_of_getElem? (i := 254) (by decide +kernel), List.forall_mem_cons.mpr ⟨List.mem_of_getElem? (i := 255) (by decide +kernel), List.forall_mem_cons.mpr ⟨List.mem_of_getElem? (i := 256) (by decide +kernel), List.forall_mem_cons.mpr ⟨List.mem_of_getElem? (i := 257) (by decide +kernel), List.forall_mem_cons.mpr ⟨List.mem_of_getElem? (i := 258) (by decide +kernel), List.forall_mem_cons.mpr ⟨List.mem_of_getElem? (i := 587) (by decide +kernel), List.forall_mem_cons.mpr ⟨List.mem_of_getElem? (i := 588) (by decide +kernel), List.forall_mem_cons.mpr ⟨List.mem_of_getElem? (i := 589) (by decide +kernel), List.forall_mem_cons.mpr ⟨List.mem_of_getElem? (i := 590) (by decide +kernel), List.forall_mem_cons.mpr ⟨List.mem_of_getElem? (i := 591) (by decide +kernel), List.forall_mem_cons.mpr ⟨List.mem_of_getElem? (i := 593) (by decide +kernel), List.forall_mem_cons.mpr ⟨List.mem_of_getElem? (i := 9) (by decide +kernel), List.forall_mem_cons.mpr ⟨List.mem_of_getElem? (i := 594) (by decide +kernel), List.forall_mem_cons.mpr ⟨List.mem_of_getElem? (i := 259) (by decide +kernel), List.forall_mem_cons.mpr ⟨List.mem_of_getElem? (i := 260) (by decide +kernel), List.forall_mem_cons.mpr ⟨List.mem_of_getElem? (i := 261) (by decide +kernel), fun _ h => absurd h List.not_mem_nil⟩⟩⟩⟩⟩⟩⟩⟩⟩⟩⟩⟩⟩⟩⟩⟩⟩⟩⟩⟩⟩⟩⟩⟩
theorem il_r8 : ∀ w ∈ wsL_law_r8, w ∈ lw_tbl := List.forall_mem_cons.mpr ⟨List.mem_of_getElem? (i := 262) (by decide +kernel), List.forall_mem_cons.mpr ⟨List.mem_of_getElem? (i := 263) (by decide +kernel), List.forall_mem_cons.mpr ⟨List.mem_of_getElem? (i := 264) (by decide +kernel), List.forall_mem_cons.mpr ⟨List.mem_of_getElem? (i := 265) (by decide +kernel), List.forall_mem_cons.mpr ⟨List.mem_of_getElem? (i := 266) (by decide +kernel), List.forall_mem_cons.mpr ⟨List.mem_of_getElem? (i := 267) (by decide +kernel), List.forall_mem_cons.mpr ⟨List.mem_of_getElem? (i := 268) (by decide +kernel), List.forall_mem_cons.mpr ⟨List.mem_of_getElem? (i := 269) (by decide +kernel), List.forall_mem_cons.mpr ⟨List.mem_of_getElem? (i := 270) (by decide +kernel), List.forall_mem_cons.mpr ⟨List.mem_of_getElem? (i := 271) (by decide +kernel), List.forall_mem_cons.mpr ⟨List.mem_of_getElem? (i := 272) (by decide +kernel), List.forall_mem_cons.mpr ⟨List.mem_of_getElem? (i := 273) (by decide +kernel), List.forall_mem_cons.mpr ⟨List.mem_of_getElem? (i := 595) (by decide +kernel), List.forall_mem_cons.mpr ⟨List.mem_of_getElem? (i := 596) (by decide +kernel), List.forall_mem_cons.mpr ⟨List.mem_of_getElem? (i := 597) (by decide +kernel), List.forall_mem_cons.mpr ⟨List.mem_of_getElem? (i := 598) (by decide +kernel), List.forall_mem_cons.mpr ⟨List.mem_of_getElem? (i := 599) (by decide +kernel), List.forall_mem_cons.mpr ⟨List.mem_of_getElem? (i := 601) (by decide +kernel), List.forall_mem_cons.mpr ⟨List.mem_of_getElem? (i := 10) (by decide +kernel), List.forall_mem_cons.mpr ⟨List.mem_of_getElem? (i := 602) (by decide +kernel), List.forall_mem_cons.mpr ⟨List.mem_of_getElem? (i := 603) (by decide +kernel), List.forall_mem_cons.mpr ⟨List.mem_of_getElem? (i := 604) (by decide +kernel), List.forall_mem_cons.mpr ⟨List.mem_of_getElem? (i := 605) (by decide +kernel), List.forall_mem_cons.mpr ⟨List.mem_of_getElem? (i := 274) (by decide +kernel), fun _ h => absurd h List.not_mem_nil⟩⟩⟩⟩⟩⟩⟩⟩⟩⟩⟩⟩⟩⟩⟩⟩⟩⟩⟩⟩⟩⟩⟩⟩
theorem il_r9 : ∀ w ∈ wsL_law_r9, w ∈ lw_tbl := List.forall_mem_cons.mpr ⟨List.mem_of_getElem? (i := 275) (by decide +kernel), List.forall_mem_cons.mpr ⟨List.mem_of_getElem? (i := 276) (by decide +kernel), List.forall_mem_cons.mpr ⟨List.mem_of_getElem? (i := 277) (by decide +kernel), List.forall_mem_cons.mpr ⟨List.mem_of_getElem? (i := 278) (by decide +kernel), List.forall_mem_cons.mpr ⟨List.mem_of_getElem? (i := 279) (by decide +kernel), List.forall_mem_cons.mpr ⟨List.mem_of_getElem? (i := 280) (by decide +kernel), List.forall_mem_cons.mpr ⟨List.mem_of_getElem? (i := 281) (by decide +kernel), List.forall_mem_cons.mpr ⟨List.mem_of_getElem? (i := 282) (by decide +kernel), List.forall_mem_cons.mpr ⟨List.mem_of_getElem? (i := 283) (by decide +kernel), List.forall_mem_cons.mpr ⟨List.mem_of_getElem? (i := 284) (by decide +kernel), List.forall_mem_cons.mpr ⟨List.mem_of_getElem? (i := 285) (by decide +kernel), List.forall_mem_cons.mpr ⟨List.mem_of_getElem? (i := 286) (by decide +kernel), List.forall_mem_cons.mpr ⟨List.mem_of_getElem? (i := 287) (by decide +kernel), List.forall_mem_cons.mpr ⟨List.mem_of_getElem? (i := 288) (by decide +kernel), List.forall_mem_cons.mpr ⟨List.mem_of_getElem? (i := 289) (by decide +kernel), List.forall_mem_cons.mpr ⟨List.mem_of_getElem? (i := 290) (by decide +kernel), List.forall_mem_cons.mpr ⟨List.mem_of_getElem? (i := 291) (by decide +kernel), List.forall_mem_cons.mpr ⟨List.mem_of_getElem? (i := 39) (by decide +kernel), List.forall_mem_cons.mpr ⟨List.mem_of_getElem? (i := 292) (by decide +kernel), List.forall_mem_cons.mpr ⟨List.mem_of_getElem? (i := 293) (by decide +kernel), List.forall_mem_cons.mpr ⟨List.mem_of_getElem? (i := 294) (by decide +kernel), List.forall_mem_cons.mpr ⟨List.mem_of_getElem? (i := 295) (by decide +kernel), List.forall_mem_cons.mpr ⟨List.mem_of_getElem? (i := 606) (by decide +kernel), List.forall_mem_cons.mpr ⟨List.mem_of_getElem? (i := 607) (by decide +kernel), fun _ h => absurd h List.not_mem_nil⟩⟩⟩⟩⟩⟩⟩⟩⟩⟩⟩⟩⟩⟩⟩⟩⟩⟩⟩⟩⟩⟩⟩⟩
theorem il_r10 : ∀ w ∈ wsL_law_r10, w ∈ lw_tbl := List.forall_mem_cons.mpr ⟨List.mem_of_getElem? (i := 608) (by decide +kernel), List.forall_mem_cons.mpr ⟨List.mem_of_getElem? (i := 609) (by decide +kernel), List.forall_mem_cons.mpr ⟨List.mem_of_getElem? (i := 610) (by decide +kernel), List.forall_mem_cons.mpr ⟨List.mem_of_getElem? (i := 612) (by decide +kernel), List.forall_mem_cons.mpr ⟨List.mem_of_getElem? (i := 11) (by decide +kernel), List.forall_mem_cons.mpr ⟨List.mem_of_getElem? (i := 613) (by decide +kernel), List.forall_mem_cons.mpr ⟨List.mem_of_getElem? (i := 614) (by decide +kernel), List.forall_mem_cons.mpr ⟨List.mem_of_getElem? (i := 615) (by decide +kernel), List.forall_mem_cons.mpr ⟨List.mem_of_getElem? (i := 616) (by decide +kernel), List.forall_mem_cons.mpr ⟨List.mem_of_getElem? (i := 296) (by decide +kernel), List.forall_mem_cons.mpr ⟨List.mem_of_getElem? (i := 297) (by decide +kernel), List.forall_mem_cons.mpr ⟨List.mem_of_getElem? (i := 298) (by decide +kernel), List.forall_mem_cons.mpr ⟨List.mem_of_getElem? (i := 299) (by decide +kernel), List.forall_mem_cons.mpr ⟨List.mem_of_getElem? (i := 300) (by decide +kernel), List.forall_mem_cons.mpr ⟨List.mem_of_getElem? (i := 301) (by decide +kernel), List.forall_mem_cons.mpr ⟨List.mem_of_getElem? (i := 302) (by decide +kernel), List.forall_mem_cons.mpr ⟨List.mem_of_getElem? (i := 303) (by decide +kernel), List.forall_mem_cons.mpr ⟨List.mem_of_getElem? (i := 304) (by decide +kernel), List.forall_mem_cons.mpr ⟨List.mem_of_getElem? (i := 305) (by decide +kernel), List.forall_mem_cons.mpr ⟨List.mem_of_getElem? (i := 306) (by decide +kernel), List.forall_mem_cons.mpr ⟨List.mem_of_getElem? (i := 307) (by decide +kernel), List.forall_mem_cons.mpr ⟨List.mem_of_getElem? (i := 617) (by decide +kernel), List.forall_mem_cons.mpr ⟨List.mem_of_getElem? (i := 618) (by decide +kernel), List.forall_mem_cons.mpr ⟨List.mem_of_getElem? (i := 619) (by decide +kernel), fun _ h => absurd h List.not_mem_nil⟩⟩⟩⟩⟩⟩⟩⟩⟩⟩⟩⟩⟩⟩⟩⟩⟩⟩⟩⟩⟩⟩⟩⟩
theorem il_r11 : ∀ w ∈ wsL_law_r11, w ∈ lw_tbl := List.forall_mem_cons.mpr ⟨List.mem_of_getElem? (i := 620) (by decide +kernel), List.forall_mem_cons.mpr ⟨List.mem_of_getElem? (i := 308) (by decide +kernel), List.forall_mem_cons.mpr ⟨List.mem_of_getElem? (i := 309) (by decide +kernel), List.forall_mem_cons.mpr ⟨List.mem_of_getElem? (i := 310) (by decide +kernel), List.forall_mem_cons.mpr ⟨List.mem_of_getElem? (i := 311) (by decide +kernel), List.forall_mem_cons.mpr ⟨List.mem_of_getElem? (i := 312) (by decide +kernel), List.forall_mem_cons.mpr ⟨List.mem_of_getElem? (i := 313) (by decide +kernel), List.forall_mem_cons.mpr ⟨List.mem_of_getElem? (i := 314) (by decide +kernel), List.forall_mem_cons.mpr ⟨List.mem_of_getElem? (i := 315) (by decide +kernel), List.forall_mem_cons.mpr ⟨List.mem_of_getElem? (i := 621) (by decide +kernel), List.forall_mem_cons.mpr ⟨List.mem_of_getElem? (i := 622) (by decide +kernel), List.forall_mem_cons.mpr ⟨List.mem_of_getElem? (i := 623) (by decide +kernel), List.forall_mem_cons.mpr ⟨List.mem_of_getElem? (i := 624) (by decide +kernel), List.forall_mem_cons.mpr ⟨List.mem_of_getElem? (i := 625) (by decide +kernel), List.forall_mem_cons.mpr ⟨List.mem_of_getElem? (i := 627) (by decide +kernel), List.forall_mem_cons.mpr ⟨List.mem_of_getElem? (i := 12) (by decide +kernel), List.forall_mem_cons.mpr ⟨List.mem_of_getElem? (i := 628) (by decide +kernel), List.forall_mem_cons.mpr ⟨List.mem_of_getElem? (i := 316) (by decide +kernel), List.forall_mem_cons.mpr ⟨List.mem_of_getElem? (i := 317) (by decide +kernel), List.forall_mem_cons.mpr ⟨List.mem_of_getElem? (i := 318) (by decide +kernel), List.forall_mem_cons.mpr ⟨List.mem_of_getElem? (i := 319) (by decide +kernel), List.forall_mem_cons.mpr ⟨List.mem_of_getElem? (i := 320) (by decide +kernel), List.forall_mem_cons.mpr ⟨List.mem_of_getElem? (i := 321) (by decide +kernel), List.forall_mem_cons.mpr ⟨List.mem_of_getElem? (i := 322) (by decide +kernel), fun _ h => absurd h List.not_mem_nil⟩⟩⟩⟩⟩⟩⟩⟩⟩⟩⟩⟩⟩⟩⟩⟩⟩⟩⟩⟩⟩⟩⟩⟩
theorem il_r12 : ∀ w ∈ wsL_law_r12, w ∈ lw_tbl := List.forall_mem_cons.mpr ⟨List.mem_of_getElem? (i := 323) (by decide +kernel), List.forall_mem_cons.mpr ⟨List.mem_of_getElem? (i := 324) (by decide +kernel), List.forall_mem_cons.mpr ⟨List.mem_of_getElem? (i := 325) (by decide +kernel), List.forall_mem_cons.mpr ⟨List.mem_of_getElem? (i := 629) (by decide +kernel), List.forall_mem_cons.mpr ⟨List.mem_of_getElem? (i := 630) (by decide +kernel), List.forall_mem_cons.mpr ⟨List.mem_of_getElem? (i := 631) (by decide +kernel), List.forall_mem_cons.mpr ⟨List.mem_of_getElem? (i := 632) (by decide +kernel), List.forall_mem_cons.mpr ⟨List.mem_of_getElem? (i := 633) (by decide +kernel), List.forall_mem_cons.mpr ⟨List.mem_of_getElem? (i := 635) (by decide +kernel), List.forall_mem_cons.mpr ⟨List.mem_of_getElem? (i := 13) (by decide +kernel), List.forall_mem_cons.mpr ⟨List.mem_of_getElem? (i := 636) (by decide +kernel), List.forall_mem_cons.mpr ⟨List.mem_of_getElem? (i := 637) (by decide +kernel), List.forall_mem_cons.mpr ⟨List.mem_of_getElem? (i := 639) (by decide +kernel), List.forall_mem_cons.mpr ⟨List.mem_of_getElem? (i := 14) (by decide +kernel), List.forall_mem_cons.mpr ⟨List.mem_of_getElem? (i := 640) (by decide +kernel), List.forall_mem_cons.mpr ⟨List.mem_of_getElem? (i := 326) (by decide +kernel), List.forall_mem_cons.mpr ⟨List.mem_of_getElem? (i := 327) (by decide +kernel), List.forall_mem_cons.mpr ⟨List.mem_of_getElem? (i := 328) (by decide +kernel), List.forall_mem_cons.mpr ⟨List.mem_of_getElem? (i := 329) (by decide +kernel), List.forall_mem_cons.mpr ⟨List.mem_of_getElem? (i := 330) (by decide +kernel), List.forall_mem_cons.mpr ⟨List.mem_of_getElem? (i := 331) (by decide +kernel), List.forall_mem_cons.mpr ⟨List.mem_of_getElem? (i := 332) (by decide +kernel), List.forall_mem_cons.mpr ⟨List.mem_of_getElem? (i := 333) (by decide +kernel), List.forall_mem_cons.mpr ⟨List.mem_of_getElem? (i := 334) (by decide +kernel), fun _ h => absurd h List.not_mem_nil⟩⟩⟩⟩⟩⟩⟩⟩⟩⟩⟩⟩⟩⟩⟩⟩⟩⟩⟩⟩⟩⟩⟩⟩
theorem il_r13 : ∀ w ∈ wsL_law_r13, w ∈ lw_tbl := List.forall_mem_cons.mpr ⟨List.mem_of_getElem? (i := 335) (by decide +kernel), List.forall_mem_cons.mpr ⟨List.mem_of_getElem? (i := 336) (by decide +kernel), List.forall_mem_cons.mpr ⟨List.mem_of_getElem? (i := 337) (by decide +kernel), List.forall_mem_cons.mpr ⟨List.mem_of_getElem? (i := 641) (by decide +kernel), List.forall_mem_cons.mpr ⟨List.mem_of_getElem? (i := 642) (by decide +kernel), List.forall_mem_cons.mpr ⟨List.mem_of_getElem? (i := 643) (by decide +kernel), List.forall_mem_cons.mpr ⟨List.mem_of_getElem? (i := 644) (by decide +kernel), List.forall_mem_cons.mpr ⟨List.mem_of_getElem? (i := 645) (by decide +kernel), List.forall_mem_cons.mpr ⟨List.mem_of_getElem? (i := 647) (by decide +kernel), List.forall_mem_cons.mpr ⟨List.mem_of_getElem? (i := 15) (by decide +kernel), List.forall_mem_cons.mpr ⟨List.mem_of_getElem? (i := 648) (by decide +kernel), List.forall_mem_cons.mpr ⟨List.mem_of_getElem? (i := 649) (by decide +kernel), List.forall_mem_cons.mpr ⟨List.mem_of_getElem? (i := 651) (by decide +kernel), List.forall_mem_cons.mpr ⟨List.mem_of_getElem? (i := 16) (by decide +kernel), List.forall_mem_cons.mpr ⟨List.mem_of_getElem? (i := 652) (by decide +kernel), List.forall_mem_cons.mpr ⟨List.mem_of_getElem? (i := 338) (by decide +kernel), List.forall_mem_cons.mpr ⟨List.mem_of_getElem? (i := 339) (by decide +kernel), List.forall_mem_cons.mpr ⟨List.mem_of_getElem? (i := 340) (by decide +kernel), List.forall_mem_cons.mpr ⟨List.mem_of_getElem? (i := 341) (by decide +kernel), List.forall_mem_cons.mpr ⟨List.mem_of_getElem? (i := 342) (by decide +kernel), List.forall_mem_cons.mpr ⟨List.mem_of_getElem? (i := 653) (by decide +kernel), List.forall_mem_cons.mpr ⟨List.mem_of_getElem? (i := 654) (by decide +kernel), List.forall_mem_cons.mpr ⟨List.mem_of_getElem? (i := 655) (by decide +kernel), List.forall_mem_cons.mpr ⟨List.mem_of_getElem? (i := 656) (by decide +kernel), fun _ h => absurd h List.not_mem_nil⟩⟩⟩⟩⟩⟩⟩⟩⟩⟩⟩⟩⟩⟩⟩⟩⟩⟩⟩⟩⟩⟩⟩⟩
theorem il_r14 : ∀ w ∈ wsL_law_r14, w ∈ lw_tbl := List.forall_mem_cons.mpr ⟨List.mem_of_getElem? (i := 343) (by decide +kernel), List.forall_mem_cons.mpr ⟨List.mem_of_getElem? (i := 344) (by decide +kernel), List.forall_mem_cons.mpr ⟨List.mem_of_getElem? (i := 345) (by decide +kernel), List.forall_mem_cons.mpr ⟨List.mem_of_getElem? (i := 346) (by decide +kernel), List.forall_mem_cons.mpr ⟨List.mem_of_getElem? (i := 347) (by decide +kernel), List.forall_mem_cons.mpr ⟨List.mem_of_getElem? (i := 349) (by decide +kernel), List.forall_mem_cons.mpr ⟨List.mem_of_getElem? (i := 3) (by decide +kernel), List.forall_mem_cons.mpr ⟨List.mem_of_getElem? (i := 350) (by decide +kernel), List.forall_mem_cons.mpr ⟨List.mem_of_getElem? (i := 351) (by decide +kernel), List.forall_mem_cons.mpr ⟨List.mem_of_getElem? (i := 352) (by decide +kernel), List.forall_mem_cons.mpr ⟨List.mem_of_getElem? (i := 353) (by decide +kernel), List.forall_mem_cons.mpr ⟨List.mem_of_getElem? (i := 354) (by decide +kernel), List.forall_mem_cons.mpr ⟨List.mem_of_getElem? (i := 355) (by decide +kernel), List.forall_mem_cons.mpr ⟨List.mem_of_getElem? (i := 657) (by decide +kernel), List.forall_mem_cons.mpr ⟨List.mem_of_getElem? (i := 658) (by decide +kernel), List.forall_mem_cons.mpr ⟨List.mem_of_getElem? (i := 659) (by decide +kernel), List.forall_mem_cons.mpr ⟨List.mem_of_getElem? (i := 660) (by decide +kernel), List.forall_mem_cons.mpr ⟨List.mem_of_getElem? (i := 661) (by decide +kernel), List.forall_mem_cons.mpr ⟨List.mem_of_getElem? (i := 663) (by decide +kernel), List.forall_mem_cons.mpr ⟨List.mem_of_getElem? (i := 17) (by decide +kernel), List.forall_mem_cons.mpr ⟨List.mem_of_getElem? (i := 664) (by decide +kernel), List.forall_mem_cons.mpr ⟨List.mem_of_getElem? (i := 665) (by decide +kernel), List.forall_mem_cons.mpr ⟨List.mem_of_getElem? (i := 667) (by decide +kernel), List.forall_mem_cons.mpr ⟨List.mem_of_getElem? (i := 18) (by decide +kernel), fun _ h => absurd h List.not_mem_nil⟩⟩⟩⟩⟩⟩⟩⟩⟩⟩⟩⟩⟩⟩⟩⟩⟩⟩⟩⟩⟩⟩⟩⟩
theorem il_r15 : ∀ w ∈ wsL_law_r15, w ∈ lw_tbl := List.forall_mem_cons.mpr ⟨List.mem_of_getElem? (i := 668) (by decide +kernel), List.forall_mem_cons.mpr ⟨List.mem_of_getElem? (i := 356) (by decide +kernel), List.forall_mem_cons.mpr ⟨List.mem_of_getElem? (i := 357) (by decide +kernel), List.forall_mem_cons.mpr ⟨List.mem_of_getElem? (i := 358) (by decide +kernel), List.forall_mem_cons.mpr ⟨List.mem_of_getElem? (i := 359) (by decide +kernel), List.forall_mem_cons.mpr ⟨List.mem_of_getElem? (i := 360) (by decide +kernel), List.forall_mem_cons.mpr ⟨List.mem_of_getElem? (i := 361) (by decide +kernel), List.forall_mem_cons.mpr ⟨List.mem_of_getElem? (i := 362) (by decide +kernel), List.forall_mem_cons.mpr ⟨List.mem_of_getElem? (i := 363) (by decide +kernel), List.forall_mem_cons.mpr ⟨List.mem_of_getElem? (i := 120) (by decide +kernel), List.forall_mem_cons.mpr ⟨List.mem_of_getElem? (i := 669) (by decide +kernel), List.forall_mem_cons.mpr ⟨List.mem_of_getElem? (i := 670) (by decide +kernel), List.forall_mem_cons.mpr ⟨List.mem_of_getElem? (i := 671) (by decide +kernel), List.forall_mem_cons.mpr ⟨List.mem_of_getElem? (i := 672) (by decide +kernel), List.forall_mem_cons.mpr ⟨List.mem_of_getElem? (i := 364) (by decide +kernel), List.forall_mem_cons.mpr ⟨List.mem_of_getElem? (i := 365) (by decide +kernel), List.forall_mem_cons.mpr ⟨List.mem_of_getElem? (i := 366) (by decide +kernel), List.forall_mem_cons.mpr ⟨List.mem_of_getElem? (i := 367) (by decide +kernel), List.forall_mem_cons.mpr ⟨List.mem_of_getElem? (i := 368) (by decide +kernel), List.forall_mem_cons.mpr ⟨List.mem_of_getElem? (i := 369) (by decide +kernel), List.forall_mem_cons.mpr ⟨List.mem_of_getElem? (i := 370) (by decide +kernel), List.forall_mem_cons.mpr ⟨List.mem_of_getElem? (i := 371) (by decide +kernel), List.forall_mem_cons.mpr ⟨List.mem_of_getElem? (i := 372) (by decide +kernel), List.forall_mem_cons.mpr ⟨List.mem_of_getElem? (i := 373) (by decide +kernel), fun _ h => absurd h List.not_mem_nil⟩⟩⟩⟩⟩⟩⟩⟩⟩⟩⟩⟩⟩⟩⟩⟩⟩⟩⟩⟩⟩⟩⟩⟩
theorem il_r16 : ∀ w ∈ wsL_law_r16, w ∈ lw_tbl := List.forall_mem_cons.mpr ⟨List.mem_of_getElem? (i := 374) (by decide +kernel), List.forall_mem_cons.mpr ⟨List.mem_of_getElem? (i := 375) (by decide +kernel), List.forall_mem_cons.mpr ⟨List.mem_of_getElem? (i := 673) (by decide +kernel), List.forall_mem_cons.mpr ⟨List.mem_of_getElem? (i := 674) (by decide +kernel), List.forall_mem_cons.mpr ⟨List.mem_of_getElem? (i := 675) (by decide +kernel), List.forall_mem_cons.mpr ⟨List.mem_of_getElem? (i := 676) (by decide +kernel), List.forall_mem_cons.mpr ⟨List.mem_of_getElem? (i := 677) (by decide +kernel), List.forall_mem_cons.mpr ⟨List.mem_of_getElem? (i := 679) (by decide +kernel), List.forall_mem_cons.mpr ⟨List.mem_of_getElem? (i := 19) (by decide +kernel), List.forall_mem_cons.mpr ⟨List.mem_of_getElem? (i := 680) (by decide +kernel), List.forall_mem_cons.mpr ⟨List.mem_of_getElem? (i := 377) (by decide +kernel), List.forall_mem_cons.mpr ⟨List.mem_of_getElem? (i := 378) (by decide +kernel), List.forall_mem_cons.mpr ⟨List.mem_of_getElem? (i := 379) (by decide +kernel), List.forall_mem_cons.mpr ⟨List.mem_of_getElem? (i := 380) (by decide +kernel), List.forall_mem_cons.mpr ⟨List.mem_of_getElem? (i := 381) (by decide +kernel), List.forall_mem_cons.mpr ⟨List.mem_of_getElem? (i := 382) (by decide +kernel), List.forall_mem_cons.mpr ⟨List.mem_of_getElem? (i := 383) (by decide +kernel), List.forall_mem_cons.mpr ⟨List.mem_of_getElem? (i := 384) (by decide +kernel), List.forall_mem_cons.mpr ⟨List.mem_of_getElem? (i := 385) (by decide +kernel), List.forall_mem_cons.mpr ⟨List.mem_of_getElem? (i := 386) (by decide +kernel), List.forall_mem_cons.mpr ⟨List.mem_of_getElem? (i := 387) (by decide +kernel), List.forall_mem_cons.mpr ⟨List.mem_of_getElem? (i := 388) (by decide +kernel), List.forall_mem_cons.mpr ⟨List.mem_of_getElem? (i := 389) (by decide +kernel), List.forall_mem_cons.mpr ⟨List.mem_of_getElem? (i := 390) (by decide +kernel), fun _ h => absurd h List.not_mem_nil⟩⟩⟩⟩⟩⟩⟩⟩⟩⟩⟩⟩⟩⟩⟩⟩⟩⟩⟩⟩⟩⟩⟩⟩
theorem il_r17 : ∀ w ∈ wsL_law_r17, w ∈ lw_tbl := List.forall_mem_cons.mpr ⟨List.mem_of_getElem? (i := 391) (by decide +kernel), List.forall_mem_cons.mpr ⟨List.mem_of_getElem? (i := 392) (by decide +kernel), List.forall_mem_cons.mpr ⟨List.mem_of_getElem? (i := 393) (by decide +kernel), List.forall_mem_cons.mpr ⟨List.mem_of_getElem? (i := 394) (by decide +kernel), List.forall_mem_cons.mpr ⟨List.mem_of_getElem? (i := 395) (by decide +kernel), List.forall_mem_cons.mpr ⟨List.mem_of_getElem? (i := 396) (by decide +kernel), List.forall_mem_cons.mpr ⟨List.mem_of_getElem? (i := 397) (by decide +kernel), List.forall_mem_cons.mpr ⟨List.mem_of_getElem? (i := 398) (by decide +kernel), List.forall_mem_cons.mpr ⟨List.mem_of_getElem? (i := 399) (by decide +kernel), List.forall_mem_cons.mpr ⟨List.mem_of_getElem? (i := 400) (by decide +kernel), List.forall_mem_cons.mpr ⟨List.mem_of_getElem? (i := 401) (by decide +kernel), List.forall_mem_cons.mpr ⟨List.mem_of_getElem? (i := 402) (by decide +kernel), List.forall_mem_cons.mpr ⟨List.mem_of_getElem? (i := 403) (by decide +kernel), List.forall_mem_cons.mpr ⟨List.mem_of_getElem? (i := 681) (by decide +kernel), List.forall_mem_cons.mpr ⟨List.mem_of_getElem? (i := 682) (by decide +kernel), List.forall_mem_cons.mpr ⟨List.mem_of_getElem? (i := 683) (by decide +kernel), List.forall_mem_cons.mpr ⟨List.mem_of_getElem? (i := 684) (by decide +kernel), List.forall_mem_cons.mpr ⟨List.mem_of_getElem? (i := 685) (by decide +kernel), List.forall_mem_cons.mpr ⟨List.mem_of_getElem? (i := 687) (by decide +kernel), List.forall_mem_cons.mpr ⟨List.mem_of_getElem? (i := 20) (by decide +kernel), List.forall_mem_cons.mpr ⟨List.mem_of_getElem? (i := 688) (by decide +kernel), List.forall_mem_cons.mpr ⟨List.mem_of_getElem? (i := 689) (by decide +kernel), List.forall_mem_cons.mpr ⟨List.mem_of_getElem? (i := 691) (by decide +kernel), List.forall_mem_cons.mpr ⟨List.mem_of_getElem? (i := 21) (by decide +kernel), fun _ h => absurd h List.not_mem_nil⟩⟩⟩⟩⟩⟩⟩⟩⟩⟩⟩⟩⟩⟩⟩⟩⟩⟩⟩⟩⟩⟩⟩⟩
theorem il_r18 : ∀ w ∈ wsL_law_r18, w ∈ lw_tbl := List.forall_mem_cons.mpr ⟨List.mem_of_getElem? (i := 692) (by decide +kernel), List.forall_mem_cons.mpr ⟨List.mem_of_getElem? (i := 693) (by decide +kernel), List.forall_mem_cons.mpr ⟨List.mem_of_getElem? (i := 695) (by decide +kernel), List.forall_mem_cons.mpr ⟨List.mem_of_getElem? (i := 22) (by decide +kernel), List.forall_mem_cons.mpr ⟨List.mem_of_getElem? (i := 696) (by decide +kernel), List.forall_mem_cons.mpr ⟨List.mem_of_getElem? (i := 697) (by decide +kernel), List.forall_mem_cons.mpr ⟨List.mem_of_getElem? (i := 699) (by decide +kernel), List.forall_mem_cons.mpr ⟨List.mem_of_getElem? (i := 23) (by decide +kernel), List.forall_mem_cons.mpr ⟨List.mem_of_getElem? (i := 700) (by decide +kernel), List.forall_mem_cons.mpr ⟨List.mem_of_getElem? (i := 701) (by decide +kernel), List.forall_mem_cons.mpr ⟨List.mem_of_getElem? (i := 703) (by decide +kernel), List.forall_mem_cons.mpr ⟨List.mem_of_getElem? (i := 24) (by decide +kernel), List.forall_mem_cons.mpr ⟨List.mem_of_getElem? (i := 704) (by decide +kernel), List.forall_mem_cons.mpr ⟨List.mem_of_getElem? (i := 404) (by decide +kernel), List.forall_mem_cons.mpr ⟨List.mem_of_getElem? (i := 405) (by decide +kernel), List.forall_mem_cons.mpr ⟨List.mem_of_getElem? (i := 406) (by decide +kernel), List.forall_mem_cons.mpr ⟨List.mem_of_getElem? (i := 407) (by decide +kernel), List.forall_mem_cons.mpr ⟨List.mem_of_getElem? (i := 408) (by decide +kernel), List.forall_mem_cons.mpr ⟨List.mem_of_getElem? (i := 409) (by decide +kernel), List.forall_mem_cons.mpr ⟨List.mem_of_getElem? (i := 410) (by decide +kernel), List.forall_mem_cons.mpr ⟨List.mem_of_getElem? (i := 411) (by decide +kernel), List.forall_mem_cons.mpr ⟨List.mem_of_getElem? (i := 412) (by decide +kernel), List.forall_mem_cons.mpr ⟨List.mem_of_getElem? (i := 705) (by decide +kernel), List.forall_mem_cons.mpr ⟨List.mem_of_getElem? (i := 706) (by decide +kernel), fun _ h => absurd h List.not_mem_nil⟩⟩⟩⟩⟩⟩⟩⟩⟩⟩⟩⟩⟩⟩⟩⟩⟩⟩⟩⟩⟩⟩⟩⟩
theorem il_r19 : ∀ w ∈ wsL_law_r19, w ∈ lw_tbl := List.forall_mem_cons.mpr ⟨List.mem_of_getElem? (i := 707) (by decide +kernel), List.forall_mem_cons.mpr ⟨List.mem_of_getElem? (i := 708) (by decide +kernel), List.forall_mem_cons.mpr ⟨List.mem_of_getElem? (i := 413) (by decide +kernel), List.forall_mem_cons.mpr ⟨List.mem_of_getElem? (i := 414) (by decide +kernel), List.forall_mem_cons.mpr ⟨List.mem_of_getElem? (i := 415) (by decide +kernel), List.forall_mem_cons.mpr ⟨List.mem_of_getElem? (i := 416) (by decide +kernel), List.forall_mem_cons.mpr ⟨List.mem_of_getElem? (i := 417) (by decide +kernel), List.forall_mem_cons.mpr ⟨List.mem_of_getElem? (i := 418) (by decide +kernel), List.forall_mem_cons.mpr ⟨List.mem_of_getElem? (i := 419) (by decide +kernel), List.forall_mem_cons.mpr ⟨List.mem_of_getElem? (i := 420) (by decide +kernel), List.forall_mem_cons.mpr ⟨List.mem_of_getElem? (i := 141) (by decide +kernel), List.forall_mem_cons.mpr ⟨List.mem_of_getElem? (i := 709) (by decide +kernel), List.forall_mem_cons.mpr ⟨List.mem_of_getElem? (i := 710) (by decide +kernel), List.forall_mem_cons.mpr ⟨List.mem_of_getElem? (i := 711) (by decide +kernel), List.forall_mem_cons.mpr ⟨List.mem_of_getElem? (i := 712) (by decide +kernel), List.forall_mem_cons.mpr ⟨List.mem_of_getElem? (i := 713) (by decide +kernel), List.forall_mem_cons.mpr ⟨List.mem_of_getElem? (i := 715) (by decide +kernel), List.forall_mem_cons.mpr ⟨List.mem_of_getElem? (i := 25) (by decide +kernel), List.forall_mem_cons.mpr ⟨List.mem_of_getElem? (i := 716) (by decide +kernel), List.forall_mem_cons.mpr ⟨List.mem_of_getElem? (i := 421) (by decide +kernel), List.forall_mem_cons.mpr ⟨List.mem_of_getElem? (i := 422) (by decide +kernel), List.forall_mem_cons.mpr ⟨List.mem_of_getElem? (i := 423) (by decide +kernel), List.forall_mem_cons.mpr ⟨List.mem_of_getElem? (i := 424) (by decide +kernel), List.forall_mem_cons.mpr ⟨List.mem_of_getElem? (i := 425) (by decide +kernel), fun _ h => absurd h List.not_mem_nil⟩⟩⟩⟩⟩⟩⟩⟩⟩⟩⟩⟩⟩⟩⟩⟩⟩⟩⟩⟩⟩⟩⟩⟩
theorem il_r20 : ∀ w ∈ wsL_law_r20, w ∈ lw_tbl := List.forall_mem_cons.mpr ⟨List.mem_of_getElem? (i := 427) (by decide +kernel), List.forall_mem_cons.mpr ⟨List.mem_of_getElem? (i := 4) (by decide +kernel), List.forall_mem_cons.mpr ⟨List.mem_of_getElem? (i := 428) (by decide +kernel), List.forall_mem_cons.mpr ⟨List.mem_of_getElem? (i := 429) (by decide +kernel), List.forall_mem_cons.mpr ⟨List.mem_of_getElem? (i := 430) (by decide +kernel), List.forall_mem_cons.mpr ⟨List.mem_of_getElem? (i := 431) (by decide +kernel), List.forall_mem_cons.mpr ⟨List.mem_of_getElem? (i := 432) (by decide +kernel), List.forall_mem_cons.mpr ⟨List.mem_of_getElem? (i := 717) (by decide +kernel), List.forall_mem_cons.mpr ⟨List.mem_of_getElem? (i := 718) (by decide +kernel), List.forall_mem_cons.mpr ⟨List.mem_of_getElem? (i := 719) (by decide +kernel), List.forall_mem_cons.mpr ⟨List.mem_of_getElem? (i := 720) (by decide +kernel), List.forall_mem_cons.mpr ⟨List.mem_of_getElem? (i := 721) (by decide +kernel), List.forall_mem_cons.mpr ⟨List.mem_of_getElem? (i := 723) (by decide +kernel), List.forall_mem_cons.mpr ⟨List.mem_of_getElem? (i := 26) (by decide +kernel), List.forall_mem_cons.mpr ⟨List.mem_of_getElem? (i := 724) (by decide +kernel), List.forall_mem_cons.mpr ⟨List.mem_of_getElem? (i := 433) (by decide +kernel), List.forall_mem_cons.mpr ⟨List.mem_of_getElem? (i := 434) (by decide +kernel), List.forall_mem_cons.mpr ⟨List.mem_of_getElem? (i := 435) (by decide +kernel), List.forall_mem_cons.mpr ⟨List.mem_of_getElem? (i := 436) (by decide +kernel), List.forall_mem_cons.mpr ⟨List.mem_of_getElem? (i := 725) (by decide +kernel), List.forall_mem_cons.mpr ⟨List.mem_of_getElem? (i := 726) (by decide +kernel), List.forall_mem_cons.mpr ⟨List.mem_of_getElem? (i := 727) (by decide +kernel), List.forall_mem_cons.mpr ⟨List.mem_of_getElem? (i := 728) (by decide +kernel), List.forall_mem_cons.mpr ⟨List.mem_of_getElem? (i := 437) (by decide +kernel), fun _ h => absurd h List.not_mem_nil⟩⟩⟩⟩⟩⟩⟩⟩⟩⟩⟩⟩⟩⟩⟩⟩⟩⟩⟩⟩⟩⟩⟩⟩
theorem il_r21 : ∀ w ∈ wsL_law_r21, w ∈ lw_tbl := List.forall_mem_cons.mpr ⟨List.mem_of_getElem? (i := 438) (by decide +kernel), List.forall_mem_cons.mpr ⟨List.mem_of_getElem? (i := 439) (by decide +kernel), List.forall_mem_cons.mpr ⟨List.mem_of_getElem? (i := 440) (by decide +kernel), List.forall_mem_cons.mpr ⟨List.mem_of_getElem? (i := 441) (by decide +kernel), List.forall_mem_cons.mpr ⟨List.mem_of_getElem? (i := 442) (by decide +kernel), List.forall_mem_cons.mpr ⟨List.mem_of_getElem? (i := 443) (by decide +kernel), List.forall_mem_cons.mpr ⟨List.mem_of_getElem? (i := 444) (by decide +kernel), List.forall_mem_cons.mpr ⟨List.mem_of_getElem? (i := 729) (by decide +kernel), List.forall_mem_cons.mpr ⟨List.mem_of_getElem? (i := 730) (by decide +kernel), List.forall_mem_cons.mpr ⟨List.mem_of_getElem? (i := 731) (by decide +kernel), List.forall_mem_cons.mpr ⟨List.mem_of_getElem? (i := 732) (by decide +kernel), List.forall_mem_cons.mpr ⟨List.mem_of_getElem? (i := 445) (by decide +kernel), List.forall_mem_cons.mpr ⟨List.mem_of_getElem? (i := 446) (by decide +kernel), List.forall_mem_cons.mpr ⟨List.mem_of_getElem? (i := 447) (by decide +kernel), List.forall_mem_cons.mpr ⟨List.mem_of_getElem? (i := 448) (by decide +kernel), List.forall_mem_cons.mpr ⟨List.mem_of_getElem? (i := 449) (by decide +kernel), List.forall_mem_cons.mpr ⟨List.mem_of_getElem? (i := 450) (by decide +kernel), List.forall_mem_cons.mpr ⟨List.mem_of_getElem? (i := 451) (by decide +kernel), List.forall_mem_cons.mpr ⟨List.mem_of_getElem? (i := 452) (by decide +kernel), List.forall_mem_cons.mpr ⟨List.mem_of_getElem? (i := 733) (by decide +kernel), List.forall_mem_cons.mpr ⟨List.mem_of_getElem? (i := 734) (by decide +kernel), List.forall_mem_cons.mpr ⟨List.mem_of_getElem? (i := 735) (by decide +kernel), List.forall_mem_cons.mpr ⟨List.mem_of_getElem? (i := 736) (by decide +kernel), List.forall_mem_cons.mpr ⟨List.mem_of_getElem? (i := 453) (by decide +kernel), fun _ h => absurd h List.not_mem_nil⟩⟩⟩⟩⟩⟩⟩⟩⟩⟩⟩⟩⟩⟩⟩⟩⟩⟩⟩⟩⟩⟩⟩⟩
theorem il_r22 : ∀ w ∈ wsL_law_r22, w ∈ lw_tbl := List.forall_mem_cons.mpr ⟨List.mem_of_getElem? (i := 454) (by decide +kernel), List.forall_mem_cons.mpr ⟨List.mem_of_getElem? (i := 455) (by decide +kernel), List.forall_mem_cons.mpr ⟨List.mem_of_getElem? (i := 456) (by decide +kernel), List.forall_mem_cons.mpr ⟨List.mem_of_getElem? (i := 737) (by decide +kernel), List.forall_mem_cons.mpr ⟨List.mem_of_getElem? (i := 738) (by decide +kernel), List.forall_mem_cons.mpr ⟨List.mem_of_getElem? (i := 739) (by decide +kernel), List.forall_mem_cons.mpr ⟨List.mem_of_getElem? (i := 740) (by decide +kernel), List.forall_mem_cons.mpr ⟨List.mem_of_getElem? (i := 457) (by decide +kernel), List.forall_mem_cons.mpr ⟨List.mem_of_getElem? (i := 458) (by decide +kernel), List.forall_mem_cons.mpr ⟨List.mem_of_getElem? (i := 459) (by decide +kernel), List.forall_mem_cons.mpr ⟨List.mem_of_getElem? (i := 460) (by decide +kernel), List.forall_mem_cons.mpr ⟨List.mem_of_getElem? (i := 461) (by decide +kernel), List.forall_mem_cons.mpr ⟨List.mem_of_getElem? (i := 463) (by decide +kernel), List.forall_mem_cons.mpr ⟨List.mem_of_getElem? (i := 5) (by decide +kernel), List.forall_mem_cons.mpr ⟨List.mem_of_getElem? (i := 464) (by decide +kernel), List.forall_mem_cons.mpr ⟨List.mem_of_getElem? (i := 465) (by decide +kernel), List.forall_mem_cons.mpr ⟨List.mem_of_getElem? (i := 467) (by decide +kernel), List.forall_mem_cons.mpr ⟨List.mem_of_getElem? (i := 6) (by decide +kernel), List.forall_mem_cons.mpr ⟨List.mem_of_getElem? (i := 468) (by decide +kernel), List.forall_mem_cons.mpr ⟨List.mem_of_getElem? (i := 741) (by decide +kernel), List.forall_mem_cons.mpr ⟨List.mem_of_getElem? (i := 742) (by decide +kernel), List.forall_mem_cons.mpr ⟨List.mem_of_getElem? (i := 743) (by decide +kernel), List.forall_mem_cons.mpr ⟨List.mem_of_getElem? (i := 744) (by decide +kernel), List.forall_mem_cons.mpr ⟨List.mem_of_getElem? (i := 469) (by decide +kernel), fun _ h => absurd h List.not_mem_nil⟩⟩⟩⟩⟩⟩⟩⟩⟩⟩⟩⟩⟩⟩⟩⟩⟩⟩⟩⟩⟩⟩⟩⟩
theorem il_r23 : ∀ w ∈ wsL_law_r23, w ∈ lw_tbl := List.forall_mem_cons.mpr ⟨List.mem_of_getElem? (i := 470) (by decide +kernel), List.forall_mem_cons.mpr ⟨List.mem_of_getElem? (i := 471) (by decide +kernel), List.forall_mem_cons.mpr ⟨List.mem_of_getElem? (i := 472) (by decide +kernel), List.forall_mem_cons.mpr ⟨List.mem_of_getElem? (i := 745) (by decide +kernel), List.forall_mem_cons.mpr ⟨List.mem_of_getElem? (i := 746) (by decide +kernel), List.forall_mem_cons.mpr ⟨List.mem_of_getElem? (i := 747) (by decide +kernel), List.forall_mem_cons.mpr ⟨List.mem_of_getElem? (i := 748) (by decide +kernel), List.forall_mem_cons.mpr ⟨List.mem_of_getElem? (i := 473) (by decide +kernel), List.forall_mem_cons.mpr ⟨List.mem_of_getElem? (i := 474) (by decide +kernel), List.forall_mem_cons.mpr ⟨List.mem_of_getElem? (i := 475) (by decide +kernel), List.forall_mem_cons.mpr ⟨List.mem_of_getElem? (i := 476) (by decide +kernel), List.forall_mem_cons.mpr ⟨List.mem_of_getElem? (i := 477) (by decide +kernel), List.forall_mem_cons.mpr ⟨List.mem_of_getElem? (i := 478) (by decide +kernel), List.forall_mem_cons.mpr ⟨List.mem_of_getElem? (i := 479) (by decide +kernel), List.forall_mem_cons.mpr ⟨List.mem_of_getElem? (i := 480) (by decide +kernel), List.forall_mem_cons.mpr ⟨List.mem_of_getElem? (i := 164) (by decide +kernel), List.forall_mem_cons.mpr ⟨List.mem_of_getElem? (i := 165) (by decide +kernel), List.forall_mem_cons.mpr ⟨List.mem_of_getElem? (i := 167) (by decide +kernel), List.forall_mem_cons.mpr ⟨List.mem_of_getElem? (i := 169) (by decide +kernel), List.forall_mem_cons.mpr ⟨List.mem_of_getElem? (i := 481) (by decide +kernel), List.forall_mem_cons.mpr ⟨List.mem_of_getElem? (i := 482) (by decide +kernel), List.forall_mem_cons.mpr ⟨List.mem_of_getElem? (i := 483) (by decide +kernel), List.forall_mem_cons.mpr ⟨List.mem_of_getElem? (i := 484) (by decide +kernel), List.forall_mem_cons.mpr ⟨List.mem_of_getElem? (i := 485) (by decide +kernel), fun _ h => absurd h List.not_mem_nil⟩⟩⟩⟩⟩⟩⟩⟩⟩⟩⟩⟩⟩⟩⟩⟩⟩⟩⟩⟩⟩⟩⟩⟩
theorem il_r24 : ∀ w ∈ wsL_law_r24, w ∈ lw_tbl := List.forall_mem_cons.mpr ⟨List.mem_of_getElem? (i := 486) (by decide +kernel), List.forall_mem_cons.mpr ⟨List.mem_of_getElem? (i := 487) (by decide +kernel), List.forall_mem_cons.mpr ⟨List.mem_of_getElem? (i := 488) (by decide +kernel), List.forall_mem_cons.mpr ⟨List.mem_of_getElem? (i := 489) (by decide +kernel), List.forall_mem_cons.mpr ⟨List.mem_of_getElem? (i := 491) (by decide +kernel), List.forall_mem_cons.mpr ⟨List.mem_of_getElem? (i := 7) (by decide +kernel), List.forall_mem_cons.mpr ⟨List.mem_of_getElem? (i := 492) (by decide +kernel), List.forall_mem_cons.mpr ⟨List.mem_of_getElem? (i := 493) (by decide +kernel), List.forall_mem_cons.mpr ⟨List.mem_of_getElem? (i := 749) (by decide +kernel), List.forall_mem_cons.mpr ⟨List.mem_of_getElem? (i := 750) (by decide +kernel), List.forall_mem_cons.mpr ⟨List.mem_of_getElem? (i := 751) (by decide +kernel), List.forall_mem_cons.mpr ⟨List.mem_of_getElem? (i := 752) (by decide +kernel), List.forall_mem_cons.mpr ⟨List.mem_of_getElem? (i := 753) (by decide +kernel), List.forall_mem_cons.mpr ⟨List.mem_of_getElem? (i := 755) (by decide +kernel), List.forall_mem_cons.mpr ⟨List.mem_of_getElem? (i := 27) (by decide +kernel), List.forall_mem_cons.mpr ⟨List.mem_of_getElem? (i := 756) (by decide +kernel), List.forall_mem_cons.mpr ⟨List.mem_of_getElem? (i := 757) (by decide +kernel), List.forall_mem_cons.mpr ⟨List.mem_of_getElem? (i := 759) (by decide +kernel), List.forall_mem_cons.mpr ⟨List.mem_of_getElem? (i := 28) (by decide +kernel), List.forall_mem_cons.mpr ⟨List.mem_of_getElem? (i := 760) (by decide +kernel), List.forall_mem_cons.mpr ⟨List.mem_of_getElem? (i := 494) (by decide +kernel), List.forall_mem_cons.mpr ⟨List.mem_of_getElem? (i := 495) (by decide +kernel), List.forall_mem_cons.mpr ⟨List.mem_of_getElem? (i := 496) (by decide +kernel), List.forall_mem_cons.mpr ⟨List.mem_of_getElem? (i := 497) (by decide +kernel), fun _ h => absurd h List.not_mem_nil⟩⟩⟩⟩⟩⟩⟩⟩⟩⟩⟩⟩⟩⟩⟩⟩⟩⟩⟩⟩⟩⟩⟩⟩
theorem il_r25 : ∀ w ∈ wsL_law_r25, w ∈ lw_tbl := List.forall_mem_cons.mpr ⟨List.mem_of_getElem? (i := 498) (by decide +kernel), List.forall_mem_cons.mpr ⟨List.mem_of_getElem? (i := 499) (by decide +kernel), List.forall_mem_cons.mpr ⟨List.mem_of_getElem? (i := 500) (by decide +kernel), List.forall_mem_cons.mpr ⟨List.mem_of_getElem? (i := 501) (by decide +kernel), List.forall_mem_cons.mpr ⟨List.mem_of_getElem? (i := 761) (by decide +kernel), List.forall_mem_cons.mpr ⟨List.mem_of_getElem? (i := 762) (by decide +kernel), List.forall_mem_cons.mpr ⟨List.mem_of_getElem? (i := 763) (by decide +kernel), List.forall_mem_cons.mpr ⟨List.mem_of_getElem? (i := 764) (by decide +kernel), List.forall_mem_cons.mpr ⟨List.mem_of_getElem? (i := 765) (by decide +kernel), List.forall_mem_cons.mpr ⟨List.mem_of_getElem? (i := 767) (by decide +kernel), List.forall_mem_cons.mpr ⟨List.mem_of_getElem? (i := 29) (by decide +kernel), List.forall_mem_cons.mpr ⟨List.mem_of_getElem? (i := 768) (by decide +kernel), List.forall_mem_cons.mpr ⟨List.mem_of_getElem? (i := 502) (by decide +kernel), List.forall_mem_cons.mpr ⟨List.mem_of_getElem? (i := 503) (by decide +kernel), List.forall_mem_cons.mpr ⟨List.mem_of_getElem? (i := 504) (by decide +kernel), List.forall_mem_cons.mpr ⟨List.mem_of_getElem? (i := 505) (by decide +kernel), List.forall_mem_cons.mpr ⟨List.mem_of_getElem? (i := 506) (by decide +kernel), List.forall_mem_cons.mpr ⟨List.mem_of_getElem? (i := 508) (by decide +kernel), List.forall_mem_cons.mpr ⟨List.mem_of_getElem? (i := 8) (by decide +kernel), List.forall_mem_cons.mpr ⟨List.mem_of_getElem? (i := 509) (by decide +kernel), List.forall_mem_cons.mpr ⟨List.mem_of_getElem? (i := 769) (by decide +kernel), List.forall_mem_cons.mpr ⟨List.mem_of_getElem? (i := 770) (by decide +kernel), List.forall_mem_cons.mpr ⟨List.mem_of_getElem? (i := 771) (by decide +kernel), List.forall_mem_cons.mpr ⟨List.mem_of_getElem? (i := 772) (by decide +kernel), fun _ h => absurd h List.not_mem_nil⟩⟩⟩⟩⟩⟩⟩⟩⟩⟩⟩⟩⟩⟩⟩⟩⟩⟩⟩⟩⟩⟩⟩⟩
theorem il_r26 : ∀ w ∈ wsL_law_r26, w ∈ lw_tbl := List.forall_mem_cons.mpr ⟨List.mem_of_getElem? (i := 773) (by decide +kernel), List.forall_mem_cons.mpr ⟨List.mem_of_getElem? (i := 775) (by decide +kernel), List.forall_mem_cons.mpr ⟨List.mem_of_getElem? (i := 30) (by decide +kernel), List.forall_mem_cons.mpr ⟨List.mem_of_getElem? (i := 776) (by decide +kernel), fun _ h => absurd h List.not_mem_nil⟩⟩⟩⟩
theorem wsL_law_in : ∀ w ∈ wsL_law, w ∈ lw_tbl := (fun w h => (List.mem_append.mp h).elim ((fun w h => (List.mem_append.mp h).elim ((fun w h => (List.mem_append.mp h).elim ((fun w h => (List.mem_append.mp h).elim ((fun w h => (List.mem_append.mp h).elim ((fun w h => (List.mem_append.mp h).elim ((fun w h => (List.mem_append.mp h).elim ((fun w h => (List.mem_append.mp h).elim ((fun w h => (List.mem_append.mp h).elim (il_r1 w) ((fun w h => (List.mem_append.mp h).elim (il_r2 w) ((fun w h => (List.mem_append.mp h).elim (il_r3 w) ((fun w h => (List.mem_append.mp h).elim (il_r4 w) ((fun w h => (List.mem_append.mp h).elim (il_r5 w) ((fun w h => (List.mem_append.mp h).elim (il_r6 w) ((fun w h => (List.mem_append.mp h).elim (il_r7 w) ((fun w h => (List.mem_append.mp h).elim (il_r8 w) ((fun w h => (List.mem_append.mp h).elim (il_r9 w) ((fun w h => (List.mem_append.mp h).elim (il_r10 w) ((fun w h => (List.mem_append.mp h).elim (il_r11 w) ((fun w h => (List.mem_append.mp h).elim (il_r12 w) ((fun w h => (List.mem_append.mp h).elim (il_r13 w) ((fun w h => (List.mem_append.mp h).elim (il_r14 w) ((fun w h => (List.mem_append.mp h).elim (il_r15 w) ((fun w h => (List.mem_append.mp h).elim (il_r16 w) ((fun w h => (List.mem_append.mp h).elim (il_r17 w) ((fun w h => (List.mem_append.mp h).elim (il_r18 w) ((fun w h => (List.mem_append.mp h).elim (il_r19 w) ((fun w h => (List.mem_append.mp h).elim (il_r20 w) ((fun w h => (List.mem_append.mp h).elim (il_r21 w) ((fun w h => (List.mem_append.mp h).elim (il_r22 w) ((fun w h => (List.mem_append.mp h).elim (il_r23 w) ((fun w h => (List.mem_append.mp h).elim (il_r24 w) ((fun w h => (List.mem_append.mp h).elim (il_r25 w) (il_r26 w)) w)) w)) w)) w)) w)) w)) w)) w)) w)) w)) w)) w)) w)) w)) w)) w)) w)) w)) w)) w)) w)) w)) w)) w)) w) (il_X5 w)) w) (il_X6 w)) w) (il_X0 w)) w) (il_X3 w)) w) (il_X4 w)) w) (il_X1 w)) w) (il_X2 w)) w) (fun h => absurd h List.not_mem_nil))
set_option maxRecDepth 20000 in
theorem ggL_law_X5_init : GoodIn wsL_law wsX5_init := goodIn_r _ [8, 9, 10, 11, 12, 13, 14, 15, 16, 17, 18, 19, 20, 21, 22, 23, 24, 25, 26, 27, 28, 29, 30, 31, 32, 33, 34, 35, 36, 37, 38, 39, 40, 41, 42, 43, 44, 45, 46, 47, 48, 49, 50, 51, 52, 53, 54, 55, 56, 57, 58, 59, 60, 61, 62, 63, 64, 65, 66, 67, 68, 69, 2, 70, 71, 72, 73, 74, 75, 76, 77, 78, 79, 80, 81, 82, 83, 84, 85, 86, 87, 88, 89, 90, 91, 92, 93, 94, 95, 96, 97, 98, 99, 100, 101, 633, 634, 635, 636, 637, 638, 639, 640, 641, 642, 643, 604, 605, 606, 607, 608, 609, 610, 611, 644, 645, 646, 647, 648, 649, 650, 651, 652, 653, 654, 655, 656, 657] (by decide +kernel) (by decide +kernel)
set_option maxRecDepth 20000 in
theorem gL_law_X5_init : GoodIn wsL_law (wsX5_init) := ggL_law_X5_init
set_option maxRecDepth 20000 in
theorem ggL_law_X6_init : GoodIn wsL_law wsX6_init := goodIn_r _ [104, 105, 10, 11, 106, 40, 107, 108, 109, 110, 38, 111, 112, 113, 114, 115, 116, 117, 118, 119, 120, 121, 122, 123, 612, 613, 614, 615, 616, 617, 618, 619, 620, 621, 622, 623, 624, 625, 626, 627, 628, 629, 630, 631, 632] (by decide +kernel) (by decide +kernel)
set_option maxRecDepth 20000 in
theorem gL_law_X6_init : GoodIn wsL_law (wsX6_init) := ggL_law_X6_init
set_option maxRecDepth 20000 in
theorem ggL_law_X5_facts : GoodIn wsL_law wsX5_facts := goodIn_r _ [127, 15, 67, 68, 69, 2, 70, 24, 28, 19, 71, 72, 73, 14, 74, 75, 76, 77, 78, 79, 41, 80, 81, 82, 83, 39, 84, 85, 86, 87, 88, 89, 90, 91, 92, 18, 93, 51, 50, 94, 95, 96, 97, 98, 99, 100, 101, 42, 43, 45, 604, 605, 606, 607, 608, 609, 610, 611, 633, 634, 635, 636, 637, 638, 639, 640, 641, 642, 643, 646, 647, 648, 649, 650, 651, 652, 653, 644, 645] (by decide +kernel) (by decide +kernel)
set_option maxRecDepth 20000 in
theorem gL_law_X5_facts : GoodIn wsL_law (wsV RL 13 RX5 yX5_facts wsX5_facts) := goodIn_app (goodIn_of _ (by decide +kernel)) ggL_law_X5_facts
set_option maxRecDepth 20000 in
theorem ggL_law_X6_facts : GoodIn wsL_law wsX6_facts := goodIn_r _ [131, 106, 107, 132, 133, 134, 135, 136, 5, 137, 612, 613, 614, 615, 616, 617, 618, 619, 620, 621, 622, 623, 624, 625, 626, 627, 628, 629, 630, 631, 632] (by decide +kernel) (by decide +kernel)
set_option maxRecDepth 20000 in
theorem gL_law_X6_facts : GoodIn wsL_law (wsV RL 17 RX6 yX6_facts wsX6_facts) := goodIn_app (goodIn_of _ (by decide +kernel)) ggL_law_X6_facts
set_option maxRecDepth 20000 in
theorem ggL_law_X5_barred : GoodIn wsL_law wsX5_barred := goodIn_r _ [141, 15, 142, 143, 144, 14, 145, 75, 146, 147, 148, 149, 41, 88, 2, 89, 150, 151, 152, 153, 80, 81, 82, 83, 76, 39, 84, 85, 86, 87, 154, 155, 156, 604, 605, 606, 607, 608, 609, 610, 611, 633, 634, 635, 636, 637, 638, 639, 640, 641, 642, 643] (by decide +kernel) (by decide +kernel)
set_option maxRecDepth 20000 in
theorem gL_law_X5_barred : GoodIn wsL_law (wsV RL 18 RX5 yX5_barred wsX5_barred) := goodIn_app (goodIn_of _ (by decide +kernel)) ggL_law_X5_barred
set_option maxRecDepth 20000 in
theorem ggL_law_X6_barred : GoodIn wsL_law wsX6_barred := goodIn_r _ [160, 107, 161, 162, 163, 5, 164, 106, 135, 136, 137, 612, 613, 614, 615, 616, 617, 618, 619, 620, 621, 622, 623, 624, 625, 626, 627, 628, 629, 630, 631, 632] (by decide +kernel) (by decide +kernel)
set_option maxRecDepth 20000 in
theorem gL_law_X6_barred : GoodIn wsL_law (wsV RL 22 RX6 yX6_barred wsX6_barred) := goodIn_app (goodIn_of _ (by decide +kernel)) ggL_law_X6_barred
set_option maxRecDepth 20000 in
theorem ggL_law_X5_line : GoodIn wsL_law wsX5_line := goodIn_r _ [168, 15, 19, 169, 170, 171, 14, 172, 76, 173, 174, 2, 175, 176, 177, 178, 179, 77, 42, 43, 44, 45, 90, 91, 92, 18, 93, 51, 50, 94, 95, 96, 97, 79, 98, 99, 100, 101, 88, 89, 604, 605, 606, 607, 608, 609, 610, 611, 633, 634, 635, 636, 637, 638, 639, 640, 641, 642, 643, 644, 645] (by decide +kernel) (by decide +kernel)
set_option maxRecDepth 20000 in
theorem gL_law_X5_line : GoodIn wsL_law (wsV RL 23 RX5 yX5_line wsX5_line) := goodIn_app (goodIn_of _ (by decide +kernel)) ggL_law_X5_line
set_option maxRecDepth 20000 in
theorem ggL_law_X6_line : GoodIn wsL_law wsX6_line := goodIn_r _ [183, 132, 108, 109, 110, 111, 112, 184, 185, 186, 5, 187, 106, 135, 136, 137, 188, 189, 190, 612, 613, 614, 615, 616, 617, 618, 619, 620, 621, 622, 623, 624, 625, 626, 627, 628, 629, 630, 631, 632] (by decide +kernel) (by decide +kernel)
set_option maxRecDepth 20000 in
theorem gL_law_X6_line : GoodIn wsL_law (wsV RL 27 RX6 yX6_line wsX6_line) := goodIn_app (goodIn_of _ (by decide +kernel)) ggL_law_X6_line
set_option maxRecDepth 20000 in
theorem ggL_law_X5_except : GoodIn wsL_law wsX5_except := goodIn_r _ [194, 15, 19, 195, 196, 197, 14, 198, 77, 199, 200, 201, 202, 45, 88, 2, 89, 203, 204, 205, 206, 79, 90, 91, 92, 18, 93, 51, 50, 94, 95, 96, 97, 98, 99, 100, 101, 42, 43, 207, 208, 209, 210, 211, 212, 213, 604, 605, 606, 607, 608, 609, 610, 611, 633, 634, 635, 636, 637, 638, 639, 640, 641, 642, 643, 644, 645] (by decide +kernel) (by decide +kernel)
set_option maxRecDepth 20000 in
theorem gL_law_X5_except : GoodIn wsL_law (wsV RL 28 RX5 yX5_except wsX5_except) := goodIn_app (goodIn_of _ (by decide +kernel)) ggL_law_X5_except
set_option maxRecDepth 20000 in
theorem ggL_law_X6_except : GoodIn wsL_law wsX6_except := goodIn_r _ [217, 112, 218, 219, 220, 5, 221, 132, 135, 136, 137, 222, 223, 224, 612, 613, 614, 615, 616, 617, 618, 619, 620, 621, 622, 623, 624, 625, 626, 627, 628, 629, 630, 631, 632] (by decide +kernel) (by decide +kernel)
set_option maxRecDepth 20000 in
theorem gL_law_X6_except : GoodIn wsL_law (wsV RL 32 RX6 yX6_except wsX6_except) := goodIn_app (goodIn_of _ (by decide +kernel)) ggL_law_X6_except
set_option maxRecDepth 20000 in
theorem ggL_law_X5_repeal : GoodIn wsL_law wsX5_repeal := goodIn_r _ [228, 15, 19, 195, 196, 197, 14, 198, 77, 229, 230, 231, 232, 78, 88, 2, 89, 233, 234, 235, 236, 90, 91, 92, 18, 93, 51, 50, 94, 95, 96, 97, 79, 98, 99, 100, 101, 42, 43, 45, 154, 155, 156, 604, 605, 606, 607, 608, 609, 610, 611, 633, 634, 635, 636, 637, 638, 639, 640, 641, 642, 643, 644, 645] (by decide +kernel) (by decide +kernel)
set_option maxRecDepth 20000 in
theorem gL_law_X5_repeal : GoodIn wsL_law (wsV RL 33 RX5 yX5_repeal wsX5_repeal) := goodIn_app (goodIn_of _ (by decide +kernel)) ggL_law_X5_repeal
set_option maxRecDepth 20000 in
theorem ggL_law_X6_repeal : GoodIn wsL_law wsX6_repeal := goodIn_r _ [240, 111, 218, 219, 220, 5, 221, 132, 135, 136, 137, 612, 613, 614, 615, 616, 617, 618, 619, 620, 621, 622, 623, 624, 625, 626, 627, 628, 629, 630, 631, 632] (by decide +kernel) (by decide +kernel)
set_option maxRecDepth 20000 in
theorem gL_law_X6_repeal : GoodIn wsL_law (wsV RL 37 RX6 yX6_repeal wsX6_repeal) := goodIn_app (goodIn_of _ (by decide +kernel)) ggL_law_X6_repeal
set_option maxRecDepth 20000 in
theorem ggL_law_X5_about : GoodIn wsL_law wsX5_about := goodIn_r _ [244, 15, 195, 196, 197, 14, 198, 77, 229, 230, 231, 232, 78, 88, 2, 89, 154, 155, 156, 245, 246, 247, 248, 42, 43, 45, 604, 605, 606, 607, 608, 609, 610, 611, 633, 634, 635, 636, 637, 638, 639, 640, 641, 642, 643] (by decide +kernel) (by decide +kernel)
set_option maxRecDepth 20000 in
theorem gL_law_X5_about : GoodIn wsL_law (wsV RL 38 RX5 yX5_about wsX5_about) := goodIn_app (goodIn_of _ (by decide +kernel)) ggL_law_X5_about
set_option maxRecDepth 20000 in
theorem ggL_law_X6_about : GoodIn wsL_law wsX6_about := goodIn_r _ [252, 108, 109, 110, 111, 112, 218, 219, 220, 5, 221, 132, 135, 136, 137, 253, 254, 255, 256, 612, 613, 614, 615, 616, 617, 618, 619, 620, 621, 622, 623, 624, 625, 626, 627, 628, 629, 630, 631, 632] (by decide +kernel) (by decide +kernel)
set_option maxRecDepth 20000 in
theorem gL_law_X6_about : GoodIn wsL_law (wsV RL 41 RX6 yX6_about wsX6_about) := goodIn_app (goodIn_of _ (by decide +kernel)) ggL_law_X6_about
set_option maxRecDepth 20000 in
theorem ggL_law_X5_holds : GoodIn wsL_law wsX5_holds := goodIn_r _ [260, 15, 195, 196, 197, 14, 198, 77, 261, 262, 263, 264, 76, 39, 265, 99, 100, 101, 42, 43, 45, 88, 2, 89, 266, 154, 155, 156, 604, 605, 606, 607, 608, 609, 610, 611, 633, 634, 635, 636, 637, 638, 639, 640, 641, 642, 643] (by decide +kernel) (by decide +kernel)
set_option maxRecDepth 20000 in
theorem gL_law_X5_holds : GoodIn wsL_law (wsV RL 42 RX5 yX5_holds wsX5_holds) := goodIn_app (goodIn_of _ (by decide +kernel)) ggL_law_X5_holds
set_option maxRecDepth 20000 in
theorem ggL_law_X6_holds : GoodIn wsL_law wsX6_holds := goodIn_r _ [270, 218, 219, 220, 5, 221, 132, 135, 136, 137, 271, 272, 273, 274, 106, 107, 184, 185, 186, 187, 275, 276, 277, 278, 111, 108, 109, 112, 612, 613, 614, 615, 616, 617, 618, 619, 620, 621, 622, 623, 624, 625, 626, 627, 628, 629, 630, 631, 632] (by decide +kernel) (by decide +kernel)
set_option maxRecDepth 20000 in
theorem gL_law_X6_holds : GoodIn wsL_law (wsV RL 45 RX6 yX6_holds wsX6_holds) := goodIn_app (goodIn_of _ (by decide +kernel)) ggL_law_X6_holds
set_option maxRecDepth 20000 in
theorem ggL_law_X5_law : GoodIn wsL_law wsX5_law := goodIn_r _ [282, 15, 19, 261, 262, 263, 14, 264, 76, 39, 283, 284, 285, 18, 286, 51, 50, 287, 288, 289, 290, 604, 605, 606, 607, 608, 609, 610, 611, 644, 645, 633, 634, 635, 636, 637, 638, 639, 640, 641, 642, 643] (by decide +kernel) (by decide +kernel)
set_option maxRecDepth 20000 in
theorem gL_law_X5_law : GoodIn wsL_law (wsV RL 46 RX5 yX5_law wsX5_law) := goodIn_app (goodIn_of _ (by decide +kernel)) ggL_law_X5_law
set_option maxRecDepth 20000 in
theorem ggL_law_X6_law : GoodIn wsL_law wsX6_law := goodIn_r _ [294, 271, 272, 273, 5, 274, 106, 107, 184, 185, 186, 187, 135, 136, 137, 295, 296, 297, 298, 132, 112, 275, 276, 277, 278, 111, 108, 109, 299, 300, 301, 302, 110, 612, 613, 614, 615, 616, 617, 618, 619, 620, 621, 622, 623, 624, 625, 626, 627, 628, 629, 630, 631, 632] (by decide +kernel) (by decide +kernel)
set_option maxRecDepth 20000 in
theorem gL_law_X6_law : GoodIn wsL_law (wsV RL 49 RX6 yX6_law wsX6_law) := goodIn_app (goodIn_of _ (by decide +kernel)) ggL_law_X6_law
set_option maxRecDepth 20000 in
theorem ggL_law_X5_open : GoodIn wsL_law wsX5_open := goodIn_r _ [306, 15, 19, 261, 262, 263, 14, 264, 76, 39, 307, 288, 289, 18, 290, 50, 604, 605, 606, 607, 608, 609, 610, 611, 633, 634, 635, 636, 637, 638, 639, 640, 641, 642, 643, 644, 645] (by decide +kernel) (by decide +kernel)
set_option maxRecDepth 20000 in
theorem gL_law_X5_open : GoodIn wsL_law (wsV RL 50 RX5 yX5_open wsX5_open) := goodIn_app (goodIn_of _ (by decide +kernel)) ggL_law_X5_open
set_option maxRecDepth 20000 in
theorem ggL_law_X6_open : GoodIn wsL_law wsX6_open := goodIn_r _ [311, 184, 185, 186, 5, 187, 106, 271, 272, 273, 274, 107, 135, 136, 137, 295, 296, 297, 298, 132, 112, 275, 276, 277, 278, 111, 108, 109, 612, 613, 614, 615, 616, 617, 618, 619, 620, 621, 622, 623, 624, 625, 626, 627, 628, 629, 630, 631, 632] (by decide +kernel) (by decide +kernel)
set_option maxRecDepth 20000 in
theorem gL_law_X6_open : GoodIn wsL_law (wsV RL 53 RX6 yX6_open wsX6_open) := goodIn_app (goodIn_of _ (by decide +kernel)) ggL_law_X6_open
set_option maxRecDepth 20000 in
theorem ggL_law_X5_idle : GoodIn wsL_law wsX5_idle := goodIn_r _ [315, 15, 20, 195, 196, 197, 14, 198, 77, 233, 234, 235, 236, 78, 90, 91, 92, 18, 93, 51, 50, 94, 95, 96, 97, 79, 98, 99, 100, 101, 42, 43, 45, 88, 2, 89, 316, 317, 318, 319, 19, 261, 262, 263, 264, 76, 39, 320, 321, 322, 323, 324, 284, 285, 286, 287, 288, 289, 290, 154, 155, 156, 604, 605, 606, 607, 608, 609, 610, 611, 633, 634, 635, 636, 637, 638, 639, 640, 641, 642, 643, 644, 645] (by decide +kernel) (by decide +kernel)
set_option maxRecDepth 20000 in
theorem gL_law_X5_idle : GoodIn wsL_law (wsV RL 54 RX5 yX5_idle wsX5_idle) := goodIn_app (goodIn_of _ (by decide +kernel)) ggL_law_X5_idle
set_option maxRecDepth 20000 in
theorem ggL_law_X6_idle : GoodIn wsL_law wsX6_idle := goodIn_r _ [328, 218, 219, 220, 5, 221, 132, 135, 136, 137, 329, 330, 331, 332, 120, 111, 184, 185, 186, 187, 106, 333, 334, 335, 336, 299, 300, 301, 302, 110, 295, 296, 297, 298, 112, 275, 276, 277, 278, 108, 109, 271, 272, 273, 274, 107, 612, 613, 614, 615, 616, 617, 618, 619, 620, 621, 622, 623, 624, 625, 626, 627, 628, 629, 630, 631, 632] (by decide +kernel) (by decide +kernel)
set_option maxRecDepth 20000 in
theorem gL_law_X6_idle : GoodIn wsL_law (wsV RL 57 RX6 yX6_idle wsX6_idle) := goodIn_app (goodIn_of _ (by decide +kernel)) ggL_law_X6_idle
set_option maxRecDepth 20000 in
theorem ggL_law_X5_moment : GoodIn wsL_law wsX5_moment := goodIn_r _ [340, 24, 341, 342, 343, 23, 344, 345, 55, 56, 57, 604, 605, 606, 607, 608, 609, 610, 611, 646, 647, 648, 649] (by decide +kernel) (by decide +kernel)
set_option maxRecDepth 20000 in
theorem gL_law_X5_moment : GoodIn wsL_law (wsV RL 58 RX5 yX5_moment wsX5_moment) := goodIn_app (goodIn_of _ (by decide +kernel)) ggL_law_X5_moment
set_option maxRecDepth 20000 in
theorem ggL_law_X6_moment : GoodIn wsL_law wsX6_moment := goodIn_r _ [349, 133, 113, 114, 115, 612, 613, 614, 615, 616, 617, 618, 619, 620, 621, 622, 623, 624, 625, 626, 627, 628, 629, 630, 631, 632] (by decide +kernel) (by decide +kernel)
set_option maxRecDepth 20000 in
theorem gL_law_X6_moment : GoodIn wsL_law (wsV RL 62 RX6 yX6_moment wsX6_moment) := goodIn_app (goodIn_of _ (by decide +kernel)) ggL_law_X6_moment
set_option maxRecDepth 20000 in
theorem ggL_law_X5_tell : GoodIn wsL_law wsX5_tell := goodIn_r _ [353, 24, 15, 354, 355, 356, 23, 357, 345, 142, 143, 144, 14, 145, 75, 358, 359, 360, 361, 55, 56, 88, 2, 89, 604, 605, 606, 607, 608, 609, 610, 611, 646, 647, 648, 649, 633, 634, 635, 636, 637, 638, 639, 640, 641, 642, 643] (by decide +kernel) (by decide +kernel)
set_option maxRecDepth 20000 in
theorem gL_law_X5_tell : GoodIn wsL_law (wsV RL 63 RX5 yX5_tell wsX5_tell) := goodIn_app (goodIn_of _ (by decide +kernel)) ggL_law_X5_tell
set_option maxRecDepth 20000 in
theorem ggL_law_X6_tell : GoodIn wsL_law wsX6_tell := goodIn_r _ [365, 113, 114, 366, 367, 368, 5, 369, 133, 135, 136, 137, 161, 162, 163, 164, 106, 612, 613, 614, 615, 616, 617, 618, 619, 620, 621, 622, 623, 624, 625, 626, 627, 628, 629, 630, 631, 632] (by decide +kernel) (by decide +kernel)
set_option maxRecDepth 20000 in
theorem gL_law_X6_tell : GoodIn wsL_law (wsV RL 67 RX6 yX6_tell wsX6_tell) := goodIn_app (goodIn_of _ (by decide +kernel)) ggL_law_X6_tell
set_option maxRecDepth 20000 in
theorem ggL_law_X5_known : GoodIn wsL_law wsX5_known := goodIn_r _ [373, 24, 15, 354, 355, 356, 23, 357, 345, 374, 375, 376, 377, 55, 56, 378, 379, 380, 381, 382, 383, 384, 385, 386, 387, 14, 388, 76, 389, 390, 391, 392, 393, 394, 395, 396, 39, 604, 605, 606, 607, 608, 609, 610, 611, 646, 647, 648, 649, 633, 634, 635, 636, 637, 638, 639, 640, 641, 642, 643] (by decide +kernel) (by decide +kernel)
set_option maxRecDepth 20000 in
theorem gL_law_X5_known : GoodIn wsL_law (wsV RL 68 RX5 yX5_known wsX5_known) := goodIn_app (goodIn_of _ (by decide +kernel)) ggL_law_X5_known
set_option maxRecDepth 20000 in
theorem ggL_law_X6_known : GoodIn wsL_law wsX6_known := goodIn_r _ [400, 366, 367, 368, 5, 369, 133, 135, 136, 137, 401, 402, 403, 404, 113, 114, 405, 406, 407, 408, 409, 410, 411, 412, 184, 185, 186, 187, 106, 413, 414, 415, 416, 417, 418, 419, 420, 271, 272, 273, 274, 107, 299, 300, 301, 302, 110, 295, 296, 297, 298, 132, 112, 275, 276, 277, 278, 111, 108, 109, 612, 613, 614, 615, 616, 617, 618, 619, 620, 621, 622, 623, 624, 625, 626, 627, 628, 629, 630, 631, 632] (by decide +kernel) (by decide +kernel)
set_option maxRecDepth 20000 in
theorem gL_law_X6_known : GoodIn wsL_law (wsV RL 71 RX6 yX6_known wsX6_known) := goodIn_app (goodIn_of _ (by decide +kernel)) ggL_law_X6_known
set_option maxRecDepth 20000 in
theorem ggL_law_X5_proof : GoodIn wsL_law wsX5_proof := goodIn_r _ [424, 24, 19, 15, 354, 355, 356, 23, 357, 345, 173, 174, 2, 175, 374, 375, 376, 377, 55, 56, 378, 379, 380, 381, 382, 383, 384, 425, 426, 427, 18, 428, 51, 429, 394, 395, 14, 396, 39, 324, 284, 285, 286, 50, 287, 288, 289, 290, 389, 390, 391, 392, 76, 393, 604, 605, 606, 607, 608, 609, 610, 611, 646, 647, 648, 649, 644, 645, 633, 634, 635, 636, 637, 638, 639, 640, 641, 642, 643] (by decide +kernel) (by decide +kernel)
set_option maxRecDepth 20000 in
theorem gL_law_X5_proof : GoodIn wsL_law (wsV RL 72 RX5 yX5_proof wsX5_proof) := goodIn_app (goodIn_of _ (by decide +kernel)) ggL_law_X5_proof
set_option maxRecDepth 20000 in
theorem ggL_law_X6_proof : GoodIn wsL_law wsX6_proof := goodIn_r _ [433, 366, 367, 368, 5, 369, 133, 135, 136, 137, 188, 189, 190, 413, 414, 415, 416, 184, 185, 186, 187, 106, 417, 418, 419, 420, 271, 272, 273, 274, 107, 401, 402, 403, 404, 113, 114, 405, 406, 407, 408, 299, 300, 301, 302, 110, 295, 296, 297, 298, 132, 112, 275, 276, 277, 278, 111, 108, 109, 612, 613, 614, 615, 616, 617, 618, 619, 620, 621, 622, 623, 624, 625, 626, 627, 628, 629, 630, 631, 632] (by decide +kernel) (by decide +kernel)
set_option maxRecDepth 20000 in
theorem gL_law_X6_proof : GoodIn wsL_law (wsV RL 75 RX6 yX6_proof wsX6_proof) := goodIn_app (goodIn_of _ (by decide +kernel)) ggL_law_X6_proof
set_option maxRecDepth 20000 in
theorem ggL_law_X5_binds : GoodIn wsL_law wsX5_binds := goodIn_r _ [437, 24, 28, 354, 355, 356, 23, 357, 345, 374, 375, 376, 377, 55, 56, 378, 379, 380, 381, 382, 383, 384, 438, 439, 440, 27, 441, 442, 63, 61, 604, 605, 606, 607, 608, 609, 610, 611, 646, 647, 648, 649, 650, 651, 652, 653] (by decide +kernel) (by decide +kernel)
set_option maxRecDepth 20000 in
theorem gL_law_X5_binds : GoodIn wsL_law (wsV RL 76 RX5 yX5_binds wsX5_binds) := goodIn_app (goodIn_of _ (by decide +kernel)) ggL_law_X5_binds
set_option maxRecDepth 20000 in
theorem ggL_law_X6_binds : GoodIn wsL_law wsX6_binds := goodIn_r _ [446, 366, 367, 368, 5, 369, 133, 135, 136, 137, 447, 448, 449, 450, 134, 118, 116, 409, 410, 411, 412, 184, 185, 186, 187, 106, 401, 402, 403, 404, 113, 114, 405, 406, 407, 408, 612, 613, 614, 615, 616, 617, 618, 619, 620, 621, 622, 623, 624, 625, 626, 627, 628, 629, 630, 631, 632] (by decide +kernel) (by decide +kernel)
set_option maxRecDepth 20000 in
theorem gL_law_X6_binds : GoodIn wsL_law (wsV RL 79 RX6 yX6_binds wsX6_binds) := goodIn_app (goodIn_of _ (by decide +kernel)) ggL_law_X6_binds
set_option maxRecDepth 20000 in
theorem ggL_law_X5_verdict : GoodIn wsL_law wsX5_verdict := goodIn_r _ [454, 24, 19, 354, 355, 356, 23, 357, 345, 455, 456, 457, 2, 458, 15, 28, 374, 375, 376, 377, 55, 56, 378, 379, 380, 381, 382, 383, 384, 389, 390, 391, 14, 392, 76, 393, 394, 395, 396, 39, 438, 439, 440, 27, 441, 442, 63, 61, 459, 460, 461, 18, 462, 51, 429, 324, 284, 285, 286, 50, 287, 288, 289, 290, 604, 605, 606, 607, 608, 609, 610, 611, 646, 647, 648, 649, 650, 651, 652, 653, 633, 634, 635, 636, 637, 638, 639, 640, 641, 642, 643, 644, 645] (by decide +kernel) (by decide +kernel)
set_option maxRecDepth 20000 in
theorem gL_law_X5_verdict : GoodIn wsL_law (wsV RL 80 RX5 yX5_verdict wsX5_verdict) := goodIn_app (goodIn_of _ (by decide +kernel)) ggL_law_X5_verdict
set_option maxRecDepth 20000 in
theorem ggL_law_X6_verdict : GoodIn wsL_law wsX6_verdict := goodIn_r _ [466, 366, 367, 368, 5, 369, 133, 135, 136, 137, 467, 468, 469, 470, 115, 117, 413, 414, 415, 416, 184, 185, 186, 187, 106, 417, 418, 419, 420, 271, 272, 273, 274, 107, 401, 402, 403, 404, 113, 114, 405, 406, 407, 408, 299, 300, 301, 302, 110, 295, 296, 297, 298, 132, 112, 275, 276, 277, 278, 111, 108, 109, 447, 448, 449, 450, 134, 118, 116, 409, 410, 411, 412, 612, 613, 614, 615, 616, 617, 618, 619, 620, 621, 622, 623, 624, 625, 626, 627, 628, 629, 630, 631, 632] (by decide +kernel) (by decide +kernel)
set_option maxRecDepth 20000 in
theorem gL_law_X6_verdict : GoodIn wsL_law (wsV RL 83 RX6 yX6_verdict wsX6_verdict) := goodIn_app (goodIn_of _ (by decide +kernel)) ggL_law_X6_verdict
set_option maxRecDepth 20000 in
theorem ggL_law_X5_rule : GoodIn wsL_law wsX5_rule := goodIn_r _ [474, 24, 19, 354, 355, 356, 23, 357, 345, 173, 174, 2, 175, 455, 456, 457, 458, 15, 28, 374, 375, 376, 377, 55, 56, 378, 379, 380, 381, 382, 383, 384, 389, 390, 391, 14, 392, 76, 393, 394, 395, 396, 39, 438, 439, 440, 27, 441, 442, 63, 61, 459, 460, 461, 18, 462, 51, 429, 324, 284, 285, 286, 50, 287, 288, 289, 290, 604, 605, 606, 607, 608, 609, 610, 611, 646, 647, 648, 649, 650, 651, 652, 653, 633, 634, 635, 636, 637, 638, 639, 640, 641, 642, 643, 644, 645] (by decide +kernel) (by decide +kernel)
set_option maxRecDepth 20000 in
theorem gL_law_X5_rule : GoodIn wsL_law (wsV RL 84 RX5 yX5_rule wsX5_rule) := goodIn_app (goodIn_of _ (by decide +kernel)) ggL_law_X5_rule
set_option maxRecDepth 20000 in
theorem ggL_law_X6_rule : GoodIn wsL_law wsX6_rule := goodIn_r _ [478, 115, 366, 367, 368, 5, 369, 133, 135, 136, 137, 188, 189, 190, 467, 468, 469, 470, 117, 413, 414, 415, 416, 184, 185, 186, 187, 106, 417, 418, 419, 420, 271, 272, 273, 274, 107, 401, 402, 403, 404, 113, 114, 405, 406, 407, 408, 299, 300, 301, 302, 110, 295, 296, 297, 298, 132, 112, 275, 276, 277, 278, 111, 108, 109, 447, 448, 449, 450, 134, 118, 116, 409, 410, 411, 412, 612, 613, 614, 615, 616, 617, 618, 619, 620, 621, 622, 623, 624, 625, 626, 627, 628, 629, 630, 631, 632] (by decide +kernel) (by decide +kernel)
set_option maxRecDepth 20000 in
theorem gL_law_X6_rule : GoodIn wsL_law (wsV RL 87 RX6 yX6_rule wsX6_rule) := goodIn_app (goodIn_of _ (by decide +kernel)) ggL_law_X6_rule
set_option maxRecDepth 20000 in
theorem ggL_law_X5_make : GoodIn wsL_law wsX5_make := goodIn_r _ [482, 24, 15, 28, 19, 354, 355, 356, 23, 357, 345, 374, 375, 376, 377, 55, 56, 378, 379, 380, 381, 382, 383, 384, 385, 386, 387, 14, 388, 76, 261, 262, 263, 264, 39, 307, 288, 289, 18, 290, 50, 245, 246, 247, 248, 77, 42, 43, 45, 78, 88, 2, 89, 455, 456, 457, 458, 389, 390, 391, 392, 393, 394, 395, 396, 438, 439, 440, 27, 441, 442, 63, 61, 459, 460, 461, 462, 51, 429, 324, 284, 285, 286, 287, 483, 484, 485, 486, 62, 604, 605, 606, 607, 608, 609, 610, 611, 650, 651, 652, 653, 644, 645, 646, 647, 648, 649, 633, 634, 635, 636, 637, 638, 639, 640, 641, 642, 643] (by decide +kernel) (by decide +kernel)
set_option maxRecDepth 20000 in
theorem gL_law_X5_make : GoodIn wsL_law (wsV RL 88 RX5 yX5_make wsX5_make) := goodIn_app (goodIn_of _ (by decide +kernel)) ggL_law_X5_make
set_option maxRecDepth 20000 in
theorem ggL_law_X6_make : GoodIn wsL_law wsX6_make := goodIn_r _ [490, 134, 117, 116, 118, 366, 367, 368, 5, 369, 133, 135, 136, 137, 409, 410, 411, 412, 184, 185, 186, 187, 106, 401, 402, 403, 404, 113, 114, 405, 406, 407, 408, 413, 414, 415, 416, 417, 418, 419, 420, 271, 272, 273, 274, 107, 299, 300, 301, 302, 110, 295, 296, 297, 298, 132, 112, 275, 276, 277, 278, 111, 108, 109, 467, 468, 469, 470, 115, 447, 448, 449, 450, 253, 254, 255, 256, 612, 613, 614, 615, 616, 617, 618, 619, 620, 621, 622, 623, 624, 625, 626, 627, 628, 629, 630, 631, 632] (by decide +kernel) (by decide +kernel)
set_option maxRecDepth 20000 in
theorem gL_law_X6_make : GoodIn wsL_law (wsV RL 91 RX6 yX6_make wsX6_make) := goodIn_app (goodIn_of _ (by decide +kernel)) ggL_law_X6_make
set_option maxRecDepth 20000 in
theorem ggL_law_X5_ofCase : GoodIn wsL_law wsX5_ofCase := goodIn_r _ [494, 28, 495, 496, 497, 27, 498, 442, 604, 605, 606, 607, 608, 609, 610, 611, 650, 651, 652, 653] (by decide +kernel) (by decide +kernel)
set_option maxRecDepth 20000 in
theorem gL_law_X5_ofCase : GoodIn wsL_law (wsV RL 92 RX5 yX5_ofCase wsX5_ofCase) := goodIn_app (goodIn_of _ (by decide +kernel)) ggL_law_X5_ofCase
set_option maxRecDepth 20000 in
theorem ggL_law_X6_ofCase : GoodIn wsL_law wsX6_ofCase := goodIn_r _ [502, 134, 116, 117, 118, 135, 136, 5, 137, 612, 613, 614, 615, 616, 617, 618, 619, 620, 621, 622, 623, 624, 625, 626, 627, 628, 629, 630, 631, 632] (by decide +kernel) (by decide +kernel)
set_option maxRecDepth 20000 in
theorem gL_law_X6_ofCase : GoodIn wsL_law (wsV RL 95 RX6 yX6_ofCase wsX6_ofCase) := goodIn_app (goodIn_of _ (by decide +kernel)) ggL_law_X6_ofCase
set_option maxRecDepth 20000 in
theorem ggL_law_X5_turned : GoodIn wsL_law wsX5_turned := goodIn_r _ [506, 28, 19, 283, 284, 285, 18, 286, 51, 50, 287, 288, 289, 290, 604, 605, 606, 607, 608, 609, 610, 611, 650, 651, 652, 653, 644, 645, 633, 634, 635, 636, 637, 638, 639, 640, 641, 642, 643] (by decide +kernel) (by decide +kernel)
set_option maxRecDepth 20000 in
theorem gL_law_X5_turned : GoodIn wsL_law (wsV RL 96 RX5 yX5_turned wsX5_turned) := goodIn_app (goodIn_of _ (by decide +kernel)) ggL_law_X5_turned
set_option maxRecDepth 20000 in
theorem ggL_law_X6_turned : GoodIn wsL_law wsX6_turned := goodIn_r _ [510, 134, 117, 116, 299, 300, 301, 5, 302, 110, 295, 296, 297, 298, 132, 112, 275, 276, 277, 278, 111, 108, 109, 612, 613, 614, 615, 616, 617, 618, 619, 620, 621, 622, 623, 624, 625, 626, 627, 628, 629, 630, 631, 632] (by decide +kernel) (by decide +kernel)
set_option maxRecDepth 20000 in
theorem gL_law_X6_turned : GoodIn wsL_law (wsV RL 99 RX6 yX6_turned wsX6_turned) := goodIn_app (goodIn_of _ (by decide +kernel)) ggL_law_X6_turned
set_option maxRecDepth 20000 in
theorem ggL_law_X5_mend : GoodIn wsL_law wsX5_mend := goodIn_r _ [514, 15, 20, 195, 196, 197, 14, 198, 77, 233, 234, 235, 236, 78, 90, 91, 92, 18, 93, 51, 50, 94, 95, 96, 97, 79, 98, 99, 100, 101, 42, 43, 45, 88, 2, 89, 316, 317, 318, 319, 19, 261, 262, 263, 264, 76, 39, 320, 321, 322, 323, 324, 284, 285, 286, 287, 288, 289, 290, 515, 516, 517, 518, 28, 519, 520, 521, 522, 24, 455, 456, 457, 458, 374, 375, 376, 23, 377, 55, 56, 378, 379, 380, 381, 382, 383, 384, 389, 390, 391, 392, 393, 394, 395, 396, 438, 439, 440, 27, 441, 442, 63, 61, 459, 460, 461, 462, 429, 604, 605, 606, 607, 608, 609, 610, 611, 633, 634, 635, 636, 637, 638, 639, 640, 641, 642, 643, 644, 645, 650, 651, 652, 653, 646, 647, 648, 649] (by decide +kernel) (by decide +kernel)
set_option maxRecDepth 20000 in
theorem gL_law_X5_mend : GoodIn wsL_law (wsV RL 100 RX5 yX5_mend wsX5_mend) := goodIn_app (goodIn_of _ (by decide +kernel)) ggL_law_X5_mend
set_option maxRecDepth 20000 in
theorem ggL_law_X6_mend : GoodIn wsL_law wsX6_mend := goodIn_r _ [526, 134, 120, 116, 133, 121, 111, 218, 219, 220, 5, 221, 132, 135, 136, 137, 329, 330, 331, 332, 184, 185, 186, 187, 106, 333, 334, 335, 336, 299, 300, 301, 302, 110, 295, 296, 297, 298, 112, 275, 276, 277, 278, 108, 109, 271, 272, 273, 274, 107, 467, 468, 469, 470, 115, 117, 413, 414, 415, 416, 417, 418, 419, 420, 401, 402, 403, 404, 113, 114, 405, 406, 407, 408, 447, 448, 449, 450, 118, 409, 410, 411, 412, 612, 613, 614, 615, 616, 617, 618, 619, 620, 621, 622, 623, 624, 625, 626, 627, 628, 629, 630, 631, 632] (by decide +kernel) (by decide +kernel)
set_option maxRecDepth 20000 in
theorem gL_law_X6_mend : GoodIn wsL_law (wsV RL 103 RX6 yX6_mend wsX6_mend) := goodIn_app (goodIn_of _ (by decide +kernel)) ggL_law_X6_mend
set_option maxRecDepth 20000 in
theorem ggL_law_X5_goal : GoodIn wsL_law wsX5_goal := goodIn_r _ [530, 34, 604, 605, 606, 607, 608, 609, 610, 611] (by decide +kernel) (by decide +kernel)
set_option maxRecDepth 20000 in
theorem gL_law_X5_goal : GoodIn wsL_law (wsV RL 104 RX5 yX5_goal wsX5_goal) := goodIn_app (goodIn_of _ (by decide +kernel)) ggL_law_X5_goal
set_option maxRecDepth 20000 in
theorem ggL_law_X6_goal : GoodIn wsL_law wsX6_goal := goodIn_r _ [534, 119, 135, 136, 5, 137, 612, 613, 614, 615, 616, 617, 618, 619, 620, 621, 622, 623, 624, 625, 626, 627, 628, 629, 630, 631, 632] (by decide +kernel) (by decide +kernel)
set_option maxRecDepth 20000 in
theorem gL_law_X6_goal : GoodIn wsL_law (wsV RL 107 RX6 yX6_goal wsX6_goal) := goodIn_app (goodIn_of _ (by decide +kernel)) ggL_law_X6_goal
set_option maxRecDepth 20000 in
theorem ggL_law_X5_score : GoodIn wsL_law wsX5_score := goodIn_r _ [538, 24, 32, 34, 19, 539, 540, 541, 31, 542, 543, 544, 545, 546, 455, 456, 457, 2, 458, 15, 28, 374, 375, 376, 23, 377, 55, 56, 378, 379, 380, 381, 382, 383, 384, 389, 390, 391, 14, 392, 76, 393, 394, 395, 396, 39, 438, 439, 440, 27, 441, 442, 63, 61, 459, 460, 461, 18, 462, 51, 429, 324, 284, 285, 286, 50, 287, 288, 289, 290, 547, 548, 549, 550, 551, 552, 553, 554, 555, 556, 557, 558, 559, 604, 605, 606, 607, 608, 609, 610, 611, 646, 647, 648, 649, 654, 655, 656, 657, 650, 651, 652, 653, 633, 634, 635, 636, 637, 638, 639, 640, 641, 642, 643, 644, 645] (by decide +kernel) (by decide +kernel)
set_option maxRecDepth 20000 in
theorem gL_law_X5_score : GoodIn wsL_law (wsV RL 108 RX5 yX5_score wsX5_score) := goodIn_app (goodIn_of _ (by decide +kernel)) ggL_law_X5_score
set_option maxRecDepth 20000 in
theorem ggL_law_X6_score : GoodIn wsL_law wsX6_score := goodIn_r _ [563, 133, 122, 135, 136, 5, 137, 564, 565, 566, 567, 467, 468, 469, 470, 115, 117, 413, 414, 415, 416, 184, 185, 186, 187, 106, 417, 418, 419, 420, 271, 272, 273, 274, 107, 401, 402, 403, 404, 113, 114, 405, 406, 407, 408, 299, 300, 301, 302, 110, 295, 296, 297, 298, 132, 112, 275, 276, 277, 278, 111, 108, 109, 447, 448, 449, 450, 134, 118, 116, 409, 410, 411, 412, 568, 569, 570, 571, 119, 612, 613, 614, 615, 616, 617, 618, 619, 620, 621, 622, 623, 624, 625, 626, 627, 628, 629, 630, 631, 632] (by decide +kernel) (by decide +kernel)
set_option maxRecDepth 20000 in
theorem gL_law_X6_score : GoodIn wsL_law (wsV RL 111 RX6 yX6_score wsX6_score) := goodIn_app (goodIn_of _ (by decide +kernel)) ggL_law_X6_score
set_option maxRecDepth 20000 in
theorem ggL_law_X5_appeal : GoodIn wsL_law wsX5_appeal := goodIn_r _ [575, 24, 32, 34, 33, 19, 354, 355, 356, 23, 357, 345, 173, 174, 2, 175, 539, 540, 541, 31, 542, 543, 544, 545, 546, 455, 456, 457, 458, 15, 28, 374, 375, 376, 377, 55, 56, 378, 379, 380, 381, 382, 383, 384, 389, 390, 391, 14, 392, 76, 393, 394, 395, 396, 39, 438, 439, 440, 27, 441, 442, 63, 61, 459, 460, 461, 18, 462, 51, 429, 324, 284, 285, 286, 50, 287, 288, 289, 290, 547, 548, 549, 550, 551, 552, 553, 554, 555, 556, 557, 558, 576, 577, 578, 579, 604, 605, 606, 607, 608, 609, 610, 611, 646, 647, 648, 649, 654, 655, 656, 657, 650, 651, 652, 653, 633, 634, 635, 636, 637, 638, 639, 640, 641, 642, 643, 644, 645] (by decide +kernel) (by decide +kernel)
set_option maxRecDepth 20000 in
theorem gL_law_X5_appeal : GoodIn wsL_law (wsV RL 112 RX5 yX5_appeal wsX5_appeal) := goodIn_app (goodIn_of _ (by decide +kernel)) ggL_law_X5_appeal
set_option maxRecDepth 20000 in
theorem ggL_law_X6_appeal : GoodIn wsL_law wsX6_appeal := goodIn_r _ [583, 133, 121, 123, 366, 367, 368, 5, 369, 135, 136, 137, 188, 189, 190, 564, 565, 566, 567, 122, 467, 468, 469, 470, 115, 117, 413, 414, 415, 416, 184, 185, 186, 187, 106, 417, 418, 419, 420, 271, 272, 273, 274, 107, 401, 402, 403, 404, 113, 114, 405, 406, 407, 408, 299, 300, 301, 302, 110, 295, 296, 297, 298, 132, 112, 275, 276, 277, 278, 111, 108, 109, 447, 448, 449, 450, 134, 118, 116, 409, 410, 411, 412, 568, 569, 570, 571, 119, 584, 585, 586, 587, 612, 613, 614, 615, 616, 617, 618, 619, 620, 621, 622, 623, 624, 625, 626, 627, 628, 629, 630, 631, 632] (by decide +kernel) (by decide +kernel)
set_option maxRecDepth 20000 in
theorem gL_law_X6_appeal : GoodIn wsL_law (wsV RL 115 RX6 yX6_appeal wsX6_appeal) := goodIn_app (goodIn_of _ (by decide +kernel)) ggL_law_X6_appeal
set_option maxRecDepth 20000 in
theorem ggL_law_X5_told : GoodIn wsL_law wsX5_told := goodIn_r _ [591, 15, 24, 28, 34, 389, 390, 391, 14, 392, 76, 393, 394, 395, 396, 39, 592, 593, 594, 2, 595, 19, 261, 262, 263, 264, 307, 288, 289, 18, 290, 50, 604, 605, 606, 607, 608, 609, 610, 611, 633, 634, 635, 636, 637, 638, 639, 640, 641, 642, 643, 646, 647, 648, 649, 650, 651, 652, 653, 644, 645] (by decide +kernel) (by decide +kernel)
set_option maxRecDepth 20000 in
theorem gL_law_X5_told : GoodIn wsL_law (wsV RL 116 RX5 yX5_told wsX5_told) := goodIn_app (goodIn_of _ (by decide +kernel)) ggL_law_X5_told
set_option maxRecDepth 20000 in
theorem ggL_law_X6_told : GoodIn wsL_law wsX6_told := goodIn_r _ [599, 106, 132, 133, 134, 119, 600, 601, 602, 5, 603, 184, 185, 186, 187, 271, 272, 273, 274, 107, 135, 136, 137, 295, 296, 297, 298, 112, 275, 276, 277, 278, 111, 108, 109, 612, 613, 614, 615, 616, 617, 618, 619, 620, 621, 622, 623, 624, 625, 626, 627, 628, 629, 630, 631, 632] (by decide +kernel) (by decide +kernel)
set_option maxRecDepth 20000 in
theorem gL_law_X6_told : GoodIn wsL_law (wsV RL 119 RX6 yX6_told wsX6_told) := goodIn_app (goodIn_of _ (by decide +kernel)) ggL_law_X6_told
theorem dL_law_0 : decode cL_law 0 = .ok (.new 7, 3) := by decide +kernel
theorem dL_law_3 : decode cL_law 3 = .ok (.dup, 1) := by decide +kernel
theorem dL_law_4 : decode cL_law 4 = .ok (.invokespecial 9, 3) := by decide +kernel
theorem dL_law_7 : decode cL_law 7 = .ok (.astore_n 1, 1) := by decide +kernel
theorem dL_law_8 : decode cL_law 8 = .ok (.new 10, 3) := by decide +kernel
theorem dL_law_11 : decode cL_law 11 = .ok (.dup, 1) := by decide +kernel
theorem dL_law_12 : decode cL_law 12 = .ok (.invokespecial 12, 3) := by decide +kernel
theorem dL_law_15 : decode cL_law 15 = .ok (.astore_n 2, 1) := by decide +kernel
theorem dL_law_16 : decode cL_law 16 = .ok (.iconst 0, 1) := by decide +kernel
theorem dL_law_17 : decode cL_law 17 = .ok (.istore_n 3, 1) := by decide +kernel
theorem dL_law_18 : decode cL_law 18 = .ok (.iload_n 3, 1) := by decide +kernel
theorem dL_law_19 : decode cL_law 19 = .ok (.aload_n 0, 1) := by decide +kernel
theorem dL_law_20 : decode cL_law 20 = .ok (.arraylength, 1) := by decide +kernel
theorem dL_law_21 : decode cL_law 21 = .ok (.iconst 5, 1) := by decide +kernel
theorem dL_law_22 : decode cL_law 22 = .ok (.isub, 1) := by decide +kernel
theorem dL_law_23 : decode cL_law 23 = .ok (.if_icmp .gt 908, 3) := by decide +kernel
theorem dL_law_26 : decode cL_law 26 = .ok (.aload_n 0, 1) := by decide +kernel
theorem dL_law_27 : decode cL_law 27 = .ok (.iload_n 3, 1) := by decide +kernel
theorem dL_law_28 : decode cL_law 28 = .ok (.iaload, 1) := by decide +kernel
theorem dL_law_29 : decode cL_law 29 = .ok (.bipush 31, 2) := by decide +kernel
theorem dL_law_31 : decode cL_law 31 = .ok (.iand, 1) := by decide +kernel
theorem dL_law_32 : decode cL_law 32 = .ok (.tableswitch 893 0 24 #[116, 139, 198, 241, 274, 323, 356, 389, 422, 445, 468, 481, 534, 567, 600, 623, 646, 679, 702, 735, 748, 781, 804, 837, 870], 116) := by decide +kernel
theorem dL_law_148 : decode cL_law 148 = .ok (.aload_n 1, 1) := by decide +kernel
theorem dL_law_149 : decode cL_law 149 = .ok (.aload_n 0, 1) := by decide +kernel
theorem dL_law_150 : decode cL_law 150 = .ok (.iload_n 3, 1) := by decide +kernel
theorem dL_law_151 : decode cL_law 151 = .ok (.iconst 1, 1) := by decide +kernel
theorem dL_law_152 : decode cL_law 152 = .ok (.iadd, 1) := by decide +kernel
theorem dL_law_153 : decode cL_law 153 = .ok (.iaload, 1) := by decide +kernel
theorem dL_law_154 : decode cL_law 154 = .ok (.invokevirtual 13, 3) := by decide +kernel
theorem dL_law_157 : decode cL_law 157 = .ok (.aload_n 2, 1) := by decide +kernel
theorem dL_law_158 : decode cL_law 158 = .ok (.aload_n 0, 1) := by decide +kernel
theorem dL_law_159 : decode cL_law 159 = .ok (.iload_n 3, 1) := by decide +kernel
theorem dL_law_160 : decode cL_law 160 = .ok (.iconst 1, 1) := by decide +kernel
theorem dL_law_161 : decode cL_law 161 = .ok (.iadd, 1) := by decide +kernel
theorem dL_law_162 : decode cL_law 162 = .ok (.iaload, 1) := by decide +kernel
theorem dL_law_163 : decode cL_law 163 = .ok (.invokevirtual 17, 3) := by decide +kernel
theorem dL_law_166 : decode cL_law 166 = .ok (.if_icmp .eq 759, 3) := by decide +kernel
theorem dL_law_169 : decode cL_law 169 = .ok (.iconst 0, 1) := by decide +kernel
theorem dL_law_170 : decode cL_law 170 = .ok (.ireturn, 1) := by decide +kernel
theorem dL_law_171 : decode cL_law 171 = .ok (.aload_n 1, 1) := by decide +kernel
theorem dL_law_172 : decode cL_law 172 = .ok (.aload_n 0, 1) := by decide +kernel
theorem dL_law_173 : decode cL_law 173 = .ok (.iload_n 3, 1) := by decide +kernel
theorem dL_law_174 : decode cL_law 174 = .ok (.iconst 1, 1) := by decide +kernel
theorem dL_law_175 : decode cL_law 175 = .ok (.iadd, 1) := by decide +kernel
theorem dL_law_176 : decode cL_law 176 = .ok (.iaload, 1) := by decide +kernel
theorem dL_law_177 : decode cL_law 177 = .ok (.aload_n 0, 1) := by decide +kernel
theorem dL_law_178 : decode cL_law 178 = .ok (.iload_n 3, 1) := by decide +kernel
theorem dL_law_179 : decode cL_law 179 = .ok (.iconst 2, 1) := by decide +kernel
theorem dL_law_180 : decode cL_law 180 = .ok (.iadd, 1) := by decide +kernel
theorem dL_law_181 : decode cL_law 181 = .ok (.iaload, 1) := by decide +kernel
theorem dL_law_182 : decode cL_law 182 = .ok (.aload_n 0, 1) := by decide +kernel
theorem dL_law_183 : decode cL_law 183 = .ok (.iload_n 3, 1) := by decide +kernel
theorem dL_law_184 : decode cL_law 184 = .ok (.iconst 3, 1) := by decide +kernel
theorem dL_law_185 : decode cL_law 185 = .ok (.iadd, 1) := by decide +kernel
theorem dL_law_186 : decode cL_law 186 = .ok (.iaload, 1) := by decide +kernel
theorem dL_law_187 : decode cL_law 187 = .ok (.ifCond .eq 7, 3) := by decide +kernel
theorem dL_law_190 : decode cL_law 190 = .ok (.iconst 1, 1) := by decide +kernel
theorem dL_law_191 : decode cL_law 191 = .ok (.goto 4, 3) := by decide +kernel
theorem dL_law_194 : decode cL_law 194 = .ok (.iconst 0, 1) := by decide +kernel
theorem dL_law_195 : decode cL_law 195 = .ok (.invokevirtual 18, 3) := by decide +kernel
theorem dL_law_198 : decode cL_law 198 = .ok (.aload_n 2, 1) := by decide +kernel
theorem dL_law_199 : decode cL_law 199 = .ok (.aload_n 0, 1) := by decide +kernel
theorem dL_law_200 : decode cL_law 200 = .ok (.iload_n 3, 1) := by decide +kernel
theorem dL_law_201 : decode cL_law 201 = .ok (.iconst 1, 1) := by decide +kernel
theorem dL_law_202 : decode cL_law 202 = .ok (.iadd, 1) := by decide +kernel
theorem dL_law_203 : decode cL_law 203 = .ok (.iaload, 1) := by decide +kernel
theorem dL_law_204 : decode cL_law 204 = .ok (.aload_n 0, 1) := by decide +kernel
theorem dL_law_205 : decode cL_law 205 = .ok (.iload_n 3, 1) := by decide +kernel
theorem dL_law_206 : decode cL_law 206 = .ok (.iconst 2, 1) := by decide +kernel
theorem dL_law_207 : decode cL_law 207 = .ok (.iadd, 1) := by decide +kernel
theorem dL_law_208 : decode cL_law 208 = .ok (.iaload, 1) := by decide +kernel
theorem dL_law_209 : decode cL_law 209 = .ok (.aload_n 0, 1) := by decide +kernel
theorem dL_law_210 : decode cL_law 210 = .ok (.iload_n 3, 1) := by decide +kernel
theorem dL_law_211 : decode cL_law 211 = .ok (.iconst 3, 1) := by decide +kernel
theorem dL_law_212 : decode cL_law 212 = .ok (.iadd, 1) := by decide +kernel
theorem dL_law_213 : decode cL_law 213 = .ok (.iaload, 1) := by decide +kernel
theorem dL_law_214 : decode cL_law 214 = .ok (.ifCond .eq 7, 3) := by decide +kernel
theorem dL_law_217 : decode cL_law 217 = .ok (.iconst 1, 1) := by decide +kernel
theorem dL_law_218 : decode cL_law 218 = .ok (.goto 4, 3) := by decide +kernel
theorem dL_law_221 : decode cL_law 221 = .ok (.iconst 0, 1) := by decide +kernel
theorem dL_law_222 : decode cL_law 222 = .ok (.invokevirtual 22, 3) := by decide +kernel
theorem dL_law_225 : decode cL_law 225 = .ok (.if_icmp .eq 700, 3) := by decide +kernel
theorem dL_law_228 : decode cL_law 228 = .ok (.iconst 0, 1) := by decide +kernel
theorem dL_law_229 : decode cL_law 229 = .ok (.ireturn, 1) := by decide +kernel
theorem dL_law_230 : decode cL_law 230 = .ok (.aload_n 1, 1) := by decide +kernel
theorem dL_law_231 : decode cL_law 231 = .ok (.aload_n 0, 1) := by decide +kernel
theorem dL_law_232 : decode cL_law 232 = .ok (.iload_n 3, 1) := by decide +kernel
theorem dL_law_233 : decode cL_law 233 = .ok (.iconst 1, 1) := by decide +kernel
theorem dL_law_234 : decode cL_law 234 = .ok (.iadd, 1) := by decide +kernel
theorem dL_law_235 : decode cL_law 235 = .ok (.iaload, 1) := by decide +kernel
theorem dL_law_236 : decode cL_law 236 = .ok (.aload_n 0, 1) := by decide +kernel
theorem dL_law_237 : decode cL_law 237 = .ok (.iload_n 3, 1) := by decide +kernel
theorem dL_law_238 : decode cL_law 238 = .ok (.iconst 2, 1) := by decide +kernel
theorem dL_law_239 : decode cL_law 239 = .ok (.iadd, 1) := by decide +kernel
theorem dL_law_240 : decode cL_law 240 = .ok (.iaload, 1) := by decide +kernel
theorem dL_law_241 : decode cL_law 241 = .ok (.aload_n 0, 1) := by decide +kernel
theorem dL_law_242 : decode cL_law 242 = .ok (.iload_n 3, 1) := by decide +kernel
theorem dL_law_243 : decode cL_law 243 = .ok (.iconst 3, 1) := by decide +kernel
theorem dL_law_244 : decode cL_law 244 = .ok (.iadd, 1) := by decide +kernel
theorem dL_law_245 : decode cL_law 245 = .ok (.iaload, 1) := by decide +kernel
theorem dL_law_246 : decode cL_law 246 = .ok (.invokevirtual 23, 3) := by decide +kernel
theorem dL_law_249 : decode cL_law 249 = .ok (.aload_n 2, 1) := by decide +kernel
theorem dL_law_250 : decode cL_law 250 = .ok (.aload_n 0, 1) := by decide +kernel
theorem dL_law_251 : decode cL_law 251 = .ok (.iload_n 3, 1) := by decide +kernel
theorem dL_law_252 : decode cL_law 252 = .ok (.iconst 1, 1) := by decide +kernel
theorem dL_law_253 : decode cL_law 253 = .ok (.iadd, 1) := by decide +kernel
theorem dL_law_254 : decode cL_law 254 = .ok (.iaload, 1) := by decide +kernel
theorem dL_law_255 : decode cL_law 255 = .ok (.aload_n 0, 1) := by decide +kernel
theorem dL_law_256 : decode cL_law 256 = .ok (.iload_n 3, 1) := by decide +kernel
theorem dL_law_257 : decode cL_law 257 = .ok (.iconst 2, 1) := by decide +kernel
theorem dL_law_258 : decode cL_law 258 = .ok (.iadd, 1) := by decide +kernel
theorem dL_law_259 : decode cL_law 259 = .ok (.iaload, 1) := by decide +kernel
theorem dL_law_260 : decode cL_law 260 = .ok (.aload_n 0, 1) := by decide +kernel
theorem dL_law_261 : decode cL_law 261 = .ok (.iload_n 3, 1) := by decide +kernel
theorem dL_law_262 : decode cL_law 262 = .ok (.iconst 3, 1) := by decide +kernel
theorem dL_law_263 : decode cL_law 263 = .ok (.iadd, 1) := by decide +kernel
theorem dL_law_264 : decode cL_law 264 = .ok (.iaload, 1) := by decide +kernel
theorem dL_law_265 : decode cL_law 265 = .ok (.invokevirtual 27, 3) := by decide +kernel
theorem dL_law_268 : decode cL_law 268 = .ok (.if_icmp .eq 657, 3) := by decide +kernel
theorem dL_law_271 : decode cL_law 271 = .ok (.iconst 0, 1) := by decide +kernel
theorem dL_law_272 : decode cL_law 272 = .ok (.ireturn, 1) := by decide +kernel
theorem dL_law_273 : decode cL_law 273 = .ok (.aload_n 1, 1) := by decide +kernel
theorem dL_law_274 : decode cL_law 274 = .ok (.aload_n 0, 1) := by decide +kernel
theorem dL_law_275 : decode cL_law 275 = .ok (.iload_n 3, 1) := by decide +kernel
theorem dL_law_276 : decode cL_law 276 = .ok (.iconst 1, 1) := by decide +kernel
theorem dL_law_277 : decode cL_law 277 = .ok (.iadd, 1) := by decide +kernel
theorem dL_law_278 : decode cL_law 278 = .ok (.iaload, 1) := by decide +kernel
theorem dL_law_279 : decode cL_law 279 = .ok (.aload_n 0, 1) := by decide +kernel
theorem dL_law_280 : decode cL_law 280 = .ok (.iload_n 3, 1) := by decide +kernel
theorem dL_law_281 : decode cL_law 281 = .ok (.iconst 2, 1) := by decide +kernel
theorem dL_law_282 : decode cL_law 282 = .ok (.iadd, 1) := by decide +kernel
theorem dL_law_283 : decode cL_law 283 = .ok (.iaload, 1) := by decide +kernel
theorem dL_law_284 : decode cL_law 284 = .ok (.invokevirtual 28, 3) := by decide +kernel
theorem dL_law_287 : decode cL_law 287 = .ok (.aload_n 2, 1) := by decide +kernel
theorem dL_law_288 : decode cL_law 288 = .ok (.aload_n 0, 1) := by decide +kernel
theorem dL_law_289 : decode cL_law 289 = .ok (.iload_n 3, 1) := by decide +kernel
theorem dL_law_290 : decode cL_law 290 = .ok (.iconst 1, 1) := by decide +kernel
theorem dL_law_291 : decode cL_law 291 = .ok (.iadd, 1) := by decide +kernel
theorem dL_law_292 : decode cL_law 292 = .ok (.iaload, 1) := by decide +kernel
theorem dL_law_293 : decode cL_law 293 = .ok (.aload_n 0, 1) := by decide +kernel
theorem dL_law_294 : decode cL_law 294 = .ok (.iload_n 3, 1) := by decide +kernel
theorem dL_law_295 : decode cL_law 295 = .ok (.iconst 2, 1) := by decide +kernel
theorem dL_law_296 : decode cL_law 296 = .ok (.iadd, 1) := by decide +kernel
theorem dL_law_297 : decode cL_law 297 = .ok (.iaload, 1) := by decide +kernel
theorem dL_law_298 : decode cL_law 298 = .ok (.invokevirtual 32, 3) := by decide +kernel
theorem dL_law_301 : decode cL_law 301 = .ok (.if_icmp .eq 624, 3) := by decide +kernel
theorem dL_law_304 : decode cL_law 304 = .ok (.iconst 0, 1) := by decide +kernel
theorem dL_law_305 : decode cL_law 305 = .ok (.ireturn, 1) := by decide +kernel
theorem dL_law_306 : decode cL_law 306 = .ok (.aload_n 1, 1) := by decide +kernel
theorem dL_law_307 : decode cL_law 307 = .ok (.aload_n 0, 1) := by decide +kernel
theorem dL_law_308 : decode cL_law 308 = .ok (.iload_n 3, 1) := by decide +kernel
theorem dL_law_309 : decode cL_law 309 = .ok (.iconst 1, 1) := by decide +kernel
theorem dL_law_310 : decode cL_law 310 = .ok (.iadd, 1) := by decide +kernel
theorem dL_law_311 : decode cL_law 311 = .ok (.iaload, 1) := by decide +kernel
theorem dL_law_312 : decode cL_law 312 = .ok (.aload_n 0, 1) := by decide +kernel
theorem dL_law_313 : decode cL_law 313 = .ok (.iload_n 3, 1) := by decide +kernel
theorem dL_law_314 : decode cL_law 314 = .ok (.iconst 2, 1) := by decide +kernel
theorem dL_law_315 : decode cL_law 315 = .ok (.iadd, 1) := by decide +kernel
theorem dL_law_316 : decode cL_law 316 = .ok (.iaload, 1) := by decide +kernel
theorem dL_law_317 : decode cL_law 317 = .ok (.ifCond .eq 7, 3) := by decide +kernel
theorem dL_law_320 : decode cL_law 320 = .ok (.iconst 1, 1) := by decide +kernel
theorem dL_law_321 : decode cL_law 321 = .ok (.goto 4, 3) := by decide +kernel
theorem dL_law_324 : decode cL_law 324 = .ok (.iconst 0, 1) := by decide +kernel
theorem dL_law_325 : decode cL_law 325 = .ok (.invokevirtual 33, 3) := by decide +kernel
theorem dL_law_328 : decode cL_law 328 = .ok (.aload_n 2, 1) := by decide +kernel
theorem dL_law_329 : decode cL_law 329 = .ok (.aload_n 0, 1) := by decide +kernel
theorem dL_law_330 : decode cL_law 330 = .ok (.iload_n 3, 1) := by decide +kernel
theorem dL_law_331 : decode cL_law 331 = .ok (.iconst 1, 1) := by decide +kernel
theorem dL_law_332 : decode cL_law 332 = .ok (.iadd, 1) := by decide +kernel
theorem dL_law_333 : decode cL_law 333 = .ok (.iaload, 1) := by decide +kernel
theorem dL_law_334 : decode cL_law 334 = .ok (.aload_n 0, 1) := by decide +kernel
theorem dL_law_335 : decode cL_law 335 = .ok (.iload_n 3, 1) := by decide +kernel
theorem dL_law_336 : decode cL_law 336 = .ok (.iconst 2, 1) := by decide +kernel
theorem dL_law_337 : decode cL_law 337 = .ok (.iadd, 1) := by decide +kernel
theorem dL_law_338 : decode cL_law 338 = .ok (.iaload, 1) := by decide +kernel
theorem dL_law_339 : decode cL_law 339 = .ok (.ifCond .eq 7, 3) := by decide +kernel
theorem dL_law_342 : decode cL_law 342 = .ok (.iconst 1, 1) := by decide +kernel
theorem dL_law_343 : decode cL_law 343 = .ok (.goto 4, 3) := by decide +kernel
theorem dL_law_346 : decode cL_law 346 = .ok (.iconst 0, 1) := by decide +kernel
theorem dL_law_347 : decode cL_law 347 = .ok (.invokevirtual 37, 3) := by decide +kernel
theorem dL_law_350 : decode cL_law 350 = .ok (.if_icmp .eq 575, 3) := by decide +kernel
theorem dL_law_353 : decode cL_law 353 = .ok (.iconst 0, 1) := by decide +kernel
theorem dL_law_354 : decode cL_law 354 = .ok (.ireturn, 1) := by decide +kernel
theorem dL_law_355 : decode cL_law 355 = .ok (.aload_n 1, 1) := by decide +kernel
theorem dL_law_356 : decode cL_law 356 = .ok (.aload_n 0, 1) := by decide +kernel
theorem dL_law_357 : decode cL_law 357 = .ok (.iload_n 3, 1) := by decide +kernel
theorem dL_law_358 : decode cL_law 358 = .ok (.iconst 1, 1) := by decide +kernel
theorem dL_law_359 : decode cL_law 359 = .ok (.iadd, 1) := by decide +kernel
theorem dL_law_360 : decode cL_law 360 = .ok (.iaload, 1) := by decide +kernel
theorem dL_law_361 : decode cL_law 361 = .ok (.aload_n 0, 1) := by decide +kernel
theorem dL_law_362 : decode cL_law 362 = .ok (.iload_n 3, 1) := by decide +kernel
theorem dL_law_363 : decode cL_law 363 = .ok (.iconst 2, 1) := by decide +kernel
theorem dL_law_364 : decode cL_law 364 = .ok (.iadd, 1) := by decide +kernel
theorem dL_law_365 : decode cL_law 365 = .ok (.iaload, 1) := by decide +kernel
theorem dL_law_366 : decode cL_law 366 = .ok (.invokevirtual 38, 3) := by decide +kernel
theorem dL_law_369 : decode cL_law 369 = .ok (.aload_n 2, 1) := by decide +kernel
theorem dL_law_370 : decode cL_law 370 = .ok (.aload_n 0, 1) := by decide +kernel
theorem dL_law_371 : decode cL_law 371 = .ok (.iload_n 3, 1) := by decide +kernel
theorem dL_law_372 : decode cL_law 372 = .ok (.iconst 1, 1) := by decide +kernel
theorem dL_law_373 : decode cL_law 373 = .ok (.iadd, 1) := by decide +kernel
theorem dL_law_374 : decode cL_law 374 = .ok (.iaload, 1) := by decide +kernel
theorem dL_law_375 : decode cL_law 375 = .ok (.aload_n 0, 1) := by decide +kernel
theorem dL_law_376 : decode cL_law 376 = .ok (.iload_n 3, 1) := by decide +kernel
theorem dL_law_377 : decode cL_law 377 = .ok (.iconst 2, 1) := by decide +kernel
theorem dL_law_378 : decode cL_law 378 = .ok (.iadd, 1) := by decide +kernel
theorem dL_law_379 : decode cL_law 379 = .ok (.iaload, 1) := by decide +kernel
theorem dL_law_380 : decode cL_law 380 = .ok (.invokevirtual 41, 3) := by decide +kernel
theorem dL_law_383 : decode cL_law 383 = .ok (.if_icmp .eq 542, 3) := by decide +kernel
theorem dL_law_386 : decode cL_law 386 = .ok (.iconst 0, 1) := by decide +kernel
theorem dL_law_387 : decode cL_law 387 = .ok (.ireturn, 1) := by decide +kernel
theorem dL_law_388 : decode cL_law 388 = .ok (.aload_n 1, 1) := by decide +kernel
theorem dL_law_389 : decode cL_law 389 = .ok (.aload_n 0, 1) := by decide +kernel
theorem dL_law_390 : decode cL_law 390 = .ok (.iload_n 3, 1) := by decide +kernel
theorem dL_law_391 : decode cL_law 391 = .ok (.iconst 1, 1) := by decide +kernel
theorem dL_law_392 : decode cL_law 392 = .ok (.iadd, 1) := by decide +kernel
theorem dL_law_393 : decode cL_law 393 = .ok (.iaload, 1) := by decide +kernel
theorem dL_law_394 : decode cL_law 394 = .ok (.aload_n 0, 1) := by decide +kernel
theorem dL_law_395 : decode cL_law 395 = .ok (.iload_n 3, 1) := by decide +kernel
theorem dL_law_396 : decode cL_law 396 = .ok (.iconst 2, 1) := by decide +kernel
theorem dL_law_397 : decode cL_law 397 = .ok (.iadd, 1) := by decide +kernel
theorem dL_law_398 : decode cL_law 398 = .ok (.iaload, 1) := by decide +kernel
theorem dL_law_399 : decode cL_law 399 = .ok (.invokevirtual 42, 3) := by decide +kernel
theorem dL_law_402 : decode cL_law 402 = .ok (.aload_n 2, 1) := by decide +kernel
theorem dL_law_403 : decode cL_law 403 = .ok (.aload_n 0, 1) := by decide +kernel
theorem dL_law_404 : decode cL_law 404 = .ok (.iload_n 3, 1) := by decide +kernel
theorem dL_law_405 : decode cL_law 405 = .ok (.iconst 1, 1) := by decide +kernel
theorem dL_law_406 : decode cL_law 406 = .ok (.iadd, 1) := by decide +kernel
theorem dL_law_407 : decode cL_law 407 = .ok (.iaload, 1) := by decide +kernel
theorem dL_law_408 : decode cL_law 408 = .ok (.aload_n 0, 1) := by decide +kernel
theorem dL_law_409 : decode cL_law 409 = .ok (.iload_n 3, 1) := by decide +kernel
theorem dL_law_410 : decode cL_law 410 = .ok (.iconst 2, 1) := by decide +kernel
theorem dL_law_411 : decode cL_law 411 = .ok (.iadd, 1) := by decide +kernel
theorem dL_law_412 : decode cL_law 412 = .ok (.iaload, 1) := by decide +kernel
theorem dL_law_413 : decode cL_law 413 = .ok (.invokevirtual 45, 3) := by decide +kernel
theorem dL_law_416 : decode cL_law 416 = .ok (.if_icmp .eq 509, 3) := by decide +kernel
theorem dL_law_419 : decode cL_law 419 = .ok (.iconst 0, 1) := by decide +kernel
theorem dL_law_420 : decode cL_law 420 = .ok (.ireturn, 1) := by decide +kernel
theorem dL_law_421 : decode cL_law 421 = .ok (.aload_n 1, 1) := by decide +kernel
theorem dL_law_422 : decode cL_law 422 = .ok (.aload_n 0, 1) := by decide +kernel
theorem dL_law_423 : decode cL_law 423 = .ok (.iload_n 3, 1) := by decide +kernel
theorem dL_law_424 : decode cL_law 424 = .ok (.iconst 1, 1) := by decide +kernel
theorem dL_law_425 : decode cL_law 425 = .ok (.iadd, 1) := by decide +kernel
theorem dL_law_426 : decode cL_law 426 = .ok (.iaload, 1) := by decide +kernel
theorem dL_law_427 : decode cL_law 427 = .ok (.aload_n 0, 1) := by decide +kernel
theorem dL_law_428 : decode cL_law 428 = .ok (.iload_n 3, 1) := by decide +kernel
theorem dL_law_429 : decode cL_law 429 = .ok (.iconst 2, 1) := by decide +kernel
theorem dL_law_430 : decode cL_law 430 = .ok (.iadd, 1) := by decide +kernel
theorem dL_law_431 : decode cL_law 431 = .ok (.iaload, 1) := by decide +kernel
theorem dL_law_432 : decode cL_law 432 = .ok (.invokevirtual 46, 3) := by decide +kernel
theorem dL_law_435 : decode cL_law 435 = .ok (.aload_n 2, 1) := by decide +kernel
theorem dL_law_436 : decode cL_law 436 = .ok (.aload_n 0, 1) := by decide +kernel
theorem dL_law_437 : decode cL_law 437 = .ok (.iload_n 3, 1) := by decide +kernel
theorem dL_law_438 : decode cL_law 438 = .ok (.iconst 1, 1) := by decide +kernel
theorem dL_law_439 : decode cL_law 439 = .ok (.iadd, 1) := by decide +kernel
theorem dL_law_440 : decode cL_law 440 = .ok (.iaload, 1) := by decide +kernel
theorem dL_law_441 : decode cL_law 441 = .ok (.aload_n 0, 1) := by decide +kernel
theorem dL_law_442 : decode cL_law 442 = .ok (.iload_n 3, 1) := by decide +kernel
theorem dL_law_443 : decode cL_law 443 = .ok (.iconst 2, 1) := by decide +kernel
theorem dL_law_444 : decode cL_law 444 = .ok (.iadd, 1) := by decide +kernel
theorem dL_law_445 : decode cL_law 445 = .ok (.iaload, 1) := by decide +kernel
theorem dL_law_446 : decode cL_law 446 = .ok (.invokevirtual 49, 3) := by decide +kernel
theorem dL_law_449 : decode cL_law 449 = .ok (.if_icmp .eq 476, 3) := by decide +kernel
theorem dL_law_452 : decode cL_law 452 = .ok (.iconst 0, 1) := by decide +kernel
theorem dL_law_453 : decode cL_law 453 = .ok (.ireturn, 1) := by decide +kernel
theorem dL_law_454 : decode cL_law 454 = .ok (.aload_n 1, 1) := by decide +kernel
theorem dL_law_455 : decode cL_law 455 = .ok (.aload_n 0, 1) := by decide +kernel
theorem dL_law_456 : decode cL_law 456 = .ok (.iload_n 3, 1) := by decide +kernel
theorem dL_law_457 : decode cL_law 457 = .ok (.iconst 1, 1) := by decide +kernel
theorem dL_law_458 : decode cL_law 458 = .ok (.iadd, 1) := by decide +kernel
theorem dL_law_459 : decode cL_law 459 = .ok (.iaload, 1) := by decide +kernel
theorem dL_law_460 : decode cL_law 460 = .ok (.invokevirtual 50, 3) := by decide +kernel
theorem dL_law_463 : decode cL_law 463 = .ok (.aload_n 2, 1) := by decide +kernel
theorem dL_law_464 : decode cL_law 464 = .ok (.aload_n 0, 1) := by decide +kernel
theorem dL_law_465 : decode cL_law 465 = .ok (.iload_n 3, 1) := by decide +kernel
theorem dL_law_466 : decode cL_law 466 = .ok (.iconst 1, 1) := by decide +kernel
theorem dL_law_467 : decode cL_law 467 = .ok (.iadd, 1) := by decide +kernel
theorem dL_law_468 : decode cL_law 468 = .ok (.iaload, 1) := by decide +kernel
theorem dL_law_469 : decode cL_law 469 = .ok (.invokevirtual 53, 3) := by decide +kernel
theorem dL_law_472 : decode cL_law 472 = .ok (.if_icmp .eq 453, 3) := by decide +kernel
theorem dL_law_475 : decode cL_law 475 = .ok (.iconst 0, 1) := by decide +kernel
theorem dL_law_476 : decode cL_law 476 = .ok (.ireturn, 1) := by decide +kernel
theorem dL_law_477 : decode cL_law 477 = .ok (.aload_n 1, 1) := by decide +kernel
theorem dL_law_478 : decode cL_law 478 = .ok (.aload_n 0, 1) := by decide +kernel
theorem dL_law_479 : decode cL_law 479 = .ok (.iload_n 3, 1) := by decide +kernel
theorem dL_law_480 : decode cL_law 480 = .ok (.iconst 1, 1) := by decide +kernel
theorem dL_law_481 : decode cL_law 481 = .ok (.iadd, 1) := by decide +kernel
theorem dL_law_482 : decode cL_law 482 = .ok (.iaload, 1) := by decide +kernel
theorem dL_law_483 : decode cL_law 483 = .ok (.invokevirtual 54, 3) := by decide +kernel
theorem dL_law_486 : decode cL_law 486 = .ok (.aload_n 2, 1) := by decide +kernel
theorem dL_law_487 : decode cL_law 487 = .ok (.aload_n 0, 1) := by decide +kernel
theorem dL_law_488 : decode cL_law 488 = .ok (.iload_n 3, 1) := by decide +kernel
theorem dL_law_489 : decode cL_law 489 = .ok (.iconst 1, 1) := by decide +kernel
theorem dL_law_490 : decode cL_law 490 = .ok (.iadd, 1) := by decide +kernel
theorem dL_law_491 : decode cL_law 491 = .ok (.iaload, 1) := by decide +kernel
theorem dL_law_492 : decode cL_law 492 = .ok (.invokevirtual 57, 3) := by decide +kernel
theorem dL_law_495 : decode cL_law 495 = .ok (.if_icmp .eq 430, 3) := by decide +kernel
theorem dL_law_498 : decode cL_law 498 = .ok (.iconst 0, 1) := by decide +kernel
theorem dL_law_499 : decode cL_law 499 = .ok (.ireturn, 1) := by decide +kernel
theorem dL_law_500 : decode cL_law 500 = .ok (.aload_n 1, 1) := by decide +kernel
theorem dL_law_501 : decode cL_law 501 = .ok (.invokevirtual 58, 3) := by decide +kernel
theorem dL_law_504 : decode cL_law 504 = .ok (.aload_n 2, 1) := by decide +kernel
theorem dL_law_505 : decode cL_law 505 = .ok (.invokevirtual 62, 3) := by decide +kernel
theorem dL_law_508 : decode cL_law 508 = .ok (.if_icmp .eq 417, 3) := by decide +kernel
theorem dL_law_511 : decode cL_law 511 = .ok (.iconst 0, 1) := by decide +kernel
theorem dL_law_512 : decode cL_law 512 = .ok (.ireturn, 1) := by decide +kernel
theorem dL_law_513 : decode cL_law 513 = .ok (.aload_n 1, 1) := by decide +kernel
theorem dL_law_514 : decode cL_law 514 = .ok (.aload_n 0, 1) := by decide +kernel
theorem dL_law_515 : decode cL_law 515 = .ok (.iload_n 3, 1) := by decide +kernel
theorem dL_law_516 : decode cL_law 516 = .ok (.iconst 1, 1) := by decide +kernel
theorem dL_law_517 : decode cL_law 517 = .ok (.iadd, 1) := by decide +kernel
theorem dL_law_518 : decode cL_law 518 = .ok (.iaload, 1) := by decide +kernel
theorem dL_law_519 : decode cL_law 519 = .ok (.aload_n 0, 1) := by decide +kernel
theorem dL_law_520 : decode cL_law 520 = .ok (.iload_n 3, 1) := by decide +kernel
theorem dL_law_521 : decode cL_law 521 = .ok (.iconst 2, 1) := by decide +kernel
theorem dL_law_522 : decode cL_law 522 = .ok (.iadd, 1) := by decide +kernel
theorem dL_law_523 : decode cL_law 523 = .ok (.iaload, 1) := by decide +kernel
theorem dL_law_524 : decode cL_law 524 = .ok (.aload_n 0, 1) := by decide +kernel
theorem dL_law_525 : decode cL_law 525 = .ok (.iload_n 3, 1) := by decide +kernel
theorem dL_law_526 : decode cL_law 526 = .ok (.iconst 3, 1) := by decide +kernel
theorem dL_law_527 : decode cL_law 527 = .ok (.iadd, 1) := by decide +kernel
theorem dL_law_528 : decode cL_law 528 = .ok (.iaload, 1) := by decide +kernel
theorem dL_law_529 : decode cL_law 529 = .ok (.aload_n 0, 1) := by decide +kernel
theorem dL_law_530 : decode cL_law 530 = .ok (.iload_n 3, 1) := by decide +kernel
theorem dL_law_531 : decode cL_law 531 = .ok (.iconst 4, 1) := by decide +kernel
theorem dL_law_532 : decode cL_law 532 = .ok (.iadd, 1) := by decide +kernel
theorem dL_law_533 : decode cL_law 533 = .ok (.iaload, 1) := by decide +kernel
theorem dL_law_534 : decode cL_law 534 = .ok (.invokevirtual 63, 3) := by decide +kernel
theorem dL_law_537 : decode cL_law 537 = .ok (.aload_n 2, 1) := by decide +kernel
theorem dL_law_538 : decode cL_law 538 = .ok (.aload_n 0, 1) := by decide +kernel
theorem dL_law_539 : decode cL_law 539 = .ok (.iload_n 3, 1) := by decide +kernel
theorem dL_law_540 : decode cL_law 540 = .ok (.iconst 1, 1) := by decide +kernel
theorem dL_law_541 : decode cL_law 541 = .ok (.iadd, 1) := by decide +kernel
theorem dL_law_542 : decode cL_law 542 = .ok (.iaload, 1) := by decide +kernel
theorem dL_law_543 : decode cL_law 543 = .ok (.aload_n 0, 1) := by decide +kernel
theorem dL_law_544 : decode cL_law 544 = .ok (.iload_n 3, 1) := by decide +kernel
theorem dL_law_545 : decode cL_law 545 = .ok (.iconst 2, 1) := by decide +kernel
theorem dL_law_546 : decode cL_law 546 = .ok (.iadd, 1) := by decide +kernel
theorem dL_law_547 : decode cL_law 547 = .ok (.iaload, 1) := by decide +kernel
theorem dL_law_548 : decode cL_law 548 = .ok (.aload_n 0, 1) := by decide +kernel
theorem dL_law_549 : decode cL_law 549 = .ok (.iload_n 3, 1) := by decide +kernel
theorem dL_law_550 : decode cL_law 550 = .ok (.iconst 3, 1) := by decide +kernel
theorem dL_law_551 : decode cL_law 551 = .ok (.iadd, 1) := by decide +kernel
theorem dL_law_552 : decode cL_law 552 = .ok (.iaload, 1) := by decide +kernel
theorem dL_law_553 : decode cL_law 553 = .ok (.aload_n 0, 1) := by decide +kernel
theorem dL_law_554 : decode cL_law 554 = .ok (.iload_n 3, 1) := by decide +kernel
theorem dL_law_555 : decode cL_law 555 = .ok (.iconst 4, 1) := by decide +kernel
theorem dL_law_556 : decode cL_law 556 = .ok (.iadd, 1) := by decide +kernel
theorem dL_law_557 : decode cL_law 557 = .ok (.iaload, 1) := by decide +kernel
theorem dL_law_558 : decode cL_law 558 = .ok (.invokevirtual 67, 3) := by decide +kernel
theorem dL_law_561 : decode cL_law 561 = .ok (.if_icmp .eq 364, 3) := by decide +kernel
theorem dL_law_564 : decode cL_law 564 = .ok (.iconst 0, 1) := by decide +kernel
theorem dL_law_565 : decode cL_law 565 = .ok (.ireturn, 1) := by decide +kernel
theorem dL_law_566 : decode cL_law 566 = .ok (.aload_n 1, 1) := by decide +kernel
theorem dL_law_567 : decode cL_law 567 = .ok (.aload_n 0, 1) := by decide +kernel
theorem dL_law_568 : decode cL_law 568 = .ok (.iload_n 3, 1) := by decide +kernel
theorem dL_law_569 : decode cL_law 569 = .ok (.iconst 1, 1) := by decide +kernel
theorem dL_law_570 : decode cL_law 570 = .ok (.iadd, 1) := by decide +kernel
theorem dL_law_571 : decode cL_law 571 = .ok (.iaload, 1) := by decide +kernel
theorem dL_law_572 : decode cL_law 572 = .ok (.aload_n 0, 1) := by decide +kernel
theorem dL_law_573 : decode cL_law 573 = .ok (.iload_n 3, 1) := by decide +kernel
theorem dL_law_574 : decode cL_law 574 = .ok (.iconst 2, 1) := by decide +kernel
theorem dL_law_575 : decode cL_law 575 = .ok (.iadd, 1) := by decide +kernel
theorem dL_law_576 : decode cL_law 576 = .ok (.iaload, 1) := by decide +kernel
theorem dL_law_577 : decode cL_law 577 = .ok (.invokevirtual 68, 3) := by decide +kernel
theorem dL_law_580 : decode cL_law 580 = .ok (.aload_n 2, 1) := by decide +kernel
theorem dL_law_581 : decode cL_law 581 = .ok (.aload_n 0, 1) := by decide +kernel
theorem dL_law_582 : decode cL_law 582 = .ok (.iload_n 3, 1) := by decide +kernel
theorem dL_law_583 : decode cL_law 583 = .ok (.iconst 1, 1) := by decide +kernel
theorem dL_law_584 : decode cL_law 584 = .ok (.iadd, 1) := by decide +kernel
theorem dL_law_585 : decode cL_law 585 = .ok (.iaload, 1) := by decide +kernel
theorem dL_law_586 : decode cL_law 586 = .ok (.aload_n 0, 1) := by decide +kernel
theorem dL_law_587 : decode cL_law 587 = .ok (.iload_n 3, 1) := by decide +kernel
theorem dL_law_588 : decode cL_law 588 = .ok (.iconst 2, 1) := by decide +kernel
theorem dL_law_589 : decode cL_law 589 = .ok (.iadd, 1) := by decide +kernel
theorem dL_law_590 : decode cL_law 590 = .ok (.iaload, 1) := by decide +kernel
theorem dL_law_591 : decode cL_law 591 = .ok (.invokevirtual 71, 3) := by decide +kernel
theorem dL_law_594 : decode cL_law 594 = .ok (.if_icmp .eq 331, 3) := by decide +kernel
theorem dL_law_597 : decode cL_law 597 = .ok (.iconst 0, 1) := by decide +kernel
theorem dL_law_598 : decode cL_law 598 = .ok (.ireturn, 1) := by decide +kernel
theorem dL_law_599 : decode cL_law 599 = .ok (.aload_n 1, 1) := by decide +kernel
theorem dL_law_600 : decode cL_law 600 = .ok (.aload_n 0, 1) := by decide +kernel
theorem dL_law_601 : decode cL_law 601 = .ok (.iload_n 3, 1) := by decide +kernel
theorem dL_law_602 : decode cL_law 602 = .ok (.iconst 1, 1) := by decide +kernel
theorem dL_law_603 : decode cL_law 603 = .ok (.iadd, 1) := by decide +kernel
theorem dL_law_604 : decode cL_law 604 = .ok (.iaload, 1) := by decide +kernel
theorem dL_law_605 : decode cL_law 605 = .ok (.aload_n 0, 1) := by decide +kernel
theorem dL_law_606 : decode cL_law 606 = .ok (.iload_n 3, 1) := by decide +kernel
theorem dL_law_607 : decode cL_law 607 = .ok (.iconst 2, 1) := by decide +kernel
theorem dL_law_608 : decode cL_law 608 = .ok (.iadd, 1) := by decide +kernel
theorem dL_law_609 : decode cL_law 609 = .ok (.iaload, 1) := by decide +kernel
theorem dL_law_610 : decode cL_law 610 = .ok (.invokevirtual 72, 3) := by decide +kernel
theorem dL_law_613 : decode cL_law 613 = .ok (.aload_n 2, 1) := by decide +kernel
theorem dL_law_614 : decode cL_law 614 = .ok (.aload_n 0, 1) := by decide +kernel
theorem dL_law_615 : decode cL_law 615 = .ok (.iload_n 3, 1) := by decide +kernel
theorem dL_law_616 : decode cL_law 616 = .ok (.iconst 1, 1) := by decide +kernel
theorem dL_law_617 : decode cL_law 617 = .ok (.iadd, 1) := by decide +kernel
theorem dL_law_618 : decode cL_law 618 = .ok (.iaload, 1) := by decide +kernel
theorem dL_law_619 : decode cL_law 619 = .ok (.aload_n 0, 1) := by decide +kernel
theorem dL_law_620 : decode cL_law 620 = .ok (.iload_n 3, 1) := by decide +kernel
theorem dL_law_621 : decode cL_law 621 = .ok (.iconst 2, 1) := by decide +kernel
theorem dL_law_622 : decode cL_law 622 = .ok (.iadd, 1) := by decide +kernel
theorem dL_law_623 : decode cL_law 623 = .ok (.iaload, 1) := by decide +kernel
theorem dL_law_624 : decode cL_law 624 = .ok (.invokevirtual 75, 3) := by decide +kernel
theorem dL_law_627 : decode cL_law 627 = .ok (.if_icmp .eq 298, 3) := by decide +kernel
theorem dL_law_630 : decode cL_law 630 = .ok (.iconst 0, 1) := by decide +kernel
theorem dL_law_631 : decode cL_law 631 = .ok (.ireturn, 1) := by decide +kernel
theorem dL_law_632 : decode cL_law 632 = .ok (.aload_n 1, 1) := by decide +kernel
theorem dL_law_633 : decode cL_law 633 = .ok (.aload_n 0, 1) := by decide +kernel
theorem dL_law_634 : decode cL_law 634 = .ok (.iload_n 3, 1) := by decide +kernel
theorem dL_law_635 : decode cL_law 635 = .ok (.iconst 1, 1) := by decide +kernel
theorem dL_law_636 : decode cL_law 636 = .ok (.iadd, 1) := by decide +kernel
theorem dL_law_637 : decode cL_law 637 = .ok (.iaload, 1) := by decide +kernel
theorem dL_law_638 : decode cL_law 638 = .ok (.invokevirtual 76, 3) := by decide +kernel
theorem dL_law_641 : decode cL_law 641 = .ok (.aload_n 2, 1) := by decide +kernel
theorem dL_law_642 : decode cL_law 642 = .ok (.aload_n 0, 1) := by decide +kernel
theorem dL_law_643 : decode cL_law 643 = .ok (.iload_n 3, 1) := by decide +kernel
theorem dL_law_644 : decode cL_law 644 = .ok (.iconst 1, 1) := by decide +kernel
theorem dL_law_645 : decode cL_law 645 = .ok (.iadd, 1) := by decide +kernel
theorem dL_law_646 : decode cL_law 646 = .ok (.iaload, 1) := by decide +kernel
theorem dL_law_647 : decode cL_law 647 = .ok (.invokevirtual 79, 3) := by decide +kernel
theorem dL_law_650 : decode cL_law 650 = .ok (.if_icmp .eq 275, 3) := by decide +kernel
theorem dL_law_653 : decode cL_law 653 = .ok (.iconst 0, 1) := by decide +kernel
theorem dL_law_654 : decode cL_law 654 = .ok (.ireturn, 1) := by decide +kernel
theorem dL_law_655 : decode cL_law 655 = .ok (.aload_n 1, 1) := by decide +kernel
theorem dL_law_656 : decode cL_law 656 = .ok (.aload_n 0, 1) := by decide +kernel
theorem dL_law_657 : decode cL_law 657 = .ok (.iload_n 3, 1) := by decide +kernel
theorem dL_law_658 : decode cL_law 658 = .ok (.iconst 1, 1) := by decide +kernel
theorem dL_law_659 : decode cL_law 659 = .ok (.iadd, 1) := by decide +kernel
theorem dL_law_660 : decode cL_law 660 = .ok (.iaload, 1) := by decide +kernel
theorem dL_law_661 : decode cL_law 661 = .ok (.invokevirtual 80, 3) := by decide +kernel
theorem dL_law_664 : decode cL_law 664 = .ok (.aload_n 2, 1) := by decide +kernel
theorem dL_law_665 : decode cL_law 665 = .ok (.aload_n 0, 1) := by decide +kernel
theorem dL_law_666 : decode cL_law 666 = .ok (.iload_n 3, 1) := by decide +kernel
theorem dL_law_667 : decode cL_law 667 = .ok (.iconst 1, 1) := by decide +kernel
theorem dL_law_668 : decode cL_law 668 = .ok (.iadd, 1) := by decide +kernel
theorem dL_law_669 : decode cL_law 669 = .ok (.iaload, 1) := by decide +kernel
theorem dL_law_670 : decode cL_law 670 = .ok (.invokevirtual 83, 3) := by decide +kernel
theorem dL_law_673 : decode cL_law 673 = .ok (.if_icmp .eq 252, 3) := by decide +kernel
theorem dL_law_676 : decode cL_law 676 = .ok (.iconst 0, 1) := by decide +kernel
theorem dL_law_677 : decode cL_law 677 = .ok (.ireturn, 1) := by decide +kernel
theorem dL_law_678 : decode cL_law 678 = .ok (.aload_n 1, 1) := by decide +kernel
theorem dL_law_679 : decode cL_law 679 = .ok (.aload_n 0, 1) := by decide +kernel
theorem dL_law_680 : decode cL_law 680 = .ok (.iload_n 3, 1) := by decide +kernel
theorem dL_law_681 : decode cL_law 681 = .ok (.iconst 1, 1) := by decide +kernel
theorem dL_law_682 : decode cL_law 682 = .ok (.iadd, 1) := by decide +kernel
theorem dL_law_683 : decode cL_law 683 = .ok (.iaload, 1) := by decide +kernel
theorem dL_law_684 : decode cL_law 684 = .ok (.aload_n 0, 1) := by decide +kernel
theorem dL_law_685 : decode cL_law 685 = .ok (.iload_n 3, 1) := by decide +kernel
theorem dL_law_686 : decode cL_law 686 = .ok (.iconst 2, 1) := by decide +kernel
theorem dL_law_687 : decode cL_law 687 = .ok (.iadd, 1) := by decide +kernel
theorem dL_law_688 : decode cL_law 688 = .ok (.iaload, 1) := by decide +kernel
theorem dL_law_689 : decode cL_law 689 = .ok (.invokevirtual 84, 3) := by decide +kernel
theorem dL_law_692 : decode cL_law 692 = .ok (.aload_n 2, 1) := by decide +kernel
theorem dL_law_693 : decode cL_law 693 = .ok (.aload_n 0, 1) := by decide +kernel
theorem dL_law_694 : decode cL_law 694 = .ok (.iload_n 3, 1) := by decide +kernel
theorem dL_law_695 : decode cL_law 695 = .ok (.iconst 1, 1) := by decide +kernel
theorem dL_law_696 : decode cL_law 696 = .ok (.iadd, 1) := by decide +kernel
theorem dL_law_697 : decode cL_law 697 = .ok (.iaload, 1) := by decide +kernel
theorem dL_law_698 : decode cL_law 698 = .ok (.aload_n 0, 1) := by decide +kernel
theorem dL_law_699 : decode cL_law 699 = .ok (.iload_n 3, 1) := by decide +kernel
theorem dL_law_700 : decode cL_law 700 = .ok (.iconst 2, 1) := by decide +kernel
theorem dL_law_701 : decode cL_law 701 = .ok (.iadd, 1) := by decide +kernel
theorem dL_law_702 : decode cL_law 702 = .ok (.iaload, 1) := by decide +kernel
theorem dL_law_703 : decode cL_law 703 = .ok (.invokevirtual 87, 3) := by decide +kernel
theorem dL_law_706 : decode cL_law 706 = .ok (.if_icmp .eq 219, 3) := by decide +kernel
theorem dL_law_709 : decode cL_law 709 = .ok (.iconst 0, 1) := by decide +kernel
theorem dL_law_710 : decode cL_law 710 = .ok (.ireturn, 1) := by decide +kernel
theorem dL_law_711 : decode cL_law 711 = .ok (.aload_n 1, 1) := by decide +kernel
theorem dL_law_712 : decode cL_law 712 = .ok (.aload_n 0, 1) := by decide +kernel
theorem dL_law_713 : decode cL_law 713 = .ok (.iload_n 3, 1) := by decide +kernel
theorem dL_law_714 : decode cL_law 714 = .ok (.iconst 1, 1) := by decide +kernel
theorem dL_law_715 : decode cL_law 715 = .ok (.iadd, 1) := by decide +kernel
theorem dL_law_716 : decode cL_law 716 = .ok (.iaload, 1) := by decide +kernel
theorem dL_law_717 : decode cL_law 717 = .ok (.invokevirtual 88, 3) := by decide +kernel
theorem dL_law_720 : decode cL_law 720 = .ok (.aload_n 2, 1) := by decide +kernel
theorem dL_law_721 : decode cL_law 721 = .ok (.aload_n 0, 1) := by decide +kernel
theorem dL_law_722 : decode cL_law 722 = .ok (.iload_n 3, 1) := by decide +kernel
theorem dL_law_723 : decode cL_law 723 = .ok (.iconst 1, 1) := by decide +kernel
theorem dL_law_724 : decode cL_law 724 = .ok (.iadd, 1) := by decide +kernel
theorem dL_law_725 : decode cL_law 725 = .ok (.iaload, 1) := by decide +kernel
theorem dL_law_726 : decode cL_law 726 = .ok (.invokevirtual 91, 3) := by decide +kernel
theorem dL_law_729 : decode cL_law 729 = .ok (.if_icmp .eq 196, 3) := by decide +kernel
theorem dL_law_732 : decode cL_law 732 = .ok (.iconst 0, 1) := by decide +kernel
theorem dL_law_733 : decode cL_law 733 = .ok (.ireturn, 1) := by decide +kernel
theorem dL_law_734 : decode cL_law 734 = .ok (.aload_n 1, 1) := by decide +kernel
theorem dL_law_735 : decode cL_law 735 = .ok (.aload_n 0, 1) := by decide +kernel
theorem dL_law_736 : decode cL_law 736 = .ok (.iload_n 3, 1) := by decide +kernel
theorem dL_law_737 : decode cL_law 737 = .ok (.iconst 1, 1) := by decide +kernel
theorem dL_law_738 : decode cL_law 738 = .ok (.iadd, 1) := by decide +kernel
theorem dL_law_739 : decode cL_law 739 = .ok (.iaload, 1) := by decide +kernel
theorem dL_law_740 : decode cL_law 740 = .ok (.aload_n 0, 1) := by decide +kernel
theorem dL_law_741 : decode cL_law 741 = .ok (.iload_n 3, 1) := by decide +kernel
theorem dL_law_742 : decode cL_law 742 = .ok (.iconst 2, 1) := by decide +kernel
theorem dL_law_743 : decode cL_law 743 = .ok (.iadd, 1) := by decide +kernel
theorem dL_law_744 : decode cL_law 744 = .ok (.iaload, 1) := by decide +kernel
theorem dL_law_745 : decode cL_law 745 = .ok (.invokevirtual 92, 3) := by decide +kernel
theorem dL_law_748 : decode cL_law 748 = .ok (.aload_n 2, 1) := by decide +kernel
theorem dL_law_749 : decode cL_law 749 = .ok (.aload_n 0, 1) := by decide +kernel
theorem dL_law_750 : decode cL_law 750 = .ok (.iload_n 3, 1) := by decide +kernel
theorem dL_law_751 : decode cL_law 751 = .ok (.iconst 1, 1) := by decide +kernel
theorem dL_law_752 : decode cL_law 752 = .ok (.iadd, 1) := by decide +kernel
theorem dL_law_753 : decode cL_law 753 = .ok (.iaload, 1) := by decide +kernel
theorem dL_law_754 : decode cL_law 754 = .ok (.aload_n 0, 1) := by decide +kernel
theorem dL_law_755 : decode cL_law 755 = .ok (.iload_n 3, 1) := by decide +kernel
theorem dL_law_756 : decode cL_law 756 = .ok (.iconst 2, 1) := by decide +kernel
theorem dL_law_757 : decode cL_law 757 = .ok (.iadd, 1) := by decide +kernel
theorem dL_law_758 : decode cL_law 758 = .ok (.iaload, 1) := by decide +kernel
theorem dL_law_759 : decode cL_law 759 = .ok (.invokevirtual 95, 3) := by decide +kernel
theorem dL_law_762 : decode cL_law 762 = .ok (.if_icmp .eq 163, 3) := by decide +kernel
theorem dL_law_765 : decode cL_law 765 = .ok (.iconst 0, 1) := by decide +kernel
theorem dL_law_766 : decode cL_law 766 = .ok (.ireturn, 1) := by decide +kernel
theorem dL_law_767 : decode cL_law 767 = .ok (.aload_n 1, 1) := by decide +kernel
theorem dL_law_768 : decode cL_law 768 = .ok (.invokevirtual 96, 3) := by decide +kernel
theorem dL_law_771 : decode cL_law 771 = .ok (.aload_n 2, 1) := by decide +kernel
theorem dL_law_772 : decode cL_law 772 = .ok (.invokevirtual 99, 3) := by decide +kernel
theorem dL_law_775 : decode cL_law 775 = .ok (.if_icmp .eq 150, 3) := by decide +kernel
theorem dL_law_778 : decode cL_law 778 = .ok (.iconst 0, 1) := by decide +kernel
theorem dL_law_779 : decode cL_law 779 = .ok (.ireturn, 1) := by decide +kernel
theorem dL_law_780 : decode cL_law 780 = .ok (.aload_n 1, 1) := by decide +kernel
theorem dL_law_781 : decode cL_law 781 = .ok (.aload_n 0, 1) := by decide +kernel
theorem dL_law_782 : decode cL_law 782 = .ok (.iload_n 3, 1) := by decide +kernel
theorem dL_law_783 : decode cL_law 783 = .ok (.iconst 1, 1) := by decide +kernel
theorem dL_law_784 : decode cL_law 784 = .ok (.iadd, 1) := by decide +kernel
theorem dL_law_785 : decode cL_law 785 = .ok (.iaload, 1) := by decide +kernel
theorem dL_law_786 : decode cL_law 786 = .ok (.aload_n 0, 1) := by decide +kernel
theorem dL_law_787 : decode cL_law 787 = .ok (.iload_n 3, 1) := by decide +kernel
theorem dL_law_788 : decode cL_law 788 = .ok (.iconst 2, 1) := by decide +kernel
theorem dL_law_789 : decode cL_law 789 = .ok (.iadd, 1) := by decide +kernel
theorem dL_law_790 : decode cL_law 790 = .ok (.iaload, 1) := by decide +kernel
theorem dL_law_791 : decode cL_law 791 = .ok (.invokevirtual 100, 3) := by decide +kernel
theorem dL_law_794 : decode cL_law 794 = .ok (.aload_n 2, 1) := by decide +kernel
theorem dL_law_795 : decode cL_law 795 = .ok (.aload_n 0, 1) := by decide +kernel
theorem dL_law_796 : decode cL_law 796 = .ok (.iload_n 3, 1) := by decide +kernel
theorem dL_law_797 : decode cL_law 797 = .ok (.iconst 1, 1) := by decide +kernel
theorem dL_law_798 : decode cL_law 798 = .ok (.iadd, 1) := by decide +kernel
theorem dL_law_799 : decode cL_law 799 = .ok (.iaload, 1) := by decide +kernel
theorem dL_law_800 : decode cL_law 800 = .ok (.aload_n 0, 1) := by decide +kernel
theorem dL_law_801 : decode cL_law 801 = .ok (.iload_n 3, 1) := by decide +kernel
theorem dL_law_802 : decode cL_law 802 = .ok (.iconst 2, 1) := by decide +kernel
theorem dL_law_803 : decode cL_law 803 = .ok (.iadd, 1) := by decide +kernel
theorem dL_law_804 : decode cL_law 804 = .ok (.iaload, 1) := by decide +kernel
theorem dL_law_805 : decode cL_law 805 = .ok (.invokevirtual 103, 3) := by decide +kernel
theorem dL_law_808 : decode cL_law 808 = .ok (.if_icmp .eq 117, 3) := by decide +kernel
theorem dL_law_811 : decode cL_law 811 = .ok (.iconst 0, 1) := by decide +kernel
theorem dL_law_812 : decode cL_law 812 = .ok (.ireturn, 1) := by decide +kernel
theorem dL_law_813 : decode cL_law 813 = .ok (.aload_n 1, 1) := by decide +kernel
theorem dL_law_814 : decode cL_law 814 = .ok (.aload_n 0, 1) := by decide +kernel
theorem dL_law_815 : decode cL_law 815 = .ok (.iload_n 3, 1) := by decide +kernel
theorem dL_law_816 : decode cL_law 816 = .ok (.iconst 1, 1) := by decide +kernel
theorem dL_law_817 : decode cL_law 817 = .ok (.iadd, 1) := by decide +kernel
theorem dL_law_818 : decode cL_law 818 = .ok (.iaload, 1) := by decide +kernel
theorem dL_law_819 : decode cL_law 819 = .ok (.invokevirtual 104, 3) := by decide +kernel
theorem dL_law_822 : decode cL_law 822 = .ok (.aload_n 2, 1) := by decide +kernel
theorem dL_law_823 : decode cL_law 823 = .ok (.aload_n 0, 1) := by decide +kernel
theorem dL_law_824 : decode cL_law 824 = .ok (.iload_n 3, 1) := by decide +kernel
theorem dL_law_825 : decode cL_law 825 = .ok (.iconst 1, 1) := by decide +kernel
theorem dL_law_826 : decode cL_law 826 = .ok (.iadd, 1) := by decide +kernel
theorem dL_law_827 : decode cL_law 827 = .ok (.iaload, 1) := by decide +kernel
theorem dL_law_828 : decode cL_law 828 = .ok (.invokevirtual 107, 3) := by decide +kernel
theorem dL_law_831 : decode cL_law 831 = .ok (.if_icmp .eq 94, 3) := by decide +kernel
theorem dL_law_834 : decode cL_law 834 = .ok (.iconst 0, 1) := by decide +kernel
theorem dL_law_835 : decode cL_law 835 = .ok (.ireturn, 1) := by decide +kernel
theorem dL_law_836 : decode cL_law 836 = .ok (.aload_n 1, 1) := by decide +kernel
theorem dL_law_837 : decode cL_law 837 = .ok (.aload_n 0, 1) := by decide +kernel
theorem dL_law_838 : decode cL_law 838 = .ok (.iload_n 3, 1) := by decide +kernel
theorem dL_law_839 : decode cL_law 839 = .ok (.iconst 1, 1) := by decide +kernel
theorem dL_law_840 : decode cL_law 840 = .ok (.iadd, 1) := by decide +kernel
theorem dL_law_841 : decode cL_law 841 = .ok (.iaload, 1) := by decide +kernel
theorem dL_law_842 : decode cL_law 842 = .ok (.aload_n 0, 1) := by decide +kernel
theorem dL_law_843 : decode cL_law 843 = .ok (.iload_n 3, 1) := by decide +kernel
theorem dL_law_844 : decode cL_law 844 = .ok (.iconst 2, 1) := by decide +kernel
theorem dL_law_845 : decode cL_law 845 = .ok (.iadd, 1) := by decide +kernel
theorem dL_law_846 : decode cL_law 846 = .ok (.iaload, 1) := by decide +kernel
theorem dL_law_847 : decode cL_law 847 = .ok (.invokevirtual 108, 3) := by decide +kernel
theorem dL_law_850 : decode cL_law 850 = .ok (.aload_n 2, 1) := by decide +kernel
theorem dL_law_851 : decode cL_law 851 = .ok (.aload_n 0, 1) := by decide +kernel
theorem dL_law_852 : decode cL_law 852 = .ok (.iload_n 3, 1) := by decide +kernel
theorem dL_law_853 : decode cL_law 853 = .ok (.iconst 1, 1) := by decide +kernel
theorem dL_law_854 : decode cL_law 854 = .ok (.iadd, 1) := by decide +kernel
theorem dL_law_855 : decode cL_law 855 = .ok (.iaload, 1) := by decide +kernel
theorem dL_law_856 : decode cL_law 856 = .ok (.aload_n 0, 1) := by decide +kernel
theorem dL_law_857 : decode cL_law 857 = .ok (.iload_n 3, 1) := by decide +kernel
theorem dL_law_858 : decode cL_law 858 = .ok (.iconst 2, 1) := by decide +kernel
theorem dL_law_859 : decode cL_law 859 = .ok (.iadd, 1) := by decide +kernel
theorem dL_law_860 : decode cL_law 860 = .ok (.iaload, 1) := by decide +kernel
theorem dL_law_861 : decode cL_law 861 = .ok (.invokevirtual 111, 3) := by decide +kernel
theorem dL_law_864 : decode cL_law 864 = .ok (.if_icmp .eq 61, 3) := by decide +kernel
theorem dL_law_867 : decode cL_law 867 = .ok (.iconst 0, 1) := by decide +kernel
theorem dL_law_868 : decode cL_law 868 = .ok (.ireturn, 1) := by decide +kernel
theorem dL_law_869 : decode cL_law 869 = .ok (.aload_n 1, 1) := by decide +kernel
theorem dL_law_870 : decode cL_law 870 = .ok (.aload_n 0, 1) := by decide +kernel
theorem dL_law_871 : decode cL_law 871 = .ok (.iload_n 3, 1) := by decide +kernel
theorem dL_law_872 : decode cL_law 872 = .ok (.iconst 1, 1) := by decide +kernel
theorem dL_law_873 : decode cL_law 873 = .ok (.iadd, 1) := by decide +kernel
theorem dL_law_874 : decode cL_law 874 = .ok (.iaload, 1) := by decide +kernel
theorem dL_law_875 : decode cL_law 875 = .ok (.aload_n 0, 1) := by decide +kernel
theorem dL_law_876 : decode cL_law 876 = .ok (.iload_n 3, 1) := by decide +kernel
theorem dL_law_877 : decode cL_law 877 = .ok (.iconst 2, 1) := by decide +kernel
theorem dL_law_878 : decode cL_law 878 = .ok (.iadd, 1) := by decide +kernel
theorem dL_law_879 : decode cL_law 879 = .ok (.iaload, 1) := by decide +kernel
theorem dL_law_880 : decode cL_law 880 = .ok (.invokevirtual 112, 3) := by decide +kernel
theorem dL_law_883 : decode cL_law 883 = .ok (.aload_n 2, 1) := by decide +kernel
theorem dL_law_884 : decode cL_law 884 = .ok (.aload_n 0, 1) := by decide +kernel
theorem dL_law_885 : decode cL_law 885 = .ok (.iload_n 3, 1) := by decide +kernel
theorem dL_law_886 : decode cL_law 886 = .ok (.iconst 1, 1) := by decide +kernel
theorem dL_law_887 : decode cL_law 887 = .ok (.iadd, 1) := by decide +kernel
theorem dL_law_888 : decode cL_law 888 = .ok (.iaload, 1) := by decide +kernel
theorem dL_law_889 : decode cL_law 889 = .ok (.aload_n 0, 1) := by decide +kernel
theorem dL_law_890 : decode cL_law 890 = .ok (.iload_n 3, 1) := by decide +kernel
theorem dL_law_891 : decode cL_law 891 = .ok (.iconst 2, 1) := by decide +kernel
theorem dL_law_892 : decode cL_law 892 = .ok (.iadd, 1) := by decide +kernel
theorem dL_law_893 : decode cL_law 893 = .ok (.iaload, 1) := by decide +kernel
theorem dL_law_894 : decode cL_law 894 = .ok (.invokevirtual 115, 3) := by decide +kernel
theorem dL_law_897 : decode cL_law 897 = .ok (.if_icmp .eq 28, 3) := by decide +kernel
theorem dL_law_900 : decode cL_law 900 = .ok (.iconst 0, 1) := by decide +kernel
theorem dL_law_901 : decode cL_law 901 = .ok (.ireturn, 1) := by decide +kernel
theorem dL_law_902 : decode cL_law 902 = .ok (.aload_n 1, 1) := by decide +kernel
theorem dL_law_903 : decode cL_law 903 = .ok (.aload_n 0, 1) := by decide +kernel
theorem dL_law_904 : decode cL_law 904 = .ok (.iload_n 3, 1) := by decide +kernel
theorem dL_law_905 : decode cL_law 905 = .ok (.iconst 1, 1) := by decide +kernel
theorem dL_law_906 : decode cL_law 906 = .ok (.iadd, 1) := by decide +kernel
theorem dL_law_907 : decode cL_law 907 = .ok (.iaload, 1) := by decide +kernel
theorem dL_law_908 : decode cL_law 908 = .ok (.invokevirtual 116, 3) := by decide +kernel
theorem dL_law_911 : decode cL_law 911 = .ok (.aload_n 2, 1) := by decide +kernel
theorem dL_law_912 : decode cL_law 912 = .ok (.aload_n 0, 1) := by decide +kernel
theorem dL_law_913 : decode cL_law 913 = .ok (.iload_n 3, 1) := by decide +kernel
theorem dL_law_914 : decode cL_law 914 = .ok (.iconst 1, 1) := by decide +kernel
theorem dL_law_915 : decode cL_law 915 = .ok (.iadd, 1) := by decide +kernel
theorem dL_law_916 : decode cL_law 916 = .ok (.iaload, 1) := by decide +kernel
theorem dL_law_917 : decode cL_law 917 = .ok (.invokevirtual 119, 3) := by decide +kernel
theorem dL_law_920 : decode cL_law 920 = .ok (.if_icmp .eq 5, 3) := by decide +kernel
theorem dL_law_923 : decode cL_law 923 = .ok (.iconst 0, 1) := by decide +kernel
theorem dL_law_924 : decode cL_law 924 = .ok (.ireturn, 1) := by decide +kernel
theorem dL_law_925 : decode cL_law 925 = .ok (.iinc 3 5, 3) := by decide +kernel
theorem dL_law_928 : decode cL_law 928 = .ok (.goto (-910), 3) := by decide +kernel
theorem dL_law_931 : decode cL_law 931 = .ok (.iconst 1, 1) := by decide +kernel
theorem dL_law_932 : decode cL_law 932 = .ok (.ireturn, 1) := by decide +kernel
end
section
/-! my own base: the nest words as one premise, worlds, pure calls and writing calls, array rows by a Nat place -/
def nwF : List (String × Nat × String × String × String) := [("BallCourt", 63, "BallCourt$Moments", "count", "I"), ("BallCourt", 66, "BallCourt$Cases", "count", "I"), ("BallCourt", 67, "BallCourt$Book", "repealed", "I"), ("BallCourt", 73, "BallCourt$Book", "facts", "I"), ("BallCourt", 98, "BallCourt$Book", "lines", "I"), ("BallCourt", 115, "BallCourt$Book", "excepters", "[I"), ("BallCourt", 131, "BallCourt$Book", "must", "[I"), ("BallCourt", 134, "BallCourt$Book", "mustNot", "[I"), ("BallCourt", 137, "BallCourt$Book", "ruling", "[I"), ("BallCourt", 153, "BallCourt$Laws", "lineOf", "[I"), ("BallCourt", 159, "BallCourt$Book", "numbers", "I"), ("BallCourt", 201, "BallCourt$Moments", "ruled", "[I"), ("BallCourt", 207, "BallCourt$Cases", "kind", "[I"), ("BallCourt", 210, "BallCourt$Cases", "ruling", "[I"), ("BallCourt", 211, "BallCourt$Cases", "names", "[I"), ("BallCourt", 224, "BallCourt$Game", "hoopsOf0", "I"), ("BallCourt", 227, "BallCourt$Game", "hoopsOf1", "I"), ("BallCourt", 230, "BallCourt$Game", "striker", "I"), ("BallCourt$Laws", 19, "BallCourt$Book", "numbers", "I"), ("BallCourt$Laws", 33, "BallCourt$Book", "ruling", "[I")]
def nwM : List (String × Nat × MethodName) := [("BallCourt", 9, yX0_init), ("BallCourt", 30, yX4_init), ("BallCourt", 37, yX1_init), ("BallCourt", 44, yX2_init), ("BallCourt$Book", 50, yX5_hasBit), ("BallCourt$Moments", 25, yX5_hasBit)]
def NW (U : State) : Prop := (∀ q ∈ nwF, va_Nw (.fieldLinkNest q.1 q.2.1 q.2.2.1 q.2.2.2.1 q.2.2.2.2 "BallCourt") U) ∧ ∀ q ∈ nwM, va_Nw (.methodLinkNest q.1 q.2.1 q.2.2 "BallCourt") U
theorem NW.warm {s U : State} (hW : s.WarmedH U.vm) (h : NW s) : NW U := ⟨fun q hq => va_Nw.warmF hW (h.1 q hq), fun q hq => va_Nw.warmM hW (h.2 q hq)⟩
theorem NW.same {u U : State} (h : u.vm = U.vm) (hZ : NW u) : NW U := ⟨fun q hq => va_Nw.same rfl h (hZ.1 q hq), fun q hq => va_Nw.same rfl h (hZ.2 q hq)⟩
theorem NW.f {s : State} (h : NW s) (i : Nat) {own ref n d : String} {idx : Nat} (hq : nwF[i]? = some (own, idx, ref, n, d)) (args : Array Value) : (Cond.fieldLinkNest own idx ref n d "BallCourt").before args s = true := va_Nw.use rfl (h.1 _ (List.mem_of_getElem? hq))
theorem NW.m {s : State} (h : NW s) (i : Nat) {own : String} {idx : Nat} {y : MethodName} (hq : nwM[i]? = some (own, idx, y)) : va_Nw (.methodLinkNest own idx y "BallCourt") s := h.2 _ (List.mem_of_getElem? hq)
abbrev tyA (cI cZ : ClassId) : List (ClassId × FieldType) := [(cI, .int), (cZ, .boolean)]
def XP (D : va_G) (cI cZ : ClassId) (wc : va_W) (U : State) : Prop := va_P D vwCl wc U.heap ∧ va_K D vwCl (tyA cI cZ) U ∧ NW U
def XW (D : va_G) (cI cZ : ClassId) (wc : va_W) (sz : Nat) (U : State) : Prop := U.heap.size = sz ∧ XP D cI cZ wc U ∧ va_D (fun _ => True) wc
def XB (D : va_G) (cI cZ : ClassId) (A : Nat → Prop) (w : va_W) (t : State) : Prop := XP D cI cZ w t ∧ va_D A w
theorem XP.blind {D : va_G} {cI cZ : ClassId} {wc : va_W} {As : List Value} : FrameBlind (va_Pc As (XP D cI cZ wc)) := fun a U g mk q => by
  obtain ⟨q0, qP, qK, qN⟩ := q
  exact ⟨q0, qP, va_K.moved (u := U) (U := U.calling g mk a) (Vm.Alike.refl U.vm) qK, NW.same (u := U) (U := U.calling g mk a) rfl qN⟩
theorem XW.blind {D : va_G} {cI cZ : ClassId} {wc : va_W} {sz : Nat} {As : List Value} : FrameBlind (va_Pc As (XW D cI cZ wc sz)) := fun a U g mk q => by
  obtain ⟨q0, qz, ⟨qP, qK, qN⟩, qD⟩ := q
  exact ⟨q0, qz, ⟨qP, va_K.moved (u := U) (U := U.calling g mk a) (Vm.Alike.refl U.vm) qK, NW.same (u := U) (U := U.calling g mk a) rfl qN⟩, qD⟩
theorem fm_of_map {α β : Type} {f : α → Option β} : ∀ {l : List α} {r : List β}, l.map f = r.map some → l.filterMap f = r
  | [], [], _ => rfl
  | [], _ :: _, h => by cases h
  | _ :: _, [], h => by cases h
  | a :: l, b :: r, h => by
    simp only [List.map_cons, List.cons.injEq] at h
    rw [List.filterMap_cons, h.1]
    simp only [fm_of_map h.2]
section XC
variable {p : Program} {l : Launch} {e : Env} {R : Room} {s : State} {m : MethodId} {args : Array Value} {below : List Frame} {meth : Method} {c : Code} {H : Heap} {locs : List Loc} {cells slots : Nat} {Q : State → Prop}
variable {y : MethodName} {bytes cc : ByteArray} {maxL nL mc ms n index : Nat} {ret : Option FieldType} {ws : List Cond} {rm : Room} {Ts : List Cond} {own C : String} {b : Addr} {As rest st0 : List Value} {pc : Nat} {ls : Array Slot}
variable {D : va_G} {cI cZ : ClassId} {ws0 wc wr : va_W} {A0 : Nat → Prop} {H0 : Heap} {ci q0 N : Nat} {T : u_T} {fs : List Value}
theorem lv_asi {x x' : Int32} (h : x = x') (k : W p l e R s m args below meth c H locs cells slots Q (F0 m pc ls (.int x' :: rest))) : W p l e R s m args below meth c H locs cells slots Q (F0 m pc ls (.int x :: rest)) := h ▸ k
theorem xpV {post : Int32 → Prop} (S : CallFix p m c cc nL s args Ts own) (hM : Met l y ws rm (va_Pc (.ref b :: As) (XP D cI cZ wc)) (vp_Si post) 0 0 (fun _ => False)) (cw : CallW R s args own C index y bytes maxL ret ws rm 0 0 n)
    (hP : va_P D vwCl ws0 H) (is : List Nat) (hs : is.map (fun i => ws0[i]?) = wc.map some) (hK : va_K D vwCl (tyA cI cZ) s) (hN : NW s) (hc : vwCl[ci]? = some (C, T, N)) (he : ws0[q0]? = some (b, .inr (ci, fs)))
    (hn : As.length = n) (hsize : ls.size = nL) (hstack : st0 = As.reverse ++ .ref b :: rest) (hW : (rest.map fun v => v.category).sum ≤ 8) (hdg : decode cc pc = .ok (.invokevirtual index, 3)) (hf : cells ≤ R.cells ∧ slots ≤ R.slots)
    (kk : ∀ r : Int32, post r → W p l e R s m args below meth c H locs cells slots Q (F0 m (pc + 3) ls (.int r :: rest))) : W p l e R s m args below meth c H locs cells slots Q (F0 m pc ls st0) :=
  vp_callSi (va_Run.run (va_runV S hM cw ⟨XP.blind, va_recv hK hP hc he, fun U hU hW => ⟨rfl, by rw [hU]; exact hP.sub is (fm_of_map hs), va_K.moved hW.alike hK, NW.warm hW hN⟩⟩ rfl hn hsize hstack (lv_room hW) hdg hf)) kk
theorem xpS {post : Int32 → Prop} (S : CallFix p m c cc nL s args Ts own) (hM : Met l y ws rm (va_Pc As (XP D cI cZ wc)) (vp_Si post) 0 0 (fun _ => False)) (cw : CallB R s args own index y bytes maxL ret ws rm 0 0 n ∧ (Cond.static y).before args s = true)
    (hP : va_P D vwCl ws0 H) (is : List Nat) (hs : is.map (fun i => ws0[i]?) = wc.map some) (hK : va_K D vwCl (tyA cI cZ) s) (hN : NW s)
    (hn : As.length = n) (hsize : ls.size = nL) (hstack : st0 = As.reverse ++ rest) (hW : (rest.map fun v => v.category).sum ≤ 8) (hdg : decode cc pc = .ok (.invokestatic index, 3)) (hf : cells ≤ R.cells ∧ slots ≤ R.slots)
    (kk : ∀ r : Int32, post r → W p l e R s m args below meth c H locs cells slots Q (F0 m (pc + 3) ls (.int r :: rest))) : W p l e R s m args below meth c H locs cells slots Q (F0 m pc ls st0) :=
  vp_callSi (va_Run.run (va_runS S hM cw ⟨XP.blind, fun U hU hW => ⟨rfl, by rw [hU]; exact hP.sub is (fm_of_map hs), va_K.moved hW.alike hK, NW.warm hW hN⟩⟩ rfl hn hsize hstack (lv_room hW) hdg hf)) kk
theorem xpSN {host : String} {post : Int32 → Prop} (S : CallFix p m c cc nL s args Ts own) (hM : Met l y ws rm (va_Pc As (XP D cI cZ wc)) (vp_Si post) 0 0 (fun _ => False)) (cw : va_CN R s args own index y host bytes maxL ret ws rm 0 0 n) (hst : (Cond.static y).before args s = true)
    (hP : va_P D vwCl ws0 H) (is : List Nat) (hs : is.map (fun i => ws0[i]?) = wc.map some) (hK : va_K D vwCl (tyA cI cZ) s) (hN : NW s)
    (hn : As.length = n) (hsize : ls.size = nL) (hstack : st0 = As.reverse ++ rest) (hW : (rest.map fun v => v.category).sum ≤ 8) (hdg : decode cc pc = .ok (.invokestatic index, 3)) (hf : cells ≤ R.cells ∧ slots ≤ R.slots)
    (kk : ∀ r : Int32, post r → W p l e R s m args below meth c H locs cells slots Q (F0 m (pc + 3) ls (.int r :: rest))) : W p l e R s m args below meth c H locs cells slots Q (F0 m pc ls st0) :=
  vp_callSi (va_Run.run (va_runSN S hM ⟨cw, hst, trivial⟩ ⟨XP.blind, fun U hU hW => ⟨rfl, by rw [hU]; exact hP.sub is (fm_of_map hs), va_K.moved hW.alike hK, NW.warm hW hN⟩⟩ rfl hn hsize hstack (lv_room hW) hdg hf)) kk
theorem xw_pre (hP : va_P D vwCl ws0 H) (hD : va_D A0 ws0) (isC : List Nat) (hC : isC.map (fun i => ws0[i]?) = wc.map some) (hnC : va_nd isC = true) (hK : va_K D vwCl (tyA cI cZ) s) (hN : NW s) : ∀ U : State, U.heap = H → s.WarmedH U.vm → va_Pc As (XW D cI cZ wc H.size) As.toArray U :=
  fun U hU hW => ⟨rfl, by rw [hU], ⟨by rw [hU]; exact hP.sub isC (fm_of_map hC), va_K.moved hW.alike hK, NW.warm hW hN⟩, (hD.sub isC hnC hC).weaken (fun _ _ _ _ => trivial)⟩
theorem xwV {S0 : Type} {post : Int32 → S0 → Prop} {w1 : S0 → va_W} (S : CallFix p m c cc nL s args Ts own) (hM : Met l y ws rm (va_Pc (.ref b :: As) (XW D cI cZ wc H.size)) (va_Qi post (fun u => XB D cI cZ (va_A wc H.size) (w1 u)) (va_A wc H.size)) mc ms (va_A wc H.size)) (cw : CallW R s args own C index y bytes maxL ret ws rm mc ms n)
    (hP : va_P D vwCl ws0 H) (hD : va_D A0 ws0) (hS : va_S A0 H0 H locs) (hA : ∀ q, H0.size ≤ q → A0 q) (isC isR : List Nat) (hC : isC.map (fun i => ws0[i]?) = wc.map some) (hR : isR.map (fun i => ws0[i]?) = wr.map some) (hnC : va_nd isC = true) (hnR : va_nd isR = true) (hdis : ∀ i ∈ isR, i ∉ isC)
    (hK : va_K D vwCl (tyA cI cZ) s) (hN : NW s) (hc : vwCl[ci]? = some (C, T, N)) (he : ws0[q0]? = some (b, .inr (ci, fs)))
    (hn : As.length = n) (hsize : ls.size = nL) (hstack : st0 = As.reverse ++ .ref b :: rest) (hW : (rest.map fun v => v.category).sum ≤ 8) (hdg : decode cc pc = .ok (.invokevirtual index, 3)) (hf : cells + mc ≤ R.cells ∧ slots + ms ≤ R.slots)
    (kk : ∀ (r : Int32) (u : S0) (H1 : Heap) (locs1 : List Loc), post r u → va_P D vwCl (wr ++ w1 u) H1 → va_D A0 (wr ++ w1 u) → va_S A0 H0 H1 locs1 → W p l e R s m args below meth c H1 locs1 (cells + mc) (slots + ms) Q (F0 m (pc + 3) ls (.int r :: rest))) : W p l e R s m args below meth c H locs cells slots Q (F0 m pc ls st0) :=
  va_calli (va_runV S hM cw ⟨XW.blind, va_recv hK hP hc he, xw_pre hP hD isC hC hnC hK hN⟩ rfl hn hsize hstack (lv_room hW) hdg hf) hS (fun q _ h => va_free hD hS hA isC hC q h) (va_free hD hS hA isC hC) (fun r u t H1 locs1 ht _ hw hB _ hk1 hS1 => by
    obtain ⟨⟨hP1, -, -⟩, hD1⟩ := hB
    rw [ht] at hP1
    obtain ⟨hP2, hD2⟩ := va_join hP hD isC isR hC hR hnR hdis hk1 (va_free hD hS hA isC hC) hP1 hD1
    exact kk r u H1 locs1 hw hP2 hD2 hS1)
theorem xwVv {S0 : Type} {post : S0 → Prop} {w1 : S0 → va_W} (S : CallFix p m c cc nL s args Ts own) (hM : Met l y ws rm (va_Pc (.ref b :: As) (XW D cI cZ wc H.size)) (va_Qv post (fun u => XB D cI cZ (va_A wc H.size) (w1 u)) (va_A wc H.size)) mc ms (va_A wc H.size)) (cw : CallW R s args own C index y bytes maxL ret ws rm mc ms n)
    (hP : va_P D vwCl ws0 H) (hD : va_D A0 ws0) (hS : va_S A0 H0 H locs) (hA : ∀ q, H0.size ≤ q → A0 q) (isC isR : List Nat) (hC : isC.map (fun i => ws0[i]?) = wc.map some) (hR : isR.map (fun i => ws0[i]?) = wr.map some) (hnC : va_nd isC = true) (hnR : va_nd isR = true) (hdis : ∀ i ∈ isR, i ∉ isC)
    (hK : va_K D vwCl (tyA cI cZ) s) (hN : NW s) (hc : vwCl[ci]? = some (C, T, N)) (he : ws0[q0]? = some (b, .inr (ci, fs)))
    (hn : As.length = n) (hsize : ls.size = nL) (hstack : st0 = As.reverse ++ .ref b :: rest) (hW : (rest.map fun v => v.category).sum ≤ 8) (hdg : decode cc pc = .ok (.invokevirtual index, 3)) (hf : cells + mc ≤ R.cells ∧ slots + ms ≤ R.slots)
    (kk : ∀ (u : S0) (H1 : Heap) (locs1 : List Loc), post u → va_P D vwCl (wr ++ w1 u) H1 → va_D A0 (wr ++ w1 u) → va_S A0 H0 H1 locs1 → W p l e R s m args below meth c H1 locs1 (cells + mc) (slots + ms) Q (F0 m (pc + 3) ls rest)) : W p l e R s m args below meth c H locs cells slots Q (F0 m pc ls st0) :=
  va_callv (va_runV S hM cw ⟨XW.blind, va_recv hK hP hc he, xw_pre hP hD isC hC hnC hK hN⟩ rfl hn hsize hstack (lv_room hW) hdg hf) hS (fun q _ h => va_free hD hS hA isC hC q h) (va_free hD hS hA isC hC) (fun u t H1 locs1 ht _ hw hB _ hk1 hS1 => by
    obtain ⟨⟨hP1, -, -⟩, hD1⟩ := hB
    rw [ht] at hP1
    obtain ⟨hP2, hD2⟩ := va_join hP hD isC isR hC hR hnR hdis hk1 (va_free hD hS hA isC hC) hP1 hD1
    exact kk u H1 locs1 hw hP2 hD2 hS1)
theorem xwI {S0 : Type} {post : S0 → Prop} {w1 : S0 → va_W} (S : CallFix p m c cc nL s args Ts own) (hM : Met l y ws rm (va_Pc (.ref b :: As) (XW D cI cZ wc H.size)) (va_Qv post (fun u => XB D cI cZ (va_A wc H.size) (w1 u)) (va_A wc H.size)) mc ms (va_A wc H.size)) (cw : CallB R s args own index y bytes maxL none ws rm mc ms n ∧ y.name = "<init>" ∧ (Cond.instanceMethod y).before args s = true)
    (hP : va_P D vwCl ws0 H) (hD : va_D A0 ws0) (hS : va_S A0 H0 H locs) (hA : ∀ q, H0.size ≤ q → A0 q) (isC isR : List Nat) (hC : isC.map (fun i => ws0[i]?) = wc.map some) (hR : isR.map (fun i => ws0[i]?) = wr.map some) (hnC : va_nd isC = true) (hnR : va_nd isR = true) (hdis : ∀ i ∈ isR, i ∉ isC)
    (hK : va_K D vwCl (tyA cI cZ) s) (hN : NW s)
    (hn : As.length = n) (hsize : ls.size = nL) (hstack : st0 = As.reverse ++ .ref b :: rest) (hW : (rest.map fun v => v.category).sum ≤ 8) (hdg : decode cc pc = .ok (.invokespecial index, 3)) (hf : cells + mc ≤ R.cells ∧ slots + ms ≤ R.slots)
    (kk : ∀ (u : S0) (H1 : Heap) (locs1 : List Loc), post u → va_P D vwCl (wr ++ w1 u) H1 → va_D A0 (wr ++ w1 u) → va_S A0 H0 H1 locs1 → W p l e R s m args below meth c H1 locs1 (cells + mc) (slots + ms) Q (F0 m (pc + 3) ls rest)) : W p l e R s m args below meth c H locs cells slots Q (F0 m pc ls st0) :=
  va_callv (va_runI S hM cw ⟨XW.blind, xw_pre hP hD isC hC hnC hK hN⟩ rfl hn hsize hstack (lv_room hW) hdg hf) hS (fun q _ h => va_free hD hS hA isC hC q h) (va_free hD hS hA isC hC) (fun u t H1 locs1 ht _ hw hB _ hk1 hS1 => by
    obtain ⟨⟨hP1, -, -⟩, hD1⟩ := hB
    rw [ht] at hP1
    obtain ⟨hP2, hD2⟩ := va_join hP hD isC isR hC hR hnR hdis hk1 (va_free hD hS hA isC hC) hP1 hD1
    exact kk u H1 locs1 hw hP2 hD2 hS1)
theorem xwIN {host : String} {S0 : Type} {post : S0 → Prop} {w1 : S0 → va_W} (S : CallFix p m c cc nL s args Ts own) (hM : Met l y ws rm (va_Pc (.ref b :: As) (XW D cI cZ wc H.size)) (va_Qv post (fun u => XB D cI cZ (va_A wc H.size) (w1 u)) (va_A wc H.size)) mc ms (va_A wc H.size)) (cw : va_CN R s args own index y host bytes maxL none ws rm mc ms n ∧ y.name = "<init>" ∧ (Cond.instanceMethod y).before args s = true)
    (hP : va_P D vwCl ws0 H) (hD : va_D A0 ws0) (hS : va_S A0 H0 H locs) (hA : ∀ q, H0.size ≤ q → A0 q) (isC isR : List Nat) (hC : isC.map (fun i => ws0[i]?) = wc.map some) (hR : isR.map (fun i => ws0[i]?) = wr.map some) (hnC : va_nd isC = true) (hnR : va_nd isR = true) (hdis : ∀ i ∈ isR, i ∉ isC)
    (hK : va_K D vwCl (tyA cI cZ) s) (hN : NW s)
    (hn : As.length = n) (hsize : ls.size = nL) (hstack : st0 = As.reverse ++ .ref b :: rest) (hW : (rest.map fun v => v.category).sum ≤ 8) (hdg : decode cc pc = .ok (.invokespecial index, 3)) (hf : cells + mc ≤ R.cells ∧ slots + ms ≤ R.slots)
    (kk : ∀ (u : S0) (H1 : Heap) (locs1 : List Loc), post u → va_P D vwCl (wr ++ w1 u) H1 → va_D A0 (wr ++ w1 u) → va_S A0 H0 H1 locs1 → W p l e R s m args below meth c H1 locs1 (cells + mc) (slots + ms) Q (F0 m (pc + 3) ls rest)) : W p l e R s m args below meth c H locs cells slots Q (F0 m pc ls st0) :=
  va_callv (va_runIN S hM cw ⟨XW.blind, xw_pre hP hD isC hC hnC hK hN⟩ rfl hn hsize hstack (lv_room hW) hdg hf) hS (fun q _ h => va_free hD hS hA isC hC q h) (va_free hD hS hA isC hC) (fun u t H1 locs1 ht _ hw hB _ hk1 hS1 => by
    obtain ⟨⟨hP1, -, -⟩, hD1⟩ := hB
    rw [ht] at hP1
    obtain ⟨hP2, hD2⟩ := va_join hP hD isC isR hC hR hnR hdis hk1 (va_free hD hS hA isC hC) hP1 hD1
    exact kk u H1 locs1 hw hP2 hD2 hS1)
/-- arrays by a Nat place -/
theorem xald (hexec : p.tables.exec = Jvm.exec) (hb : c.code = cc) (hK : va_K D vwCl (tyA cI cZ) s) (hP : va_P D vwCl ws0 H) (q0 : Nat) {a n k : Nat} {f : Nat → Int32} (ha : ws0[q0]? = some (a, .inl (cI, n, .inl f))) (hk : k < n) (hn : n < 2 ^ 31) (hdg : decode cc pc = .ok (.iaload, 1))
    (kk : W p l e R s m args below meth c H locs cells slots Q (F0 m (pc + 1) ls (.int (f k) :: rest))) : W p l e R s m args below meth c H locs cells slots Q (F0 m pc ls (.int (nI k) :: .ref a :: rest)) :=
  va_iald hexec hb hK hP q0 0 ha rfl (vp_in_nI hk hn) hdg (by rw [nI_clamp (Nat.lt_trans hk hn)]; exact kk)
theorem xzld (hexec : p.tables.exec = Jvm.exec) (hb : c.code = cc) (hK : va_K D vwCl (tyA cI cZ) s) (hP : va_P D vwCl ws0 H) (q0 : Nat) {a n k : Nat} {f : Nat → Int32} (ha : ws0[q0]? = some (a, .inl (cZ, n, .inl f))) (hk : k < n) (hn : n < 2 ^ 31) (hdg : decode cc pc = .ok (.baload, 1))
    (kk : W p l e R s m args below meth c H locs cells slots Q (F0 m (pc + 1) ls (.int (f k) :: rest))) : W p l e R s m args below meth c H locs cells slots Q (F0 m pc ls (.int (nI k) :: .ref a :: rest)) :=
  va_zald hexec hb hK hP q0 1 ha rfl (vp_in_nI hk hn) hdg (by rw [nI_clamp (Nat.lt_trans hk hn)]; exact kk)
theorem xast (hexec : p.tables.exec = Jvm.exec) (hb : c.code = cc) (hK : va_K D vwCl (tyA cI cZ) s) (hP : va_P D vwCl ws0 H) (hD : va_D A0 ws0) (hS : va_S A0 H0 H locs) (q0 : Nat) {a n k : Nat} {f : Nat → Int32} (ha : ws0[q0]? = some (a, .inl (cI, n, .inl f))) {x : Int32} (hk : k < n) (hn : n < 2 ^ 31) (hdg : decode cc pc = .ok (.iastore, 1))
    (kk : ∀ (H1 : Heap) (locs1 : List Loc), va_P D vwCl (ws0.set q0 (a, .inl (cI, n, .inl (upd f k x)))) H1 → va_D A0 (ws0.set q0 (a, .inl (cI, n, .inl (upd f k x)))) → va_S A0 H0 H1 locs1 → W p l e R s m args below meth c H1 locs1 cells slots Q (F0 m (pc + 1) ls rest)) : W p l e R s m args below meth c H locs cells slots Q (F0 m pc ls (.int x :: .int (nI k) :: .ref a :: rest)) :=
  va_iast hexec hb hK hP hD hS q0 0 ha rfl (vp_in_nI hk hn) hdg (by rw [nI_clamp (Nat.lt_trans hk hn)]; exact kk)
theorem xzst (hexec : p.tables.exec = Jvm.exec) (hb : c.code = cc) (hK : va_K D vwCl (tyA cI cZ) s) (hP : va_P D vwCl ws0 H) (hD : va_D A0 ws0) (hS : va_S A0 H0 H locs) (q0 : Nat) {a n k : Nat} {f : Nat → Int32} (ha : ws0[q0]? = some (a, .inl (cZ, n, .inl f))) {x : Int32} (hx : vp_nar .boolean x = x) (hk : k < n) (hn : n < 2 ^ 31) (hdg : decode cc pc = .ok (.bastore, 1))
    (kk : ∀ (H1 : Heap) (locs1 : List Loc), va_P D vwCl (ws0.set q0 (a, .inl (cZ, n, .inl (upd f k x)))) H1 → va_D A0 (ws0.set q0 (a, .inl (cZ, n, .inl (upd f k x)))) → va_S A0 H0 H1 locs1 → W p l e R s m args below meth c H1 locs1 cells slots Q (F0 m (pc + 1) ls rest)) : W p l e R s m args below meth c H locs cells slots Q (F0 m pc ls (.int x :: .int (nI k) :: .ref a :: rest)) :=
  va_zast hexec hb hK hP hD hS q0 1 ha rfl (vp_in_nI hk hn) hdg (by rw [nI_clamp (Nat.lt_trans hk hn), hx]; exact kk)
theorem xnewI (hexec : p.tables.exec = Jvm.exec) (hb : c.code = cc) (harr : (Cond.arrayClass .int).before args s = true) (hK : va_K D vwCl (tyA cI cZ) s) (hP : va_P D vwCl ws0 H) (hD : va_D A0 ws0) (hS : va_S A0 H0 H locs) (hA : ∀ q, H0.size ≤ q → A0 q) {x : Int32} {n : Nat} (hx : x = nI n) (hn : n < 32768) (hcells : cells + 1 ≤ R.cells) (hslots : slots + n ≤ R.slots) (hdg : decode cc pc = .ok (.newarray .int, 2))
    (kk : ∀ (q : Nat) (H1 : Heap), va_P D vwCl (ws0 ++ [(q, .inl (cI, n, .inl (fun _ => 0)))]) H1 → va_D A0 (ws0 ++ [(q, .inl (cI, n, .inl (fun _ => 0)))]) → va_S A0 H0 H1 locs → W p l e R s m args below meth c H1 locs (cells + 1) (slots + n) Q (F0 m (pc + 2) ls (.ref q :: rest))) : W p l e R s m args below meth c H locs cells slots Q (F0 m pc ls (.int x :: rest)) := by
  subst hx
  refine va_newa (atype := .int) (ty := .int) (a0 := (n, .inl (fun _ => 0))) hexec hb harr rfl hK hP hD hS hA (fun cA => rfl) (nI_pos (by omega)) (nI_clamp (by omega)) (by show n * 4 ≤ _; omega) hcells hslots hdg (fun q cA H1 hK1 hP1 hD1 hS1 => ?_)
  have h1 := (hK1.2 2 (cA, .int) rfl).2
  have h2 := (hK.2 0 (cI, .int) rfl).2
  have h3 : cA = cI := Option.some.inj (Eq.trans (Eq.symm h1) h2)
  subst h3
  exact kk q H1 hP1 hD1 hS1
theorem xnewZ (hexec : p.tables.exec = Jvm.exec) (hb : c.code = cc) (harr : (Cond.arrayClass .boolean).before args s = true) (hK : va_K D vwCl (tyA cI cZ) s) (hP : va_P D vwCl ws0 H) (hD : va_D A0 ws0) (hS : va_S A0 H0 H locs) (hA : ∀ q, H0.size ≤ q → A0 q) {x : Int32} {n : Nat} (hx : x = nI n) (hn : n < 32768) (hcells : cells + 1 ≤ R.cells) (hslots : slots + n ≤ R.slots) (hdg : decode cc pc = .ok (.newarray .boolean, 2))
    (kk : ∀ (q : Nat) (H1 : Heap), va_P D vwCl (ws0 ++ [(q, .inl (cZ, n, .inl (fun _ => 0)))]) H1 → va_D A0 (ws0 ++ [(q, .inl (cZ, n, .inl (fun _ => 0)))]) → va_S A0 H0 H1 locs → W p l e R s m args below meth c H1 locs (cells + 1) (slots + n) Q (F0 m (pc + 2) ls (.ref q :: rest))) : W p l e R s m args below meth c H locs cells slots Q (F0 m pc ls (.int x :: rest)) := by
  subst hx
  refine va_newa (atype := .boolean) (ty := .boolean) (a0 := (n, .inl (fun _ => 0))) hexec hb harr rfl hK hP hD hS hA (fun cA => rfl) (nI_pos (by omega)) (nI_clamp (by omega)) (by show n * 1 ≤ _; omega) hcells hslots hdg (fun q cA H1 hK1 hP1 hD1 hS1 => ?_)
  have h1 := (hK1.2 2 (cA, .boolean) rfl).2
  have h2 := (hK.2 1 (cZ, .boolean) rfl).2
  have h3 : cA = cZ := Option.some.inj (Eq.trans (Eq.symm h1) h2)
  subst h3
  exact kk q H1 hP1 hD1 hS1
end XC
end
section
/-! my spec: the state of the court as one value, and what each answer is -/
section XL
variable {p : Program} {l : Launch} {e : Env} {R : Room} {s : State} {m : MethodId} {args : Array Value} {below : List Frame} {meth : Method} {c : Code} {H : Heap} {locs : List Loc} {cells slots : Nat} {Q : State → Prop}
variable {pc : Nat} {rest : List Value} {D : va_G} {A0 : Nat → Prop} {H0 : Heap}
theorem wloop {α : Type} (μ : α → Nat) (lv : α → List (Nat × Value)) (I : α → Prop) (nL : Nat)
    (step : ∀ a : α, I a → (∀ b : α, I b → μ b < μ a → ∀ ls : Array Slot, lv_has ls nL (lv b) → W p l e R s m args below meth c H locs cells slots Q (F0 m pc ls rest)) → ∀ ls : Array Slot, lv_has ls nL (lv a) → W p l e R s m args below meth c H locs cells slots Q (F0 m pc ls rest))
    (a0 : α) (h0 : I a0) (ls0 : Array Slot) (hl0 : lv_has ls0 nL (lv a0)) : W p l e R s m args below meth c H locs cells slots Q (F0 m pc ls0 rest) := by
  have key : ∀ (n : Nat) (a : α), μ a < n → I a → ∀ ls : Array Slot, lv_has ls nL (lv a) → W p l e R s m args below meth c H locs cells slots Q (F0 m pc ls rest) := by
    intro n
    induction n with
    | zero => intro a h; exact absurd h (Nat.not_lt_zero _)
    | succ n ih => intro a h hi ls hl; exact step a hi (fun b hb hlt ls hl => ih b (by omega) hb ls hl) ls hl
  exact key (μ a0 + 1) a0 (Nat.lt_succ_self _) h0 ls0 hl0
theorem wloopW {α : Type} (μ : α → Nat) (w : α → va_W) (lv : α → List (Nat × Value)) (I : α → Prop) (nL : Nat)
    (step : ∀ a : α, I a → (∀ b : α, I b → μ b < μ a → ∀ (H : Heap) (locs : List Loc), va_P D vwCl (w b) H → va_D A0 (w b) → va_S A0 H0 H locs → ∀ ls : Array Slot, lv_has ls nL (lv b) → W p l e R s m args below meth c H locs cells slots Q (F0 m pc ls rest)) → ∀ (H : Heap) (locs : List Loc), va_P D vwCl (w a) H → va_D A0 (w a) → va_S A0 H0 H locs → ∀ ls : Array Slot, lv_has ls nL (lv a) → W p l e R s m args below meth c H locs cells slots Q (F0 m pc ls rest))
    (a0 : α) (h0 : I a0) (hP : va_P D vwCl (w a0) H) (hD : va_D A0 (w a0)) (hS : va_S A0 H0 H locs) (ls0 : Array Slot) (hl0 : lv_has ls0 nL (lv a0)) : W p l e R s m args below meth c H locs cells slots Q (F0 m pc ls0 rest) := by
  have key : ∀ (n : Nat) (a : α), μ a < n → I a → ∀ (H : Heap) (locs : List Loc), va_P D vwCl (w a) H → va_D A0 (w a) → va_S A0 H0 H locs → ∀ ls : Array Slot, lv_has ls nL (lv a) → W p l e R s m args below meth c H locs cells slots Q (F0 m pc ls rest) := by
    intro n
    induction n with
    | zero => intro a h; exact absurd h (Nat.not_lt_zero _)
    | succ n ih => intro a h hi H locs hP hD hS ls hl; exact step a hi (fun b hb hlt H locs hP hD hS ls hl => ih b (by omega) hb H locs hP hD hS ls hl) H locs hP hD hS ls hl
  exact key (μ a0 + 1) a0 (Nat.lt_succ_self _) h0 H locs hP hD hS ls0 hl0
theorem wjoin {pcJ : Nat} {lv : List (Nat × Value)} {nL : Nat} {st st0 : List Value} {ls0 : Array Slot} (k : ∀ ls : Array Slot, lv_has ls nL lv → W p l e R s m args below meth c H locs cells slots Q (F0 m pcJ ls st))
    (main : (∀ ls : Array Slot, lv_has ls nL lv → W p l e R s m args below meth c H locs cells slots Q (F0 m pcJ ls st)) → W p l e R s m args below meth c H locs cells slots Q (F0 m pc ls0 st0)) : W p l e R s m args below meth c H locs cells slots Q (F0 m pc ls0 st0) := main k
end XL
def b2 (b : Bool) : Int32 := if b then 1 else 0
theorem b2_0 {b : Bool} (h : b2 b = 0) : b = false := by cases b; rfl; exact absurd h (by decide)
theorem b2_1 {b : Bool} (h : ¬ b2 b = 0) : b = true := by cases b; exact absurd rfl h; rfl
theorem nab2 (b : Bool) : narrow .boolean (.int (b2 b)) = .int (b2 b) := by cases b <;> rfl
theorem nar_b2 (b : Bool) : vp_nar .boolean (b2 b) = b2 b := by cases b <;> rfl
theorem b2_t {b : Bool} (h : b = true) : (1 : Int32) = b2 b := by rw [h]; rfl
theorem b2_f {b : Bool} (h : b = false) : (0 : Int32) = b2 b := by rw [h]; rfl
theorem b2_inj {a b : Bool} : b2 a = b2 b ↔ a = b := by cases a <;> cases b <;> decide
theorem nf {b : Bool} (h : ¬ b = true) : b = false := by cases b; rfl; exact absurd rfl h
theorem nt {b : Bool} (h : ¬ b = false) : b = true := by cases b; exact absurd rfl h; rfl
theorem nI_n (n : Nat) : (OfNat.ofNat n : Int32) = nI n := rfl
abbrev ST : Type := Nat × Nat × Nat × Nat × Nat × Int32 × (Nat → Int32) × (Nat → Int32) × (Nat → Int32) × (Nat → Int32) × (Nat → Int32) × (Nat → Int32) × (Nat → Int32) × (Nat → Int32) × (Nat → Int32) × (Nat → Int32) × (Nat → Int32)
def mkS (f n mc cc g : Nat) (rp : Int32) (b mu mn ru er ts tn rd ck cr cn : Nat → Int32) : ST := (f, n, mc, cc, g, rp, b, mu, mn, ru, er, ts, tn, rd, ck, cr, cn)
def sF (σ : ST) : Nat := σ.1
def sN (σ : ST) : Nat := σ.2.1
def sM (σ : ST) : Nat := σ.2.2.1
def sC (σ : ST) : Nat := σ.2.2.2.1
def sG (σ : ST) : Nat := σ.2.2.2.2.1
def sR (σ : ST) : Int32 := σ.2.2.2.2.2.1
def rB (σ : ST) : Nat → Int32 := σ.2.2.2.2.2.2.1
def rMu (σ : ST) : Nat → Int32 := σ.2.2.2.2.2.2.2.1
def rMn (σ : ST) : Nat → Int32 := σ.2.2.2.2.2.2.2.2.1
def rRu (σ : ST) : Nat → Int32 := σ.2.2.2.2.2.2.2.2.2.1
def rEr (σ : ST) : Nat → Int32 := σ.2.2.2.2.2.2.2.2.2.2.1
def rTs (σ : ST) : Nat → Int32 := σ.2.2.2.2.2.2.2.2.2.2.2.1
def rTn (σ : ST) : Nat → Int32 := σ.2.2.2.2.2.2.2.2.2.2.2.2.1
def rRd (σ : ST) : Nat → Int32 := σ.2.2.2.2.2.2.2.2.2.2.2.2.2.1
def rCk (σ : ST) : Nat → Int32 := σ.2.2.2.2.2.2.2.2.2.2.2.2.2.2.1
def rCr (σ : ST) : Nat → Int32 := σ.2.2.2.2.2.2.2.2.2.2.2.2.2.2.2.1
def rCn (σ : ST) : Nat → Int32 := σ.2.2.2.2.2.2.2.2.2.2.2.2.2.2.2.2
/-- is the bit y of x set, as Java's (x >> y & 1) != 0 -/
def bit (x y : Int32) : Bool := !decide ((x >>> (y &&& 31)) &&& 1 = 0)
def Ok (σ : ST) : Prop := (1 ≤ sF σ ∧ sF σ ≤ 7 ∧ sN σ ≤ 12 ∧ sM σ ≤ 30 ∧ sC σ ≤ 12 ∧ 1 ≤ sG σ ∧ sG σ ≤ 20) ∧
  (∀ l, l < sN σ → (∃ r, r < 5 ∧ rRu σ l = nI r) ∧ (∃ a, a < 2 ^ sF σ ∧ rMu σ l = nI a) ∧ (∃ a, a < 2 ^ sF σ ∧ rMn σ l = nI a) ∧ ∃ a, a < 4096 ∧ rEr σ l = nI a) ∧
  (∀ m, m < 3 * sM σ → (∃ a, a < 2 ^ sF σ ∧ rTs σ m = nI a) ∧ ∃ a, a < 2 ^ sF σ ∧ rTn σ m = nI a) ∧
  (∀ m, m < sM σ → rRd σ m = -1 ∨ ∃ r, r < 5 ∧ rRd σ m = nI r) ∧
  (∀ k, k < sC σ → (∃ a, a < 2 ^ sF σ ∧ rCk σ k = nI a) ∧ ∃ a, a < 2 ^ sF σ ∧ rCn σ k = nI a) ∧
  ∀ l, sN σ ≤ l → l < 12 → bit (sR σ) (nI l) = false
theorem p27 {f : Nat} (h : f ≤ 7) : 2 ^ f ≤ 128 := Nat.pow_le_pow_right (by decide) h
theorem Ok.k {σ : ST} (h : Ok σ) : 2 ^ sF σ ≤ 128 := p27 h.1.2.1
theorem Ok.n {σ : ST} (h : Ok σ) : sN σ ≤ 12 := h.1.2.2.1
theorem Ok.m {σ : ST} (h : Ok σ) : sM σ ≤ 30 := h.1.2.2.2.1
theorem Ok.c {σ : ST} (h : Ok σ) : sC σ ≤ 12 := h.1.2.2.2.2.1
/-! bits -/
def bt (x : Int32) (i : Nat) : Bool := x.toBitVec.getLsbD i
theorem b_ext {x y : Int32} (h : ∀ i, i < 32 → bt x i = bt y i) : x = y := Int32.toBitVec_inj.mp (BitVec.eq_of_getLsbD_eq fun i hi => h i hi)
theorem b_or (x y : Int32) (i : Nat) : bt (x ||| y) i = (bt x i || bt y i) := by simp [bt]
theorem b_and (x y : Int32) (i : Nat) : bt (x &&& y) i = (bt x i && bt y i) := by simp [bt]
theorem b_xor (x y : Int32) (i : Nat) : bt (x ^^^ y) i = (bt x i ^^ bt y i) := by simp [bt]
theorem b_m1 : ∀ i, i < 32 → bt (-1) i = true := by decide +kernel
theorem b_0 (i : Nat) : bt 0 i = false := by simp [bt]
theorem b_nI (n : Nat) {i : Nat} (hi : i < 32) : bt (nI n) i = n.testBit i := by
  show (BitVec.ofNat 32 n).getLsbD i = _
  rw [BitVec.getLsbD_ofNat]; simp [hi]
theorem and1 (x : Int32) : x &&& 1 = 0 ∨ x &&& 1 = 1 := by
  have h : x &&& 1 = nI (x.toBitVec.toNat % 2 ^ 1) := pk_and x 1 (by decide)
  rcases Nat.mod_two_eq_zero_or_one x.toBitVec.toNat with q | q
  · left; rw [h, show (2 : Nat) ^ 1 = 2 from rfl, q]; rfl
  · right; rw [h, show (2 : Nat) ^ 1 = 2 from rfl, q]; rfl
theorem hb_1 (x y : Int32) : ((x >>> (y &&& 31)) &&& 1 = 1) ↔ bit x y = true := by
  unfold bit
  rcases and1 (x >>> (y &&& 31)) with q | q <;> rw [q] <;> decide
theorem hb_b2 (x y : Int32) : (x >>> (y &&& 31)) &&& 1 = b2 (bit x y) := by
  unfold bit
  rcases and1 (x >>> (y &&& 31)) with q | q <;> rw [q] <;> rfl
/-- k has all of m: two spellings -/
theorem an_iff (m k : Int32) : m &&& (k ^^^ (-1)) = 0 ↔ k &&& m = m := by
  constructor <;> intro h <;> apply b_ext <;> intro i hi <;> have h2 := congrArg (fun z => bt z i) h <;> simp only [b_and, b_xor, b_m1 i hi, b_0] at h2 ⊢ <;> cases hm : bt m i <;> cases hk : bt k i <;> simp_all
theorem or_0 (x : Int32) : x ||| 0 = x := by apply b_ext; intro i hi; simp [b_or, b_0]
theorem or_0' (x : Int32) : 0 ||| x = x := by apply b_ext; intro i hi; simp [b_or, b_0]
theorem and_c (x y : Int32) : x &&& y = y &&& x := by apply b_ext; intro i hi; simp [b_and, Bool.and_comm]
theorem shl1 : ∀ i, i < 31 → (1 : Int32) <<< (nI i &&& 31) = nI (2 ^ i) := by decide +kernel
/-! numbers in a range -/
def inN (x : Int32) (n : Nat) : Bool := !decide (x < 0) && !decide (nI n ≤ x)
def inI (x lo hi : Int32) : Bool := !decide (x < lo) && !decide (hi < x)
theorem inN_t {x : Int32} {n : Nat} (h : inN x n = true) (hn : n < 2 ^ 31) : ∃ k : Nat, k < n ∧ x = nI k := by
  simp only [inN, Bool.and_eq_true, Bool.not_eq_true', decide_eq_false_iff_not] at h
  rcases pk_ix x hn with q | q | q
  · exact absurd q h.1
  · exact absurd q h.2
  · exact q
theorem inN_nI {k n : Nat} (h : k < n) (hn : n < 2 ^ 31) : inN (nI k) n = true := by
  simp only [inN, Bool.and_eq_true, Bool.not_eq_true', decide_eq_false_iff_not]
  exact ⟨nI_pos (by omega), nI_ge h hn⟩
theorem inI_n (x : Int32) (n : Nat) (hn : n < 2 ^ 30) : inI x 0 (nI n - 1) = inN x n := by
  unfold inI inN
  congr 1
  congr 1
  apply decide_eq_decide.mpr
  have h1 : (nI n - 1).toInt = (n : Int) - 1 := by
    have := pk_sub_toInt (a := n) (b := 1) hn (by decide)
    exact this
  rw [Int32.lt_iff_toInt_lt, Int32.le_iff_toInt_le, h1, nI_toInt (by omega)]
  omega
/-! counting, the first, all -/
def allB (q : Nat → Bool) : Nat → Bool
  | 0 => true
  | n + 1 => allB q n && q n
def cnt (q : Nat → Bool) : Nat → Nat
  | 0 => 0
  | n + 1 => cnt q n + if q n then 1 else 0
def fst (q : Nat → Bool) : Nat → Nat
  | 0 => 0
  | n + 1 => if fst q n < n then fst q n else if q n then n else n + 1
theorem allB_t {q : Nat → Bool} : ∀ {n : Nat}, allB q n = true ↔ ∀ k, k < n → q k = true
  | 0 => by simp [allB]
  | n + 1 => by
    rw [allB, Bool.and_eq_true, allB_t]
    exact ⟨fun h k hk => (Nat.lt_succ_iff_lt_or_eq.mp hk).elim (h.1 k) (fun e => e ▸ h.2), fun h => ⟨fun k hk => h k (by omega), h n (by omega)⟩⟩
theorem allB_f {q : Nat → Bool} {n k : Nat} (h : k < n) (hq : q k = false) : allB q n = false := by
  apply nf
  rw [allB_t]
  exact fun z => by have := z k h; rw [hq] at this; cases this
theorem cnt_le (q : Nat → Bool) : ∀ n, cnt q n ≤ n
  | 0 => Nat.le_refl _
  | n + 1 => by have := cnt_le q n; rw [cnt]; split <;> omega
theorem cnt_y {q : Nat → Bool} {n : Nat} (h : q n = true) : nI (cnt q n) + 1 = nI (cnt q (n + 1)) := by rw [cnt, if_pos h, nI_1]
theorem cnt_n {q : Nat → Bool} {n : Nat} (h : q n = false) : cnt q n = cnt q (n + 1) := by rw [cnt, if_neg (by rw [h]; decide)]; rfl
theorem cnt_0 {q : Nat → Bool} : ∀ {n : Nat}, cnt q n = 0 ↔ ∀ k, k < n → q k = false
  | 0 => by simp [cnt]
  | n + 1 => by
    have h := cnt_0 (q := q) (n := n)
    rw [cnt]
    constructor
    · intro z k hk
      cases hq : q n
      · rcases Nat.lt_succ_iff_lt_or_eq.mp hk with a | a
        · exact h.mp (by rw [hq] at z; simpa using z) k a
        · rw [a]; exact hq
      · rw [hq] at z; simp at z
    · intro z
      rw [h.mpr (fun k hk => z k (by omega)), z n (by omega)]; rfl
theorem cnt_cong {q r : Nat → Bool} : ∀ {n : Nat}, (∀ k, k < n → q k = r k) → cnt q n = cnt r n
  | 0, _ => rfl
  | n + 1, h => by rw [cnt, cnt, cnt_cong (fun k hk => h k (by omega)), h n (by omega)]
theorem cnt_sub {q r : Nat → Bool} : ∀ {n : Nat}, (∀ k, k < n → q k = true → r k = true) → cnt q n = cnt r n → ∀ k, k < n → r k = true → q k = true
  | 0, _, _, _, hk, _ => absurd hk (Nat.not_lt_zero _)
  | n + 1, h, e, k, hk, hr => by
    have hle : ∀ m, (∀ k, k < m → q k = true → r k = true) → cnt q m ≤ cnt r m := by
      intro m
      induction m with
      | zero => intro _; exact Nat.le_refl _
      | succ m ih =>
        intro hm
        have h1 := ih (fun k hk => hm k (by omega))
        have h2 := hm m (by omega)
        rw [cnt, cnt]
        cases hq : q m <;> cases hr : r m <;> simp_all <;> omega
    have h1 := hle n (fun k hk => h k (by omega))
    have h2 := h n (by omega)
    rw [cnt, cnt] at e
    have e2 : cnt q n = cnt r n ∧ (q n = r n) := by
      cases hq : q n <;> cases hr : r n <;> simp_all <;> omega
    rcases Nat.lt_succ_iff_lt_or_eq.mp hk with a | a
    · exact cnt_sub (fun k hk => h k (by omega)) e2.1 k a hr
    · rw [a] at hr ⊢; rw [e2.2]; exact hr
theorem fst_le (q : Nat → Bool) : ∀ n, fst q n ≤ n
  | 0 => Nat.le_refl _
  | n + 1 => by rw [fst]; split; omega; split <;> omega
theorem fst_at {q : Nat → Bool} {i : Nat} (hi : q i = true) (hn : ∀ j, j < i → q j = false) : ∀ {n : Nat}, i < n → fst q n = i
  | 0, h => absurd h (Nat.not_lt_zero _)
  | n + 1, h => by
    rw [fst]
    rcases Nat.lt_succ_iff_lt_or_eq.mp h with a | a
    · rw [fst_at hi hn a, if_pos a]
    · subst a
      have : fst q i = i := by
        have hh : ∀ m, m ≤ i → fst q m = m := by
          intro m
          induction m with
          | zero => intro _; rfl
          | succ m ih => intro hm; rw [fst, ih (by omega), if_neg (Nat.lt_irrefl _), if_neg (by rw [hn m (by omega)]; decide)]
        exact hh i (Nat.le_refl _)
      rw [this, if_neg (Nat.lt_irrefl _), if_pos hi]
theorem fst_no {q : Nat → Bool} : ∀ {n : Nat}, (∀ j, j < n → q j = false) → fst q n = n
  | 0, _ => rfl
  | n + 1, h => by rw [fst, fst_no (fun j hj => h j (by omega)), if_neg (Nat.lt_irrefl _), if_neg (by rw [h n (by omega)]; decide)]
theorem fst_yes {q : Nat → Bool} : ∀ {n : Nat}, fst q n < n → q (fst q n) = true ∧ ∀ j, j < fst q n → q j = false
  | 0, h => absurd h (Nat.not_lt_zero _)
  | n + 1, h => by
    rw [fst] at h ⊢
    by_cases a : fst q n < n
    · rw [if_pos a]; exact fst_yes a
    · rw [if_neg a] at h ⊢
      by_cases b : q n = true
      · rw [if_pos b]
        refine ⟨b, fun j hj => ?_⟩
        apply nf
        intro z
        exact a (by
          have : ∀ m, m ≤ n → j < m → fst q m < m := by
            intro m
            induction m with
            | zero => intro _ h; exact absurd h (Nat.not_lt_zero _)
            | succ m ih =>
              intro hm hj2
              rw [fst]
              by_cases x : fst q m < m
              · rw [if_pos x]; omega
              · rw [if_neg x]
                rcases Nat.lt_succ_iff_lt_or_eq.mp hj2 with y | y
                · exact absurd (ih (by omega) y) x
                · rw [← y, if_pos z]; omega
          exact this n (Nat.le_refl _) hj)
      · rw [if_neg b] at h; omega
theorem fst_cong {q r : Nat → Bool} : ∀ {n : Nat}, (∀ k, k < n → q k = r k) → fst q n = fst r n
  | 0, _ => rfl
  | n + 1, h => by rw [fst, fst, fst_cong (fun k hk => h k (by omega)), h n (by omega)]
/-! kinds, lines, the law -/
def kbad (σ : ST) (k i : Nat) : Bool := bit (nI k) (nI i) && !decide (rB σ i &&& nI k = 0)
def kok (σ : ST) (k : Nat) : Bool := allB (fun i => !kbad σ k i) (sF σ)
def kin (σ : ST) (x : Int32) : Bool := inN x (2 ^ sF σ) && kok σ x.toNatClampNeg
def cnd (σ : ST) (rp : Int32) (k l : Nat) (h : Int32) : Bool := decide (nI k &&& rMu σ l = rMu σ l) && decide (nI k &&& rMn σ l = 0) && !bit rp (nI l) && decide (rEr σ l &&& h = 0)
def hdR (σ : ST) (rp : Int32) (k : Nat) : Nat → Int32
  | 0 => 0
  | j + 1 => if cnd σ rp k (sN σ - (j + 1)) (hdR σ rp k j) then hdR σ rp k j ||| nI (2 ^ (sN σ - (j + 1))) else hdR σ rp k j
def holdI (σ : ST) (rp : Int32) (k : Nat) : Int32 := hdR σ rp k (sN σ)
def orE (er : Nat → Int32) : Nat → Int32
  | 0 => 0
  | j + 1 => orE er j ||| er j
def givI (σ : ST) (rp : Int32) (k : Nat) : Int32 := holdI σ rp k &&& (orE (rEr σ) (sN σ) ^^^ (-1))
def lawN (σ : ST) (rp : Int32) (k : Nat) : Nat := fst (fun i => bit (givI σ rp k) (nI i)) (sN σ)
def lawI (σ : ST) (rp : Int32) (k : Nat) : Int32 := if lawN σ rp k < sN σ then nI (lawN σ rp k) else -6
def covB (σ : ST) (rp : Int32) (k : Nat) : Bool := decide (lawN σ rp k < sN σ)
def rulI (σ : ST) (rp : Int32) (k : Nat) : Int32 := if lawN σ rp k < sN σ then rRu σ (lawN σ rp k) else 0
theorem hd_y {σ : ST} {rp : Int32} {k q : Nat} (hq : q < sN σ) (h : cnd σ rp k q (hdR σ rp k (sN σ - (q + 1))) = true) : hdR σ rp k (sN σ - q) = hdR σ rp k (sN σ - (q + 1)) ||| nI (2 ^ q) := by
  have e : sN σ - q = (sN σ - (q + 1)) + 1 := by omega
  have e2 : sN σ - ((sN σ - (q + 1)) + 1) = q := by omega
  rw [e, hdR, e2, if_pos h]
theorem hd_n {σ : ST} {rp : Int32} {k q : Nat} (hq : q < sN σ) (h : cnd σ rp k q (hdR σ rp k (sN σ - (q + 1))) = false) : hdR σ rp k (sN σ - q) = hdR σ rp k (sN σ - (q + 1)) := by
  have e : sN σ - q = (sN σ - (q + 1)) + 1 := by omega
  have e2 : sN σ - ((sN σ - (q + 1)) + 1) = q := by omega
  rw [e, hdR, e2, if_neg (by rw [h]; decide)]
theorem lawI_at {σ : ST} {rp : Int32} {k i : Nat} (hi : i < sN σ) (h : bit (givI σ rp k) (nI i) = true) (hn : ∀ j, j < i → bit (givI σ rp k) (nI j) = false) : lawN σ rp k = i := fst_at h hn hi
theorem lawI_no {σ : ST} {rp : Int32} {k : Nat} (h : ∀ j, j < sN σ → bit (givI σ rp k) (nI j) = false) : lawN σ rp k = sN σ := fst_no h
theorem lawI_6 {σ : ST} {rp : Int32} {k : Nat} (hn : sN σ ≤ 12) : (lawI σ rp k = -6) ↔ covB σ rp k = false := by
  unfold lawI covB
  by_cases h : lawN σ rp k < sN σ
  · rw [if_pos h, decide_eq_true h]
    refine ⟨fun z => ?_, fun z => by cases z⟩
    have : ∀ a, a < 12 → ¬ nI a = -6 := by decide +kernel
    exact absurd z (this _ (by omega))
  · rw [if_neg h, decide_eq_false h]
    exact ⟨fun _ => rfl, fun _ => rfl⟩
/-! moments -/
def yesI (t : Nat → Int32) (m : Nat) : Int32 := (t (3 * m) ||| t (3 * m + 1)) ||| t (3 * m + 2)
def soI (σ : ST) (m : Nat) : Int32 := yesI (rTs σ) m &&& (yesI (rTn σ) m ^^^ (-1))
def nsI (σ : ST) (m : Nat) : Int32 := yesI (rTn σ) m &&& (yesI (rTs σ) m ^^^ (-1))
def mbB (σ : ST) (so ns : Int32) (k : Nat) : Bool := kok σ k && decide (nI k &&& so = so) && decide (nI k &&& ns = 0)
def cmb (σ : ST) (so ns : Int32) : Nat := cnt (mbB σ so ns) (2 ^ sF σ)
def mrB (σ : ST) (rp so ns r : Int32) (k : Nat) : Bool := mbB σ so ns k && decide (rulI σ rp k = r)
def cmr (σ : ST) (rp so ns r : Int32) : Nat := cnt (mrB σ rp so ns r) (2 ^ sF σ)
def rfaN (σ : ST) (rp so ns : Int32) : Nat := fst (fun r => decide (cmr σ rp so ns (nI r) = cmb σ so ns)) 5
def rfaI (σ : ST) (rp so ns : Int32) : Int32 := if rfaN σ rp so ns < 5 then nI (rfaN σ rp so ns) else 0
def bnB (σ : ST) (so ns : Int32) (k : Nat) : Bool := decide (so &&& (rCn σ k &&& rCk σ k) = rCn σ k &&& rCk σ k) && decide (ns &&& (rCn σ k &&& (rCk σ k ^^^ (-1))) = rCn σ k &&& (rCk σ k ^^^ (-1)))
def bnN (σ : ST) (so ns : Int32) : Nat := fst (bnB σ so ns) (sC σ)
def bnI (σ : ST) (so ns : Int32) : Int32 := if bnN σ so ns < sC σ then nI (bnN σ so ns) else -6
def verI (σ : ST) (rp : Int32) (m : Nat) : Int32 := if ¬ rRd σ m = -1 then rRd σ m else if cmb σ (soI σ m) (nsI σ m) = 0 then 0 else if bnN σ (soI σ m) (nsI σ m) < sC σ then rCr σ (bnN σ (soI σ m) (nsI σ m)) else rfaI σ rp (soI σ m) (nsI σ m)
theorem bnI_6 {σ : ST} {so ns : Int32} (hc : sC σ ≤ 12) : (bnI σ so ns = -6) ↔ ¬ bnN σ so ns < sC σ := by
  unfold bnI
  by_cases h : bnN σ so ns < sC σ
  · rw [if_pos h]
    have : ∀ a, a < 12 → ¬ nI a = -6 := by decide +kernel
    exact ⟨fun z => absurd z (this _ (by omega)), fun z => absurd h z⟩
  · rw [if_neg h]
    exact ⟨fun _ => h, fun _ => rfl⟩
end
section
/-! what the loops need -/
theorem m1_f {q : Nat} (h : ¬ nI q - 1 < 0) : 0 < q := by
  rcases Nat.eq_zero_or_pos q with e | e
  · subst e; exact absurd (by decide) h
  · exact e
theorem m1_t {q : Nat} (hq : q < 2 ^ 30) (h : nI q - 1 < 0) : q = 0 := by
  rcases Nat.eq_zero_or_pos q with e | e
  · exact e
  · obtain ⟨j, rfl⟩ : ∃ j, q = j + 1 := ⟨q - 1, by omega⟩
    rw [nI_pred] at h
    exact absurd h (nI_pos (by omega))
theorem dec1 (x : Int32) : x + Int32.ofInt (-1) = x - 1 := by rw [Int32.sub_eq_add_neg]; rfl
def nmR (σ : ST) (rp : Int32) (q : Nat) : Nat → Int32 × Int32
  | 0 => (0, nI (2 ^ q))
  | j + 1 => if bit (nmR σ rp q j).2 (nI (q + j)) then ((nmR σ rp q j).1 ||| (rMu σ (q + j) ||| rMn σ (q + j)), (nmR σ rp q j).2 ||| (rEr σ (q + j) &&& (rp ^^^ (-1)))) else nmR σ rp q j
def nmI (σ : ST) (rp : Int32) (q : Nat) : Int32 := (nmR σ rp q (sN σ - q)).1
theorem nmR_y {σ : ST} {rp : Int32} {q j : Nat} (h : bit (nmR σ rp q j).2 (nI (q + j)) = true) : nmR σ rp q (j + 1) = ((nmR σ rp q j).1 ||| (rMu σ (q + j) ||| rMn σ (q + j)), (nmR σ rp q j).2 ||| (rEr σ (q + j) &&& (rp ^^^ (-1)))) := by rw [nmR, if_pos h]
theorem nmR_n {σ : ST} {rp : Int32} {q j : Nat} (h : bit (nmR σ rp q j).2 (nI (q + j)) = false) : nmR σ rp q (j + 1) = nmR σ rp q j := by rw [nmR, if_neg (by rw [h]; decide)]
def difB (σ : ST) (rp rq : Int32) (k : Nat) : Bool := !decide (rulI σ rp k = rulI σ rq k) || !decide (covB σ rp k = covB σ rq k)
theorem rulI_5 {σ : ST} (hok : Ok σ) (rp : Int32) (k : Nat) : ∃ r, r < 5 ∧ rulI σ rp k = nI r := by
  unfold rulI
  by_cases h : lawN σ rp k < sN σ
  · rw [if_pos h]; exact (hok.2.1 _ h).1
  · rw [if_neg h]; exact ⟨0, by decide, rfl⟩
theorem n5 : ∀ r, r < 5 → ¬ nI r = -1 := by decide +kernel
theorem n5i {a b : Nat} (ha : a < 5) (bit : b < 5) (h : nI a = nI b) : a = b := (nI_eq (by omega) (by omega)).mp h
def rfV (σ : ST) (rp so ns : Int32) (k : Nat) (x : Int32) : Prop := (x = -1 ∧ ∀ j, j < k → mbB σ so ns j = false) ∨ (∃ r, r < 5 ∧ x = nI r ∧ (∀ j, j < k → mbB σ so ns j = true → rulI σ rp j = nI r) ∧ ∃ j, j < k ∧ mbB σ so ns j = true)
theorem rfa_skip {σ : ST} {rp so ns x : Int32} {k : Nat} (hv : rfV σ rp so ns k x) (h : mbB σ so ns k = false) : rfV σ rp so ns (k + 1) x := by
  rcases hv with ⟨a, b⟩ | ⟨r, a, b, c, j, d, e⟩
  · exact Or.inl ⟨a, lt_s b h⟩
  · refine Or.inr ⟨r, a, b, lt_s c (fun z => by rw [h] at z; cases z), j, by omega, e⟩
theorem rfa_step {σ : ST} {rp so ns x : Int32} {k : Nat} (hok : Ok σ) (_ : k < 2 ^ sF σ) (hv : rfV σ rp so ns k x) (h : mbB σ so ns k = true) (hx : x = -1 ∨ x = rulI σ rp k) : rfV σ rp so ns (k + 1) (rulI σ rp k) := by
  obtain ⟨r0, h0, e0⟩ := rulI_5 hok rp k
  rcases hv with ⟨a, b⟩ | ⟨r, a, b, c, j, d, e⟩
  · exact Or.inr ⟨r0, h0, e0, lt_s (fun j hj z => by rw [b j hj] at z; cases z) (fun _ => e0), k, by omega, h⟩
  · rcases hx with q | q
    · exact absurd (b.symm.trans q) (n5 r a)
    · exact Or.inr ⟨r, a, q.symm.trans b, lt_s c (fun _ => q.symm.trans b), k, by omega, h⟩
theorem rfa_all {σ : ST} {rp so ns : Int32} {r : Nat} (h : decide (cmr σ rp so ns (nI r) = cmb σ so ns) = true) : ∀ j, j < 2 ^ sF σ → mbB σ so ns j = true → rulI σ rp j = nI r := by
  intro j hj hm
  have := cnt_sub (q := mrB σ rp so ns (nI r)) (r := mbB σ so ns) (n := 2 ^ sF σ) (fun k _ hq => by simp only [mrB, Bool.and_eq_true] at hq; exact hq.1) (of_decide_eq_true h) j hj hm
  simp only [mrB, Bool.and_eq_true, decide_eq_true_eq] at this
  exact this.2
theorem rfa_two {σ : ST} {rp so ns x : Int32} {k : Nat} (hk : k < 2 ^ sF σ) (hv : rfV σ rp so ns k x) (h : mbB σ so ns k = true) (h1 : ¬ x = -1) (h2 : ¬ x = rulI σ rp k) : rfaI σ rp so ns = 0 := by
  rcases hv with ⟨a, b⟩ | ⟨r, a, b, c, j, d, e⟩
  · exact absurd a h1
  · unfold rfaI rfaN
    rw [fst_no, if_neg (by decide)]
    intro r' _
    apply nf
    intro z
    have z1 := rfa_all z j (by omega) e
    have z2 := rfa_all z k hk h
    exact h2 (b.trans ((c j d e).symm.trans (z1.trans z2.symm)))
theorem rfa_none {σ : ST} {rp so ns x : Int32} {k : Nat} (hk : k = 2 ^ sF σ) (hv : rfV σ rp so ns k x) (h1 : x = -1) : rfaI σ rp so ns = 0 := by
  rcases hv with ⟨a, b⟩ | ⟨r, a, b, c, j, d, e⟩
  · subst hk
    have z1 : cmb σ so ns = 0 := cnt_0.mpr b
    have z2 : cmr σ rp so ns (nI 0) = 0 := cnt_0.mpr (fun j hj => by simp [mrB, b j hj])
    unfold rfaI rfaN
    rw [fst_at (i := 0) (by rw [z1, z2]; rfl) (fun j hj => absurd hj (Nat.not_lt_zero _)) (by decide)]
    rfl
  · exact absurd (b.symm.trans h1) (n5 r a)
theorem rfa_one {σ : ST} {rp so ns x : Int32} {k : Nat} (hk : k = 2 ^ sF σ) (hv : rfV σ rp so ns k x) (h1 : ¬ x = -1) : rfaI σ rp so ns = x := by
  rcases hv with ⟨a, b⟩ | ⟨r, a, b, c, j, d, e⟩
  · exact absurd a h1
  · subst hk
    unfold rfaI rfaN
    have z1 : decide (cmr σ rp so ns (nI r) = cmb σ so ns) = true := decide_eq_true (cnt_cong (fun k hk => by
      cases hm : mbB σ so ns k
      · simp [mrB, hm]
      · simp [mrB, hm, c k hk hm]))
    rw [fst_at (i := r) z1 (fun r' hr' => nf (fun z => by
      have z3 := rfa_all z j d e
      have := n5i (by omega) a (z3.symm.trans (c j d e))
      omega)) a, if_pos a, b]
end
section
set_option maxHeartbeats 4000000 in
set_option maxRecDepth 100000 in
theorem c_X5_hasBit (l : Launch) (D : va_G) (cI cZ : ClassId) (a : Int32) (b : Int32) : Met l yX5_hasBit wsX5_hasBit ({ frames := 0, cells := 0, slots := 0, locals := 0 }) (va_Pc [.int a, .int b] (XP D cI cZ [])) (vp_Si (fun r => r = b2 (bit a b))) 0 0 (fun _ => False) := by
  refine Met.ofW (cc := cX5_hasBit) (maxL := 2) (ret := (some .boolean)) (by decide) rfl ?_
  intro p e s m args below meth c s₁ B hml hv
  obtain ⟨rfl, hP, hK, hN⟩ := hv
  have hx := B.exec
  have hb := B.bytes
  have hr := B.returns
  have hts := atoms_spec (ws := wsX5_hasBit) B.pre
  have hown : s.vm.findClass RX5 = some m.cls := findClass_of_methodNamed B.named
  have hlocks := B.notSynchronized
  have hl := lv_entry ([.int a, .int b]) (n := 2) (Nat.le_of_ble_eq_true rfl)
  rw [lg_entry_eq]
  generalize (lg_sl ([.int a, .int b]) ++ List.replicate (2 - (lg_sl ([.int a, .int b])).length) Slot.unset).toArray = ls at hl ⊢
  have hl : lv_has ls 2 [(0, .int a), (1, .int b)] := hl
  refine lv_iload_n hx hb dX5_hasBit_0 rfl (lv_at hl 0 rfl) ?_
  refine lv_iload_n hx hb dX5_hasBit_1 rfl (lv_at hl 1 rfl) ?_
  refine lv_ishr hx hb dX5_hasBit_2 ?_
  refine lv_iconst (v := 1) hx hb dX5_hasBit_3 (by decide) ?_
  refine lv_iand hx hb dX5_hasBit_4 ?_
  refine lv_asi (show (a >>> (b &&& 31)) &&& 1 = b2 (bit a b) from hb_b2 _ _) ?_
  refine lv_if_eq (tgt := 12) hx hb dX5_hasBit_5 (by decide) (fun c5 => ?_) (fun c5 => ?_)
  · skip
    have c5 := b2_0 c5
    refine lv_iconst (v := 0) hx hb dX5_hasBit_12 (by decide) ?_
    exact W.zret (v := 0) (ty := .boolean) hx hb hr rfl (fun t ht hW => ⟨_, rfl, by simp [c5, b2], ht⟩) (fun _ h => absurd h List.not_mem_nil) dX5_hasBit_13
  · skip
    have c5 := b2_1 c5
    refine lv_iconst (v := 1) hx hb dX5_hasBit_8 (by decide) ?_
    refine lv_goto (tgt := 13) hx hb dX5_hasBit_9 (by decide) ?_
    exact W.zret (v := 1) (ty := .boolean) hx hb hr rfl (fun t ht hW => ⟨_, rfl, by simp [c5, b2], ht⟩) (fun _ h => absurd h List.not_mem_nil) dX5_hasBit_13

set_option maxHeartbeats 4000000 in
set_option maxRecDepth 100000 in
theorem c_X5_oneIf (l : Launch) (D : va_G) (cI cZ : ClassId) (a : Bool) : Met l yX5_oneIf wsX5_oneIf ({ frames := 0, cells := 0, slots := 0, locals := 0 }) (va_Pc [.int (b2 a)] (XP D cI cZ [])) (vp_Si (fun r => r = b2 a)) 0 0 (fun _ => False) := by
  refine Met.ofW (cc := cX5_oneIf) (maxL := 1) (ret := (some .int)) (by decide) rfl ?_
  intro p e s m args below meth c s₁ B hml hv
  obtain ⟨rfl, hP, hK, hN⟩ := hv
  have hx := B.exec
  have hb := B.bytes
  have hr := B.returns
  have hts := atoms_spec (ws := wsX5_oneIf) B.pre
  have hown : s.vm.findClass RX5 = some m.cls := findClass_of_methodNamed B.named
  have hlocks := B.notSynchronized
  have hl := lv_entry ([.int (b2 a)]) (n := 1) (Nat.le_of_ble_eq_true rfl)
  rw [lg_entry_eq]
  generalize (lg_sl ([.int (b2 a)]) ++ List.replicate (1 - (lg_sl ([.int (b2 a)])).length) Slot.unset).toArray = ls at hl ⊢
  have hl : lv_has ls 1 [(0, .int (b2 a))] := hl
  refine lv_iload_n hx hb dX5_oneIf_0 rfl (lv_at hl 0 rfl) ?_
  refine lv_if_eq (tgt := 8) hx hb dX5_oneIf_1 (by decide) (fun c1 => ?_) (fun c1 => ?_)
  · skip
    have c1 := b2_0 c1
    refine lv_iconst (v := 0) hx hb dX5_oneIf_8 (by decide) ?_
    exact W.iret (v := 0) hx hb hr (fun t ht hW => ⟨_, rfl, by simp [c1, b2], ht⟩) (fun _ h => absurd h List.not_mem_nil) dX5_oneIf_9
  · skip
    have c1 := b2_1 c1
    refine lv_iconst (v := 1) hx hb dX5_oneIf_4 (by decide) ?_
    refine lv_goto (tgt := 9) hx hb dX5_oneIf_5 (by decide) ?_
    exact W.iret (v := 1) hx hb hr (fun t ht hW => ⟨_, rfl, by simp [c1, b2], ht⟩) (fun _ h => absurd h List.not_mem_nil) dX5_oneIf_9

set_option maxHeartbeats 4000000 in
set_option maxRecDepth 100000 in
theorem c_X5_isRuling (l : Launch) (D : va_G) (cI cZ : ClassId) (x : Int32) : Met l yX5_isRuling wsX5_isRuling ({ frames := 0, cells := 0, slots := 0, locals := 0 }) (va_Pc [.int x] (XP D cI cZ [])) (vp_Si (fun r => r = b2 (inI x 0 4))) 0 0 (fun _ => False) := by
  refine Met.ofW (cc := cX5_isRuling) (maxL := 1) (ret := (some .boolean)) (by decide) rfl ?_
  intro p e s m args below meth c s₁ B hml hv
  obtain ⟨rfl, hP, hK, hN⟩ := hv
  have hx := B.exec
  have hb := B.bytes
  have hr := B.returns
  have hts := atoms_spec (ws := wsX5_isRuling) B.pre
  have hown : s.vm.findClass RX5 = some m.cls := findClass_of_methodNamed B.named
  have hlocks := B.notSynchronized
  have hl := lv_entry ([.int x]) (n := 1) (Nat.le_of_ble_eq_true rfl)
  rw [lg_entry_eq]
  generalize (lg_sl ([.int x]) ++ List.replicate (1 - (lg_sl ([.int x])).length) Slot.unset).toArray = ls at hl ⊢
  have hl : lv_has ls 1 [(0, .int x)] := hl
  refine lv_iload_n hx hb dX5_isRuling_0 rfl (lv_at hl 0 rfl) ?_
  refine lv_if_lt (tgt := 13) hx hb dX5_isRuling_1 (by decide) (fun c1 => ?_) (fun c1 => ?_)
  · skip
    refine lv_iconst (v := 0) hx hb dX5_isRuling_13 (by decide) ?_
    exact W.zret (v := 0) (ty := .boolean) hx hb hr rfl (fun t ht hW => ⟨_, rfl, by simp [c1, b2, inI], ht⟩) (fun _ h => absurd h List.not_mem_nil) dX5_isRuling_14
  · skip
    refine lv_iload_n hx hb dX5_isRuling_4 rfl (lv_at hl 0 rfl) ?_
    refine lv_iconst (v := 4) hx hb dX5_isRuling_5 (by decide) ?_
    refine lv_icmp_gt (tgt := 13) hx hb dX5_isRuling_6 (by decide) (fun c6 => ?_) (fun c6 => ?_)
    · skip
      refine lv_iconst (v := 0) hx hb dX5_isRuling_13 (by decide) ?_
      exact W.zret (v := 0) (ty := .boolean) hx hb hr rfl (fun t ht hW => ⟨_, rfl, by simp [c1, c6, b2, inI], ht⟩) (fun _ h => absurd h List.not_mem_nil) dX5_isRuling_14
    · skip
      refine lv_iconst (v := 1) hx hb dX5_isRuling_9 (by decide) ?_
      refine lv_goto (tgt := 14) hx hb dX5_isRuling_10 (by decide) ?_
      exact W.zret (v := 1) (ty := .boolean) hx hb hr rfl (fun t ht hW => ⟨_, rfl, by simp [c1, c6, b2, inI], ht⟩) (fun _ h => absurd h List.not_mem_nil) dX5_isRuling_14

set_option maxHeartbeats 4000000 in
set_option maxRecDepth 100000 in
theorem c_X0_hasFact (l : Launch) (D : va_G) (cI cZ : ClassId) (zB : Nat) (zK : Nat) (zW : Nat) (zU : Nat) (zV : Nat) (zR : Nat) (zE : Nat) (σ : ST) (x : Int32) : Met l yX0_hasFact wsX0_hasFact ({ frames := 0, cells := 0, slots := 0, locals := 0 }) (va_Pc [.ref zB, .int x] (XP D cI cZ [(zB, .inr (0, [.int (nI (sF σ)), .int (nI (2 ^ sF σ)), .ref zK, .ref zW, .int (nI (sN σ)), .int (sR σ), .int (orE (rEr σ) (sN σ)), .ref zU, .ref zV, .ref zR, .ref zE]))])) (vp_Si (fun r => r = b2 (inN x (sF σ)))) 0 0 (fun _ => False) := by
  refine Met.ofW (cc := cX0_hasFact) (maxL := 2) (ret := (some .boolean)) (by decide) rfl ?_
  intro p e s m args below meth c s₁ B hml hv
  obtain ⟨rfl, hP, hK, hN⟩ := hv
  have hx := B.exec
  have hb := B.bytes
  have hr := B.returns
  have hts := atoms_spec (ws := wsX0_hasFact) B.pre
  have hown : s.vm.findClass RX0 = some m.cls := findClass_of_methodNamed B.named
  have hlocks := B.notSynchronized
  have hf31 := hts (.fieldLink RX0 31 "BallCourt$Book" "facts" "I") (List.mem_of_getElem? (i := 1) (by decide +kernel))
  have hiX0 : ∀ w ∈ wsX00, w ∈ wsX0_hasFact := fun w h => List.mem_cons_of_mem _ (List.mem_append_right _ h)
  have hl := lv_entry ([.ref zB, .int x]) (n := 2) (Nat.le_of_ble_eq_true rfl)
  rw [lg_entry_eq]
  generalize (lg_sl ([.ref zB, .int x]) ++ List.replicate (2 - (lg_sl ([.ref zB, .int x])).length) Slot.unset).toArray = ls at hl ⊢
  have hl : lv_has ls 2 [(0, .ref zB), (1, .int x)] := hl
  refine lv_iload_n hx hb dX0_hasFact_0 rfl (lv_at hl 1 rfl) ?_
  refine lv_if_lt (tgt := 16) hx hb dX0_hasFact_1 (by decide) (fun c1 => ?_) (fun c1 => ?_)
  · skip
    refine lv_iconst (v := 0) hx hb dX0_hasFact_16 (by decide) ?_
    exact W.zret (v := 0) (ty := .boolean) hx hb hr rfl (fun t ht hW => ⟨_, rfl, by simp [c1, b2, inN], ht⟩) (fun _ h => absurd h List.not_mem_nil) dX0_hasFact_17
  · skip
    refine lv_iload_n hx hb dX0_hasFact_4 rfl (lv_at hl 1 rfl) ?_
    refine lv_aload_n hx hb dX0_hasFact_5 rfl (lv_at hl 0 rfl) ?_
    refine va_get (D := D) (ci := 0) (v := .int (nI (sF σ))) (C := RX0) (T := TX0) (N := 11) hx hb hts hiX0 hown hK hP 0 rfl rfl 0 (by decide) hf31 (fun _ h9 => h9) rfl dX0_hasFact_6 ?_
    refine lv_icmp_ge (tgt := 16) hx hb dX0_hasFact_9 (by decide) (fun c9 => ?_) (fun c9 => ?_)
    · skip
      refine lv_iconst (v := 0) hx hb dX0_hasFact_16 (by decide) ?_
      exact W.zret (v := 0) (ty := .boolean) hx hb hr rfl (fun t ht hW => ⟨_, rfl, by simp [c1, c9, b2, inN], ht⟩) (fun _ h => absurd h List.not_mem_nil) dX0_hasFact_17
    · skip
      refine lv_iconst (v := 1) hx hb dX0_hasFact_12 (by decide) ?_
      refine lv_goto (tgt := 17) hx hb dX0_hasFact_13 (by decide) ?_
      exact W.zret (v := 1) (ty := .boolean) hx hb hr rfl (fun t ht hW => ⟨_, rfl, by simp [c1, c9, b2, inN], ht⟩) (fun _ h => absurd h List.not_mem_nil) dX0_hasFact_17

set_option maxHeartbeats 4000000 in
set_option maxRecDepth 100000 in
theorem c_X0_areFacts (l : Launch) (D : va_G) (cI cZ : ClassId) (zB : Nat) (zK : Nat) (zW : Nat) (zU : Nat) (zV : Nat) (zR : Nat) (zE : Nat) (σ : ST) (x : Int32) : Met l yX0_areFacts wsX0_areFacts ({ frames := 0, cells := 0, slots := 0, locals := 0 }) (va_Pc [.ref zB, .int x] (XP D cI cZ [(zB, .inr (0, [.int (nI (sF σ)), .int (nI (2 ^ sF σ)), .ref zK, .ref zW, .int (nI (sN σ)), .int (sR σ), .int (orE (rEr σ) (sN σ)), .ref zU, .ref zV, .ref zR, .ref zE]))])) (vp_Si (fun r => r = b2 (inN x (2 ^ sF σ)))) 0 0 (fun _ => False) := by
  refine Met.ofW (cc := cX0_areFacts) (maxL := 2) (ret := (some .boolean)) (by decide) rfl ?_
  intro p e s m args below meth c s₁ B hml hv
  obtain ⟨rfl, hP, hK, hN⟩ := hv
  have hx := B.exec
  have hb := B.bytes
  have hr := B.returns
  have hts := atoms_spec (ws := wsX0_areFacts) B.pre
  have hown : s.vm.findClass RX0 = some m.cls := findClass_of_methodNamed B.named
  have hlocks := B.notSynchronized
  have hf35 := hts (.fieldLink RX0 35 "BallCourt$Book" "numbers" "I") (List.mem_of_getElem? (i := 1) (by decide +kernel))
  have hiX0 : ∀ w ∈ wsX00, w ∈ wsX0_areFacts := fun w h => List.mem_cons_of_mem _ (List.mem_append_right _ h)
  have hl := lv_entry ([.ref zB, .int x]) (n := 2) (Nat.le_of_ble_eq_true rfl)
  rw [lg_entry_eq]
  generalize (lg_sl ([.ref zB, .int x]) ++ List.replicate (2 - (lg_sl ([.ref zB, .int x])).length) Slot.unset).toArray = ls at hl ⊢
  have hl : lv_has ls 2 [(0, .ref zB), (1, .int x)] := hl
  refine lv_iload_n hx hb dX0_areFacts_0 rfl (lv_at hl 1 rfl) ?_
  refine lv_if_lt (tgt := 16) hx hb dX0_areFacts_1 (by decide) (fun c1 => ?_) (fun c1 => ?_)
  · skip
    refine lv_iconst (v := 0) hx hb dX0_areFacts_16 (by decide) ?_
    exact W.zret (v := 0) (ty := .boolean) hx hb hr rfl (fun t ht hW => ⟨_, rfl, by simp [c1, b2, inN], ht⟩) (fun _ h => absurd h List.not_mem_nil) dX0_areFacts_17
  · skip
    refine lv_iload_n hx hb dX0_areFacts_4 rfl (lv_at hl 1 rfl) ?_
    refine lv_aload_n hx hb dX0_areFacts_5 rfl (lv_at hl 0 rfl) ?_
    refine va_get (D := D) (ci := 0) (v := .int (nI (2 ^ sF σ))) (C := RX0) (T := TX0) (N := 11) hx hb hts hiX0 hown hK hP 0 rfl rfl 1 (by decide) hf35 (fun _ h9 => h9) rfl dX0_areFacts_6 ?_
    refine lv_icmp_ge (tgt := 16) hx hb dX0_areFacts_9 (by decide) (fun c9 => ?_) (fun c9 => ?_)
    · skip
      refine lv_iconst (v := 0) hx hb dX0_areFacts_16 (by decide) ?_
      exact W.zret (v := 0) (ty := .boolean) hx hb hr rfl (fun t ht hW => ⟨_, rfl, by simp [c1, c9, b2, inN], ht⟩) (fun _ h => absurd h List.not_mem_nil) dX0_areFacts_17
    · skip
      refine lv_iconst (v := 1) hx hb dX0_areFacts_12 (by decide) ?_
      refine lv_goto (tgt := 17) hx hb dX0_areFacts_13 (by decide) ?_
      exact W.zret (v := 1) (ty := .boolean) hx hb hr rfl (fun t ht hW => ⟨_, rfl, by simp [c1, c9, b2, inN], ht⟩) (fun _ h => absurd h List.not_mem_nil) dX0_areFacts_17

set_option maxHeartbeats 4000000 in
set_option maxRecDepth 100000 in
theorem c_X0_hasLine (l : Launch) (D : va_G) (cI cZ : ClassId) (zB : Nat) (zK : Nat) (zW : Nat) (zU : Nat) (zV : Nat) (zR : Nat) (zE : Nat) (σ : ST) (x : Int32) : Met l yX0_hasLine wsX0_hasLine ({ frames := 0, cells := 0, slots := 0, locals := 0 }) (va_Pc [.ref zB, .int x] (XP D cI cZ [(zB, .inr (0, [.int (nI (sF σ)), .int (nI (2 ^ sF σ)), .ref zK, .ref zW, .int (nI (sN σ)), .int (sR σ), .int (orE (rEr σ) (sN σ)), .ref zU, .ref zV, .ref zR, .ref zE]))])) (vp_Si (fun r => r = b2 (inN x (sN σ)))) 0 0 (fun _ => False) := by
  refine Met.ofW (cc := cX0_hasLine) (maxL := 2) (ret := (some .boolean)) (by decide) rfl ?_
  intro p e s m args below meth c s₁ B hml hv
  obtain ⟨rfl, hP, hK, hN⟩ := hv
  have hx := B.exec
  have hb := B.bytes
  have hr := B.returns
  have hts := atoms_spec (ws := wsX0_hasLine) B.pre
  have hown : s.vm.findClass RX0 = some m.cls := findClass_of_methodNamed B.named
  have hlocks := B.notSynchronized
  have hf38 := hts (.fieldLink RX0 38 "BallCourt$Book" "lines" "I") (List.mem_of_getElem? (i := 1) (by decide +kernel))
  have hiX0 : ∀ w ∈ wsX00, w ∈ wsX0_hasLine := fun w h => List.mem_cons_of_mem _ (List.mem_append_right _ h)
  have hl := lv_entry ([.ref zB, .int x]) (n := 2) (Nat.le_of_ble_eq_true rfl)
  rw [lg_entry_eq]
  generalize (lg_sl ([.ref zB, .int x]) ++ List.replicate (2 - (lg_sl ([.ref zB, .int x])).length) Slot.unset).toArray = ls at hl ⊢
  have hl : lv_has ls 2 [(0, .ref zB), (1, .int x)] := hl
  refine lv_iload_n hx hb dX0_hasLine_0 rfl (lv_at hl 1 rfl) ?_
  refine lv_if_lt (tgt := 16) hx hb dX0_hasLine_1 (by decide) (fun c1 => ?_) (fun c1 => ?_)
  · skip
    refine lv_iconst (v := 0) hx hb dX0_hasLine_16 (by decide) ?_
    exact W.zret (v := 0) (ty := .boolean) hx hb hr rfl (fun t ht hW => ⟨_, rfl, by simp [c1, b2, inN], ht⟩) (fun _ h => absurd h List.not_mem_nil) dX0_hasLine_17
  · skip
    refine lv_iload_n hx hb dX0_hasLine_4 rfl (lv_at hl 1 rfl) ?_
    refine lv_aload_n hx hb dX0_hasLine_5 rfl (lv_at hl 0 rfl) ?_
    refine va_get (D := D) (ci := 0) (v := .int (nI (sN σ))) (C := RX0) (T := TX0) (N := 11) hx hb hts hiX0 hown hK hP 0 rfl rfl 4 (by decide) hf38 (fun _ h9 => h9) rfl dX0_hasLine_6 ?_
    refine lv_icmp_ge (tgt := 16) hx hb dX0_hasLine_9 (by decide) (fun c9 => ?_) (fun c9 => ?_)
    · skip
      refine lv_iconst (v := 0) hx hb dX0_hasLine_16 (by decide) ?_
      exact W.zret (v := 0) (ty := .boolean) hx hb hr rfl (fun t ht hW => ⟨_, rfl, by simp [c1, c9, b2, inN], ht⟩) (fun _ h => absurd h List.not_mem_nil) dX0_hasLine_17
    · skip
      refine lv_iconst (v := 1) hx hb dX0_hasLine_12 (by decide) ?_
      refine lv_goto (tgt := 17) hx hb dX0_hasLine_13 (by decide) ?_
      exact W.zret (v := 1) (ty := .boolean) hx hb hr rfl (fun t ht hW => ⟨_, rfl, by simp [c1, c9, b2, inN], ht⟩) (fun _ h => absurd h List.not_mem_nil) dX0_hasLine_17

set_option maxHeartbeats 4000000 in
set_option maxRecDepth 100000 in
theorem c_X4_has (l : Launch) (D : va_G) (cI cZ : ClassId) (zM : Nat) (zS : Nat) (zT : Nat) (zD : Nat) (σ : ST) (x : Int32) : Met l yX4_has wsX4_has ({ frames := 0, cells := 0, slots := 0, locals := 0 }) (va_Pc [.ref zM, .int x] (XP D cI cZ [(zM, .inr (4, [.int (nI (sM σ)), .ref zS, .ref zT, .ref zD]))])) (vp_Si (fun r => r = b2 (inN x (sM σ)))) 0 0 (fun _ => False) := by
  refine Met.ofW (cc := cX4_has) (maxL := 2) (ret := (some .boolean)) (by decide) rfl ?_
  intro p e s m args below meth c s₁ B hml hv
  obtain ⟨rfl, hP, hK, hN⟩ := hv
  have hx := B.exec
  have hb := B.bytes
  have hr := B.returns
  have hts := atoms_spec (ws := wsX4_has) B.pre
  have hown : s.vm.findClass RX4 = some m.cls := findClass_of_methodNamed B.named
  have hlocks := B.notSynchronized
  have hf21 := hts (.fieldLink RX4 21 "BallCourt$Moments" "count" "I") (List.mem_of_getElem? (i := 1) (by decide +kernel))
  have hiX4 : ∀ w ∈ wsX40, w ∈ wsX4_has := fun w h => List.mem_cons_of_mem _ (List.mem_append_right _ h)
  have hl := lv_entry ([.ref zM, .int x]) (n := 2) (Nat.le_of_ble_eq_true rfl)
  rw [lg_entry_eq]
  generalize (lg_sl ([.ref zM, .int x]) ++ List.replicate (2 - (lg_sl ([.ref zM, .int x])).length) Slot.unset).toArray = ls at hl ⊢
  have hl : lv_has ls 2 [(0, .ref zM), (1, .int x)] := hl
  refine lv_iload_n hx hb dX4_has_0 rfl (lv_at hl 1 rfl) ?_
  refine lv_if_lt (tgt := 16) hx hb dX4_has_1 (by decide) (fun c1 => ?_) (fun c1 => ?_)
  · skip
    refine lv_iconst (v := 0) hx hb dX4_has_16 (by decide) ?_
    exact W.zret (v := 0) (ty := .boolean) hx hb hr rfl (fun t ht hW => ⟨_, rfl, by simp [c1, b2, inN], ht⟩) (fun _ h => absurd h List.not_mem_nil) dX4_has_17
  · skip
    refine lv_iload_n hx hb dX4_has_4 rfl (lv_at hl 1 rfl) ?_
    refine lv_aload_n hx hb dX4_has_5 rfl (lv_at hl 0 rfl) ?_
    refine va_get (D := D) (ci := 4) (v := .int (nI (sM σ))) (C := RX4) (T := TX4) (N := 4) hx hb hts hiX4 hown hK hP 0 rfl rfl 0 (by decide) hf21 (fun _ h9 => h9) rfl dX4_has_6 ?_
    refine lv_icmp_ge (tgt := 16) hx hb dX4_has_9 (by decide) (fun c9 => ?_) (fun c9 => ?_)
    · skip
      refine lv_iconst (v := 0) hx hb dX4_has_16 (by decide) ?_
      exact W.zret (v := 0) (ty := .boolean) hx hb hr rfl (fun t ht hW => ⟨_, rfl, by simp [c1, c9, b2, inN], ht⟩) (fun _ h => absurd h List.not_mem_nil) dX4_has_17
    · skip
      refine lv_iconst (v := 1) hx hb dX4_has_12 (by decide) ?_
      refine lv_goto (tgt := 17) hx hb dX4_has_13 (by decide) ?_
      exact W.zret (v := 1) (ty := .boolean) hx hb hr rfl (fun t ht hW => ⟨_, rfl, by simp [c1, c9, b2, inN], ht⟩) (fun _ h => absurd h List.not_mem_nil) dX4_has_17

set_option maxHeartbeats 4000000 in
set_option maxRecDepth 100000 in
theorem c_X1_has (l : Launch) (D : va_G) (cI cZ : ClassId) (zC : Nat) (zQ : Nat) (zP : Nat) (zN : Nat) (σ : ST) (x : Int32) : Met l yX1_has wsX1_has ({ frames := 0, cells := 0, slots := 0, locals := 0 }) (va_Pc [.ref zC, .int x] (XP D cI cZ [(zC, .inr (1, [.int (nI (sC σ)), .ref zQ, .ref zP, .ref zN]))])) (vp_Si (fun r => r = b2 (inN x (sC σ)))) 0 0 (fun _ => False) := by
  refine Met.ofW (cc := cX1_has) (maxL := 2) (ret := (some .boolean)) (by decide) rfl ?_
  intro p e s m args below meth c s₁ B hml hv
  obtain ⟨rfl, hP, hK, hN⟩ := hv
  have hx := B.exec
  have hb := B.bytes
  have hr := B.returns
  have hts := atoms_spec (ws := wsX1_has) B.pre
  have hown : s.vm.findClass RX1 = some m.cls := findClass_of_methodNamed B.named
  have hlocks := B.notSynchronized
  have hf21 := hts (.fieldLink RX1 21 "BallCourt$Cases" "count" "I") (List.mem_of_getElem? (i := 1) (by decide +kernel))
  have hiX1 : ∀ w ∈ wsX10, w ∈ wsX1_has := fun w h => List.mem_cons_of_mem _ (List.mem_append_right _ h)
  have hl := lv_entry ([.ref zC, .int x]) (n := 2) (Nat.le_of_ble_eq_true rfl)
  rw [lg_entry_eq]
  generalize (lg_sl ([.ref zC, .int x]) ++ List.replicate (2 - (lg_sl ([.ref zC, .int x])).length) Slot.unset).toArray = ls at hl ⊢
  have hl : lv_has ls 2 [(0, .ref zC), (1, .int x)] := hl
  refine lv_iload_n hx hb dX1_has_0 rfl (lv_at hl 1 rfl) ?_
  refine lv_if_lt (tgt := 16) hx hb dX1_has_1 (by decide) (fun c1 => ?_) (fun c1 => ?_)
  · skip
    refine lv_iconst (v := 0) hx hb dX1_has_16 (by decide) ?_
    exact W.zret (v := 0) (ty := .boolean) hx hb hr rfl (fun t ht hW => ⟨_, rfl, by simp [c1, b2, inN], ht⟩) (fun _ h => absurd h List.not_mem_nil) dX1_has_17
  · skip
    refine lv_iload_n hx hb dX1_has_4 rfl (lv_at hl 1 rfl) ?_
    refine lv_aload_n hx hb dX1_has_5 rfl (lv_at hl 0 rfl) ?_
    refine va_get (D := D) (ci := 1) (v := .int (nI (sC σ))) (C := RX1) (T := TX1) (N := 4) hx hb hts hiX1 hown hK hP 0 rfl rfl 0 (by decide) hf21 (fun _ h9 => h9) rfl dX1_has_6 ?_
    refine lv_icmp_ge (tgt := 16) hx hb dX1_has_9 (by decide) (fun c9 => ?_) (fun c9 => ?_)
    · skip
      refine lv_iconst (v := 0) hx hb dX1_has_16 (by decide) ?_
      exact W.zret (v := 0) (ty := .boolean) hx hb hr rfl (fun t ht hW => ⟨_, rfl, by simp [c1, c9, b2, inN], ht⟩) (fun _ h => absurd h List.not_mem_nil) dX1_has_17
    · skip
      refine lv_iconst (v := 1) hx hb dX1_has_12 (by decide) ?_
      refine lv_goto (tgt := 17) hx hb dX1_has_13 (by decide) ?_
      exact W.zret (v := 1) (ty := .boolean) hx hb hr rfl (fun t ht hW => ⟨_, rfl, by simp [c1, c9, b2, inN], ht⟩) (fun _ h => absurd h List.not_mem_nil) dX1_has_17

set_option maxHeartbeats 4000000 in
set_option maxRecDepth 100000 in
theorem c_X0_allFacts (l : Launch) (D : va_G) (cI cZ : ClassId) (zB : Nat) (zK : Nat) (zW : Nat) (zU : Nat) (zV : Nat) (zR : Nat) (zE : Nat) (σ : ST) (hok : Ok σ) : Met l yX0_allFacts wsX0_allFacts ({ frames := 0, cells := 0, slots := 0, locals := 0 }) (va_Pc [.ref zB] (XP D cI cZ [(zB, .inr (0, [.int (nI (sF σ)), .int (nI (2 ^ sF σ)), .ref zK, .ref zW, .int (nI (sN σ)), .int (sR σ), .int (orE (rEr σ) (sN σ)), .ref zU, .ref zV, .ref zR, .ref zE]))])) (vp_Si (fun r => r = nI (2 ^ sF σ - 1))) 0 0 (fun _ => False) := by
  refine Met.ofW (cc := cX0_allFacts) (maxL := 1) (ret := (some .int)) (by decide) rfl ?_
  intro p e s m args below meth c s₁ B hml hv
  obtain ⟨rfl, hP, hK, hN⟩ := hv
  have hx := B.exec
  have hb := B.bytes
  have hr := B.returns
  have hts := atoms_spec (ws := wsX0_allFacts) B.pre
  have hown : s.vm.findClass RX0 = some m.cls := findClass_of_methodNamed B.named
  have hlocks := B.notSynchronized
  have ho := hok.1
  have hk2 := hok.k
  have hf35 := hts (.fieldLink RX0 35 "BallCourt$Book" "numbers" "I") (List.mem_of_getElem? (i := 1) (by decide +kernel))
  have hiX0 : ∀ w ∈ wsX00, w ∈ wsX0_allFacts := fun w h => List.mem_cons_of_mem _ (List.mem_append_right _ h)
  have hl := lv_entry ([.ref zB]) (n := 1) (Nat.le_of_ble_eq_true rfl)
  rw [lg_entry_eq]
  generalize (lg_sl ([.ref zB]) ++ List.replicate (1 - (lg_sl ([.ref zB])).length) Slot.unset).toArray = ls at hl ⊢
  have hl : lv_has ls 1 [(0, .ref zB)] := hl
  refine lv_aload_n hx hb dX0_allFacts_0 rfl (lv_at hl 0 rfl) ?_
  refine va_get (D := D) (ci := 0) (v := .int (nI (2 ^ sF σ))) (C := RX0) (T := TX0) (N := 11) hx hb hts hiX0 hown hK hP 0 rfl rfl 1 (by decide) hf35 (fun _ h9 => h9) rfl dX0_allFacts_1 ?_
  refine lv_iconst (v := nI 1) hx hb dX0_allFacts_4 (by decide) ?_
  refine lv_isub hx hb dX0_allFacts_5 ?_
  refine lv_asi (show (nI (2 ^ sF σ)) - (nI 1) = nI (2 ^ sF σ - 1) from pk_sub (Nat.two_pow_pos _)) ?_
  exact W.iret (v := nI (2 ^ sF σ - 1)) hx hb hr (fun t ht hW => ⟨_, rfl, rfl, ht⟩) (fun _ h => absurd h List.not_mem_nil) dX0_allFacts_6

set_option maxHeartbeats 4000000 in
set_option maxRecDepth 100000 in
theorem c_X0_hasBarredPair (l : Launch) (D : va_G) (cI cZ : ClassId) (zB : Nat) (zK : Nat) (zW : Nat) (zU : Nat) (zV : Nat) (zR : Nat) (zE : Nat) (σ : ST) (k : Nat) (hok : Ok σ) : Met l yX0_hasBarredPair wsX0_hasBarredPair ({ frames := 1, cells := 0, slots := 0, locals := 21 }) (va_Pc [.ref zB, .int (nI k)] (XP D cI cZ [(zB, .inr (0, [.int (nI (sF σ)), .int (nI (2 ^ sF σ)), .ref zK, .ref zW, .int (nI (sN σ)), .int (sR σ), .int (orE (rEr σ) (sN σ)), .ref zU, .ref zV, .ref zR, .ref zE])), (zW, .inl (cI, 7, .inl (rB σ)))])) (vp_Si (fun r => r = b2 (!kok σ k))) 0 0 (fun _ => False) := by
  refine Met.ofW (cc := cX0_hasBarredPair) (maxL := 3) (ret := (some .boolean)) (by decide) rfl ?_
  intro p e s m args below meth c s₁ B hml hv
  obtain ⟨rfl, hP, hK, hN⟩ := hv
  have hx := B.exec
  have hb := B.bytes
  have hr := B.returns
  have hts := atoms_spec (ws := wsX0_hasBarredPair) B.pre
  have hown : s.vm.findClass RX0 = some m.cls := findClass_of_methodNamed B.named
  have hlocks := B.notSynchronized
  have ho := hok.1
  have hk2 := hok.k
  have hf31 := hts (.fieldLink RX0 31 "BallCourt$Book" "facts" "I") (List.mem_of_getElem? (i := 1) (by decide +kernel))
  have hiX0 : ∀ w ∈ wsX00, w ∈ wsX0_hasBarredPair := fun w h => List.mem_cons_of_mem _ (List.mem_append_right _ h)
  have hf15 := hts (.fieldLink RX0 15 "BallCourt$Book" "barredWith" "[I") (List.mem_of_getElem? (i := 2) (by decide +kernel))
  have hl := lv_entry ([.ref zB, .int (nI k)]) (n := 3) (Nat.le_of_ble_eq_true rfl)
  rw [lg_entry_eq]
  generalize (lg_sl ([.ref zB, .int (nI k)]) ++ List.replicate (3 - (lg_sl ([.ref zB, .int (nI k)])).length) Slot.unset).toArray = ls at hl ⊢
  have hl : lv_has ls 3 [(0, .ref zB), (1, .int (nI k))] := hl
  refine lv_iconst (v := nI 0) hx hb dX0_hasBarredPair_0 (by decide) ?_
  refine lv_istore_n (lv' := [(2, .int (nI 0)), (0, .ref zB), (1, .int (nI k))]) hx hb dX0_hasBarredPair_1 rfl hl (by decide) rfl (fun ls hl => ?_)
  refine wloop (α := Nat) (fun v => sF σ - v) (fun v => [(0, .ref zB), (1, .int (nI k)), (2, .int (nI v))]) (fun v => (v ≤ sF σ) ∧ (∀ j, j < v → kbad σ k j = false)) 3 (fun v hv ih2 ls hl => ?_) 0 ⟨(show 0 ≤ sF σ from Nat.zero_le _), (show ∀ j, j < 0 → kbad σ k j = false from fun j hj => absurd hj (Nat.not_lt_zero _))⟩ ls (lv_sub hl [1, 2, 0] rfl)
  obtain ⟨i, rfl⟩ : ∃ z : Nat, z = v := ⟨_, rfl⟩
  obtain ⟨hi, hn⟩ := hv
  have hi : i ≤ sF σ := hi
  have hn : ∀ j, j < i → kbad σ k j = false := hn
  have hl : lv_has ls 3 [(0, .ref zB), (1, .int (nI k)), (2, .int (nI i))] := hl
  refine lv_iload_n hx hb dX0_hasBarredPair_2 rfl (lv_at hl 2 rfl) ?_
  refine lv_aload_n hx hb dX0_hasBarredPair_3 rfl (lv_at hl 0 rfl) ?_
  refine va_get (D := D) (ci := 0) (v := .int (nI (sF σ))) (C := RX0) (T := TX0) (N := 11) hx hb hts hiX0 hown hK hP 0 rfl rfl 0 (by decide) hf31 (fun _ h9 => h9) rfl dX0_hasBarredPair_4 ?_
  refine lv_icmp_ge (tgt := 37) hx hb dX0_hasBarredPair_7 (by decide) (fun c7 => ?_) (fun c7 => ?_)
  · skip
    have c7 := (nI_leI (by omega) (by omega)).mp c7
    refine lv_iconst (v := 0) hx hb dX0_hasBarredPair_37 (by decide) ?_
    exact W.zret (v := 0) (ty := .boolean) hx hb hr rfl (fun t ht hW => ⟨_, rfl, b2_f (by rw [show kok σ k = true from allB_t.mpr (fun j hj => by rw [hn j (by omega)]; rfl)]; rfl), ht⟩) (fun _ h => absurd h List.not_mem_nil) dX0_hasBarredPair_38
  · skip
    have c7 := Nat.lt_of_not_le (fun z => c7 ((nI_leI (by omega) (by omega)).mpr z))
    refine lv_iload_n hx hb dX0_hasBarredPair_10 rfl (lv_at hl 1 rfl) ?_
    refine lv_iload_n hx hb dX0_hasBarredPair_11 rfl (lv_at hl 2 rfl) ?_
    refine xpSN (host := "BallCourt") (rest := []) ⟨hx, hb, hml, hown, hts⟩ (c_X5_hasBit l D cI cZ (nI k) (nI i)) (va_cnB 2 hts gX0_hasBarredPair_X5_hasBit_n50 rfl rfl rfl (NW.m hN 4 rfl) (hts (.initialized RX5) (List.mem_of_getElem? (i := 4) (by decide +kernel))) (by decide +kernel) ⟨Nat.le_of_ble_eq_true rfl, Nat.le_of_ble_eq_true rfl⟩) (hts (.static yX5_hasBit) (List.mem_of_getElem? (i := 3) (by decide +kernel))) hP [] rfl hK hN rfl hl.1 rfl (Nat.le_of_ble_eq_true rfl) dX0_hasBarredPair_12 ⟨Nat.zero_le _, Nat.zero_le _⟩ (fun r12 e12 => ?_)
    subst e12
    refine lv_if_eq (tgt := 31) hx hb dX0_hasBarredPair_15 (by decide) (fun c15 => ?_) (fun c15 => ?_)
    · skip
      have c15 := b2_0 c15
      refine lv_iinc (k := 2) (x := nI i) (v := nI (i + 1)) (lv' := [(2, .int (nI (i + 1))), (0, .ref zB), (1, .int (nI k))]) hx hb dX0_hasBarredPair_31 hl rfl (show (nI i) + Int32.ofInt 1 = nI (i + 1) from nI_1 _) (by decide) rfl (fun ls hl => ?_)
      refine lv_goto (tgt := 2) hx hb dX0_hasBarredPair_34 (by decide) ?_
      exact ih2 (i + 1) ⟨(show (i + 1) ≤ sF σ from (by omega)), (show ∀ j, j < (i + 1) → kbad σ k j = false from lt_s hn (by simp [kbad, c15]))⟩ (by show sF σ - (i + 1) < sF σ - i; omega) ls (lv_sub hl [1, 2, 0] rfl)
    · skip
      have c15 := b2_1 c15
      refine lv_aload_n hx hb dX0_hasBarredPair_18 rfl (lv_at hl 0 rfl) ?_
      refine va_get (D := D) (ci := 0) (v := .ref zW) (C := RX0) (T := TX0) (N := 11) hx hb hts hiX0 hown hK hP 0 rfl rfl 3 (by decide) hf15 (fun _ h9 => h9) rfl dX0_hasBarredPair_19 ?_
      refine lv_iload_n hx hb dX0_hasBarredPair_22 rfl (lv_at hl 2 rfl) ?_
      refine xald (k := i) hx hb hK hP 1 rfl (by omega) (by decide) dX0_hasBarredPair_23 ?_
      refine lv_iload_n hx hb dX0_hasBarredPair_24 rfl (lv_at hl 1 rfl) ?_
      refine lv_iand hx hb dX0_hasBarredPair_25 ?_
      refine lv_if_eq (tgt := 31) hx hb dX0_hasBarredPair_26 (by decide) (fun c26 => ?_) (fun c26 => ?_)
      · skip
        refine lv_iinc (k := 2) (x := nI i) (v := nI (i + 1)) (lv' := [(2, .int (nI (i + 1))), (0, .ref zB), (1, .int (nI k))]) hx hb dX0_hasBarredPair_31 hl rfl (show (nI i) + Int32.ofInt 1 = nI (i + 1) from nI_1 _) (by decide) rfl (fun ls hl => ?_)
        refine lv_goto (tgt := 2) hx hb dX0_hasBarredPair_34 (by decide) ?_
        exact ih2 (i + 1) ⟨(show (i + 1) ≤ sF σ from (by omega)), (show ∀ j, j < (i + 1) → kbad σ k j = false from lt_s hn (by simp [kbad, c15, c26]))⟩ (by show sF σ - (i + 1) < sF σ - i; omega) ls (lv_sub hl [1, 2, 0] rfl)
      · skip
        refine lv_iconst (v := 1) hx hb dX0_hasBarredPair_29 (by decide) ?_
        exact W.zret (v := 1) (ty := .boolean) hx hb hr rfl (fun t ht hW => ⟨_, rfl, b2_t (by rw [show kok σ k = false from allB_f c7 (by simp [kbad, c15, c26])]; rfl), ht⟩) (fun _ h => absurd h List.not_mem_nil) dX0_hasBarredPair_30

set_option maxHeartbeats 4000000 in
set_option maxRecDepth 100000 in
theorem c_X0_mayBe (l : Launch) (D : va_G) (cI cZ : ClassId) (zB : Nat) (zK : Nat) (zW : Nat) (zU : Nat) (zV : Nat) (zR : Nat) (zE : Nat) (σ : ST) (kI : Nat → Int32) (k : Nat) (so : Int32) (ns : Int32) (hok : Ok σ) (hk : k < 2 ^ sF σ) (hkI : ∀ k, k < 2 ^ sF σ → kI k = b2 (kok σ k)) : Met l yX0_mayBe wsX0_mayBe ({ frames := 0, cells := 0, slots := 0, locals := 0 }) (va_Pc [.ref zB, .int (nI k), .int so, .int ns] (XP D cI cZ [(zB, .inr (0, [.int (nI (sF σ)), .int (nI (2 ^ sF σ)), .ref zK, .ref zW, .int (nI (sN σ)), .int (sR σ), .int (orE (rEr σ) (sN σ)), .ref zU, .ref zV, .ref zR, .ref zE])), (zK, .inl (cZ, 128, .inl kI))])) (vp_Si (fun r => r = b2 (mbB σ so ns k))) 0 0 (fun _ => False) := by
  refine Met.ofW (cc := cX0_mayBe) (maxL := 4) (ret := (some .boolean)) (by decide) rfl ?_
  intro p e s m args below meth c s₁ B hml hv
  obtain ⟨rfl, hP, hK, hN⟩ := hv
  have hx := B.exec
  have hb := B.bytes
  have hr := B.returns
  have hts := atoms_spec (ws := wsX0_mayBe) B.pre
  have hown : s.vm.findClass RX0 = some m.cls := findClass_of_methodNamed B.named
  have hlocks := B.notSynchronized
  have ho := hok.1
  have hk2 := hok.k
  have hf9 := hts (.fieldLink RX0 9 "BallCourt$Book" "isKind" "[Z") (List.mem_of_getElem? (i := 1) (by decide +kernel))
  have hiX0 : ∀ w ∈ wsX00, w ∈ wsX0_mayBe := fun w h => List.mem_cons_of_mem _ (List.mem_append_right _ h)
  have hl := lv_entry ([.ref zB, .int (nI k), .int so, .int ns]) (n := 4) (Nat.le_of_ble_eq_true rfl)
  rw [lg_entry_eq]
  generalize (lg_sl ([.ref zB, .int (nI k), .int so, .int ns]) ++ List.replicate (4 - (lg_sl ([.ref zB, .int (nI k), .int so, .int ns])).length) Slot.unset).toArray = ls at hl ⊢
  have hl : lv_has ls 4 [(0, .ref zB), (1, .int (nI k)), (2, .int so), (3, .int ns)] := hl
  refine lv_aload_n hx hb dX0_mayBe_0 rfl (lv_at hl 0 rfl) ?_
  refine va_get (D := D) (ci := 0) (v := .ref zK) (C := RX0) (T := TX0) (N := 11) hx hb hts hiX0 hown hK hP 0 rfl rfl 2 (by decide) hf9 (fun _ h9 => h9) rfl dX0_mayBe_1 ?_
  refine lv_iload_n hx hb dX0_mayBe_4 rfl (lv_at hl 1 rfl) ?_
  refine xzld (k := k) hx hb hK hP 1 rfl (by omega) (by decide) dX0_mayBe_5 ?_
  refine lv_asi (show kI k = b2 (kok σ k) from hkI k hk) ?_
  refine lv_if_eq (tgt := 26) hx hb dX0_mayBe_6 (by decide) (fun c6 => ?_) (fun c6 => ?_)
  · skip
    have c6 := b2_0 c6
    refine lv_iconst (v := 0) hx hb dX0_mayBe_26 (by decide) ?_
    exact W.zret (v := 0) (ty := .boolean) hx hb hr rfl (fun t ht hW => ⟨_, rfl, by simp [c6, b2, mbB], ht⟩) (fun _ h => absurd h List.not_mem_nil) dX0_mayBe_27
  · skip
    have c6 := b2_1 c6
    refine lv_iload_n hx hb dX0_mayBe_9 rfl (lv_at hl 1 rfl) ?_
    refine lv_iload_n hx hb dX0_mayBe_10 rfl (lv_at hl 2 rfl) ?_
    refine lv_iand hx hb dX0_mayBe_11 ?_
    refine lv_iload_n hx hb dX0_mayBe_12 rfl (lv_at hl 2 rfl) ?_
    refine lv_icmp_ne (tgt := 26) hx hb dX0_mayBe_13 (by decide) (fun c13 => ?_) (fun c13 => ?_)
    · skip
      refine lv_iconst (v := 0) hx hb dX0_mayBe_26 (by decide) ?_
      exact W.zret (v := 0) (ty := .boolean) hx hb hr rfl (fun t ht hW => ⟨_, rfl, by simp [c6, c13, b2, mbB], ht⟩) (fun _ h => absurd h List.not_mem_nil) dX0_mayBe_27
    · skip
      refine lv_iload_n hx hb dX0_mayBe_16 rfl (lv_at hl 1 rfl) ?_
      refine lv_iload_n hx hb dX0_mayBe_17 rfl (lv_at hl 3 rfl) ?_
      refine lv_iand hx hb dX0_mayBe_18 ?_
      refine lv_if_ne (tgt := 26) hx hb dX0_mayBe_19 (by decide) (fun c19 => ?_) (fun c19 => ?_)
      · skip
        refine lv_iconst (v := 0) hx hb dX0_mayBe_26 (by decide) ?_
        exact W.zret (v := 0) (ty := .boolean) hx hb hr rfl (fun t ht hW => ⟨_, rfl, by simp [c6, c13, c19, b2, mbB], ht⟩) (fun _ h => absurd h List.not_mem_nil) dX0_mayBe_27
      · skip
        refine lv_iconst (v := 1) hx hb dX0_mayBe_22 (by decide) ?_
        refine lv_goto (tgt := 27) hx hb dX0_mayBe_23 (by decide) ?_
        exact W.zret (v := 1) (ty := .boolean) hx hb hr rfl (fun t ht hW => ⟨_, rfl, by simp [c6, c13, c19, b2, mbB], ht⟩) (fun _ h => absurd h List.not_mem_nil) dX0_mayBe_27

set_option maxHeartbeats 4000000 in
set_option maxRecDepth 100000 in
theorem c_X0_countMayBe (l : Launch) (D : va_G) (cI cZ : ClassId) (zB : Nat) (zK : Nat) (zW : Nat) (zU : Nat) (zV : Nat) (zR : Nat) (zE : Nat) (σ : ST) (kI : Nat → Int32) (so : Int32) (ns : Int32) (hok : Ok σ) (hkI : ∀ k, k < 2 ^ sF σ → kI k = b2 (kok σ k)) : Met l yX0_countMayBe wsX0_countMayBe ({ frames := 1, cells := 0, slots := 0, locals := 23 }) (va_Pc [.ref zB, .int so, .int ns] (XP D cI cZ [(zB, .inr (0, [.int (nI (sF σ)), .int (nI (2 ^ sF σ)), .ref zK, .ref zW, .int (nI (sN σ)), .int (sR σ), .int (orE (rEr σ) (sN σ)), .ref zU, .ref zV, .ref zR, .ref zE])), (zK, .inl (cZ, 128, .inl kI))])) (vp_Si (fun r => r = nI (cmb σ so ns))) 0 0 (fun _ => False) := by
  refine Met.ofW (cc := cX0_countMayBe) (maxL := 5) (ret := (some .int)) (by decide) rfl ?_
  intro p e s m args below meth c s₁ B hml hv
  obtain ⟨rfl, hP, hK, hN⟩ := hv
  have hx := B.exec
  have hb := B.bytes
  have hr := B.returns
  have hts := atoms_spec (ws := wsX0_countMayBe) B.pre
  have hown : s.vm.findClass RX0 = some m.cls := findClass_of_methodNamed B.named
  have hlocks := B.notSynchronized
  have ho := hok.1
  have hk2 := hok.k
  have hf35 := hts (.fieldLink RX0 35 "BallCourt$Book" "numbers" "I") (List.mem_of_getElem? (i := 1) (by decide +kernel))
  have hiX0 : ∀ w ∈ wsX00, w ∈ wsX0_countMayBe := fun w h => List.mem_cons_of_mem _ (List.mem_append_right _ h)
  have hl := lv_entry ([.ref zB, .int so, .int ns]) (n := 5) (Nat.le_of_ble_eq_true rfl)
  rw [lg_entry_eq]
  generalize (lg_sl ([.ref zB, .int so, .int ns]) ++ List.replicate (5 - (lg_sl ([.ref zB, .int so, .int ns])).length) Slot.unset).toArray = ls at hl ⊢
  have hl : lv_has ls 5 [(0, .ref zB), (1, .int so), (2, .int ns)] := hl
  refine lv_iconst (v := nI 0) hx hb dX0_countMayBe_0 (by decide) ?_
  refine lv_istore_n (lv' := [(3, .int (nI 0)), (0, .ref zB), (1, .int so), (2, .int ns)]) hx hb dX0_countMayBe_1 rfl hl (by decide) rfl (fun ls hl => ?_)
  refine lv_iconst (v := nI 0) hx hb dX0_countMayBe_2 (by decide) ?_
  refine lv_istore (lv' := [(4, .int (nI 0)), (3, .int (nI 0)), (0, .ref zB), (1, .int so), (2, .int ns)]) hx hb dX0_countMayBe_3 hl (by decide) rfl (fun ls hl => ?_)
  refine wloop (α := Nat) (fun v => 2 ^ sF σ - v) (fun v => [(0, .ref zB), (1, .int so), (2, .int ns), (3, .int (nI (cnt (mbB σ so ns) v))), (4, .int (nI v))]) (fun v => (v ≤ 2 ^ sF σ)) 5 (fun v hv ih5 ls hl => ?_) 0 (show 0 ≤ 2 ^ sF σ from Nat.zero_le _) ls (lv_sub hl [2, 3, 4, 1, 0] rfl)
  obtain ⟨k, rfl⟩ : ∃ z : Nat, z = v := ⟨_, rfl⟩
  have hk : k ≤ 2 ^ sF σ := hv
  have hl : lv_has ls 5 [(0, .ref zB), (1, .int so), (2, .int ns), (3, .int (nI (cnt (mbB σ so ns) k))), (4, .int (nI k))] := hl
  refine lv_iload hx hb dX0_countMayBe_5 (lv_at hl 4 rfl) ?_
  refine lv_aload_n hx hb dX0_countMayBe_7 rfl (lv_at hl 0 rfl) ?_
  refine va_get (D := D) (ci := 0) (v := .int (nI (2 ^ sF σ))) (C := RX0) (T := TX0) (N := 11) hx hb hts hiX0 hown hK hP 0 rfl rfl 1 (by decide) hf35 (fun _ h9 => h9) rfl dX0_countMayBe_8 ?_
  refine lv_icmp_ge (tgt := 34) hx hb dX0_countMayBe_11 (by decide) (fun c11 => ?_) (fun c11 => ?_)
  · skip
    have c11 := (nI_leI (by omega) (by omega)).mp c11
    refine lv_iload_n hx hb dX0_countMayBe_34 rfl (lv_at hl 3 rfl) ?_
    exact W.iret (v := nI (cnt (mbB σ so ns) k)) hx hb hr (fun t ht hW => ⟨_, rfl, by rw [show k = 2 ^ sF σ by omega]; rfl, ht⟩) (fun _ h => absurd h List.not_mem_nil) dX0_countMayBe_35
  · skip
    have c11 := Nat.lt_of_not_le (fun z => c11 ((nI_leI (by omega) (by omega)).mpr z))
    refine lv_aload_n hx hb dX0_countMayBe_14 rfl (lv_at hl 0 rfl) ?_
    refine lv_iload hx hb dX0_countMayBe_15 (lv_at hl 4 rfl) ?_
    refine lv_iload_n hx hb dX0_countMayBe_17 rfl (lv_at hl 1 rfl) ?_
    refine lv_iload_n hx hb dX0_countMayBe_18 rfl (lv_at hl 2 rfl) ?_
    refine xpV (rest := []) ⟨hx, hb, hml, hown, hts⟩ (c_X0_mayBe l D cI cZ zB zK zW zU zV zR zE σ kI k so ns hok c11 hkI) (cwV 3 hts gX0_countMayBe_X0_mayBe rfl rfl rfl (by decide +kernel) ⟨Nat.le_of_ble_eq_true rfl, Nat.le_of_ble_eq_true rfl⟩) hP [0, 1] rfl hK hN (ci := 0) (q0 := 0) rfl rfl rfl hl.1 rfl (Nat.le_of_ble_eq_true rfl) dX0_countMayBe_19 ⟨Nat.zero_le _, Nat.zero_le _⟩ (fun r19 e19 => ?_)
    subst e19
    refine lv_if_eq (tgt := 28) hx hb dX0_countMayBe_22 (by decide) (fun c22 => ?_) (fun c22 => ?_)
    · skip
      have c22 := b2_0 c22
      have hl : lv_has ls 5 [(0, .ref zB), (1, .int so), (2, .int ns), (3, .int (nI (cnt (mbB σ so ns) (k + 1)))), (4, .int (nI k))] := by rw [← (show nI (cnt (mbB σ so ns) k) = nI (cnt (mbB σ so ns) (k + 1)) from congrArg nI (cnt_n c22))]; exact hl
      refine lv_iinc (k := 4) (x := nI k) (v := nI (k + 1)) (lv' := [(4, .int (nI (k + 1))), (0, .ref zB), (1, .int so), (2, .int ns), (3, .int (nI (cnt (mbB σ so ns) (k + 1))))]) hx hb dX0_countMayBe_28 hl rfl (show (nI k) + Int32.ofInt 1 = nI (k + 1) from nI_1 _) (by decide) rfl (fun ls hl => ?_)
      refine lv_goto (tgt := 5) hx hb dX0_countMayBe_31 (by decide) ?_
      exact ih5 (k + 1) (show (k + 1) ≤ 2 ^ sF σ from (by omega)) (by show 2 ^ sF σ - (k + 1) < 2 ^ sF σ - k; omega) ls (lv_sub hl [1, 2, 3, 4, 0] rfl)
    · skip
      have c22 := b2_1 c22
      refine lv_iinc (k := 3) (x := nI (cnt (mbB σ so ns) k)) (v := nI (cnt (mbB σ so ns) (k + 1))) (lv' := [(3, .int (nI (cnt (mbB σ so ns) (k + 1)))), (0, .ref zB), (1, .int so), (2, .int ns), (4, .int (nI k))]) hx hb dX0_countMayBe_25 hl rfl (show (nI (cnt (mbB σ so ns) k)) + Int32.ofInt 1 = nI (cnt (mbB σ so ns) (k + 1)) from cnt_y c22) (by decide) rfl (fun ls hl => ?_)
      refine lv_iinc (k := 4) (x := nI k) (v := nI (k + 1)) (lv' := [(4, .int (nI (k + 1))), (3, .int (nI (cnt (mbB σ so ns) (k + 1)))), (0, .ref zB), (1, .int so), (2, .int ns)]) hx hb dX0_countMayBe_28 hl rfl (show (nI k) + Int32.ofInt 1 = nI (k + 1) from nI_1 _) (by decide) rfl (fun ls hl => ?_)
      refine lv_goto (tgt := 5) hx hb dX0_countMayBe_31 (by decide) ?_
      exact ih5 (k + 1) (show (k + 1) ≤ 2 ^ sF σ from (by omega)) (by show 2 ^ sF σ - (k + 1) < 2 ^ sF σ - k; omega) ls (lv_sub hl [2, 3, 4, 1, 0] rfl)

set_option maxHeartbeats 4000000 in
set_option maxRecDepth 100000 in
theorem c_X0_holding (l : Launch) (D : va_G) (cI cZ : ClassId) (zB : Nat) (zK : Nat) (zW : Nat) (zU : Nat) (zV : Nat) (zR : Nat) (zE : Nat) (σ : ST) (rp : Int32) (k : Nat) (hok : Ok σ) : Met l yX0_holding wsX0_holding ({ frames := 1, cells := 0, slots := 0, locals := 21 }) (va_Pc [.ref zB, .int (nI k), .int rp] (XP D cI cZ [(zB, .inr (0, [.int (nI (sF σ)), .int (nI (2 ^ sF σ)), .ref zK, .ref zW, .int (nI (sN σ)), .int (sR σ), .int (orE (rEr σ) (sN σ)), .ref zU, .ref zV, .ref zR, .ref zE])), (zU, .inl (cI, 12, .inl (rMu σ))), (zV, .inl (cI, 12, .inl (rMn σ))), (zE, .inl (cI, 12, .inl (rEr σ)))])) (vp_Si (fun r => r = holdI σ rp k)) 0 0 (fun _ => False) := by
  refine Met.ofW (cc := cX0_holding) (maxL := 6) (ret := (some .int)) (by decide) rfl ?_
  intro p e s m args below meth c s₁ B hml hv
  obtain ⟨rfl, hP, hK, hN⟩ := hv
  have hx := B.exec
  have hb := B.bytes
  have hr := B.returns
  have hts := atoms_spec (ws := wsX0_holding) B.pre
  have hown : s.vm.findClass RX0 = some m.cls := findClass_of_methodNamed B.named
  have hlocks := B.notSynchronized
  have ho := hok.1
  have hk2 := hok.k
  have hf38 := hts (.fieldLink RX0 38 "BallCourt$Book" "lines" "I") (List.mem_of_getElem? (i := 1) (by decide +kernel))
  have hiX0 : ∀ w ∈ wsX00, w ∈ wsX0_holding := fun w h => List.mem_cons_of_mem _ (List.mem_append_right _ h)
  have hf28 := hts (.fieldLink RX0 28 "BallCourt$Book" "excepters" "[I") (List.mem_of_getElem? (i := 4) (by decide +kernel))
  have hf19 := hts (.fieldLink RX0 19 "BallCourt$Book" "must" "[I") (List.mem_of_getElem? (i := 2) (by decide +kernel))
  have hf22 := hts (.fieldLink RX0 22 "BallCourt$Book" "mustNot" "[I") (List.mem_of_getElem? (i := 3) (by decide +kernel))
  have hl := lv_entry ([.ref zB, .int (nI k), .int rp]) (n := 6) (Nat.le_of_ble_eq_true rfl)
  rw [lg_entry_eq]
  generalize (lg_sl ([.ref zB, .int (nI k), .int rp]) ++ List.replicate (6 - (lg_sl ([.ref zB, .int (nI k), .int rp])).length) Slot.unset).toArray = ls at hl ⊢
  have hl : lv_has ls 6 [(0, .ref zB), (1, .int (nI k)), (2, .int rp)] := hl
  refine lv_iconst (v := 0) hx hb dX0_holding_0 (by decide) ?_
  refine lv_istore_n (lv' := [(3, .int 0), (0, .ref zB), (1, .int (nI k)), (2, .int rp)]) hx hb dX0_holding_1 rfl hl (by decide) rfl (fun ls hl => ?_)
  refine lv_aload_n hx hb dX0_holding_2 rfl (lv_at hl 1 rfl) ?_
  refine va_get (D := D) (ci := 0) (v := .int (nI (sN σ))) (C := RX0) (T := TX0) (N := 11) hx hb hts hiX0 hown hK hP 0 rfl rfl 4 (by decide) hf38 (fun _ h9 => h9) rfl dX0_holding_3 ?_
  refine lv_iconst (v := 1) hx hb dX0_holding_6 (by decide) ?_
  refine lv_isub hx hb dX0_holding_7 ?_
  refine lv_istore (lv' := [(4, .int ((nI (sN σ)) - 1)), (3, .int 0), (0, .ref zB), (1, .int (nI k)), (2, .int rp)]) hx hb dX0_holding_8 hl (by decide) rfl (fun ls hl => ?_)
  have hl : lv_has ls 6 [(4, .int ((nI (sN σ)) - 1)), (3, .int (hdR σ rp k (sN σ - sN σ))), (0, .ref zB), (1, .int (nI k)), (2, .int rp)] := by rw [← (show 0 = hdR σ rp k (sN σ - sN σ) from (by rw [Nat.sub_self]; rfl))]; exact hl
  refine wloop (α := Nat) (fun v => v) (fun v => [(0, .ref zB), (1, .int (nI k)), (2, .int rp), (3, .int (hdR σ rp k (sN σ - v))), (4, .int (nI v - 1))]) (fun v => (v ≤ sN σ)) 6 (fun v hv ih10 ls hl => ?_) (sN σ) (show (sN σ) ≤ sN σ from Nat.le_refl _) ls (lv_sub hl [2, 3, 4, 1, 0] rfl)
  obtain ⟨q, rfl⟩ : ∃ z : Nat, z = v := ⟨_, rfl⟩
  have hq : q ≤ sN σ := hv
  have hl : lv_has ls 6 [(0, .ref zB), (1, .int (nI k)), (2, .int rp), (3, .int (hdR σ rp k (sN σ - q))), (4, .int (nI q - 1))] := hl
  refine lv_iload hx hb dX0_holding_10 (lv_at hl 4 rfl) ?_
  refine lv_if_lt (tgt := 92) hx hb dX0_holding_12 (by decide) (fun c12 => ?_) (fun c12 => ?_)
  · skip
    have c12 := m1_t (by omega) c12
    refine lv_iload_n hx hb dX0_holding_92 rfl (lv_at hl 3 rfl) ?_
    exact W.iret (v := hdR σ rp k (sN σ - q)) hx hb hr (fun t ht hW => ⟨_, rfl, by rw [c12]; rfl, ht⟩) (fun _ h => absurd h List.not_mem_nil) dX0_holding_93
  · skip
    obtain ⟨j, rfl⟩ : ∃ j, q = j + 1 := ⟨q - 1, by have := m1_f c12; omega⟩
    have hl : lv_has ls 6 [(0, .ref zB), (1, .int (nI k)), (2, .int rp), (3, .int (hdR σ rp k (sN σ - (j + 1)))), (4, .int (nI j))] := by rw [← (show nI (j + 1) - 1 = nI j from nI_pred j)]; exact hl
    refine wjoin (pcJ := 51) (lv := [(0, .ref zB), (1, .int (nI k)), (2, .int rp), (3, .int (hdR σ rp k (sN σ - (j + 1)))), (4, .int (nI j))]) (nL := 6) (st := [.int (b2 (decide (nI k &&& rMu σ j = rMu σ j) && decide (nI k &&& rMn σ j = 0)))]) (fun ls hl => ?_) (fun J51 => ?_)
    · skip
      refine lv_istore (lv' := [(5, .int (b2 (decide (nI k &&& rMu σ j = rMu σ j) && decide (nI k &&& rMn σ j = 0)))), (0, .ref zB), (1, .int (nI k)), (2, .int rp), (3, .int (hdR σ rp k (sN σ - (j + 1)))), (4, .int (nI j))]) hx hb dX0_holding_51 hl (by decide) rfl (fun ls hl => ?_)
      refine lv_iload hx hb dX0_holding_53 (lv_at hl 0 rfl) ?_
      refine lv_if_eq (tgt := 86) hx hb dX0_holding_55 (by decide) (fun c55 => ?_) (fun c55 => ?_)
      · skip
        have c55 := b2_0 c55
        have hl : lv_has ls 6 [(5, .int (b2 (decide (nI k &&& rMu σ j = rMu σ j) && decide (nI k &&& rMn σ j = 0)))), (0, .ref zB), (1, .int (nI k)), (2, .int rp), (3, .int (hdR σ rp k (sN σ - j))), (4, .int (nI j))] := by rw [← (show hdR σ rp k (sN σ - (j + 1)) = hdR σ rp k (sN σ - j) from (hd_n (by omega) (by unfold cnd; rw [c55]; rfl)).symm)]; exact hl
        refine lv_iinc (k := 5) (x := nI j) (v := nI j - 1) (lv' := [(4, .int (nI j - 1)), (5, .int (b2 (decide (nI k &&& rMu σ j = rMu σ j) && decide (nI k &&& rMn σ j = 0)))), (0, .ref zB), (1, .int (nI k)), (2, .int rp), (3, .int (hdR σ rp k (sN σ - j)))]) hx hb dX0_holding_86 hl rfl (show (nI j) + Int32.ofInt (-1) = nI j - 1 from dec1 _) (by decide) rfl (fun ls hl => ?_)
        refine lv_goto (tgt := 10) hx hb dX0_holding_89 (by decide) ?_
        exact ih10 j (show j ≤ sN σ from (by omega)) (by show j < (j + 1); omega) ls (lv_sub hl [2, 3, 4, 5, 0] rfl)
      · skip
        have c55 := b2_1 c55
        refine lv_iload_n hx hb dX0_holding_58 rfl (lv_at hl 3 rfl) ?_
        refine lv_iload hx hb dX0_holding_59 (lv_at hl 5 rfl) ?_
        refine xpSN (host := "BallCourt") (rest := []) ⟨hx, hb, hml, hown, hts⟩ (c_X5_hasBit l D cI cZ rp (nI j)) (va_cnB 2 hts gX0_holding_X5_hasBit_n50 rfl rfl rfl (NW.m hN 4 rfl) (hts (.initialized RX5) (List.mem_of_getElem? (i := 6) (by decide +kernel))) (by decide +kernel) ⟨Nat.le_of_ble_eq_true rfl, Nat.le_of_ble_eq_true rfl⟩) (hts (.static yX5_hasBit) (List.mem_of_getElem? (i := 5) (by decide +kernel))) hP [] rfl hK hN rfl hl.1 rfl (Nat.le_of_ble_eq_true rfl) dX0_holding_61 ⟨Nat.zero_le _, Nat.zero_le _⟩ (fun r61 e61 => ?_)
        subst e61
        refine lv_if_ne (tgt := 86) hx hb dX0_holding_64 (by decide) (fun c64 => ?_) (fun c64 => ?_)
        · skip
          have c64 := b2_1 c64
          have hl : lv_has ls 6 [(5, .int (b2 (decide (nI k &&& rMu σ j = rMu σ j) && decide (nI k &&& rMn σ j = 0)))), (0, .ref zB), (1, .int (nI k)), (2, .int rp), (3, .int (hdR σ rp k (sN σ - j))), (4, .int (nI j))] := by rw [← (show hdR σ rp k (sN σ - (j + 1)) = hdR σ rp k (sN σ - j) from (hd_n (by omega) (by unfold cnd; rw [c55, c64]; rfl)).symm)]; exact hl
          refine lv_iinc (k := 5) (x := nI j) (v := nI j - 1) (lv' := [(4, .int (nI j - 1)), (5, .int (b2 (decide (nI k &&& rMu σ j = rMu σ j) && decide (nI k &&& rMn σ j = 0)))), (0, .ref zB), (1, .int (nI k)), (2, .int rp), (3, .int (hdR σ rp k (sN σ - j)))]) hx hb dX0_holding_86 hl rfl (show (nI j) + Int32.ofInt (-1) = nI j - 1 from dec1 _) (by decide) rfl (fun ls hl => ?_)
          refine lv_goto (tgt := 10) hx hb dX0_holding_89 (by decide) ?_
          exact ih10 j (show j ≤ sN σ from (by omega)) (by show j < (j + 1); omega) ls (lv_sub hl [2, 3, 4, 5, 0] rfl)
        · skip
          have c64 := b2_0 c64
          refine lv_aload_n hx hb dX0_holding_67 rfl (lv_at hl 1 rfl) ?_
          refine va_get (D := D) (ci := 0) (v := .ref zE) (C := RX0) (T := TX0) (N := 11) hx hb hts hiX0 hown hK hP 0 rfl rfl 10 (by decide) hf28 (fun _ h9 => h9) rfl dX0_holding_68 ?_
          refine lv_iload hx hb dX0_holding_71 (lv_at hl 5 rfl) ?_
          refine xald (k := j) hx hb hK hP 3 rfl (by omega) (by decide) dX0_holding_73 ?_
          refine lv_iload_n hx hb dX0_holding_74 rfl (lv_at hl 4 rfl) ?_
          refine lv_iand hx hb dX0_holding_75 ?_
          refine lv_if_ne (tgt := 86) hx hb dX0_holding_76 (by decide) (fun c76 => ?_) (fun c76 => ?_)
          · skip
            have hl : lv_has ls 6 [(5, .int (b2 (decide (nI k &&& rMu σ j = rMu σ j) && decide (nI k &&& rMn σ j = 0)))), (0, .ref zB), (1, .int (nI k)), (2, .int rp), (3, .int (hdR σ rp k (sN σ - j))), (4, .int (nI j))] := by rw [← (show hdR σ rp k (sN σ - (j + 1)) = hdR σ rp k (sN σ - j) from (hd_n (by omega) (by unfold cnd; rw [c55, c64, decide_eq_false c76]; rfl)).symm)]; exact hl
            refine lv_iinc (k := 5) (x := nI j) (v := nI j - 1) (lv' := [(4, .int (nI j - 1)), (5, .int (b2 (decide (nI k &&& rMu σ j = rMu σ j) && decide (nI k &&& rMn σ j = 0)))), (0, .ref zB), (1, .int (nI k)), (2, .int rp), (3, .int (hdR σ rp k (sN σ - j)))]) hx hb dX0_holding_86 hl rfl (show (nI j) + Int32.ofInt (-1) = nI j - 1 from dec1 _) (by decide) rfl (fun ls hl => ?_)
            refine lv_goto (tgt := 10) hx hb dX0_holding_89 (by decide) ?_
            exact ih10 j (show j ≤ sN σ from (by omega)) (by show j < (j + 1); omega) ls (lv_sub hl [2, 3, 4, 5, 0] rfl)
          · skip
            refine lv_iload_n hx hb dX0_holding_79 rfl (lv_at hl 4 rfl) ?_
            refine lv_iconst (v := 1) hx hb dX0_holding_80 (by decide) ?_
            refine lv_iload hx hb dX0_holding_81 (lv_at hl 5 rfl) ?_
            refine lv_ishl hx hb dX0_holding_83 ?_
            refine lv_asi (show 1 <<< ((nI j) &&& 31) = nI (2 ^ j) from shl1 j (by omega)) ?_
            refine lv_ior hx hb dX0_holding_84 ?_
            refine lv_istore_n (lv' := [(3, .int ((hdR σ rp k (sN σ - (j + 1))) ||| (nI (2 ^ j)))), (5, .int (b2 (decide (nI k &&& rMu σ j = rMu σ j) && decide (nI k &&& rMn σ j = 0)))), (0, .ref zB), (1, .int (nI k)), (2, .int rp), (4, .int (nI j))]) hx hb dX0_holding_85 rfl hl (by decide) rfl (fun ls hl => ?_)
            have hl : lv_has ls 6 [(3, .int (hdR σ rp k (sN σ - j))), (5, .int (b2 (decide (nI k &&& rMu σ j = rMu σ j) && decide (nI k &&& rMn σ j = 0)))), (0, .ref zB), (1, .int (nI k)), (2, .int rp), (4, .int (nI j))] := by rw [← (show (hdR σ rp k (sN σ - (j + 1))) ||| (nI (2 ^ j)) = hdR σ rp k (sN σ - j) from (hd_y (by omega) (by unfold cnd; rw [c55, c64, decide_eq_true c76]; rfl)).symm)]; exact hl
            refine lv_iinc (k := 5) (x := nI j) (v := nI j - 1) (lv' := [(4, .int (nI j - 1)), (3, .int (hdR σ rp k (sN σ - j))), (5, .int (b2 (decide (nI k &&& rMu σ j = rMu σ j) && decide (nI k &&& rMn σ j = 0)))), (0, .ref zB), (1, .int (nI k)), (2, .int rp)]) hx hb dX0_holding_86 hl rfl (show (nI j) + Int32.ofInt (-1) = nI j - 1 from dec1 _) (by decide) rfl (fun ls hl => ?_)
            refine lv_goto (tgt := 10) hx hb dX0_holding_89 (by decide) ?_
            exact ih10 j (show j ≤ sN σ from (by omega)) (by show j < (j + 1); omega) ls (lv_sub hl [3, 4, 5, 1, 0] rfl)
    · skip
      refine lv_iload_n hx hb dX0_holding_15 rfl (lv_at hl 1 rfl) ?_
      refine lv_aload_n hx hb dX0_holding_16 rfl (lv_at hl 0 rfl) ?_
      refine va_get (D := D) (ci := 0) (v := .ref zU) (C := RX0) (T := TX0) (N := 11) hx hb hts hiX0 hown hK hP 0 rfl rfl 7 (by decide) hf19 (fun _ h9 => h9) rfl dX0_holding_17 ?_
      refine lv_iload hx hb dX0_holding_20 (lv_at hl 4 rfl) ?_
      refine xald (k := j) hx hb hK hP 1 rfl (by omega) (by decide) dX0_holding_22 ?_
      refine lv_iand hx hb dX0_holding_23 ?_
      refine lv_aload_n hx hb dX0_holding_24 rfl (lv_at hl 0 rfl) ?_
      refine va_get (D := D) (ci := 0) (v := .ref zU) (C := RX0) (T := TX0) (N := 11) hx hb hts hiX0 hown hK hP 0 rfl rfl 7 (by decide) hf19 (fun _ h9 => h9) rfl dX0_holding_25 ?_
      refine lv_iload hx hb dX0_holding_28 (lv_at hl 4 rfl) ?_
      refine xald (k := j) hx hb hK hP 1 rfl (by omega) (by decide) dX0_holding_30 ?_
      refine lv_icmp_ne (tgt := 50) hx hb dX0_holding_31 (by decide) (fun c31 => ?_) (fun c31 => ?_)
      · skip
        refine lv_iconst (v := 0) hx hb dX0_holding_50 (by decide) ?_
        refine lv_asi (show (0 : Int32) = b2 (decide (nI k &&& rMu σ j = rMu σ j) && decide (nI k &&& rMn σ j = 0)) from by simp [c12, c31, b2]) ?_
        exact J51 ls (lv_sub hl [0, 1, 2, 3, 4] rfl)
      · skip
        refine lv_iload_n hx hb dX0_holding_34 rfl (lv_at hl 1 rfl) ?_
        refine lv_aload_n hx hb dX0_holding_35 rfl (lv_at hl 0 rfl) ?_
        refine va_get (D := D) (ci := 0) (v := .ref zV) (C := RX0) (T := TX0) (N := 11) hx hb hts hiX0 hown hK hP 0 rfl rfl 8 (by decide) hf22 (fun _ h9 => h9) rfl dX0_holding_36 ?_
        refine lv_iload hx hb dX0_holding_39 (lv_at hl 4 rfl) ?_
        refine xald (k := j) hx hb hK hP 2 rfl (by omega) (by decide) dX0_holding_41 ?_
        refine lv_iand hx hb dX0_holding_42 ?_
        refine lv_if_ne (tgt := 50) hx hb dX0_holding_43 (by decide) (fun c43 => ?_) (fun c43 => ?_)
        · skip
          refine lv_iconst (v := 0) hx hb dX0_holding_50 (by decide) ?_
          refine lv_asi (show (0 : Int32) = b2 (decide (nI k &&& rMu σ j = rMu σ j) && decide (nI k &&& rMn σ j = 0)) from by simp [c12, c31, c43, b2]) ?_
          exact J51 ls (lv_sub hl [0, 1, 2, 3, 4] rfl)
        · skip
          refine lv_iconst (v := 1) hx hb dX0_holding_46 (by decide) ?_
          refine lv_goto (tgt := 51) hx hb dX0_holding_47 (by decide) ?_
          refine lv_asi (show (1 : Int32) = b2 (decide (nI k &&& rMu σ j = rMu σ j) && decide (nI k &&& rMn σ j = 0)) from by simp [c12, c31, c43, b2]) ?_
          exact J51 ls (lv_sub hl [0, 1, 2, 3, 4] rfl)

set_option maxHeartbeats 4000000 in
set_option maxRecDepth 100000 in
theorem c_X0_lawLine (l : Launch) (D : va_G) (cI cZ : ClassId) (zB : Nat) (zK : Nat) (zW : Nat) (zU : Nat) (zV : Nat) (zR : Nat) (zE : Nat) (σ : ST) (rp : Int32) (k : Nat) (hok : Ok σ) : Met l yX0_lawLine wsX0_lawLine ({ frames := 2, cells := 0, slots := 0, locals := 46 }) (va_Pc [.ref zB, .int (nI k), .int rp] (XP D cI cZ [(zB, .inr (0, [.int (nI (sF σ)), .int (nI (2 ^ sF σ)), .ref zK, .ref zW, .int (nI (sN σ)), .int (sR σ), .int (orE (rEr σ) (sN σ)), .ref zU, .ref zV, .ref zR, .ref zE])), (zU, .inl (cI, 12, .inl (rMu σ))), (zV, .inl (cI, 12, .inl (rMn σ))), (zE, .inl (cI, 12, .inl (rEr σ)))])) (vp_Si (fun r => r = lawI σ rp k)) 0 0 (fun _ => False) := by
  refine Met.ofW (cc := cX0_lawLine) (maxL := 5) (ret := (some .int)) (by decide) rfl ?_
  intro p e s m args below meth c s₁ B hml hv
  obtain ⟨rfl, hP, hK, hN⟩ := hv
  have hx := B.exec
  have hb := B.bytes
  have hr := B.returns
  have hts := atoms_spec (ws := wsX0_lawLine) B.pre
  have hown : s.vm.findClass RX0 = some m.cls := findClass_of_methodNamed B.named
  have hlocks := B.notSynchronized
  have ho := hok.1
  have hk2 := hok.k
  have hf44 := hts (.fieldLink RX0 44 "BallCourt$Book" "excepting" "I") (List.mem_of_getElem? (i := 1) (by decide +kernel))
  have hiX0 : ∀ w ∈ wsX00, w ∈ wsX0_lawLine := fun w h => List.mem_cons_of_mem _ (List.mem_append_right _ h)
  have hf38 := hts (.fieldLink RX0 38 "BallCourt$Book" "lines" "I") (List.mem_of_getElem? (i := 2) (by decide +kernel))
  have hl := lv_entry ([.ref zB, .int (nI k), .int rp]) (n := 5) (Nat.le_of_ble_eq_true rfl)
  rw [lg_entry_eq]
  generalize (lg_sl ([.ref zB, .int (nI k), .int rp]) ++ List.replicate (5 - (lg_sl ([.ref zB, .int (nI k), .int rp])).length) Slot.unset).toArray = ls at hl ⊢
  have hl : lv_has ls 5 [(0, .ref zB), (1, .int (nI k)), (2, .int rp)] := hl
  refine lv_aload_n hx hb dX0_lawLine_0 rfl (lv_at hl 0 rfl) ?_
  refine lv_iload_n hx hb dX0_lawLine_1 rfl (lv_at hl 1 rfl) ?_
  refine lv_iload_n hx hb dX0_lawLine_2 rfl (lv_at hl 2 rfl) ?_
  refine xpV (rest := []) ⟨hx, hb, hml, hown, hts⟩ (c_X0_holding l D cI cZ zB zK zW zU zV zR zE σ rp k hok) (cwV 2 hts gX0_lawLine_X0_holding rfl rfl rfl (by decide +kernel) ⟨Nat.le_of_ble_eq_true rfl, Nat.le_of_ble_eq_true rfl⟩) hP [0, 1, 2, 3] rfl hK hN (ci := 0) (q0 := 0) rfl rfl rfl hl.1 rfl (Nat.le_of_ble_eq_true rfl) dX0_lawLine_3 ⟨Nat.zero_le _, Nat.zero_le _⟩ (fun r3 e3 => ?_)
  subst e3
  refine lv_aload_n hx hb dX0_lawLine_6 rfl (lv_at hl 0 rfl) ?_
  refine va_get (D := D) (ci := 0) (v := .int (orE (rEr σ) (sN σ))) (C := RX0) (T := TX0) (N := 11) hx hb hts hiX0 hown hK hP 0 rfl rfl 6 (by decide) hf44 (fun _ h9 => h9) rfl dX0_lawLine_7 ?_
  refine lv_iconst (v := (-1)) hx hb dX0_lawLine_10 (by decide) ?_
  refine lv_ixor hx hb dX0_lawLine_11 ?_
  refine lv_iand hx hb dX0_lawLine_12 ?_
  refine lv_asi (show (holdI σ rp k) &&& ((orE (rEr σ) (sN σ)) ^^^ (-1)) = givI σ rp k from rfl) ?_
  refine lv_istore_n (lv' := [(3, .int (givI σ rp k)), (0, .ref zB), (1, .int (nI k)), (2, .int rp)]) hx hb dX0_lawLine_13 rfl hl (by decide) rfl (fun ls hl => ?_)
  refine lv_iconst (v := nI 0) hx hb dX0_lawLine_14 (by decide) ?_
  refine lv_istore (lv' := [(4, .int (nI 0)), (3, .int (givI σ rp k)), (0, .ref zB), (1, .int (nI k)), (2, .int rp)]) hx hb dX0_lawLine_15 hl (by decide) rfl (fun ls hl => ?_)
  refine wloop (α := Nat) (fun v => sN σ - v) (fun v => [(0, .ref zB), (1, .int (nI k)), (2, .int rp), (3, .int (givI σ rp k)), (4, .int (nI v))]) (fun v => (v ≤ sN σ) ∧ (∀ j, j < v → bit (givI σ rp k) (nI j) = false)) 5 (fun v hv ih17 ls hl => ?_) 0 ⟨(show 0 ≤ sN σ from Nat.zero_le _), (show ∀ j, j < 0 → bit (givI σ rp k) (nI j) = false from fun j hj => absurd hj (Nat.not_lt_zero _))⟩ ls (lv_sub hl [2, 3, 4, 1, 0] rfl)
  obtain ⟨i, rfl⟩ : ∃ z : Nat, z = v := ⟨_, rfl⟩
  obtain ⟨hi, hn⟩ := hv
  have hi : i ≤ sN σ := hi
  have hn : ∀ j, j < i → bit (givI σ rp k) (nI j) = false := hn
  have hl : lv_has ls 5 [(0, .ref zB), (1, .int (nI k)), (2, .int rp), (3, .int (givI σ rp k)), (4, .int (nI i))] := hl
  refine lv_iload hx hb dX0_lawLine_17 (lv_at hl 4 rfl) ?_
  refine lv_aload_n hx hb dX0_lawLine_19 rfl (lv_at hl 0 rfl) ?_
  refine va_get (D := D) (ci := 0) (v := .int (nI (sN σ))) (C := RX0) (T := TX0) (N := 11) hx hb hts hiX0 hown hK hP 0 rfl rfl 4 (by decide) hf38 (fun _ h9 => h9) rfl dX0_lawLine_20 ?_
  refine lv_icmp_ge (tgt := 44) hx hb dX0_lawLine_23 (by decide) (fun c23 => ?_) (fun c23 => ?_)
  · skip
    have c23 := (nI_leI (by omega) (by omega)).mp c23
    refine lv_bipush (v := (-6)) hx hb dX0_lawLine_44 (by decide) ?_
    exact W.iret (v := (-6)) hx hb hr (fun t ht hW => ⟨_, rfl, by rw [lawI, lawI_no (fun j hj => hn j (by omega)), if_neg (Nat.lt_irrefl _)], ht⟩) (fun _ h => absurd h List.not_mem_nil) dX0_lawLine_46
  · skip
    have c23 := Nat.lt_of_not_le (fun z => c23 ((nI_leI (by omega) (by omega)).mpr z))
    refine lv_iload_n hx hb dX0_lawLine_26 rfl (lv_at hl 3 rfl) ?_
    refine lv_iload hx hb dX0_lawLine_27 (lv_at hl 4 rfl) ?_
    refine xpSN (host := "BallCourt") (rest := []) ⟨hx, hb, hml, hown, hts⟩ (c_X5_hasBit l D cI cZ (givI σ rp k) (nI i)) (va_cnB 2 hts gX0_lawLine_X5_hasBit_n50 rfl rfl rfl (NW.m hN 4 rfl) (hts (.initialized RX5) (List.mem_of_getElem? (i := 12) (by decide +kernel))) (by decide +kernel) ⟨Nat.le_of_ble_eq_true rfl, Nat.le_of_ble_eq_true rfl⟩) (hts (.static yX5_hasBit) (List.mem_of_getElem? (i := 11) (by decide +kernel))) hP [] rfl hK hN rfl hl.1 rfl (Nat.le_of_ble_eq_true rfl) dX0_lawLine_29 ⟨Nat.zero_le _, Nat.zero_le _⟩ (fun r29 e29 => ?_)
    subst e29
    refine lv_if_eq (tgt := 38) hx hb dX0_lawLine_32 (by decide) (fun c32 => ?_) (fun c32 => ?_)
    · skip
      have c32 := b2_0 c32
      refine lv_iinc (k := 4) (x := nI i) (v := nI (i + 1)) (lv' := [(4, .int (nI (i + 1))), (0, .ref zB), (1, .int (nI k)), (2, .int rp), (3, .int (givI σ rp k))]) hx hb dX0_lawLine_38 hl rfl (show (nI i) + Int32.ofInt 1 = nI (i + 1) from nI_1 _) (by decide) rfl (fun ls hl => ?_)
      refine lv_goto (tgt := 17) hx hb dX0_lawLine_41 (by decide) ?_
      exact ih17 (i + 1) ⟨(show (i + 1) ≤ sN σ from (by omega)), (show ∀ j, j < (i + 1) → bit (givI σ rp k) (nI j) = false from lt_s hn c32)⟩ (by show sN σ - (i + 1) < sN σ - i; omega) ls (lv_sub hl [1, 2, 3, 4, 0] rfl)
    · skip
      have c32 := b2_1 c32
      refine lv_iload hx hb dX0_lawLine_35 (lv_at hl 4 rfl) ?_
      exact W.iret (v := nI i) hx hb hr (fun t ht hW => ⟨_, rfl, by rw [lawI, lawI_at c23 c32 hn, if_pos c23], ht⟩) (fun _ h => absurd h List.not_mem_nil) dX0_lawLine_37

set_option maxHeartbeats 4000000 in
set_option maxRecDepth 100000 in
theorem c_X0_namedBy (l : Launch) (D : va_G) (cI cZ : ClassId) (zB : Nat) (zK : Nat) (zW : Nat) (zU : Nat) (zV : Nat) (zR : Nat) (zE : Nat) (σ : ST) (q : Nat) (hok : Ok σ) (hq : q < sN σ) : Met l yX0_namedBy wsX0_namedBy ({ frames := 1, cells := 0, slots := 0, locals := 21 }) (va_Pc [.ref zB, .int (nI q)] (XP D cI cZ [(zB, .inr (0, [.int (nI (sF σ)), .int (nI (2 ^ sF σ)), .ref zK, .ref zW, .int (nI (sN σ)), .int (sR σ), .int (orE (rEr σ) (sN σ)), .ref zU, .ref zV, .ref zR, .ref zE])), (zU, .inl (cI, 12, .inl (rMu σ))), (zV, .inl (cI, 12, .inl (rMn σ))), (zE, .inl (cI, 12, .inl (rEr σ)))])) (vp_Si (fun r => r = nmI σ (sR σ) q)) 0 0 (fun _ => False) := by
  refine Met.ofW (cc := cX0_namedBy) (maxL := 5) (ret := (some .int)) (by decide) rfl ?_
  intro p e s m args below meth c s₁ B hml hv
  obtain ⟨rfl, hP, hK, hN⟩ := hv
  have hx := B.exec
  have hb := B.bytes
  have hr := B.returns
  have hts := atoms_spec (ws := wsX0_namedBy) B.pre
  have hown : s.vm.findClass RX0 = some m.cls := findClass_of_methodNamed B.named
  have hlocks := B.notSynchronized
  have ho := hok.1
  have hk2 := hok.k
  have hf38 := hts (.fieldLink RX0 38 "BallCourt$Book" "lines" "I") (List.mem_of_getElem? (i := 1) (by decide +kernel))
  have hiX0 : ∀ w ∈ wsX00, w ∈ wsX0_namedBy := fun w h => List.mem_cons_of_mem _ (List.mem_append_right _ h)
  have hf19 := hts (.fieldLink RX0 19 "BallCourt$Book" "must" "[I") (List.mem_of_getElem? (i := 2) (by decide +kernel))
  have hf22 := hts (.fieldLink RX0 22 "BallCourt$Book" "mustNot" "[I") (List.mem_of_getElem? (i := 3) (by decide +kernel))
  have hf28 := hts (.fieldLink RX0 28 "BallCourt$Book" "excepters" "[I") (List.mem_of_getElem? (i := 4) (by decide +kernel))
  have hf41 := hts (.fieldLink RX0 41 "BallCourt$Book" "repealed" "I") (List.mem_of_getElem? (i := 5) (by decide +kernel))
  have hl := lv_entry ([.ref zB, .int (nI q)]) (n := 5) (Nat.le_of_ble_eq_true rfl)
  rw [lg_entry_eq]
  generalize (lg_sl ([.ref zB, .int (nI q)]) ++ List.replicate (5 - (lg_sl ([.ref zB, .int (nI q)])).length) Slot.unset).toArray = ls at hl ⊢
  have hl : lv_has ls 5 [(0, .ref zB), (1, .int (nI q))] := hl
  refine lv_iconst (v := 0) hx hb dX0_namedBy_0 (by decide) ?_
  refine lv_istore_n (lv' := [(2, .int 0), (0, .ref zB), (1, .int (nI q))]) hx hb dX0_namedBy_1 rfl hl (by decide) rfl (fun ls hl => ?_)
  refine lv_iconst (v := 1) hx hb dX0_namedBy_2 (by decide) ?_
  refine lv_iload_n hx hb dX0_namedBy_3 rfl (lv_at hl 2 rfl) ?_
  refine lv_ishl hx hb dX0_namedBy_4 ?_
  refine lv_asi (show 1 <<< ((nI q) &&& 31) = (nmR σ (sR σ) q 0).2 from shl1 q (by omega)) ?_
  refine lv_istore_n (lv' := [(3, .int ((nmR σ (sR σ) q 0).2)), (2, .int 0), (0, .ref zB), (1, .int (nI q))]) hx hb dX0_namedBy_5 rfl hl (by decide) rfl (fun ls hl => ?_)
  refine lv_iload_n hx hb dX0_namedBy_6 rfl (lv_at hl 3 rfl) ?_
  refine lv_istore (lv' := [(4, .int (nI q)), (3, .int ((nmR σ (sR σ) q 0).2)), (2, .int 0), (0, .ref zB), (1, .int (nI q))]) hx hb dX0_namedBy_7 hl (by decide) rfl (fun ls hl => ?_)
  have hl : lv_has ls 5 [(4, .int (nI q)), (3, .int ((nmR σ (sR σ) q 0).2)), (2, .int ((nmR σ (sR σ) q 0).1)), (0, .ref zB), (1, .int (nI q))] := by rw [← (show 0 = (nmR σ (sR σ) q 0).1 from rfl)]; exact hl
  have hl : lv_has ls 5 [(4, .int (nI (q + 0))), (3, .int ((nmR σ (sR σ) q 0).2)), (2, .int ((nmR σ (sR σ) q 0).1)), (0, .ref zB), (1, .int (nI q))] := by rw [← (show nI q = nI (q + 0) from rfl)]; exact hl
  refine wloop (α := Nat) (fun v => sN σ - v) (fun v => [(0, .ref zB), (1, .int (nI q)), (2, .int ((nmR σ (sR σ) q v).1)), (3, .int ((nmR σ (sR σ) q v).2)), (4, .int (nI (q + v)))]) (fun v => (q + v ≤ sN σ)) 5 (fun v hv ih9 ls hl => ?_) 0 (show q + 0 ≤ sN σ from (by omega)) ls (lv_sub hl [3, 4, 2, 1, 0] rfl)
  obtain ⟨j, rfl⟩ : ∃ z : Nat, z = v := ⟨_, rfl⟩
  have hj : q + j ≤ sN σ := hv
  have hl : lv_has ls 5 [(0, .ref zB), (1, .int (nI q)), (2, .int ((nmR σ (sR σ) q j).1)), (3, .int ((nmR σ (sR σ) q j).2)), (4, .int (nI (q + j)))] := hl
  refine lv_iload hx hb dX0_namedBy_9 (lv_at hl 4 rfl) ?_
  refine lv_aload_n hx hb dX0_namedBy_11 rfl (lv_at hl 0 rfl) ?_
  refine va_get (D := D) (ci := 0) (v := .int (nI (sN σ))) (C := RX0) (T := TX0) (N := 11) hx hb hts hiX0 hown hK hP 0 rfl rfl 4 (by decide) hf38 (fun _ h9 => h9) rfl dX0_namedBy_12 ?_
  refine lv_icmp_ge (tgt := 68) hx hb dX0_namedBy_15 (by decide) (fun c15 => ?_) (fun c15 => ?_)
  · skip
    have c15 := (nI_leI (by omega) (by omega)).mp c15
    refine lv_iload_n hx hb dX0_namedBy_68 rfl (lv_at hl 2 rfl) ?_
    exact W.iret (v := (nmR σ (sR σ) q j).1) hx hb hr (fun t ht hW => ⟨_, rfl, by rw [nmI, show sN σ - q = j by omega], ht⟩) (fun _ h => absurd h List.not_mem_nil) dX0_namedBy_69
  · skip
    have c15 := Nat.lt_of_not_le (fun z => c15 ((nI_leI (by omega) (by omega)).mpr z))
    refine lv_iload_n hx hb dX0_namedBy_18 rfl (lv_at hl 3 rfl) ?_
    refine lv_iload hx hb dX0_namedBy_19 (lv_at hl 4 rfl) ?_
    refine xpSN (host := "BallCourt") (rest := []) ⟨hx, hb, hml, hown, hts⟩ (c_X5_hasBit l D cI cZ ((nmR σ (sR σ) q j).2) (nI (q + j))) (va_cnB 2 hts gX0_namedBy_X5_hasBit_n50 rfl rfl rfl (NW.m hN 4 rfl) (hts (.initialized RX5) (List.mem_of_getElem? (i := 7) (by decide +kernel))) (by decide +kernel) ⟨Nat.le_of_ble_eq_true rfl, Nat.le_of_ble_eq_true rfl⟩) (hts (.static yX5_hasBit) (List.mem_of_getElem? (i := 6) (by decide +kernel))) hP [] rfl hK hN rfl hl.1 rfl (Nat.le_of_ble_eq_true rfl) dX0_namedBy_21 ⟨Nat.zero_le _, Nat.zero_le _⟩ (fun r21 e21 => ?_)
    subst e21
    refine lv_if_eq (tgt := 62) hx hb dX0_namedBy_24 (by decide) (fun c24 => ?_) (fun c24 => ?_)
    · skip
      have c24 := b2_0 c24
      have hl : lv_has ls 5 [(0, .ref zB), (1, .int (nI q)), (2, .int ((nmR σ (sR σ) q (j + 1)).1)), (3, .int ((nmR σ (sR σ) q j).2)), (4, .int (nI (q + j)))] := by rw [← (show (nmR σ (sR σ) q j).1 = (nmR σ (sR σ) q (j + 1)).1 from (by rw [nmR_n c24]))]; exact hl
      have hl : lv_has ls 5 [(0, .ref zB), (1, .int (nI q)), (2, .int ((nmR σ (sR σ) q (j + 1)).1)), (3, .int ((nmR σ (sR σ) q (j + 1)).2)), (4, .int (nI (q + j)))] := by rw [← (show (nmR σ (sR σ) q j).2 = (nmR σ (sR σ) q (j + 1)).2 from (by rw [nmR_n c24]))]; exact hl
      refine lv_iinc (k := 4) (x := nI (q + j)) (v := nI (q + (j + 1))) (lv' := [(4, .int (nI (q + (j + 1)))), (0, .ref zB), (1, .int (nI q)), (2, .int ((nmR σ (sR σ) q (j + 1)).1)), (3, .int ((nmR σ (sR σ) q (j + 1)).2))]) hx hb dX0_namedBy_62 hl rfl (show (nI (q + j)) + Int32.ofInt 1 = nI (q + (j + 1)) from nI_1 _) (by decide) rfl (fun ls hl => ?_)
      refine lv_goto (tgt := 9) hx hb dX0_namedBy_65 (by decide) ?_
      exact ih9 (j + 1) (show q + (j + 1) ≤ sN σ from (by omega)) (by show sN σ - (j + 1) < sN σ - j; omega) ls (lv_sub hl [1, 2, 3, 4, 0] rfl)
    · skip
      have c24 := b2_1 c24
      refine lv_iload_n hx hb dX0_namedBy_27 rfl (lv_at hl 2 rfl) ?_
      refine lv_aload_n hx hb dX0_namedBy_28 rfl (lv_at hl 0 rfl) ?_
      refine va_get (D := D) (ci := 0) (v := .ref zU) (C := RX0) (T := TX0) (N := 11) hx hb hts hiX0 hown hK hP 0 rfl rfl 7 (by decide) hf19 (fun _ h9 => h9) rfl dX0_namedBy_29 ?_
      refine lv_iload hx hb dX0_namedBy_32 (lv_at hl 4 rfl) ?_
      refine xald (k := (q + j)) hx hb hK hP 1 rfl (by omega) (by decide) dX0_namedBy_34 ?_
      refine lv_aload_n hx hb dX0_namedBy_35 rfl (lv_at hl 0 rfl) ?_
      refine va_get (D := D) (ci := 0) (v := .ref zV) (C := RX0) (T := TX0) (N := 11) hx hb hts hiX0 hown hK hP 0 rfl rfl 8 (by decide) hf22 (fun _ h9 => h9) rfl dX0_namedBy_36 ?_
      refine lv_iload hx hb dX0_namedBy_39 (lv_at hl 4 rfl) ?_
      refine xald (k := (q + j)) hx hb hK hP 2 rfl (by omega) (by decide) dX0_namedBy_41 ?_
      refine lv_ior hx hb dX0_namedBy_42 ?_
      refine lv_ior hx hb dX0_namedBy_43 ?_
      refine lv_istore_n (lv' := [(2, .int (((nmR σ (sR σ) q j).1) ||| ((rMu σ (q + j)) ||| (rMn σ (q + j))))), (0, .ref zB), (1, .int (nI q)), (3, .int ((nmR σ (sR σ) q j).2)), (4, .int (nI (q + j)))]) hx hb dX0_namedBy_44 rfl hl (by decide) rfl (fun ls hl => ?_)
      refine lv_iload_n hx hb dX0_namedBy_45 rfl (lv_at hl 3 rfl) ?_
      refine lv_aload_n hx hb dX0_namedBy_46 rfl (lv_at hl 1 rfl) ?_
      refine va_get (D := D) (ci := 0) (v := .ref zE) (C := RX0) (T := TX0) (N := 11) hx hb hts hiX0 hown hK hP 0 rfl rfl 10 (by decide) hf28 (fun _ h9 => h9) rfl dX0_namedBy_47 ?_
      refine lv_iload hx hb dX0_namedBy_50 (lv_at hl 4 rfl) ?_
      refine xald (k := (q + j)) hx hb hK hP 3 rfl (by omega) (by decide) dX0_namedBy_52 ?_
      refine lv_aload_n hx hb dX0_namedBy_53 rfl (lv_at hl 1 rfl) ?_
      refine va_get (D := D) (ci := 0) (v := .int (sR σ)) (C := RX0) (T := TX0) (N := 11) hx hb hts hiX0 hown hK hP 0 rfl rfl 5 (by decide) hf41 (fun _ h9 => h9) rfl dX0_namedBy_54 ?_
      refine lv_iconst (v := (-1)) hx hb dX0_namedBy_57 (by decide) ?_
      refine lv_ixor hx hb dX0_namedBy_58 ?_
      refine lv_iand hx hb dX0_namedBy_59 ?_
      refine lv_ior hx hb dX0_namedBy_60 ?_
      refine lv_istore_n (lv' := [(3, .int (((nmR σ (sR σ) q j).2) ||| ((rEr σ (q + j)) &&& ((sR σ) ^^^ (-1))))), (2, .int (((nmR σ (sR σ) q j).1) ||| ((rMu σ (q + j)) ||| (rMn σ (q + j))))), (0, .ref zB), (1, .int (nI q)), (4, .int (nI (q + j)))]) hx hb dX0_namedBy_61 rfl hl (by decide) rfl (fun ls hl => ?_)
      have hl : lv_has ls 5 [(3, .int (((nmR σ (sR σ) q j).2) ||| ((rEr σ (q + j)) &&& ((sR σ) ^^^ (-1))))), (2, .int ((nmR σ (sR σ) q (j + 1)).1)), (0, .ref zB), (1, .int (nI q)), (4, .int (nI (q + j)))] := by rw [← (show ((nmR σ (sR σ) q j).1) ||| ((rMu σ (q + j)) ||| (rMn σ (q + j))) = (nmR σ (sR σ) q (j + 1)).1 from (by rw [nmR_y c24]))]; exact hl
      have hl : lv_has ls 5 [(3, .int ((nmR σ (sR σ) q (j + 1)).2)), (2, .int ((nmR σ (sR σ) q (j + 1)).1)), (0, .ref zB), (1, .int (nI q)), (4, .int (nI (q + j)))] := by rw [← (show ((nmR σ (sR σ) q j).2) ||| ((rEr σ (q + j)) &&& ((sR σ) ^^^ (-1))) = (nmR σ (sR σ) q (j + 1)).2 from (by rw [nmR_y c24]))]; exact hl
      refine lv_iinc (k := 4) (x := nI (q + j)) (v := nI (q + (j + 1))) (lv' := [(4, .int (nI (q + (j + 1)))), (3, .int ((nmR σ (sR σ) q (j + 1)).2)), (2, .int ((nmR σ (sR σ) q (j + 1)).1)), (0, .ref zB), (1, .int (nI q))]) hx hb dX0_namedBy_62 hl rfl (show (nI (q + j)) + Int32.ofInt 1 = nI (q + (j + 1)) from nI_1 _) (by decide) rfl (fun ls hl => ?_)
      refine lv_goto (tgt := 9) hx hb dX0_namedBy_65 (by decide) ?_
      exact ih9 (j + 1) (show q + (j + 1) ≤ sN σ from (by omega)) (by show sN σ - (j + 1) < sN σ - j; omega) ls (lv_sub hl [3, 4, 2, 1, 0] rfl)

set_option maxHeartbeats 4000000 in
set_option maxRecDepth 100000 in
theorem c_X3_covers (l : Launch) (D : va_G) (cI cZ : ClassId) (zB : Nat) (zL : Nat) (zLo : Nat) (σ : ST) (lo : Nat → Int32) (rp : Int32) (k : Nat) (hok : Ok σ) (hk : k < 2 ^ sF σ) (hlo : ∀ k, k < 2 ^ sF σ → lo k = lawI σ rp k) : Met l yX3_covers wsX3_covers ({ frames := 0, cells := 0, slots := 0, locals := 0 }) (va_Pc [.ref zL, .int (nI k)] (XP D cI cZ [(zL, .inr (3, [.ref zB, .ref zLo])), (zLo, .inl (cI, 128, .inl lo))])) (vp_Si (fun r => r = b2 (covB σ rp k))) 0 0 (fun _ => False) := by
  refine Met.ofW (cc := cX3_covers) (maxL := 2) (ret := (some .boolean)) (by decide) rfl ?_
  intro p e s m args below meth c s₁ B hml hv
  obtain ⟨rfl, hP, hK, hN⟩ := hv
  have hx := B.exec
  have hb := B.bytes
  have hr := B.returns
  have hts := atoms_spec (ws := wsX3_covers) B.pre
  have hown : s.vm.findClass RX3 = some m.cls := findClass_of_methodNamed B.named
  have hlocks := B.notSynchronized
  have ho := hok.1
  have hk2 := hok.k
  have hf9 := hts (.fieldLink RX3 9 "BallCourt$Laws" "lineOf" "[I") (List.mem_of_getElem? (i := 1) (by decide +kernel))
  have hiX3 : ∀ w ∈ wsX30, w ∈ wsX3_covers := fun w h => List.mem_cons_of_mem _ (List.mem_append_right _ h)
  have hl := lv_entry ([.ref zL, .int (nI k)]) (n := 2) (Nat.le_of_ble_eq_true rfl)
  rw [lg_entry_eq]
  generalize (lg_sl ([.ref zL, .int (nI k)]) ++ List.replicate (2 - (lg_sl ([.ref zL, .int (nI k)])).length) Slot.unset).toArray = ls at hl ⊢
  have hl : lv_has ls 2 [(0, .ref zL), (1, .int (nI k))] := hl
  refine lv_aload_n hx hb dX3_covers_0 rfl (lv_at hl 0 rfl) ?_
  refine va_get (D := D) (ci := 3) (v := .ref zLo) (C := RX3) (T := TX3) (N := 2) hx hb hts hiX3 hown hK hP 0 rfl rfl 1 (by decide) hf9 (fun _ h9 => h9) rfl dX3_covers_1 ?_
  refine lv_iload_n hx hb dX3_covers_4 rfl (lv_at hl 1 rfl) ?_
  refine xald (k := k) hx hb hK hP 1 rfl (by omega) (by decide) dX3_covers_5 ?_
  refine lv_asi (show lo k = lawI σ rp k from hlo k hk) ?_
  refine lv_bipush (v := (-6)) hx hb dX3_covers_6 (by decide) ?_
  refine lv_icmp_eq (tgt := 15) hx hb dX3_covers_8 (by decide) (fun c8 => ?_) (fun c8 => ?_)
  · skip
    have c8 := (lawI_6 (by omega)).mp c8
    refine lv_iconst (v := 0) hx hb dX3_covers_15 (by decide) ?_
    exact W.zret (v := 0) (ty := .boolean) hx hb hr rfl (fun t ht hW => ⟨_, rfl, by simp [c8, b2], ht⟩) (fun _ h => absurd h List.not_mem_nil) dX3_covers_16
  · skip
    have c8 := nt (fun z => c8 ((lawI_6 (by omega)).mpr z))
    refine lv_iconst (v := 1) hx hb dX3_covers_11 (by decide) ?_
    refine lv_goto (tgt := 16) hx hb dX3_covers_12 (by decide) ?_
    exact W.zret (v := 1) (ty := .boolean) hx hb hr rfl (fun t ht hW => ⟨_, rfl, by simp [c8, b2], ht⟩) (fun _ h => absurd h List.not_mem_nil) dX3_covers_16

set_option maxHeartbeats 4000000 in
set_option maxRecDepth 100000 in
theorem c_X3_rulingFor (l : Launch) (D : va_G) (cI cZ : ClassId) (zB : Nat) (zL : Nat) (zK : Nat) (zW : Nat) (zU : Nat) (zV : Nat) (zR : Nat) (zE : Nat) (zLo : Nat) (σ : ST) (lo : Nat → Int32) (rp : Int32) (k : Nat) (hok : Ok σ) (hk : k < 2 ^ sF σ) (hlo : ∀ k, k < 2 ^ sF σ → lo k = lawI σ rp k) : Met l yX3_rulingFor wsX3_rulingFor ({ frames := 1, cells := 0, slots := 0, locals := 21 }) (va_Pc [.ref zL, .int (nI k)] (XP D cI cZ [(zL, .inr (3, [.ref zB, .ref zLo])), (zLo, .inl (cI, 128, .inl lo)), (zB, .inr (0, [.int (nI (sF σ)), .int (nI (2 ^ sF σ)), .ref zK, .ref zW, .int (nI (sN σ)), .int (sR σ), .int (orE (rEr σ) (sN σ)), .ref zU, .ref zV, .ref zR, .ref zE])), (zR, .inl (cI, 12, .inl (rRu σ)))])) (vp_Si (fun r => r = rulI σ rp k)) 0 0 (fun _ => False) := by
  refine Met.ofW (cc := cX3_rulingFor) (maxL := 2) (ret := (some .int)) (by decide) rfl ?_
  intro p e s m args below meth c s₁ B hml hv
  obtain ⟨rfl, hP, hK, hN⟩ := hv
  have hx := B.exec
  have hb := B.bytes
  have hr := B.returns
  have hts := atoms_spec (ws := wsX3_rulingFor) B.pre
  have hown : s.vm.findClass RX3 = some m.cls := findClass_of_methodNamed B.named
  have hlocks := B.notSynchronized
  have ho := hok.1
  have hk2 := hok.k
  have hf15 := hts (.fieldLink RX3 15 "BallCourt$Laws" "book" "LBallCourt$Book;") (List.mem_of_getElem? (i := 1) (by decide +kernel))
  have hiX3 : ∀ w ∈ wsX30, w ∈ wsX3_rulingFor := fun w h => List.mem_cons_of_mem _ (List.mem_append_left _ (List.mem_append_right _ h))
  have hiX0 : ∀ w ∈ wsX00, w ∈ wsX3_rulingFor := fun w h => List.mem_cons_of_mem _ (List.mem_append_right _ h)
  have hf9 := hts (.fieldLink RX3 9 "BallCourt$Laws" "lineOf" "[I") (List.mem_of_getElem? (i := 2) (by decide +kernel))
  have hl := lv_entry ([.ref zL, .int (nI k)]) (n := 2) (Nat.le_of_ble_eq_true rfl)
  rw [lg_entry_eq]
  generalize (lg_sl ([.ref zL, .int (nI k)]) ++ List.replicate (2 - (lg_sl ([.ref zL, .int (nI k)])).length) Slot.unset).toArray = ls at hl ⊢
  have hl : lv_has ls 2 [(0, .ref zL), (1, .int (nI k))] := hl
  refine lv_aload_n hx hb dX3_rulingFor_0 rfl (lv_at hl 0 rfl) ?_
  refine lv_iload_n hx hb dX3_rulingFor_1 rfl (lv_at hl 1 rfl) ?_
  refine xpV (rest := []) ⟨hx, hb, hml, hown, hts⟩ (c_X3_covers l D cI cZ zB zL zLo σ lo rp k hok hk hlo) (cwV 1 hts gX3_rulingFor_X3_covers rfl rfl rfl (by decide +kernel) ⟨Nat.le_of_ble_eq_true rfl, Nat.le_of_ble_eq_true rfl⟩) hP [0, 1] rfl hK hN (ci := 3) (q0 := 0) rfl rfl rfl hl.1 rfl (Nat.le_of_ble_eq_true rfl) dX3_rulingFor_2 ⟨Nat.zero_le _, Nat.zero_le _⟩ (fun r2 e2 => ?_)
  subst e2
  refine lv_if_eq (tgt := 25) hx hb dX3_rulingFor_5 (by decide) (fun c5 => ?_) (fun c5 => ?_)
  · skip
    have c5 := b2_0 c5
    have c5 := of_decide_eq_false c5
    refine lv_iconst (v := 0) hx hb dX3_rulingFor_25 (by decide) ?_
    exact W.iret (v := 0) hx hb hr (fun t ht hW => ⟨_, rfl, by rw [rulI, if_neg c5], ht⟩) (fun _ h => absurd h List.not_mem_nil) dX3_rulingFor_26
  · skip
    have c5 := b2_1 c5
    have c5 := of_decide_eq_true c5
    refine lv_aload_n hx hb dX3_rulingFor_8 rfl (lv_at hl 0 rfl) ?_
    refine va_get (D := D) (ci := 3) (v := .ref zB) (C := RX3) (T := TX3) (N := 2) hx hb hts hiX3 hown hK hP 0 rfl rfl 0 (by decide) hf15 (fun _ h9 => h9) rfl dX3_rulingFor_9 ?_
    refine va_getN (D := D) (ci := 0) (v := .ref zR) (C := RX0) (T := TX0) (N := 11) hx hb hts hiX0 hown hK hP 2 rfl rfl 9 (by decide) (NW.f hN 19 rfl _) (fun _ h9 => h9) rfl dX3_rulingFor_12 ?_
    refine lv_aload_n hx hb dX3_rulingFor_15 rfl (lv_at hl 0 rfl) ?_
    refine va_get (D := D) (ci := 3) (v := .ref zLo) (C := RX3) (T := TX3) (N := 2) hx hb hts hiX3 hown hK hP 0 rfl rfl 1 (by decide) hf9 (fun _ h9 => h9) rfl dX3_rulingFor_16 ?_
    refine lv_iload_n hx hb dX3_rulingFor_19 rfl (lv_at hl 1 rfl) ?_
    refine xald (k := k) hx hb hK hP 1 rfl (by omega) (by decide) dX3_rulingFor_20 ?_
    refine lv_asi (show lo k = nI (lawN σ rp k) from by rw [hlo k hk, lawI, if_pos c5]) ?_
    refine xald (k := (lawN σ rp k)) hx hb hK hP 3 rfl (by omega) (by decide) dX3_rulingFor_21 ?_
    refine lv_goto (tgt := 26) hx hb dX3_rulingFor_22 (by decide) ?_
    exact W.iret (v := rRu σ (lawN σ rp k)) hx hb hr (fun t ht hW => ⟨_, rfl, by rw [rulI, if_pos c5], ht⟩) (fun _ h => absurd h List.not_mem_nil) dX3_rulingFor_26

set_option maxHeartbeats 4000000 in
set_option maxRecDepth 100000 in
theorem c_X3_differFor (l : Launch) (D : va_G) (cI cZ : ClassId) (zB : Nat) (zL : Nat) (zF : Nat) (zK : Nat) (zW : Nat) (zU : Nat) (zV : Nat) (zR : Nat) (zE : Nat) (zLo : Nat) (zFo : Nat) (σ : ST) (lo : Nat → Int32) (lf : Nat → Int32) (rp : Int32) (k : Nat) (rq : Int32) (hok : Ok σ) (hk : k < 2 ^ sF σ) (hlo : ∀ k, k < 2 ^ sF σ → lo k = lawI σ rp k) (hlf : ∀ k, k < 2 ^ sF σ → lf k = lawI σ rq k) : Met l yX3_differFor wsX3_differFor ({ frames := 2, cells := 0, slots := 0, locals := 42 }) (va_Pc [.ref zL, .int (nI k), .ref zF] (XP D cI cZ [(zL, .inr (3, [.ref zB, .ref zLo])), (zLo, .inl (cI, 128, .inl lo)), (zB, .inr (0, [.int (nI (sF σ)), .int (nI (2 ^ sF σ)), .ref zK, .ref zW, .int (nI (sN σ)), .int (sR σ), .int (orE (rEr σ) (sN σ)), .ref zU, .ref zV, .ref zR, .ref zE])), (zR, .inl (cI, 12, .inl (rRu σ))), (zF, .inr (3, [.ref zB, .ref zFo])), (zFo, .inl (cI, 128, .inl lf))])) (vp_Si (fun r => r = b2 (difB σ rp rq k))) 0 0 (fun _ => False) := by
  refine Met.ofW (cc := cX3_differFor) (maxL := 3) (ret := (some .boolean)) (by decide) rfl ?_
  intro p e s m args below meth c s₁ B hml hv
  obtain ⟨rfl, hP, hK, hN⟩ := hv
  have hx := B.exec
  have hb := B.bytes
  have hr := B.returns
  have hts := atoms_spec (ws := wsX3_differFor) B.pre
  have hown : s.vm.findClass RX3 = some m.cls := findClass_of_methodNamed B.named
  have hlocks := B.notSynchronized
  have ho := hok.1
  have hk2 := hok.k
  have hl := lv_entry ([.ref zL, .int (nI k), .ref zF]) (n := 3) (Nat.le_of_ble_eq_true rfl)
  rw [lg_entry_eq]
  generalize (lg_sl ([.ref zL, .int (nI k), .ref zF]) ++ List.replicate (3 - (lg_sl ([.ref zL, .int (nI k), .ref zF])).length) Slot.unset).toArray = ls at hl ⊢
  have hl : lv_has ls 3 [(0, .ref zL), (1, .int (nI k)), (2, .ref zF)] := hl
  refine lv_aload_n hx hb dX3_differFor_0 rfl (lv_at hl 0 rfl) ?_
  refine lv_iload_n hx hb dX3_differFor_1 rfl (lv_at hl 1 rfl) ?_
  refine xpV (rest := []) ⟨hx, hb, hml, hown, hts⟩ (c_X3_rulingFor l D cI cZ zB zL zK zW zU zV zR zE zLo σ lo rp k hok hk hlo) (cwV 1 hts gX3_differFor_X3_rulingFor rfl rfl rfl (by decide +kernel) ⟨Nat.le_of_ble_eq_true rfl, Nat.le_of_ble_eq_true rfl⟩) hP [0, 1, 2, 3] rfl hK hN (ci := 3) (q0 := 0) rfl rfl rfl hl.1 rfl (Nat.le_of_ble_eq_true rfl) dX3_differFor_2 ⟨Nat.zero_le _, Nat.zero_le _⟩ (fun r2 e2 => ?_)
  subst e2
  refine lv_aload_n hx hb dX3_differFor_5 rfl (lv_at hl 2 rfl) ?_
  refine lv_iload_n hx hb dX3_differFor_6 rfl (lv_at hl 1 rfl) ?_
  refine xpV (rest := [.int (rulI σ rp k)]) ⟨hx, hb, hml, hown, hts⟩ (c_X3_rulingFor l D cI cZ zB zF zK zW zU zV zR zE zFo σ lf rq k hok hk hlf) (cwV 1 hts gX3_differFor_X3_rulingFor rfl rfl rfl (by decide +kernel) ⟨Nat.le_of_ble_eq_true rfl, Nat.le_of_ble_eq_true rfl⟩) hP [4, 5, 2, 3] rfl hK hN (ci := 3) (q0 := 4) rfl rfl rfl hl.1 rfl (Nat.le_of_ble_eq_true rfl) dX3_differFor_7 ⟨Nat.zero_le _, Nat.zero_le _⟩ (fun r7 e7 => ?_)
  subst e7
  refine lv_icmp_ne (tgt := 26) hx hb dX3_differFor_10 (by decide) (fun c10 => ?_) (fun c10 => ?_)
  · skip
    refine lv_iconst (v := 1) hx hb dX3_differFor_26 (by decide) ?_
    refine lv_goto (tgt := 31) hx hb dX3_differFor_27 (by decide) ?_
    exact W.zret (v := 1) (ty := .boolean) hx hb hr rfl (fun t ht hW => ⟨_, rfl, by rw [difB, decide_eq_false c10]; rfl, ht⟩) (fun _ h => absurd h List.not_mem_nil) dX3_differFor_31
  · skip
    refine lv_aload_n hx hb dX3_differFor_13 rfl (lv_at hl 0 rfl) ?_
    refine lv_iload_n hx hb dX3_differFor_14 rfl (lv_at hl 1 rfl) ?_
    refine xpV (rest := []) ⟨hx, hb, hml, hown, hts⟩ (c_X3_covers l D cI cZ zB zL zLo σ lo rp k hok hk hlo) (cwV 1 hts gX3_differFor_X3_covers rfl rfl rfl (by decide +kernel) ⟨Nat.le_of_ble_eq_true rfl, Nat.le_of_ble_eq_true rfl⟩) hP [0, 1] rfl hK hN (ci := 3) (q0 := 0) rfl rfl rfl hl.1 rfl (Nat.le_of_ble_eq_true rfl) dX3_differFor_15 ⟨Nat.zero_le _, Nat.zero_le _⟩ (fun r15 e15 => ?_)
    subst e15
    refine lv_aload_n hx hb dX3_differFor_18 rfl (lv_at hl 2 rfl) ?_
    refine lv_iload_n hx hb dX3_differFor_19 rfl (lv_at hl 1 rfl) ?_
    refine xpV (rest := [.int (b2 (covB σ rp k))]) ⟨hx, hb, hml, hown, hts⟩ (c_X3_covers l D cI cZ zB zF zFo σ lf rq k hok hk hlf) (cwV 1 hts gX3_differFor_X3_covers rfl rfl rfl (by decide +kernel) ⟨Nat.le_of_ble_eq_true rfl, Nat.le_of_ble_eq_true rfl⟩) hP [4, 5] rfl hK hN (ci := 3) (q0 := 4) rfl rfl rfl hl.1 rfl (Nat.le_of_ble_eq_true rfl) dX3_differFor_20 ⟨Nat.zero_le _, Nat.zero_le _⟩ (fun r20 e20 => ?_)
    subst e20
    refine lv_icmp_eq (tgt := 30) hx hb dX3_differFor_23 (by decide) (fun c23 => ?_) (fun c23 => ?_)
    · skip
      have c23 := b2_inj.mp c23
      refine lv_iconst (v := 0) hx hb dX3_differFor_30 (by decide) ?_
      exact W.zret (v := 0) (ty := .boolean) hx hb hr rfl (fun t ht hW => ⟨_, rfl, by rw [difB, decide_eq_true c10, decide_eq_true c23]; rfl, ht⟩) (fun _ h => absurd h List.not_mem_nil) dX3_differFor_31
    · skip
      have c23 : ¬ covB σ rp k = covB σ rq k := fun z => c23 (b2_inj.mpr z)
      refine lv_iconst (v := 1) hx hb dX3_differFor_26 (by decide) ?_
      refine lv_goto (tgt := 31) hx hb dX3_differFor_27 (by decide) ?_
      exact W.zret (v := 1) (ty := .boolean) hx hb hr rfl (fun t ht hW => ⟨_, rfl, by rw [difB, decide_eq_true c10, decide_eq_false c23]; rfl, ht⟩) (fun _ h => absurd h List.not_mem_nil) dX3_differFor_31

set_option maxHeartbeats 4000000 in
set_option maxRecDepth 100000 in
theorem c_X3_countMayBeRuled (l : Launch) (D : va_G) (cI cZ : ClassId) (zB : Nat) (zL : Nat) (zK : Nat) (zW : Nat) (zU : Nat) (zV : Nat) (zR : Nat) (zE : Nat) (zLo : Nat) (σ : ST) (kI : Nat → Int32) (lo : Nat → Int32) (rp : Int32) (so : Int32) (ns : Int32) (rr : Int32) (hok : Ok σ) (hkI : ∀ k, k < 2 ^ sF σ → kI k = b2 (kok σ k)) (hlo : ∀ k, k < 2 ^ sF σ → lo k = lawI σ rp k) : Met l yX3_countMayBeRuled wsX3_countMayBeRuled ({ frames := 2, cells := 0, slots := 0, locals := 42 }) (va_Pc [.ref zL, .int so, .int ns, .int rr] (XP D cI cZ [(zL, .inr (3, [.ref zB, .ref zLo])), (zLo, .inl (cI, 128, .inl lo)), (zB, .inr (0, [.int (nI (sF σ)), .int (nI (2 ^ sF σ)), .ref zK, .ref zW, .int (nI (sN σ)), .int (sR σ), .int (orE (rEr σ) (sN σ)), .ref zU, .ref zV, .ref zR, .ref zE])), (zK, .inl (cZ, 128, .inl kI)), (zR, .inl (cI, 12, .inl (rRu σ)))])) (vp_Si (fun r => r = nI (cmr σ rp so ns rr))) 0 0 (fun _ => False) := by
  refine Met.ofW (cc := cX3_countMayBeRuled) (maxL := 6) (ret := (some .int)) (by decide) rfl ?_
  intro p e s m args below meth c s₁ B hml hv
  obtain ⟨rfl, hP, hK, hN⟩ := hv
  have hx := B.exec
  have hb := B.bytes
  have hr := B.returns
  have hts := atoms_spec (ws := wsX3_countMayBeRuled) B.pre
  have hown : s.vm.findClass RX3 = some m.cls := findClass_of_methodNamed B.named
  have hlocks := B.notSynchronized
  have ho := hok.1
  have hk2 := hok.k
  have hf15 := hts (.fieldLink RX3 15 "BallCourt$Laws" "book" "LBallCourt$Book;") (List.mem_of_getElem? (i := 1) (by decide +kernel))
  have hiX3 : ∀ w ∈ wsX30, w ∈ wsX3_countMayBeRuled := fun w h => List.mem_cons_of_mem _ (List.mem_append_left _ (List.mem_append_right _ h))
  have hiX0 : ∀ w ∈ wsX00, w ∈ wsX3_countMayBeRuled := fun w h => List.mem_cons_of_mem _ (List.mem_append_right _ h)
  have hl := lv_entry ([.ref zL, .int so, .int ns, .int rr]) (n := 6) (Nat.le_of_ble_eq_true rfl)
  rw [lg_entry_eq]
  generalize (lg_sl ([.ref zL, .int so, .int ns, .int rr]) ++ List.replicate (6 - (lg_sl ([.ref zL, .int so, .int ns, .int rr])).length) Slot.unset).toArray = ls at hl ⊢
  have hl : lv_has ls 6 [(0, .ref zL), (1, .int so), (2, .int ns), (3, .int rr)] := hl
  refine lv_iconst (v := nI 0) hx hb dX3_countMayBeRuled_0 (by decide) ?_
  refine lv_istore (lv' := [(4, .int (nI 0)), (0, .ref zL), (1, .int so), (2, .int ns), (3, .int rr)]) hx hb dX3_countMayBeRuled_1 hl (by decide) rfl (fun ls hl => ?_)
  refine lv_iconst (v := nI 0) hx hb dX3_countMayBeRuled_3 (by decide) ?_
  refine lv_istore (lv' := [(5, .int (nI 0)), (4, .int (nI 0)), (0, .ref zL), (1, .int so), (2, .int ns), (3, .int rr)]) hx hb dX3_countMayBeRuled_4 hl (by decide) rfl (fun ls hl => ?_)
  refine wloop (α := Nat) (fun v => 2 ^ sF σ - v) (fun v => [(0, .ref zL), (1, .int so), (2, .int ns), (3, .int rr), (4, .int (nI (cnt (mrB σ rp so ns rr) v))), (5, .int (nI v))]) (fun v => (v ≤ 2 ^ sF σ)) 6 (fun v hv ih6 ls hl => ?_) 0 (show 0 ≤ 2 ^ sF σ from Nat.zero_le _) ls (lv_sub hl [2, 3, 4, 5, 1, 0] rfl)
  obtain ⟨k, rfl⟩ : ∃ z : Nat, z = v := ⟨_, rfl⟩
  have hk : k ≤ 2 ^ sF σ := hv
  have hl : lv_has ls 6 [(0, .ref zL), (1, .int so), (2, .int ns), (3, .int rr), (4, .int (nI (cnt (mrB σ rp so ns rr) k))), (5, .int (nI k))] := hl
  refine lv_iload hx hb dX3_countMayBeRuled_6 (lv_at hl 5 rfl) ?_
  refine lv_aload_n hx hb dX3_countMayBeRuled_8 rfl (lv_at hl 0 rfl) ?_
  refine va_get (D := D) (ci := 3) (v := .ref zB) (C := RX3) (T := TX3) (N := 2) hx hb hts hiX3 hown hK hP 0 rfl rfl 0 (by decide) hf15 (fun _ h9 => h9) rfl dX3_countMayBeRuled_9 ?_
  refine va_getN (D := D) (ci := 0) (v := .int (nI (2 ^ sF σ))) (C := RX0) (T := TX0) (N := 11) hx hb hts hiX0 hown hK hP 2 rfl rfl 1 (by decide) (NW.f hN 18 rfl _) (fun _ h9 => h9) rfl dX3_countMayBeRuled_12 ?_
  refine lv_icmp_ge (tgt := 51) hx hb dX3_countMayBeRuled_15 (by decide) (fun c15 => ?_) (fun c15 => ?_)
  · skip
    have c15 := (nI_leI (by omega) (by omega)).mp c15
    refine lv_iload hx hb dX3_countMayBeRuled_51 (lv_at hl 4 rfl) ?_
    exact W.iret (v := nI (cnt (mrB σ rp so ns rr) k)) hx hb hr (fun t ht hW => ⟨_, rfl, by rw [show k = 2 ^ sF σ by omega]; rfl, ht⟩) (fun _ h => absurd h List.not_mem_nil) dX3_countMayBeRuled_53
  · skip
    have c15 := Nat.lt_of_not_le (fun z => c15 ((nI_leI (by omega) (by omega)).mpr z))
    refine lv_aload_n hx hb dX3_countMayBeRuled_18 rfl (lv_at hl 0 rfl) ?_
    refine va_get (D := D) (ci := 3) (v := .ref zB) (C := RX3) (T := TX3) (N := 2) hx hb hts hiX3 hown hK hP 0 rfl rfl 0 (by decide) hf15 (fun _ h9 => h9) rfl dX3_countMayBeRuled_19 ?_
    refine lv_iload hx hb dX3_countMayBeRuled_22 (lv_at hl 5 rfl) ?_
    refine lv_iload_n hx hb dX3_countMayBeRuled_24 rfl (lv_at hl 1 rfl) ?_
    refine lv_iload_n hx hb dX3_countMayBeRuled_25 rfl (lv_at hl 2 rfl) ?_
    refine xpV (rest := []) ⟨hx, hb, hml, hown, hts⟩ (c_X0_mayBe l D cI cZ zB zK zW zU zV zR zE σ kI k so ns hok c15 hkI) (cwV 3 hts gX3_countMayBeRuled_X0_mayBe rfl rfl rfl (by decide +kernel) ⟨Nat.le_of_ble_eq_true rfl, Nat.le_of_ble_eq_true rfl⟩) hP [2, 3] rfl hK hN (ci := 0) (q0 := 2) rfl rfl rfl hl.1 rfl (Nat.le_of_ble_eq_true rfl) dX3_countMayBeRuled_26 ⟨Nat.zero_le _, Nat.zero_le _⟩ (fun r26 e26 => ?_)
    subst e26
    refine lv_if_eq (tgt := 45) hx hb dX3_countMayBeRuled_29 (by decide) (fun c29 => ?_) (fun c29 => ?_)
    · skip
      have c29 := b2_0 c29
      have hl : lv_has ls 6 [(0, .ref zL), (1, .int so), (2, .int ns), (3, .int rr), (4, .int (nI (cnt (mrB σ rp so ns rr) (k + 1)))), (5, .int (nI k))] := by rw [← (show nI (cnt (mrB σ rp so ns rr) k) = nI (cnt (mrB σ rp so ns rr) (k + 1)) from congrArg nI (cnt_n (by simp [mrB, c29])))]; exact hl
      refine lv_iinc (k := 5) (x := nI k) (v := nI (k + 1)) (lv' := [(5, .int (nI (k + 1))), (0, .ref zL), (1, .int so), (2, .int ns), (3, .int rr), (4, .int (nI (cnt (mrB σ rp so ns rr) (k + 1))))]) hx hb dX3_countMayBeRuled_45 hl rfl (show (nI k) + Int32.ofInt 1 = nI (k + 1) from nI_1 _) (by decide) rfl (fun ls hl => ?_)
      refine lv_goto (tgt := 6) hx hb dX3_countMayBeRuled_48 (by decide) ?_
      exact ih6 (k + 1) (show (k + 1) ≤ 2 ^ sF σ from (by omega)) (by show 2 ^ sF σ - (k + 1) < 2 ^ sF σ - k; omega) ls (lv_sub hl [1, 2, 3, 4, 5, 0] rfl)
    · skip
      have c29 := b2_1 c29
      refine lv_aload_n hx hb dX3_countMayBeRuled_32 rfl (lv_at hl 0 rfl) ?_
      refine lv_iload hx hb dX3_countMayBeRuled_33 (lv_at hl 5 rfl) ?_
      refine xpV (rest := []) ⟨hx, hb, hml, hown, hts⟩ (c_X3_rulingFor l D cI cZ zB zL zK zW zU zV zR zE zLo σ lo rp k hok c15 hlo) (cwV 1 hts gX3_countMayBeRuled_X3_rulingFor rfl rfl rfl (by decide +kernel) ⟨Nat.le_of_ble_eq_true rfl, Nat.le_of_ble_eq_true rfl⟩) hP [0, 1, 2, 4] rfl hK hN (ci := 3) (q0 := 0) rfl rfl rfl hl.1 rfl (Nat.le_of_ble_eq_true rfl) dX3_countMayBeRuled_35 ⟨Nat.zero_le _, Nat.zero_le _⟩ (fun r35 e35 => ?_)
      subst e35
      refine lv_iload_n hx hb dX3_countMayBeRuled_38 rfl (lv_at hl 3 rfl) ?_
      refine lv_icmp_ne (tgt := 45) hx hb dX3_countMayBeRuled_39 (by decide) (fun c39 => ?_) (fun c39 => ?_)
      · skip
        have hl : lv_has ls 6 [(0, .ref zL), (1, .int so), (2, .int ns), (3, .int rr), (4, .int (nI (cnt (mrB σ rp so ns rr) (k + 1)))), (5, .int (nI k))] := by rw [← (show nI (cnt (mrB σ rp so ns rr) k) = nI (cnt (mrB σ rp so ns rr) (k + 1)) from congrArg nI (cnt_n (by simp [mrB, c39])))]; exact hl
        refine lv_iinc (k := 5) (x := nI k) (v := nI (k + 1)) (lv' := [(5, .int (nI (k + 1))), (0, .ref zL), (1, .int so), (2, .int ns), (3, .int rr), (4, .int (nI (cnt (mrB σ rp so ns rr) (k + 1))))]) hx hb dX3_countMayBeRuled_45 hl rfl (show (nI k) + Int32.ofInt 1 = nI (k + 1) from nI_1 _) (by decide) rfl (fun ls hl => ?_)
        refine lv_goto (tgt := 6) hx hb dX3_countMayBeRuled_48 (by decide) ?_
        exact ih6 (k + 1) (show (k + 1) ≤ 2 ^ sF σ from (by omega)) (by show 2 ^ sF σ - (k + 1) < 2 ^ sF σ - k; omega) ls (lv_sub hl [1, 2, 3, 4, 5, 0] rfl)
      · skip
        refine lv_iinc (k := 4) (x := nI (cnt (mrB σ rp so ns rr) k)) (v := nI (cnt (mrB σ rp so ns rr) (k + 1))) (lv' := [(4, .int (nI (cnt (mrB σ rp so ns rr) (k + 1)))), (0, .ref zL), (1, .int so), (2, .int ns), (3, .int rr), (5, .int (nI k))]) hx hb dX3_countMayBeRuled_42 hl rfl (show (nI (cnt (mrB σ rp so ns rr) k)) + Int32.ofInt 1 = nI (cnt (mrB σ rp so ns rr) (k + 1)) from cnt_y (by simp [mrB, c29, c39])) (by decide) rfl (fun ls hl => ?_)
        refine lv_iinc (k := 5) (x := nI k) (v := nI (k + 1)) (lv' := [(5, .int (nI (k + 1))), (4, .int (nI (cnt (mrB σ rp so ns rr) (k + 1)))), (0, .ref zL), (1, .int so), (2, .int ns), (3, .int rr)]) hx hb dX3_countMayBeRuled_45 hl rfl (show (nI k) + Int32.ofInt 1 = nI (k + 1) from nI_1 _) (by decide) rfl (fun ls hl => ?_)
        refine lv_goto (tgt := 6) hx hb dX3_countMayBeRuled_48 (by decide) ?_
        exact ih6 (k + 1) (show (k + 1) ≤ 2 ^ sF σ from (by omega)) (by show 2 ^ sF σ - (k + 1) < 2 ^ sF σ - k; omega) ls (lv_sub hl [2, 3, 4, 5, 1, 0] rfl)

set_option maxHeartbeats 4000000 in
set_option maxRecDepth 100000 in
theorem c_X3_rulingForAll (l : Launch) (D : va_G) (cI cZ : ClassId) (zB : Nat) (zL : Nat) (zK : Nat) (zW : Nat) (zU : Nat) (zV : Nat) (zR : Nat) (zE : Nat) (zLo : Nat) (σ : ST) (kI : Nat → Int32) (lo : Nat → Int32) (rp : Int32) (so : Int32) (ns : Int32) (hok : Ok σ) (hkI : ∀ k, k < 2 ^ sF σ → kI k = b2 (kok σ k)) (hlo : ∀ k, k < 2 ^ sF σ → lo k = lawI σ rp k) : Met l yX3_rulingForAll wsX3_rulingForAll ({ frames := 2, cells := 0, slots := 0, locals := 42 }) (va_Pc [.ref zL, .int so, .int ns] (XP D cI cZ [(zL, .inr (3, [.ref zB, .ref zLo])), (zLo, .inl (cI, 128, .inl lo)), (zB, .inr (0, [.int (nI (sF σ)), .int (nI (2 ^ sF σ)), .ref zK, .ref zW, .int (nI (sN σ)), .int (sR σ), .int (orE (rEr σ) (sN σ)), .ref zU, .ref zV, .ref zR, .ref zE])), (zK, .inl (cZ, 128, .inl kI)), (zR, .inl (cI, 12, .inl (rRu σ)))])) (vp_Si (fun r => r = rfaI σ rp so ns)) 0 0 (fun _ => False) := by
  refine Met.ofW (cc := cX3_rulingForAll) (maxL := 6) (ret := (some .int)) (by decide) rfl ?_
  intro p e s m args below meth c s₁ B hml hv
  obtain ⟨rfl, hP, hK, hN⟩ := hv
  have hx := B.exec
  have hb := B.bytes
  have hr := B.returns
  have hts := atoms_spec (ws := wsX3_rulingForAll) B.pre
  have hown : s.vm.findClass RX3 = some m.cls := findClass_of_methodNamed B.named
  have hlocks := B.notSynchronized
  have ho := hok.1
  have hk2 := hok.k
  have hf15 := hts (.fieldLink RX3 15 "BallCourt$Laws" "book" "LBallCourt$Book;") (List.mem_of_getElem? (i := 1) (by decide +kernel))
  have hiX3 : ∀ w ∈ wsX30, w ∈ wsX3_rulingForAll := fun w h => List.mem_cons_of_mem _ (List.mem_append_left _ (List.mem_append_right _ h))
  have hiX0 : ∀ w ∈ wsX00, w ∈ wsX3_rulingForAll := fun w h => List.mem_cons_of_mem _ (List.mem_append_right _ h)
  have hl := lv_entry ([.ref zL, .int so, .int ns]) (n := 6) (Nat.le_of_ble_eq_true rfl)
  rw [lg_entry_eq]
  generalize (lg_sl ([.ref zL, .int so, .int ns]) ++ List.replicate (6 - (lg_sl ([.ref zL, .int so, .int ns])).length) Slot.unset).toArray = ls at hl ⊢
  have hl : lv_has ls 6 [(0, .ref zL), (1, .int so), (2, .int ns)] := hl
  refine lv_iconst (v := (-1)) hx hb dX3_rulingForAll_0 (by decide) ?_
  refine lv_istore_n (lv' := [(3, .int (-1)), (0, .ref zL), (1, .int so), (2, .int ns)]) hx hb dX3_rulingForAll_1 rfl hl (by decide) rfl (fun ls hl => ?_)
  refine lv_iconst (v := nI 0) hx hb dX3_rulingForAll_2 (by decide) ?_
  refine lv_istore (lv' := [(4, .int (nI 0)), (3, .int (-1)), (0, .ref zL), (1, .int so), (2, .int ns)]) hx hb dX3_rulingForAll_3 hl (by decide) rfl (fun ls hl => ?_)
  refine wloop (α := Nat × Int32) (fun v => 2 ^ sF σ - v.1) (fun v => [(0, .ref zL), (1, .int so), (2, .int ns), (3, .int v.2), (4, .int (nI v.1))]) (fun v => (v.1 ≤ 2 ^ sF σ) ∧ (rfV σ rp so ns v.1 v.2)) 6 (fun v hv ih5 ls hl => ?_) (0, (-1)) ⟨(show 0 ≤ 2 ^ sF σ from Nat.zero_le _), (show rfV σ rp so ns 0 (-1) from Or.inl ⟨rfl, fun j hj => absurd hj (Nat.not_lt_zero _)⟩)⟩ ls (lv_sub hl [2, 3, 4, 1, 0] rfl)
  obtain ⟨k, x⟩ := v
  obtain ⟨hk, hv⟩ := hv
  have hk : k ≤ 2 ^ sF σ := hk
  have hv : rfV σ rp so ns k x := hv
  have hl : lv_has ls 6 [(0, .ref zL), (1, .int so), (2, .int ns), (3, .int x), (4, .int (nI k))] := hl
  refine lv_iload hx hb dX3_rulingForAll_5 (lv_at hl 4 rfl) ?_
  refine lv_aload_n hx hb dX3_rulingForAll_7 rfl (lv_at hl 0 rfl) ?_
  refine va_get (D := D) (ci := 3) (v := .ref zB) (C := RX3) (T := TX3) (N := 2) hx hb hts hiX3 hown hK hP 0 rfl rfl 0 (by decide) hf15 (fun _ h9 => h9) rfl dX3_rulingForAll_8 ?_
  refine va_getN (D := D) (ci := 0) (v := .int (nI (2 ^ sF σ))) (C := RX0) (T := TX0) (N := 11) hx hb hts hiX0 hown hK hP 2 rfl rfl 1 (by decide) (NW.f hN 18 rfl _) (fun _ h9 => h9) rfl dX3_rulingForAll_11 ?_
  refine lv_icmp_ge (tgt := 61) hx hb dX3_rulingForAll_14 (by decide) (fun c14 => ?_) (fun c14 => ?_)
  · skip
    have c14 := (nI_leI (by omega) (by omega)).mp c14
    refine lv_iload_n hx hb dX3_rulingForAll_61 rfl (lv_at hl 3 rfl) ?_
    refine lv_iconst (v := (-1)) hx hb dX3_rulingForAll_62 (by decide) ?_
    refine lv_icmp_ne (tgt := 70) hx hb dX3_rulingForAll_63 (by decide) (fun c63 => ?_) (fun c63 => ?_)
    · skip
      refine lv_iload_n hx hb dX3_rulingForAll_70 rfl (lv_at hl 3 rfl) ?_
      exact W.iret (v := x) hx hb hr (fun t ht hW => ⟨_, rfl, (rfa_one (show k = 2 ^ sF σ by omega) hv c63).symm, ht⟩) (fun _ h => absurd h List.not_mem_nil) dX3_rulingForAll_71
    · skip
      refine lv_iconst (v := 0) hx hb dX3_rulingForAll_66 (by decide) ?_
      refine lv_goto (tgt := 71) hx hb dX3_rulingForAll_67 (by decide) ?_
      exact W.iret (v := 0) hx hb hr (fun t ht hW => ⟨_, rfl, (rfa_none (show k = 2 ^ sF σ by omega) hv c63).symm, ht⟩) (fun _ h => absurd h List.not_mem_nil) dX3_rulingForAll_71
  · skip
    have c14 := Nat.lt_of_not_le (fun z => c14 ((nI_leI (by omega) (by omega)).mpr z))
    refine lv_aload_n hx hb dX3_rulingForAll_17 rfl (lv_at hl 0 rfl) ?_
    refine va_get (D := D) (ci := 3) (v := .ref zB) (C := RX3) (T := TX3) (N := 2) hx hb hts hiX3 hown hK hP 0 rfl rfl 0 (by decide) hf15 (fun _ h9 => h9) rfl dX3_rulingForAll_18 ?_
    refine lv_iload hx hb dX3_rulingForAll_21 (lv_at hl 4 rfl) ?_
    refine lv_iload_n hx hb dX3_rulingForAll_23 rfl (lv_at hl 1 rfl) ?_
    refine lv_iload_n hx hb dX3_rulingForAll_24 rfl (lv_at hl 2 rfl) ?_
    refine xpV (rest := []) ⟨hx, hb, hml, hown, hts⟩ (c_X0_mayBe l D cI cZ zB zK zW zU zV zR zE σ kI k so ns hok c14 hkI) (cwV 3 hts gX3_rulingForAll_X0_mayBe rfl rfl rfl (by decide +kernel) ⟨Nat.le_of_ble_eq_true rfl, Nat.le_of_ble_eq_true rfl⟩) hP [2, 3] rfl hK hN (ci := 0) (q0 := 2) rfl rfl rfl hl.1 rfl (Nat.le_of_ble_eq_true rfl) dX3_rulingForAll_25 ⟨Nat.zero_le _, Nat.zero_le _⟩ (fun r25 e25 => ?_)
    subst e25
    refine lv_if_eq (tgt := 55) hx hb dX3_rulingForAll_28 (by decide) (fun c28 => ?_) (fun c28 => ?_)
    · skip
      have c28 := b2_0 c28
      refine lv_iinc (k := 4) (x := nI k) (v := nI (k + 1)) (lv' := [(4, .int (nI (k + 1))), (0, .ref zL), (1, .int so), (2, .int ns), (3, .int x)]) hx hb dX3_rulingForAll_55 hl rfl (show (nI k) + Int32.ofInt 1 = nI (k + 1) from nI_1 _) (by decide) rfl (fun ls hl => ?_)
      refine lv_goto (tgt := 5) hx hb dX3_rulingForAll_58 (by decide) ?_
      exact ih5 (k + 1, x) ⟨(show (k + 1) ≤ 2 ^ sF σ from (by omega)), (show rfV σ rp so ns (k + 1) x from rfa_skip hv c28)⟩ (by show 2 ^ sF σ - (k + 1) < 2 ^ sF σ - k; omega) ls (lv_sub hl [1, 2, 3, 4, 0] rfl)
    · skip
      have c28 := b2_1 c28
      refine lv_aload_n hx hb dX3_rulingForAll_31 rfl (lv_at hl 0 rfl) ?_
      refine lv_iload hx hb dX3_rulingForAll_32 (lv_at hl 4 rfl) ?_
      refine xpV (rest := []) ⟨hx, hb, hml, hown, hts⟩ (c_X3_rulingFor l D cI cZ zB zL zK zW zU zV zR zE zLo σ lo rp k hok c14 hlo) (cwV 1 hts gX3_rulingForAll_X3_rulingFor rfl rfl rfl (by decide +kernel) ⟨Nat.le_of_ble_eq_true rfl, Nat.le_of_ble_eq_true rfl⟩) hP [0, 1, 2, 4] rfl hK hN (ci := 3) (q0 := 0) rfl rfl rfl hl.1 rfl (Nat.le_of_ble_eq_true rfl) dX3_rulingForAll_34 ⟨Nat.zero_le _, Nat.zero_le _⟩ (fun r34 e34 => ?_)
      subst e34
      refine lv_istore (lv' := [(5, .int (rulI σ rp k)), (0, .ref zL), (1, .int so), (2, .int ns), (3, .int x), (4, .int (nI k))]) hx hb dX3_rulingForAll_37 hl (by decide) rfl (fun ls hl => ?_)
      refine lv_iload_n hx hb dX3_rulingForAll_39 rfl (lv_at hl 4 rfl) ?_
      refine lv_iconst (v := (-1)) hx hb dX3_rulingForAll_40 (by decide) ?_
      refine lv_icmp_eq (tgt := 52) hx hb dX3_rulingForAll_41 (by decide) (fun c41 => ?_) (fun c41 => ?_)
      · skip
        refine lv_iload hx hb dX3_rulingForAll_52 (lv_at hl 0 rfl) ?_
        refine lv_istore_n (lv' := [(3, .int (rulI σ rp k)), (5, .int (rulI σ rp k)), (0, .ref zL), (1, .int so), (2, .int ns), (4, .int (nI k))]) hx hb dX3_rulingForAll_54 rfl hl (by decide) rfl (fun ls hl => ?_)
        refine lv_iinc (k := 5) (x := nI k) (v := nI (k + 1)) (lv' := [(4, .int (nI (k + 1))), (3, .int (rulI σ rp k)), (5, .int (rulI σ rp k)), (0, .ref zL), (1, .int so), (2, .int ns)]) hx hb dX3_rulingForAll_55 hl rfl (show (nI k) + Int32.ofInt 1 = nI (k + 1) from nI_1 _) (by decide) rfl (fun ls hl => ?_)
        refine lv_goto (tgt := 5) hx hb dX3_rulingForAll_58 (by decide) ?_
        exact ih5 (k + 1, rulI σ rp k) ⟨(show (k + 1) ≤ 2 ^ sF σ from (by omega)), (show rfV σ rp so ns (k + 1) (rulI σ rp k) from rfa_step hok c14 hv c28 (Or.inl c41))⟩ (by show 2 ^ sF σ - (k + 1) < 2 ^ sF σ - k; omega) ls (lv_sub hl [3, 4, 5, 1, 0] rfl)
      · skip
        refine lv_iload_n hx hb dX3_rulingForAll_44 rfl (lv_at hl 4 rfl) ?_
        refine lv_iload hx hb dX3_rulingForAll_45 (lv_at hl 0 rfl) ?_
        refine lv_icmp_eq (tgt := 52) hx hb dX3_rulingForAll_47 (by decide) (fun c47 => ?_) (fun c47 => ?_)
        · skip
          refine lv_iload hx hb dX3_rulingForAll_52 (lv_at hl 0 rfl) ?_
          refine lv_istore_n (lv' := [(3, .int (rulI σ rp k)), (5, .int (rulI σ rp k)), (0, .ref zL), (1, .int so), (2, .int ns), (4, .int (nI k))]) hx hb dX3_rulingForAll_54 rfl hl (by decide) rfl (fun ls hl => ?_)
          refine lv_iinc (k := 5) (x := nI k) (v := nI (k + 1)) (lv' := [(4, .int (nI (k + 1))), (3, .int (rulI σ rp k)), (5, .int (rulI σ rp k)), (0, .ref zL), (1, .int so), (2, .int ns)]) hx hb dX3_rulingForAll_55 hl rfl (show (nI k) + Int32.ofInt 1 = nI (k + 1) from nI_1 _) (by decide) rfl (fun ls hl => ?_)
          refine lv_goto (tgt := 5) hx hb dX3_rulingForAll_58 (by decide) ?_
          exact ih5 (k + 1, rulI σ rp k) ⟨(show (k + 1) ≤ 2 ^ sF σ from (by omega)), (show rfV σ rp so ns (k + 1) (rulI σ rp k) from rfa_step hok c14 hv c28 (Or.inr c47))⟩ (by show 2 ^ sF σ - (k + 1) < 2 ^ sF σ - k; omega) ls (lv_sub hl [3, 4, 5, 1, 0] rfl)
        · skip
          refine lv_iconst (v := 0) hx hb dX3_rulingForAll_50 (by decide) ?_
          exact W.iret (v := 0) hx hb hr (fun t ht hW => ⟨_, rfl, (rfa_two c14 hv c28 c41 c47).symm, ht⟩) (fun _ h => absurd h List.not_mem_nil) dX3_rulingForAll_51

set_option maxHeartbeats 4000000 in
set_option maxRecDepth 100000 in
theorem c_X4_ofAll (l : Launch) (D : va_G) (cI cZ : ClassId) (zS : Nat) (tr : Nat → Int32) (k : Nat) (hk : k < 30) : Met l yX4_ofAll wsX4_ofAll ({ frames := 0, cells := 0, slots := 0, locals := 0 }) (va_Pc [.ref zS, .int (nI k)] (XP D cI cZ [(zS, .inl (cI, 90, .inl tr))])) (vp_Si (fun r => r = yesI tr k)) 0 0 (fun _ => False) := by
  refine Met.ofW (cc := cX4_ofAll) (maxL := 4) (ret := (some .int)) (by decide) rfl ?_
  intro p e s m args below meth c s₁ B hml hv
  obtain ⟨rfl, hP, hK, hN⟩ := hv
  have hx := B.exec
  have hb := B.bytes
  have hr := B.returns
  have hts := atoms_spec (ws := wsX4_ofAll) B.pre
  have hown : s.vm.findClass RX4 = some m.cls := findClass_of_methodNamed B.named
  have hlocks := B.notSynchronized
  have hl := lv_entry ([.ref zS, .int (nI k)]) (n := 4) (Nat.le_of_ble_eq_true rfl)
  rw [lg_entry_eq]
  generalize (lg_sl ([.ref zS, .int (nI k)]) ++ List.replicate (4 - (lg_sl ([.ref zS, .int (nI k)])).length) Slot.unset).toArray = ls at hl ⊢
  have hl : lv_has ls 4 [(0, .ref zS), (1, .int (nI k))] := hl
  refine lv_iconst (v := 0) hx hb dX4_ofAll_0 (by decide) ?_
  refine lv_istore_n (lv' := [(2, .int 0), (0, .ref zS), (1, .int (nI k))]) hx hb dX4_ofAll_1 rfl hl (by decide) rfl (fun ls hl => ?_)
  refine lv_iconst (v := nI 0) hx hb dX4_ofAll_2 (by decide) ?_
  refine lv_istore_n (lv' := [(3, .int (nI 0)), (2, .int 0), (0, .ref zS), (1, .int (nI k))]) hx hb dX4_ofAll_3 rfl hl (by decide) rfl (fun ls hl => ?_)
  refine lv_iload_n hx hb dX4_ofAll_4 rfl (lv_at hl 0 rfl) ?_
  refine lv_iconst (v := nI 3) hx hb dX4_ofAll_5 (by decide) ?_
  refine lv_icmp_ge (tgt := 25) hx hb dX4_ofAll_6 (by decide) (fun c6 => ?_) (fun c6 => ?_)
  · skip
    exact absurd c6 (by decide)
  · skip
    refine lv_iload_n hx hb dX4_ofAll_9 rfl (lv_at hl 1 rfl) ?_
    refine lv_aload_n hx hb dX4_ofAll_10 rfl (lv_at hl 2 rfl) ?_
    refine lv_iload_n hx hb dX4_ofAll_11 rfl (lv_at hl 3 rfl) ?_
    refine lv_iconst (v := nI 3) hx hb dX4_ofAll_12 (by decide) ?_
    refine lv_imul hx hb dX4_ofAll_13 ?_
    refine lv_asi (show (nI k) * (nI 3) = nI (3 * k) from by rw [pk_mul, Nat.mul_comm]) ?_
    refine lv_iload_n hx hb dX4_ofAll_14 rfl (lv_at hl 0 rfl) ?_
    refine lv_iadd hx hb dX4_ofAll_15 ?_
    refine lv_asi (show (nI (3 * k)) + (nI 0) = nI (3 * k + 0) from nI_add _ _) ?_
    refine xald (k := (3 * k + 0)) hx hb hK hP 0 rfl (by omega) (by decide) dX4_ofAll_16 ?_
    refine lv_ior hx hb dX4_ofAll_17 ?_
    refine lv_istore_n (lv' := [(2, .int (0 ||| (tr (3 * k + 0)))), (3, .int (nI 0)), (0, .ref zS), (1, .int (nI k))]) hx hb dX4_ofAll_18 rfl hl (by decide) rfl (fun ls hl => ?_)
    refine lv_iinc (k := 1) (x := nI 0) (v := nI 1) (lv' := [(3, .int (nI 1)), (2, .int (0 ||| (tr (3 * k + 0)))), (0, .ref zS), (1, .int (nI k))]) hx hb dX4_ofAll_19 hl rfl (show (nI 0) + Int32.ofInt 1 = nI 1 from (by decide)) (by decide) rfl (fun ls hl => ?_)
    refine lv_goto (tgt := 4) hx hb dX4_ofAll_22 (by decide) ?_
    refine lv_iload_n hx hb dX4_ofAll_4 rfl (lv_at hl 0 rfl) ?_
    refine lv_iconst (v := nI 3) hx hb dX4_ofAll_5 (by decide) ?_
    refine lv_icmp_ge (tgt := 25) hx hb dX4_ofAll_6 (by decide) (fun c6 => ?_) (fun c6 => ?_)
    · skip
      exact absurd c6 (by decide)
    · skip
      refine lv_iload_n hx hb dX4_ofAll_9 rfl (lv_at hl 1 rfl) ?_
      refine lv_aload_n hx hb dX4_ofAll_10 rfl (lv_at hl 2 rfl) ?_
      refine lv_iload_n hx hb dX4_ofAll_11 rfl (lv_at hl 3 rfl) ?_
      refine lv_iconst (v := nI 3) hx hb dX4_ofAll_12 (by decide) ?_
      refine lv_imul hx hb dX4_ofAll_13 ?_
      refine lv_asi (show (nI k) * (nI 3) = nI (3 * k) from by rw [pk_mul, Nat.mul_comm]) ?_
      refine lv_iload_n hx hb dX4_ofAll_14 rfl (lv_at hl 0 rfl) ?_
      refine lv_iadd hx hb dX4_ofAll_15 ?_
      refine lv_asi (show (nI (3 * k)) + (nI 1) = nI (3 * k + 1) from nI_add _ _) ?_
      refine xald (k := (3 * k + 1)) hx hb hK hP 0 rfl (by omega) (by decide) dX4_ofAll_16 ?_
      refine lv_ior hx hb dX4_ofAll_17 ?_
      refine lv_istore_n (lv' := [(2, .int ((0 ||| (tr (3 * k + 0))) ||| (tr (3 * k + 1)))), (3, .int (nI 1)), (0, .ref zS), (1, .int (nI k))]) hx hb dX4_ofAll_18 rfl hl (by decide) rfl (fun ls hl => ?_)
      refine lv_iinc (k := 1) (x := nI 1) (v := nI 2) (lv' := [(3, .int (nI 2)), (2, .int ((0 ||| (tr (3 * k + 0))) ||| (tr (3 * k + 1)))), (0, .ref zS), (1, .int (nI k))]) hx hb dX4_ofAll_19 hl rfl (show (nI 1) + Int32.ofInt 1 = nI 2 from (by decide)) (by decide) rfl (fun ls hl => ?_)
      refine lv_goto (tgt := 4) hx hb dX4_ofAll_22 (by decide) ?_
      refine lv_iload_n hx hb dX4_ofAll_4 rfl (lv_at hl 0 rfl) ?_
      refine lv_iconst (v := nI 3) hx hb dX4_ofAll_5 (by decide) ?_
      refine lv_icmp_ge (tgt := 25) hx hb dX4_ofAll_6 (by decide) (fun c6 => ?_) (fun c6 => ?_)
      · skip
        exact absurd c6 (by decide)
      · skip
        refine lv_iload_n hx hb dX4_ofAll_9 rfl (lv_at hl 1 rfl) ?_
        refine lv_aload_n hx hb dX4_ofAll_10 rfl (lv_at hl 2 rfl) ?_
        refine lv_iload_n hx hb dX4_ofAll_11 rfl (lv_at hl 3 rfl) ?_
        refine lv_iconst (v := nI 3) hx hb dX4_ofAll_12 (by decide) ?_
        refine lv_imul hx hb dX4_ofAll_13 ?_
        refine lv_asi (show (nI k) * (nI 3) = nI (3 * k) from by rw [pk_mul, Nat.mul_comm]) ?_
        refine lv_iload_n hx hb dX4_ofAll_14 rfl (lv_at hl 0 rfl) ?_
        refine lv_iadd hx hb dX4_ofAll_15 ?_
        refine lv_asi (show (nI (3 * k)) + (nI 2) = nI (3 * k + 2) from nI_add _ _) ?_
        refine xald (k := (3 * k + 2)) hx hb hK hP 0 rfl (by omega) (by decide) dX4_ofAll_16 ?_
        refine lv_ior hx hb dX4_ofAll_17 ?_
        refine lv_istore_n (lv' := [(2, .int (((0 ||| (tr (3 * k + 0))) ||| (tr (3 * k + 1))) ||| (tr (3 * k + 2)))), (3, .int (nI 2)), (0, .ref zS), (1, .int (nI k))]) hx hb dX4_ofAll_18 rfl hl (by decide) rfl (fun ls hl => ?_)
        refine lv_iinc (k := 1) (x := nI 2) (v := nI 3) (lv' := [(3, .int (nI 3)), (2, .int (((0 ||| (tr (3 * k + 0))) ||| (tr (3 * k + 1))) ||| (tr (3 * k + 2)))), (0, .ref zS), (1, .int (nI k))]) hx hb dX4_ofAll_19 hl rfl (show (nI 2) + Int32.ofInt 1 = nI 3 from (by decide)) (by decide) rfl (fun ls hl => ?_)
        refine lv_goto (tgt := 4) hx hb dX4_ofAll_22 (by decide) ?_
        refine lv_iload_n hx hb dX4_ofAll_4 rfl (lv_at hl 0 rfl) ?_
        refine lv_iconst (v := nI 3) hx hb dX4_ofAll_5 (by decide) ?_
        refine lv_icmp_ge (tgt := 25) hx hb dX4_ofAll_6 (by decide) (fun c6 => ?_) (fun c6 => ?_)
        · skip
          refine lv_iload_n hx hb dX4_ofAll_25 rfl (lv_at hl 1 rfl) ?_
          exact W.iret (v := ((0 ||| (tr (3 * k + 0))) ||| (tr (3 * k + 1))) ||| (tr (3 * k + 2))) hx hb hr (fun t ht hW => ⟨_, rfl, by rw [or_0']; rfl, ht⟩) (fun _ h => absurd h List.not_mem_nil) dX4_ofAll_26
        · skip
          exact absurd (by decide) c6

set_option maxHeartbeats 4000000 in
set_option maxRecDepth 100000 in
theorem c_X4_knownSo (l : Launch) (D : va_G) (cI cZ : ClassId) (zM : Nat) (zS : Nat) (zT : Nat) (zD : Nat) (σ : ST) (k : Nat) (hk : k < 30) : Met l yX4_knownSo wsX4_knownSo ({ frames := 1, cells := 0, slots := 0, locals := 23 }) (va_Pc [.ref zM, .int (nI k)] (XP D cI cZ [(zM, .inr (4, [.int (nI (sM σ)), .ref zS, .ref zT, .ref zD])), (zS, .inl (cI, 90, .inl (rTs σ))), (zT, .inl (cI, 90, .inl (rTn σ)))])) (vp_Si (fun r => r = soI σ k)) 0 0 (fun _ => False) := by
  refine Met.ofW (cc := cX4_knownSo) (maxL := 2) (ret := (some .int)) (by decide) rfl ?_
  intro p e s m args below meth c s₁ B hml hv
  obtain ⟨rfl, hP, hK, hN⟩ := hv
  have hx := B.exec
  have hb := B.bytes
  have hr := B.returns
  have hts := atoms_spec (ws := wsX4_knownSo) B.pre
  have hown : s.vm.findClass RX4 = some m.cls := findClass_of_methodNamed B.named
  have hlocks := B.notSynchronized
  have hf9 := hts (.fieldLink RX4 9 "BallCourt$Moments" "toldSo" "[I") (List.mem_of_getElem? (i := 1) (by decide +kernel))
  have hiX4 : ∀ w ∈ wsX40, w ∈ wsX4_knownSo := fun w h => List.mem_cons_of_mem _ (List.mem_append_right _ h)
  have hf15 := hts (.fieldLink RX4 15 "BallCourt$Moments" "toldNotSo" "[I") (List.mem_of_getElem? (i := 2) (by decide +kernel))
  have hl := lv_entry ([.ref zM, .int (nI k)]) (n := 2) (Nat.le_of_ble_eq_true rfl)
  rw [lg_entry_eq]
  generalize (lg_sl ([.ref zM, .int (nI k)]) ++ List.replicate (2 - (lg_sl ([.ref zM, .int (nI k)])).length) Slot.unset).toArray = ls at hl ⊢
  have hl : lv_has ls 2 [(0, .ref zM), (1, .int (nI k))] := hl
  refine lv_aload_n hx hb dX4_knownSo_0 rfl (lv_at hl 0 rfl) ?_
  refine va_get (D := D) (ci := 4) (v := .ref zS) (C := RX4) (T := TX4) (N := 4) hx hb hts hiX4 hown hK hP 0 rfl rfl 1 (by decide) hf9 (fun _ h9 => h9) rfl dX4_knownSo_1 ?_
  refine lv_iload_n hx hb dX4_knownSo_4 rfl (lv_at hl 1 rfl) ?_
  refine xpS (rest := []) ⟨hx, hb, hml, hown, hts⟩ (c_X4_ofAll l D cI cZ zS (rTs σ) k hk) (va_cwS 2 hts gX4_knownSo_X4_ofAll rfl rfl rfl (by decide +kernel) ⟨Nat.le_of_ble_eq_true rfl, Nat.le_of_ble_eq_true rfl⟩) hP [1] rfl hK hN rfl hl.1 rfl (Nat.le_of_ble_eq_true rfl) dX4_knownSo_5 ⟨Nat.zero_le _, Nat.zero_le _⟩ (fun r5 e5 => ?_)
  subst e5
  refine lv_aload_n hx hb dX4_knownSo_8 rfl (lv_at hl 0 rfl) ?_
  refine va_get (D := D) (ci := 4) (v := .ref zT) (C := RX4) (T := TX4) (N := 4) hx hb hts hiX4 hown hK hP 0 rfl rfl 2 (by decide) hf15 (fun _ h9 => h9) rfl dX4_knownSo_9 ?_
  refine lv_iload_n hx hb dX4_knownSo_12 rfl (lv_at hl 1 rfl) ?_
  refine xpS (rest := [.int (yesI (rTs σ) k)]) ⟨hx, hb, hml, hown, hts⟩ (c_X4_ofAll l D cI cZ zT (rTn σ) k hk) (va_cwS 2 hts gX4_knownSo_X4_ofAll rfl rfl rfl (by decide +kernel) ⟨Nat.le_of_ble_eq_true rfl, Nat.le_of_ble_eq_true rfl⟩) hP [2] rfl hK hN rfl hl.1 rfl (Nat.le_of_ble_eq_true rfl) dX4_knownSo_13 ⟨Nat.zero_le _, Nat.zero_le _⟩ (fun r13 e13 => ?_)
  subst e13
  refine lv_iconst (v := (-1)) hx hb dX4_knownSo_16 (by decide) ?_
  refine lv_ixor hx hb dX4_knownSo_17 ?_
  refine lv_iand hx hb dX4_knownSo_18 ?_
  exact W.iret (v := (yesI (rTs σ) k) &&& ((yesI (rTn σ) k) ^^^ (-1))) hx hb hr (fun t ht hW => ⟨_, rfl, rfl, ht⟩) (fun _ h => absurd h List.not_mem_nil) dX4_knownSo_19

set_option maxHeartbeats 4000000 in
set_option maxRecDepth 100000 in
theorem c_X4_knownNotSo (l : Launch) (D : va_G) (cI cZ : ClassId) (zM : Nat) (zS : Nat) (zT : Nat) (zD : Nat) (σ : ST) (k : Nat) (hk : k < 30) : Met l yX4_knownNotSo wsX4_knownNotSo ({ frames := 1, cells := 0, slots := 0, locals := 23 }) (va_Pc [.ref zM, .int (nI k)] (XP D cI cZ [(zM, .inr (4, [.int (nI (sM σ)), .ref zS, .ref zT, .ref zD])), (zS, .inl (cI, 90, .inl (rTs σ))), (zT, .inl (cI, 90, .inl (rTn σ)))])) (vp_Si (fun r => r = nsI σ k)) 0 0 (fun _ => False) := by
  refine Met.ofW (cc := cX4_knownNotSo) (maxL := 2) (ret := (some .int)) (by decide) rfl ?_
  intro p e s m args below meth c s₁ B hml hv
  obtain ⟨rfl, hP, hK, hN⟩ := hv
  have hx := B.exec
  have hb := B.bytes
  have hr := B.returns
  have hts := atoms_spec (ws := wsX4_knownNotSo) B.pre
  have hown : s.vm.findClass RX4 = some m.cls := findClass_of_methodNamed B.named
  have hlocks := B.notSynchronized
  have hf15 := hts (.fieldLink RX4 15 "BallCourt$Moments" "toldNotSo" "[I") (List.mem_of_getElem? (i := 1) (by decide +kernel))
  have hiX4 : ∀ w ∈ wsX40, w ∈ wsX4_knownNotSo := fun w h => List.mem_cons_of_mem _ (List.mem_append_right _ h)
  have hf9 := hts (.fieldLink RX4 9 "BallCourt$Moments" "toldSo" "[I") (List.mem_of_getElem? (i := 2) (by decide +kernel))
  have hl := lv_entry ([.ref zM, .int (nI k)]) (n := 2) (Nat.le_of_ble_eq_true rfl)
  rw [lg_entry_eq]
  generalize (lg_sl ([.ref zM, .int (nI k)]) ++ List.replicate (2 - (lg_sl ([.ref zM, .int (nI k)])).length) Slot.unset).toArray = ls at hl ⊢
  have hl : lv_has ls 2 [(0, .ref zM), (1, .int (nI k))] := hl
  refine lv_aload_n hx hb dX4_knownNotSo_0 rfl (lv_at hl 0 rfl) ?_
  refine va_get (D := D) (ci := 4) (v := .ref zT) (C := RX4) (T := TX4) (N := 4) hx hb hts hiX4 hown hK hP 0 rfl rfl 2 (by decide) hf15 (fun _ h9 => h9) rfl dX4_knownNotSo_1 ?_
  refine lv_iload_n hx hb dX4_knownNotSo_4 rfl (lv_at hl 1 rfl) ?_
  refine xpS (rest := []) ⟨hx, hb, hml, hown, hts⟩ (c_X4_ofAll l D cI cZ zT (rTn σ) k hk) (va_cwS 2 hts gX4_knownNotSo_X4_ofAll rfl rfl rfl (by decide +kernel) ⟨Nat.le_of_ble_eq_true rfl, Nat.le_of_ble_eq_true rfl⟩) hP [2] rfl hK hN rfl hl.1 rfl (Nat.le_of_ble_eq_true rfl) dX4_knownNotSo_5 ⟨Nat.zero_le _, Nat.zero_le _⟩ (fun r5 e5 => ?_)
  subst e5
  refine lv_aload_n hx hb dX4_knownNotSo_8 rfl (lv_at hl 0 rfl) ?_
  refine va_get (D := D) (ci := 4) (v := .ref zS) (C := RX4) (T := TX4) (N := 4) hx hb hts hiX4 hown hK hP 0 rfl rfl 1 (by decide) hf9 (fun _ h9 => h9) rfl dX4_knownNotSo_9 ?_
  refine lv_iload_n hx hb dX4_knownNotSo_12 rfl (lv_at hl 1 rfl) ?_
  refine xpS (rest := [.int (yesI (rTn σ) k)]) ⟨hx, hb, hml, hown, hts⟩ (c_X4_ofAll l D cI cZ zS (rTs σ) k hk) (va_cwS 2 hts gX4_knownNotSo_X4_ofAll rfl rfl rfl (by decide +kernel) ⟨Nat.le_of_ble_eq_true rfl, Nat.le_of_ble_eq_true rfl⟩) hP [1] rfl hK hN rfl hl.1 rfl (Nat.le_of_ble_eq_true rfl) dX4_knownNotSo_13 ⟨Nat.zero_le _, Nat.zero_le _⟩ (fun r13 e13 => ?_)
  subst e13
  refine lv_iconst (v := (-1)) hx hb dX4_knownNotSo_16 (by decide) ?_
  refine lv_ixor hx hb dX4_knownNotSo_17 ?_
  refine lv_iand hx hb dX4_knownNotSo_18 ?_
  exact W.iret (v := (yesI (rTn σ) k) &&& ((yesI (rTs σ) k) ^^^ (-1))) hx hb hr (fun t ht hW => ⟨_, rfl, rfl, ht⟩) (fun _ h => absurd h List.not_mem_nil) dX4_knownNotSo_19

set_option maxHeartbeats 4000000 in
set_option maxRecDepth 100000 in
theorem c_X1_firstThatBinds (l : Launch) (D : va_G) (cI cZ : ClassId) (zC : Nat) (zQ : Nat) (zP : Nat) (zN : Nat) (σ : ST) (so : Int32) (ns : Int32) (hok : Ok σ) : Met l yX1_firstThatBinds wsX1_firstThatBinds ({ frames := 0, cells := 0, slots := 0, locals := 0 }) (va_Pc [.ref zC, .int so, .int ns] (XP D cI cZ [(zC, .inr (1, [.int (nI (sC σ)), .ref zQ, .ref zP, .ref zN])), (zQ, .inl (cI, 12, .inl (rCk σ))), (zN, .inl (cI, 12, .inl (rCn σ)))])) (vp_Si (fun r => r = bnI σ so ns)) 0 0 (fun _ => False) := by
  refine Met.ofW (cc := cX1_firstThatBinds) (maxL := 6) (ret := (some .int)) (by decide) rfl ?_
  intro p e s m args below meth c s₁ B hml hv
  obtain ⟨rfl, hP, hK, hN⟩ := hv
  have hx := B.exec
  have hb := B.bytes
  have hr := B.returns
  have hts := atoms_spec (ws := wsX1_firstThatBinds) B.pre
  have hown : s.vm.findClass RX1 = some m.cls := findClass_of_methodNamed B.named
  have hlocks := B.notSynchronized
  have ho := hok.1
  have hk2 := hok.k
  have hf21 := hts (.fieldLink RX1 21 "BallCourt$Cases" "count" "I") (List.mem_of_getElem? (i := 1) (by decide +kernel))
  have hiX1 : ∀ w ∈ wsX10, w ∈ wsX1_firstThatBinds := fun w h => List.mem_cons_of_mem _ (List.mem_append_right _ h)
  have hf18 := hts (.fieldLink RX1 18 "BallCourt$Cases" "names" "[I") (List.mem_of_getElem? (i := 2) (by decide +kernel))
  have hf9 := hts (.fieldLink RX1 9 "BallCourt$Cases" "kind" "[I") (List.mem_of_getElem? (i := 3) (by decide +kernel))
  have hl := lv_entry ([.ref zC, .int so, .int ns]) (n := 6) (Nat.le_of_ble_eq_true rfl)
  rw [lg_entry_eq]
  generalize (lg_sl ([.ref zC, .int so, .int ns]) ++ List.replicate (6 - (lg_sl ([.ref zC, .int so, .int ns])).length) Slot.unset).toArray = ls at hl ⊢
  have hl : lv_has ls 6 [(0, .ref zC), (1, .int so), (2, .int ns)] := hl
  refine lv_iconst (v := nI 0) hx hb dX1_firstThatBinds_0 (by decide) ?_
  refine lv_istore_n (lv' := [(3, .int (nI 0)), (0, .ref zC), (1, .int so), (2, .int ns)]) hx hb dX1_firstThatBinds_1 rfl hl (by decide) rfl (fun ls hl => ?_)
  refine wloop (α := Nat) (fun v => sC σ - v) (fun v => [(0, .ref zC), (1, .int so), (2, .int ns), (3, .int (nI v))]) (fun v => (v ≤ sC σ) ∧ (∀ j, j < v → bnB σ so ns j = false)) 6 (fun v hv ih2 ls hl => ?_) 0 ⟨(show 0 ≤ sC σ from Nat.zero_le _), (show ∀ j, j < 0 → bnB σ so ns j = false from fun j hj => absurd hj (Nat.not_lt_zero _))⟩ ls (lv_sub hl [1, 2, 3, 0] rfl)
  obtain ⟨i, rfl⟩ : ∃ z : Nat, z = v := ⟨_, rfl⟩
  obtain ⟨hi, hn⟩ := hv
  have hi : i ≤ sC σ := hi
  have hn : ∀ j, j < i → bnB σ so ns j = false := hn
  have hl : lv_has ls 6 [(0, .ref zC), (1, .int so), (2, .int ns), (3, .int (nI i))] := hl
  refine lv_iload_n hx hb dX1_firstThatBinds_2 rfl (lv_at hl 3 rfl) ?_
  refine lv_aload_n hx hb dX1_firstThatBinds_3 rfl (lv_at hl 0 rfl) ?_
  refine va_get (D := D) (ci := 1) (v := .int (nI (sC σ))) (C := RX1) (T := TX1) (N := 4) hx hb hts hiX1 hown hK hP 0 rfl rfl 0 (by decide) hf21 (fun _ h9 => h9) rfl dX1_firstThatBinds_4 ?_
  refine lv_icmp_ge (tgt := 68) hx hb dX1_firstThatBinds_7 (by decide) (fun c7 => ?_) (fun c7 => ?_)
  · skip
    have c7 := (nI_leI (by omega) (by omega)).mp c7
    refine lv_bipush (v := (-6)) hx hb dX1_firstThatBinds_68 (by decide) ?_
    exact W.iret (v := (-6)) hx hb hr (fun t ht hW => ⟨_, rfl, by rw [bnI, bnN, fst_no (fun j hj => hn j (by omega)), if_neg (Nat.lt_irrefl _)], ht⟩) (fun _ h => absurd h List.not_mem_nil) dX1_firstThatBinds_70
  · skip
    have c7 := Nat.lt_of_not_le (fun z => c7 ((nI_leI (by omega) (by omega)).mpr z))
    refine lv_aload_n hx hb dX1_firstThatBinds_10 rfl (lv_at hl 0 rfl) ?_
    refine va_get (D := D) (ci := 1) (v := .ref zN) (C := RX1) (T := TX1) (N := 4) hx hb hts hiX1 hown hK hP 0 rfl rfl 3 (by decide) hf18 (fun _ h9 => h9) rfl dX1_firstThatBinds_11 ?_
    refine lv_iload_n hx hb dX1_firstThatBinds_14 rfl (lv_at hl 3 rfl) ?_
    refine xald (k := i) hx hb hK hP 2 rfl (by omega) (by decide) dX1_firstThatBinds_15 ?_
    refine lv_aload_n hx hb dX1_firstThatBinds_16 rfl (lv_at hl 0 rfl) ?_
    refine va_get (D := D) (ci := 1) (v := .ref zQ) (C := RX1) (T := TX1) (N := 4) hx hb hts hiX1 hown hK hP 0 rfl rfl 1 (by decide) hf9 (fun _ h9 => h9) rfl dX1_firstThatBinds_17 ?_
    refine lv_iload_n hx hb dX1_firstThatBinds_20 rfl (lv_at hl 3 rfl) ?_
    refine xald (k := i) hx hb hK hP 1 rfl (by omega) (by decide) dX1_firstThatBinds_21 ?_
    refine lv_iand hx hb dX1_firstThatBinds_22 ?_
    refine lv_istore (lv' := [(4, .int ((rCn σ i) &&& (rCk σ i))), (0, .ref zC), (1, .int so), (2, .int ns), (3, .int (nI i))]) hx hb dX1_firstThatBinds_23 hl (by decide) rfl (fun ls hl => ?_)
    refine lv_aload_n hx hb dX1_firstThatBinds_25 rfl (lv_at hl 1 rfl) ?_
    refine va_get (D := D) (ci := 1) (v := .ref zN) (C := RX1) (T := TX1) (N := 4) hx hb hts hiX1 hown hK hP 0 rfl rfl 3 (by decide) hf18 (fun _ h9 => h9) rfl dX1_firstThatBinds_26 ?_
    refine lv_iload_n hx hb dX1_firstThatBinds_29 rfl (lv_at hl 4 rfl) ?_
    refine xald (k := i) hx hb hK hP 2 rfl (by omega) (by decide) dX1_firstThatBinds_30 ?_
    refine lv_aload_n hx hb dX1_firstThatBinds_31 rfl (lv_at hl 1 rfl) ?_
    refine va_get (D := D) (ci := 1) (v := .ref zQ) (C := RX1) (T := TX1) (N := 4) hx hb hts hiX1 hown hK hP 0 rfl rfl 1 (by decide) hf9 (fun _ h9 => h9) rfl dX1_firstThatBinds_32 ?_
    refine lv_iload_n hx hb dX1_firstThatBinds_35 rfl (lv_at hl 4 rfl) ?_
    refine xald (k := i) hx hb hK hP 1 rfl (by omega) (by decide) dX1_firstThatBinds_36 ?_
    refine lv_iconst (v := (-1)) hx hb dX1_firstThatBinds_37 (by decide) ?_
    refine lv_ixor hx hb dX1_firstThatBinds_38 ?_
    refine lv_iand hx hb dX1_firstThatBinds_39 ?_
    refine lv_istore (lv' := [(5, .int ((rCn σ i) &&& ((rCk σ i) ^^^ (-1)))), (4, .int ((rCn σ i) &&& (rCk σ i))), (0, .ref zC), (1, .int so), (2, .int ns), (3, .int (nI i))]) hx hb dX1_firstThatBinds_40 hl (by decide) rfl (fun ls hl => ?_)
    refine lv_iload_n hx hb dX1_firstThatBinds_42 rfl (lv_at hl 3 rfl) ?_
    refine lv_iload hx hb dX1_firstThatBinds_43 (lv_at hl 1 rfl) ?_
    refine lv_iand hx hb dX1_firstThatBinds_45 ?_
    refine lv_iload hx hb dX1_firstThatBinds_46 (lv_at hl 1 rfl) ?_
    refine lv_icmp_ne (tgt := 62) hx hb dX1_firstThatBinds_48 (by decide) (fun c48 => ?_) (fun c48 => ?_)
    · skip
      refine lv_iinc (k := 5) (x := nI i) (v := nI (i + 1)) (lv' := [(3, .int (nI (i + 1))), (5, .int ((rCn σ i) &&& ((rCk σ i) ^^^ (-1)))), (4, .int ((rCn σ i) &&& (rCk σ i))), (0, .ref zC), (1, .int so), (2, .int ns)]) hx hb dX1_firstThatBinds_62 hl rfl (show (nI i) + Int32.ofInt 1 = nI (i + 1) from nI_1 _) (by decide) rfl (fun ls hl => ?_)
      refine lv_goto (tgt := 2) hx hb dX1_firstThatBinds_65 (by decide) ?_
      exact ih2 (i + 1) ⟨(show (i + 1) ≤ sC σ from (by omega)), (show ∀ j, j < (i + 1) → bnB σ so ns j = false from lt_s hn (by rw [bnB, decide_eq_false c48]; rfl))⟩ (by show sC σ - (i + 1) < sC σ - i; omega) ls (lv_sub hl [3, 4, 5, 0] rfl)
    · skip
      refine lv_iload_n hx hb dX1_firstThatBinds_51 rfl (lv_at hl 4 rfl) ?_
      refine lv_iload hx hb dX1_firstThatBinds_52 (lv_at hl 0 rfl) ?_
      refine lv_iand hx hb dX1_firstThatBinds_54 ?_
      refine lv_iload hx hb dX1_firstThatBinds_55 (lv_at hl 0 rfl) ?_
      refine lv_icmp_ne (tgt := 62) hx hb dX1_firstThatBinds_57 (by decide) (fun c57 => ?_) (fun c57 => ?_)
      · skip
        refine lv_iinc (k := 5) (x := nI i) (v := nI (i + 1)) (lv' := [(3, .int (nI (i + 1))), (5, .int ((rCn σ i) &&& ((rCk σ i) ^^^ (-1)))), (4, .int ((rCn σ i) &&& (rCk σ i))), (0, .ref zC), (1, .int so), (2, .int ns)]) hx hb dX1_firstThatBinds_62 hl rfl (show (nI i) + Int32.ofInt 1 = nI (i + 1) from nI_1 _) (by decide) rfl (fun ls hl => ?_)
        refine lv_goto (tgt := 2) hx hb dX1_firstThatBinds_65 (by decide) ?_
        exact ih2 (i + 1) ⟨(show (i + 1) ≤ sC σ from (by omega)), (show ∀ j, j < (i + 1) → bnB σ so ns j = false from lt_s hn (by rw [bnB, decide_eq_true c48, decide_eq_false c57]; rfl))⟩ (by show sC σ - (i + 1) < sC σ - i; omega) ls (lv_sub hl [3, 4, 5, 0] rfl)
      · skip
        refine lv_iload_n hx hb dX1_firstThatBinds_60 rfl (lv_at hl 5 rfl) ?_
        exact W.iret (v := nI i) hx hb hr (fun t ht hW => ⟨_, rfl, by rw [bnI, bnN, fst_at (by rw [bnB, decide_eq_true c48, decide_eq_true c57]; rfl) hn c7, if_pos c7], ht⟩) (fun _ h => absurd h List.not_mem_nil) dX1_firstThatBinds_61
end
