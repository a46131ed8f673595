section
-- ===== PART A: goes FIRST, ahead of the names: the tables' words, and 'selects' of the private methods out of them =====
/-- a private method of a class that the tables say can be made, by its rows of tables_1 -/
def lw_okq (q : MethodName × Nat) : Prop := (q.1.cls ≠ "java/lang/invoke/MethodHandle" ∧ q.1.cls ≠ "java/lang/invoke/VarHandle") ∧ Cond.instantiable q.1.cls q.2 ∈ tables_1 ∧ Cond.privateMethod q.1 ∈ tables_1 ∧ Cond.instanceMethod q.1 ∈ tables_1
theorem lw_p0 : lw_okq (⟨"BallCourt", "beginAnew", "(I)V"⟩, 8) := ⟨⟨by decide +kernel, by decide +kernel⟩, List.mem_of_getElem? (i := 10) (by decide +kernel), List.mem_of_getElem? (i := 150) (by decide +kernel), List.mem_of_getElem? (i := 151) (by decide +kernel)⟩
theorem lw_p1 : lw_okq (⟨"BallCourt$Book", "workKinds", "()V"⟩, 11) := ⟨⟨by decide +kernel, by decide +kernel⟩, List.mem_of_getElem? (i := 18) (by decide +kernel), List.mem_of_getElem? (i := 158) (by decide +kernel), List.mem_of_getElem? (i := 159) (by decide +kernel)⟩
theorem lw_p2 : lw_okq (⟨"BallCourt$Book", "hasBarredPair", "(I)Z"⟩, 11) := ⟨⟨by decide +kernel, by decide +kernel⟩, List.mem_of_getElem? (i := 18) (by decide +kernel), List.mem_of_getElem? (i := 162) (by decide +kernel), List.mem_of_getElem? (i := 163) (by decide +kernel)⟩
theorem lw_p3 : lw_okq (⟨"BallCourt", "turnedKinds", "()I"⟩, 8) := ⟨⟨by decide +kernel, by decide +kernel⟩, List.mem_of_getElem? (i := 10) (by decide +kernel), List.mem_of_getElem? (i := 317) (by decide +kernel), List.mem_of_getElem? (i := 318) (by decide +kernel)⟩
theorem lw_p4 : lw_okq (⟨"BallCourt", "verdictUnder", "(LBallCourt$Laws;I)I"⟩, 8) := ⟨⟨by decide +kernel, by decide +kernel⟩, List.mem_of_getElem? (i := 10) (by decide +kernel), List.mem_of_getElem? (i := 395) (by decide +kernel), List.mem_of_getElem? (i := 396) (by decide +kernel)⟩
theorem lw_p5 : lw_okq (⟨"BallCourt", "casesOfTurnedKinds", "()I"⟩, 8) := ⟨⟨by decide +kernel, by decide +kernel⟩, List.mem_of_getElem? (i := 10) (by decide +kernel), List.mem_of_getElem? (i := 431) (by decide +kernel), List.mem_of_getElem? (i := 432) (by decide +kernel)⟩
theorem lw_p6 : lw_okq (⟨"BallCourt", "turnedVerdicts", "()I"⟩, 8) := ⟨⟨by decide +kernel, by decide +kernel⟩, List.mem_of_getElem? (i := 10) (by decide +kernel), List.mem_of_getElem? (i := 435) (by decide +kernel), List.mem_of_getElem? (i := 436) (by decide +kernel)⟩
theorem lw_p7 : lw_okq (⟨"BallCourt$Game", "giveHoop", "(I)V"⟩, 4) := ⟨⟨by decide +kernel, by decide +kernel⟩, List.mem_of_getElem? (i := 128) (by decide +kernel), List.mem_of_getElem? (i := 459) (by decide +kernel), List.mem_of_getElem? (i := 460) (by decide +kernel)⟩
theorem lw_p8 : lw_okq (⟨"BallCourt", "coveredKinds", "()I"⟩, 8) := ⟨⟨by decide +kernel, by decide +kernel⟩, List.mem_of_getElem? (i := 10) (by decide +kernel), List.mem_of_getElem? (i := 476) (by decide +kernel), List.mem_of_getElem? (i := 477) (by decide +kernel)⟩
theorem lw_p9 : lw_okq (⟨"BallCourtModel", "isFact", "(I)Z"⟩, 21) := ⟨⟨by decide +kernel, by decide +kernel⟩, List.mem_of_getElem? (i := 480) (by decide +kernel), List.mem_of_getElem? (i := 561) (by decide +kernel), List.mem_of_getElem? (i := 562) (by decide +kernel)⟩
theorem lw_p10 : lw_okq (⟨"BallCourtModel", "allFacts", "()I"⟩, 21) := ⟨⟨by decide +kernel, by decide +kernel⟩, List.mem_of_getElem? (i := 480) (by decide +kernel), List.mem_of_getElem? (i := 569) (by decide +kernel), List.mem_of_getElem? (i := 570) (by decide +kernel)⟩
theorem lw_p11 : lw_okq (⟨"BallCourtModel", "isLine", "(I)Z"⟩, 21) := ⟨⟨by decide +kernel, by decide +kernel⟩, List.mem_of_getElem? (i := 480) (by decide +kernel), List.mem_of_getElem? (i := 580) (by decide +kernel), List.mem_of_getElem? (i := 581) (by decide +kernel)⟩
theorem lw_p12 : lw_okq (⟨"BallCourtModel", "namedBy", "(I)I"⟩, 21) := ⟨⟨by decide +kernel, by decide +kernel⟩, List.mem_of_getElem? (i := 480) (by decide +kernel), List.mem_of_getElem? (i := 595) (by decide +kernel), List.mem_of_getElem? (i := 596) (by decide +kernel)⟩
theorem lw_p13 : lw_okq (⟨"BallCourtModel", "isKind", "(I)Z"⟩, 21) := ⟨⟨by decide +kernel, by decide +kernel⟩, List.mem_of_getElem? (i := 480) (by decide +kernel), List.mem_of_getElem? (i := 603) (by decide +kernel), List.mem_of_getElem? (i := 604) (by decide +kernel)⟩
theorem lw_p14 : lw_okq (⟨"BallCourtModel", "holding", "(I)I"⟩, 21) := ⟨⟨by decide +kernel, by decide +kernel⟩, List.mem_of_getElem? (i := 480) (by decide +kernel), List.mem_of_getElem? (i := 607) (by decide +kernel), List.mem_of_getElem? (i := 608) (by decide +kernel)⟩
theorem lw_p15 : lw_okq (⟨"BallCourtModel", "lineFor", "(I)I"⟩, 21) := ⟨⟨by decide +kernel, by decide +kernel⟩, List.mem_of_getElem? (i := 480) (by decide +kernel), List.mem_of_getElem? (i := 615) (by decide +kernel), List.mem_of_getElem? (i := 616) (by decide +kernel)⟩
def lw_privs_1 : List (MethodName × Nat) := [(⟨"BallCourt", "beginAnew", "(I)V"⟩, 8), (⟨"BallCourt$Book", "workKinds", "()V"⟩, 11), (⟨"BallCourt$Book", "hasBarredPair", "(I)Z"⟩, 11), (⟨"BallCourt", "turnedKinds", "()I"⟩, 8), (⟨"BallCourt", "verdictUnder", "(LBallCourt$Laws;I)I"⟩, 8), (⟨"BallCourt", "casesOfTurnedKinds", "()I"⟩, 8), (⟨"BallCourt", "turnedVerdicts", "()I"⟩, 8), (⟨"BallCourt$Game", "giveHoop", "(I)V"⟩, 4), (⟨"BallCourt", "coveredKinds", "()I"⟩, 8), (⟨"BallCourtModel", "isFact", "(I)Z"⟩, 21), (⟨"BallCourtModel", "allFacts", "()I"⟩, 21), (⟨"BallCourtModel", "isLine", "(I)Z"⟩, 21), (⟨"BallCourtModel", "namedBy", "(I)I"⟩, 21), (⟨"BallCourtModel", "isKind", "(I)Z"⟩, 21), (⟨"BallCourtModel", "holding", "(I)I"⟩, 21), (⟨"BallCourtModel", "lineFor", "(I)I"⟩, 21)]
theorem lw_r1 : ∀ q ∈ lw_privs_1, lw_okq q := List.forall_mem_cons.mpr ⟨lw_p0, List.forall_mem_cons.mpr ⟨lw_p1, List.forall_mem_cons.mpr ⟨lw_p2, List.forall_mem_cons.mpr ⟨lw_p3, List.forall_mem_cons.mpr ⟨lw_p4, List.forall_mem_cons.mpr ⟨lw_p5, List.forall_mem_cons.mpr ⟨lw_p6, List.forall_mem_cons.mpr ⟨lw_p7, List.forall_mem_cons.mpr ⟨lw_p8, List.forall_mem_cons.mpr ⟨lw_p9, List.forall_mem_cons.mpr ⟨lw_p10, List.forall_mem_cons.mpr ⟨lw_p11, List.forall_mem_cons.mpr ⟨lw_p12, List.forall_mem_cons.mpr ⟨lw_p13, List.forall_mem_cons.mpr ⟨lw_p14, List.forall_mem_cons.mpr ⟨lw_p15, fun _ h => absurd h List.not_mem_nil⟩⟩⟩⟩⟩⟩⟩⟩⟩⟩⟩⟩⟩⟩⟩⟩
theorem lw_p16 : lw_okq (⟨"BallCourtModel", "rulingFor", "(I)I"⟩, 21) := ⟨⟨by decide +kernel, by decide +kernel⟩, List.mem_of_getElem? (i := 480) (by decide +kernel), List.mem_of_getElem? (i := 619) (by decide +kernel), List.mem_of_getElem? (i := 620) (by decide +kernel)⟩
theorem lw_p17 : lw_okq (⟨"BallCourtModel", "turnedKinds", "(I)I"⟩, 21) := ⟨⟨by decide +kernel, by decide +kernel⟩, List.mem_of_getElem? (i := 480) (by decide +kernel), List.mem_of_getElem? (i := 631) (by decide +kernel), List.mem_of_getElem? (i := 632) (by decide +kernel)⟩
theorem lw_p18 : lw_okq (⟨"BallCourtModel", "bound", "(I)I"⟩, 21) := ⟨⟨by decide +kernel, by decide +kernel⟩, List.mem_of_getElem? (i := 480) (by decide +kernel), List.mem_of_getElem? (i := 635) (by decide +kernel), List.mem_of_getElem? (i := 636) (by decide +kernel)⟩
theorem lw_p19 : lw_okq (⟨"BallCourtModel", "isMoment", "(I)Z"⟩, 21) := ⟨⟨by decide +kernel, by decide +kernel⟩, List.mem_of_getElem? (i := 480) (by decide +kernel), List.mem_of_getElem? (i := 647) (by decide +kernel), List.mem_of_getElem? (i := 648) (by decide +kernel)⟩
theorem lw_p20 : lw_okq (⟨"BallCourtModel", "so", "(I)I"⟩, 21) := ⟨⟨by decide +kernel, by decide +kernel⟩, List.mem_of_getElem? (i := 480) (by decide +kernel), List.mem_of_getElem? (i := 655) (by decide +kernel), List.mem_of_getElem? (i := 656) (by decide +kernel)⟩
theorem lw_p21 : lw_okq (⟨"BallCourtModel", "notSo", "(I)I"⟩, 21) := ⟨⟨by decide +kernel, by decide +kernel⟩, List.mem_of_getElem? (i := 480) (by decide +kernel), List.mem_of_getElem? (i := 659) (by decide +kernel), List.mem_of_getElem? (i := 660) (by decide +kernel)⟩
theorem lw_p22 : lw_okq (⟨"BallCourtModel", "doubt", "(I)I"⟩, 21) := ⟨⟨by decide +kernel, by decide +kernel⟩, List.mem_of_getElem? (i := 480) (by decide +kernel), List.mem_of_getElem? (i := 663) (by decide +kernel), List.mem_of_getElem? (i := 664) (by decide +kernel)⟩
theorem lw_p23 : lw_okq (⟨"BallCourtModel", "mayBes", "(II)I"⟩, 21) := ⟨⟨by decide +kernel, by decide +kernel⟩, List.mem_of_getElem? (i := 480) (by decide +kernel), List.mem_of_getElem? (i := 667) (by decide +kernel), List.mem_of_getElem? (i := 668) (by decide +kernel)⟩
theorem lw_p24 : lw_okq (⟨"BallCourtModel", "mayBe", "(II)Z"⟩, 21) := ⟨⟨by decide +kernel, by decide +kernel⟩, List.mem_of_getElem? (i := 480) (by decide +kernel), List.mem_of_getElem? (i := 671) (by decide +kernel), List.mem_of_getElem? (i := 672) (by decide +kernel)⟩
theorem lw_p25 : lw_okq (⟨"BallCourtModel", "bindingCase", "(I)I"⟩, 21) := ⟨⟨by decide +kernel, by decide +kernel⟩, List.mem_of_getElem? (i := 480) (by decide +kernel), List.mem_of_getElem? (i := 683) (by decide +kernel), List.mem_of_getElem? (i := 684) (by decide +kernel)⟩
theorem lw_p26 : lw_okq (⟨"BallCourtModel", "verdictOf", "(I)I"⟩, 21) := ⟨⟨by decide +kernel, by decide +kernel⟩, List.mem_of_getElem? (i := 480) (by decide +kernel), List.mem_of_getElem? (i := 691) (by decide +kernel), List.mem_of_getElem? (i := 692) (by decide +kernel)⟩
theorem lw_p27 : lw_okq (⟨"BallCourtModel", "begin", "()V"⟩, 21) := ⟨⟨by decide +kernel, by decide +kernel⟩, List.mem_of_getElem? (i := 480) (by decide +kernel), List.mem_of_getElem? (i := 723) (by decide +kernel), List.mem_of_getElem? (i := 724) (by decide +kernel)⟩
theorem lw_p28 : lw_okq (⟨"BallCourtModel", "play", "(I)V"⟩, 21) := ⟨⟨by decide +kernel, by decide +kernel⟩, List.mem_of_getElem? (i := 480) (by decide +kernel), List.mem_of_getElem? (i := 727) (by decide +kernel), List.mem_of_getElem? (i := 728) (by decide +kernel)⟩
theorem lw_p29 : lw_okq (⟨"BallCourtModel", "packed", "()I"⟩, 21) := ⟨⟨by decide +kernel, by decide +kernel⟩, List.mem_of_getElem? (i := 480) (by decide +kernel), List.mem_of_getElem? (i := 735) (by decide +kernel), List.mem_of_getElem? (i := 736) (by decide +kernel)⟩
theorem lw_p30 : lw_okq (⟨"BallCourtModel", "kinds", "(Z)I"⟩, 21) := ⟨⟨by decide +kernel, by decide +kernel⟩, List.mem_of_getElem? (i := 480) (by decide +kernel), List.mem_of_getElem? (i := 743) (by decide +kernel), List.mem_of_getElem? (i := 744) (by decide +kernel)⟩
def lw_privs_2 : List (MethodName × Nat) := [(⟨"BallCourtModel", "rulingFor", "(I)I"⟩, 21), (⟨"BallCourtModel", "turnedKinds", "(I)I"⟩, 21), (⟨"BallCourtModel", "bound", "(I)I"⟩, 21), (⟨"BallCourtModel", "isMoment", "(I)Z"⟩, 21), (⟨"BallCourtModel", "so", "(I)I"⟩, 21), (⟨"BallCourtModel", "notSo", "(I)I"⟩, 21), (⟨"BallCourtModel", "doubt", "(I)I"⟩, 21), (⟨"BallCourtModel", "mayBes", "(II)I"⟩, 21), (⟨"BallCourtModel", "mayBe", "(II)Z"⟩, 21), (⟨"BallCourtModel", "bindingCase", "(I)I"⟩, 21), (⟨"BallCourtModel", "verdictOf", "(I)I"⟩, 21), (⟨"BallCourtModel", "begin", "()V"⟩, 21), (⟨"BallCourtModel", "play", "(I)V"⟩, 21), (⟨"BallCourtModel", "packed", "()I"⟩, 21), (⟨"BallCourtModel", "kinds", "(Z)I"⟩, 21)]
theorem lw_r2 : ∀ q ∈ lw_privs_2, lw_okq q := List.forall_mem_cons.mpr ⟨lw_p16, List.forall_mem_cons.mpr ⟨lw_p17, List.forall_mem_cons.mpr ⟨lw_p18, List.forall_mem_cons.mpr ⟨lw_p19, List.forall_mem_cons.mpr ⟨lw_p20, List.forall_mem_cons.mpr ⟨lw_p21, List.forall_mem_cons.mpr ⟨lw_p22, List.forall_mem_cons.mpr ⟨lw_p23, List.forall_mem_cons.mpr ⟨lw_p24, List.forall_mem_cons.mpr ⟨lw_p25, List.forall_mem_cons.mpr ⟨lw_p26, List.forall_mem_cons.mpr ⟨lw_p27, List.forall_mem_cons.mpr ⟨lw_p28, List.forall_mem_cons.mpr ⟨lw_p29, List.forall_mem_cons.mpr ⟨lw_p30, fun _ h => absurd h List.not_mem_nil⟩⟩⟩⟩⟩⟩⟩⟩⟩⟩⟩⟩⟩⟩⟩
def lw_privs : List (MethodName × Nat) := lw_privs_1 ++ (lw_privs_2)
def lw_tbl : List Cond := k2_sels lw_privs ++ tables_1
theorem lw_privs_ok : ∀ q ∈ lw_privs, lw_okq q := by
  show ∀ q ∈ lw_privs_1 ++ (lw_privs_2), lw_okq q
  exact List.forall_mem_append.mpr ⟨lw_r1, lw_r2⟩
-- ===== end of PART A; then your names; then what follows =====
end
section
/-! ===== BEGIN words of one list among another's, by their places ===== -/
theorem goodIn_r {big : List Cond} (ws : List Cond) (ps : List Nat) (hp : ws = ps.filterMap (fun i => big[i]?)) (h : ws.all goodWord = true) : GoodIn big ws := by
  intro w hw
  have h1 := List.all_eq_true.mp h w hw
  rw [hp] at hw
  obtain ⟨i, -, hi⟩ := List.mem_filterMap.mp hw
  have hm : w ∈ big := by first | exact List.mem_of_getElem? hi | exact List.getElem?_mem hi
  exact ⟨hm, good_of_word h1⟩
theorem goodIn_app {big a b : List Cond} (ha : GoodIn big a) (hb : GoodIn big b) : GoodIn big (a ++ b) := fun w h => (List.mem_append.mp h).elim (ha w) (hb w)
theorem goodIn_ca {big a b : List Cond} {c : Cond} (ha : GoodIn big (c :: a)) (hb : GoodIn big b) : GoodIn big (c :: (a ++ b)) := fun w h => (List.mem_cons.mp h).elim (fun e => ha w (List.mem_cons.mpr (Or.inl e))) (fun h => (List.mem_append.mp h).elim (fun h => ha w (List.mem_cons.mpr (Or.inr h))) (hb w))
theorem goodIn_sub {big ws : List Cond} (hm : ∀ w ∈ ws, w ∈ big) (h : ws.all goodWord = true) : GoodIn big ws := fun w hw => ⟨hm w hw, good_of_word (List.all_eq_true.mp h w hw)⟩
/-! ===== END ===== -/

/-! ===== BEGIN printed: names, fields, word lists, decode rows ===== -/
def RX0 : String := "BallCourt$Book"
def TX0 : u_T := fun k => match k with
  | 0 => ("BallCourt$Book", "facts", "I", false)
  | 1 => ("BallCourt$Book", "numbers", "I", false)
  | 2 => ("BallCourt$Book", "isKind", "[Z", true)
  | 3 => ("BallCourt$Book", "barredWith", "[I", true)
  | 4 => ("BallCourt$Book", "lines", "I", false)
  | 5 => ("BallCourt$Book", "repealed", "I", false)
  | 6 => ("BallCourt$Book", "excepting", "I", false)
  | 7 => ("BallCourt$Book", "must", "[I", true)
  | 8 => ("BallCourt$Book", "mustNot", "[I", true)
  | 9 => ("BallCourt$Book", "ruling", "[I", true)
  | _ => ("BallCourt$Book", "excepters", "[I", true)
def tyX0 : Nat → FieldType := fun k => match k with
  | 0 => .int
  | 1 => .int
  | 2 => .array .boolean
  | 3 => .array .int
  | 4 => .int
  | 5 => .int
  | 6 => .int
  | 7 => .array .int
  | 8 => .array .int
  | 9 => .array .int
  | _ => .array .int
abbrev wsX00 : List Cond := u_ws RX0 TX0 11
theorem nmX0 : ∀ a, a < 11 → ∀ b, b < 11 → a ≠ b → (TX0 a).2.1 ≠ (TX0 b).2.1 := by decide +kernel
theorem tyX0_ok : ∀ k, k < 11 → parseFieldDescriptor (TX0 k).2.2.1 = some (tyX0 k) := by decide +kernel
abbrev cX0_init : ByteArray := prog_2_method_1_code
def yX0_init : MethodName := ⟨RX0, "<init>", "()V"⟩
abbrev cX0_begin : ByteArray := prog_2_method_2_code
def yX0_begin : MethodName := ⟨RX0, "begin", "(I)V"⟩
abbrev cX0_hasFact : ByteArray := prog_2_method_3_code
def yX0_hasFact : MethodName := ⟨RX0, "hasFact", "(I)Z"⟩
abbrev cX0_areFacts : ByteArray := prog_2_method_4_code
def yX0_areFacts : MethodName := ⟨RX0, "areFacts", "(I)Z"⟩
abbrev cX0_allFacts : ByteArray := prog_2_method_5_code
def yX0_allFacts : MethodName := ⟨RX0, "allFacts", "()I"⟩
abbrev cX0_hasKind : ByteArray := prog_2_method_6_code
def yX0_hasKind : MethodName := ⟨RX0, "hasKind", "(I)Z"⟩
abbrev cX0_hasLine : ByteArray := prog_2_method_7_code
def yX0_hasLine : MethodName := ⟨RX0, "hasLine", "(I)Z"⟩
abbrev cX0_areBarred : ByteArray := prog_2_method_8_code
def yX0_areBarred : MethodName := ⟨RX0, "areBarred", "(II)Z"⟩
abbrev cX0_bar : ByteArray := prog_2_method_9_code
def yX0_bar : MethodName := ⟨RX0, "bar", "(IIZ)V"⟩
abbrev cX0_workKinds : ByteArray := prog_2_method_10_code
def yX0_workKinds : MethodName := ⟨RX0, "workKinds", "()V"⟩
abbrev cX0_hasBarredPair : ByteArray := prog_2_method_11_code
def yX0_hasBarredPair : MethodName := ⟨RX0, "hasBarredPair", "(I)Z"⟩
abbrev cX0_mayBe : ByteArray := prog_2_method_12_code
def yX0_mayBe : MethodName := ⟨RX0, "mayBe", "(III)Z"⟩
abbrev cX0_countMayBe : ByteArray := prog_2_method_13_code
def yX0_countMayBe : MethodName := ⟨RX0, "countMayBe", "(II)I"⟩
abbrev cX0_addLine : ByteArray := prog_2_method_14_code
def yX0_addLine : MethodName := ⟨RX0, "addLine", "(III)I"⟩
abbrev cX0_excepts : ByteArray := prog_2_method_15_code
def yX0_excepts : MethodName := ⟨RX0, "excepts", "(II)Z"⟩
abbrev cX0_addException : ByteArray := prog_2_method_16_code
def yX0_addException : MethodName := ⟨RX0, "addException", "(II)V"⟩
abbrev cX0_isRepealed : ByteArray := prog_2_method_17_code
def yX0_isRepealed : MethodName := ⟨RX0, "isRepealed", "(I)Z"⟩
abbrev cX0_repealedIfMended : ByteArray := prog_2_method_18_code
def yX0_repealedIfMended : MethodName := ⟨RX0, "repealedIfMended", "(I)I"⟩
abbrev cX0_holding : ByteArray := prog_2_method_19_code
def yX0_holding : MethodName := ⟨RX0, "holding", "(II)I"⟩
abbrev cX0_lawLine : ByteArray := prog_2_method_20_code
def yX0_lawLine : MethodName := ⟨RX0, "lawLine", "(II)I"⟩
abbrev cX0_namedBy : ByteArray := prog_2_method_21_code
def yX0_namedBy : MethodName := ⟨RX0, "namedBy", "(I)I"⟩
def RX1 : String := "BallCourt$Cases"
def TX1 : u_T := fun k => match k with
  | 0 => ("BallCourt$Cases", "count", "I", false)
  | 1 => ("BallCourt$Cases", "kind", "[I", true)
  | 2 => ("BallCourt$Cases", "ruling", "[I", true)
  | _ => ("BallCourt$Cases", "names", "[I", true)
def tyX1 : Nat → FieldType := fun k => match k with
  | 0 => .int
  | 1 => .array .int
  | 2 => .array .int
  | _ => .array .int
abbrev wsX10 : List Cond := u_ws RX1 TX1 4
theorem nmX1 : ∀ a, a < 4 → ∀ b, b < 4 → a ≠ b → (TX1 a).2.1 ≠ (TX1 b).2.1 := by decide +kernel
theorem tyX1_ok : ∀ k, k < 4 → parseFieldDescriptor (TX1 k).2.2.1 = some (tyX1 k) := by decide +kernel
abbrev cX1_init : ByteArray := prog_3_method_1_code
def yX1_init : MethodName := ⟨RX1, "<init>", "()V"⟩
abbrev cX1_has : ByteArray := prog_3_method_2_code
def yX1_has : MethodName := ⟨RX1, "has", "(I)Z"⟩
abbrev cX1_add : ByteArray := prog_3_method_3_code
def yX1_add : MethodName := ⟨RX1, "add", "(III)I"⟩
abbrev cX1_firstThatBinds : ByteArray := prog_3_method_4_code
def yX1_firstThatBinds : MethodName := ⟨RX1, "firstThatBinds", "(II)I"⟩
def RX2 : String := "BallCourt$Game"
def TX2 : u_T := fun k => match k with
  | 0 => ("BallCourt$Game", "toWin", "I", false)
  | 1 => ("BallCourt$Game", "hoopsOf0", "I", false)
  | 2 => ("BallCourt$Game", "hoopsOf1", "I", false)
  | _ => ("BallCourt$Game", "striker", "I", false)
def tyX2 : Nat → FieldType := fun k => match k with
  | 0 => .int
  | 1 => .int
  | 2 => .int
  | _ => .int
abbrev wsX20 : List Cond := u_ws RX2 TX2 4
theorem nmX2 : ∀ a, a < 4 → ∀ b, b < 4 → a ≠ b → (TX2 a).2.1 ≠ (TX2 b).2.1 := by decide +kernel
theorem tyX2_ok : ∀ k, k < 4 → parseFieldDescriptor (TX2 k).2.2.1 = some (tyX2 k) := by decide +kernel
abbrev cX2_init : ByteArray := prog_4_method_1_code
def yX2_init : MethodName := ⟨RX2, "<init>", "()V"⟩
abbrev cX2_begin : ByteArray := prog_4_method_2_code
def yX2_begin : MethodName := ⟨RX2, "begin", "(I)V"⟩
abbrev cX2_play : ByteArray := prog_4_method_3_code
def yX2_play : MethodName := ⟨RX2, "play", "(I)V"⟩
abbrev cX2_giveHoop : ByteArray := prog_4_method_4_code
def yX2_giveHoop : MethodName := ⟨RX2, "giveHoop", "(I)V"⟩
abbrev cX2_winner : ByteArray := prog_4_method_5_code
def yX2_winner : MethodName := ⟨RX2, "winner", "()I"⟩
abbrev cX2_standsAs : ByteArray := prog_4_method_6_code
def yX2_standsAs : MethodName := ⟨RX2, "standsAs", "(LBallCourt$Game;)Z"⟩
def RX3 : String := "BallCourt$Laws"
def TX3 : u_T := fun k => match k with
  | 0 => ("BallCourt$Laws", "book", "LBallCourt$Book;", true)
  | _ => ("BallCourt$Laws", "lineOf", "[I", true)
def tyX3 : Nat → FieldType := fun k => match k with
  | 0 => .object "BallCourt$Book"
  | _ => .array .int
abbrev wsX30 : List Cond := u_ws RX3 TX3 2
theorem nmX3 : ∀ a, a < 2 → ∀ b, b < 2 → a ≠ b → (TX3 a).2.1 ≠ (TX3 b).2.1 := by decide +kernel
theorem tyX3_ok : ∀ k, k < 2 → parseFieldDescriptor (TX3 k).2.2.1 = some (tyX3 k) := by decide +kernel
abbrev cX3_init : ByteArray := prog_5_method_1_code
def yX3_init : MethodName := ⟨RX3, "<init>", "(LBallCourt$Book;)V"⟩
abbrev cX3_work : ByteArray := prog_5_method_2_code
def yX3_work : MethodName := ⟨RX3, "work", "(I)V"⟩
abbrev cX3_covers : ByteArray := prog_5_method_3_code
def yX3_covers : MethodName := ⟨RX3, "covers", "(I)Z"⟩
abbrev cX3_rulingFor : ByteArray := prog_5_method_4_code
def yX3_rulingFor : MethodName := ⟨RX3, "rulingFor", "(I)I"⟩
abbrev cX3_differFor : ByteArray := prog_5_method_5_code
def yX3_differFor : MethodName := ⟨RX3, "differFor", "(ILBallCourt$Laws;)Z"⟩
abbrev cX3_countMayBeRuled : ByteArray := prog_5_method_6_code
def yX3_countMayBeRuled : MethodName := ⟨RX3, "countMayBeRuled", "(III)I"⟩
abbrev cX3_rulingForAll : ByteArray := prog_5_method_7_code
def yX3_rulingForAll : MethodName := ⟨RX3, "rulingForAll", "(II)I"⟩
def RX4 : String := "BallCourt$Moments"
def TX4 : u_T := fun k => match k with
  | 0 => ("BallCourt$Moments", "count", "I", false)
  | 1 => ("BallCourt$Moments", "toldSo", "[I", true)
  | 2 => ("BallCourt$Moments", "toldNotSo", "[I", true)
  | _ => ("BallCourt$Moments", "ruled", "[I", true)
def tyX4 : Nat → FieldType := fun k => match k with
  | 0 => .int
  | 1 => .array .int
  | 2 => .array .int
  | _ => .array .int
abbrev wsX40 : List Cond := u_ws RX4 TX4 4
theorem nmX4 : ∀ a, a < 4 → ∀ b, b < 4 → a ≠ b → (TX4 a).2.1 ≠ (TX4 b).2.1 := by decide +kernel
theorem tyX4_ok : ∀ k, k < 4 → parseFieldDescriptor (TX4 k).2.2.1 = some (tyX4 k) := by decide +kernel
abbrev cX4_init : ByteArray := prog_6_method_1_code
def yX4_init : MethodName := ⟨RX4, "<init>", "()V"⟩
abbrev cX4_has : ByteArray := prog_6_method_2_code
def yX4_has : MethodName := ⟨RX4, "has", "(I)Z"⟩
abbrev cX4_add : ByteArray := prog_6_method_3_code
def yX4_add : MethodName := ⟨RX4, "add", "()I"⟩
abbrev cX4_hear : ByteArray := prog_6_method_4_code
def yX4_hear : MethodName := ⟨RX4, "hear", "(IIII)I"⟩
abbrev cX4_knownSo : ByteArray := prog_6_method_5_code
def yX4_knownSo : MethodName := ⟨RX4, "knownSo", "(I)I"⟩
abbrev cX4_knownNotSo : ByteArray := prog_6_method_6_code
def yX4_knownNotSo : MethodName := ⟨RX4, "knownNotSo", "(I)I"⟩
abbrev cX4_ofAll : ByteArray := prog_6_method_7_code
def yX4_ofAll : MethodName := ⟨RX4, "ofAll", "([II)I"⟩
def RX5 : String := "BallCourt"
def TX5 : u_T := fun k => match k with
  | 0 => ("BallCourt", "book", "LBallCourt$Book;", true)
  | 1 => ("BallCourt", "laws", "LBallCourt$Laws;", true)
  | 2 => ("BallCourt", "lawsIfMended", "LBallCourt$Laws;", true)
  | 3 => ("BallCourt", "played", "LBallCourt$Moments;", true)
  | 4 => ("BallCourt", "cases", "LBallCourt$Cases;", true)
  | 5 => ("BallCourt", "game", "LBallCourt$Game;", true)
  | 6 => ("BallCourt", "gameIfRuled", "LBallCourt$Game;", true)
  | _ => ("BallCourt", "hoopsToWin", "I", false)
def tyX5 : Nat → FieldType := fun k => match k with
  | 0 => .object "BallCourt$Book"
  | 1 => .object "BallCourt$Laws"
  | 2 => .object "BallCourt$Laws"
  | 3 => .object "BallCourt$Moments"
  | 4 => .object "BallCourt$Cases"
  | 5 => .object "BallCourt$Game"
  | 6 => .object "BallCourt$Game"
  | _ => .int
abbrev wsX50 : List Cond := u_ws RX5 TX5 8
theorem nmX5 : ∀ a, a < 8 → ∀ b, b < 8 → a ≠ b → (TX5 a).2.1 ≠ (TX5 b).2.1 := by decide +kernel
theorem tyX5_ok : ∀ k, k < 8 → parseFieldDescriptor (TX5 k).2.2.1 = some (tyX5 k) := by decide +kernel
abbrev cX5_init : ByteArray := prog_1_method_1_code
def yX5_init : MethodName := ⟨RX5, "<init>", "()V"⟩
abbrev cX5_beginAnew : ByteArray := prog_1_method_2_code
def yX5_beginAnew : MethodName := ⟨RX5, "beginAnew", "(I)V"⟩
abbrev cX5_facts : ByteArray := prog_1_method_3_code
def yX5_facts : MethodName := ⟨RX5, "facts", "(I)I"⟩
abbrev cX5_barred : ByteArray := prog_1_method_4_code
def yX5_barred : MethodName := ⟨RX5, "barred", "(IIZ)I"⟩
abbrev cX5_line : ByteArray := prog_1_method_5_code
def yX5_line : MethodName := ⟨RX5, "line", "(III)I"⟩
abbrev cX5_except : ByteArray := prog_1_method_6_code
def yX5_except : MethodName := ⟨RX5, "except", "(II)I"⟩
abbrev cX5_repeal : ByteArray := prog_1_method_7_code
def yX5_repeal : MethodName := ⟨RX5, "repeal", "(IZ)I"⟩
abbrev cX5_about : ByteArray := prog_1_method_8_code
def yX5_about : MethodName := ⟨RX5, "about", "(II)I"⟩
abbrev cX5_holds : ByteArray := prog_1_method_9_code
def yX5_holds : MethodName := ⟨RX5, "holds", "(II)I"⟩
abbrev cX5_law : ByteArray := prog_1_method_10_code
def yX5_law : MethodName := ⟨RX5, "law", "(II)I"⟩
abbrev cX5_open : ByteArray := prog_1_method_11_code
def yX5_open : MethodName := ⟨RX5, "open", "(I)I"⟩
abbrev cX5_idle : ByteArray := prog_1_method_12_code
def yX5_idle : MethodName := ⟨RX5, "idle", "(I)I"⟩
abbrev cX5_moment : ByteArray := prog_1_method_13_code
def yX5_moment : MethodName := ⟨RX5, "moment", "()I"⟩
abbrev cX5_tell : ByteArray := prog_1_method_14_code
def yX5_tell : MethodName := ⟨RX5, "tell", "(IIII)I"⟩
abbrev cX5_known : ByteArray := prog_1_method_15_code
def yX5_known : MethodName := ⟨RX5, "known", "(II)I"⟩
abbrev cX5_proof : ByteArray := prog_1_method_16_code
def yX5_proof : MethodName := ⟨RX5, "proof", "(II)I"⟩
abbrev cX5_binds : ByteArray := prog_1_method_17_code
def yX5_binds : MethodName := ⟨RX5, "binds", "(I)I"⟩
abbrev cX5_verdict : ByteArray := prog_1_method_18_code
def yX5_verdict : MethodName := ⟨RX5, "verdict", "(I)I"⟩
abbrev cX5_rule : ByteArray := prog_1_method_19_code
def yX5_rule : MethodName := ⟨RX5, "rule", "(II)I"⟩
abbrev cX5_make : ByteArray := prog_1_method_20_code
def yX5_make : MethodName := ⟨RX5, "make", "(I)I"⟩
abbrev cX5_ofCase : ByteArray := prog_1_method_21_code
def yX5_ofCase : MethodName := ⟨RX5, "ofCase", "(II)I"⟩
abbrev cX5_turned : ByteArray := prog_1_method_22_code
def yX5_turned : MethodName := ⟨RX5, "turned", "()I"⟩
abbrev cX5_mend : ByteArray := prog_1_method_23_code
def yX5_mend : MethodName := ⟨RX5, "mend", "(II)I"⟩
abbrev cX5_goal : ByteArray := prog_1_method_24_code
def yX5_goal : MethodName := ⟨RX5, "goal", "(I)I"⟩
abbrev cX5_score : ByteArray := prog_1_method_25_code
def yX5_score : MethodName := ⟨RX5, "score", "(II)I"⟩
abbrev cX5_appeal : ByteArray := prog_1_method_26_code
def yX5_appeal : MethodName := ⟨RX5, "appeal", "(II)I"⟩
abbrev cX5_told : ByteArray := prog_1_method_27_code
def yX5_told : MethodName := ⟨RX5, "told", "(I)I"⟩
abbrev cX5_oneIf : ByteArray := prog_1_method_28_code
def yX5_oneIf : MethodName := ⟨RX5, "oneIf", "(Z)I"⟩
abbrev cX5_hasBit : ByteArray := prog_1_method_29_code
def yX5_hasBit : MethodName := ⟨RX5, "hasBit", "(II)Z"⟩
abbrev cX5_isRuling : ByteArray := prog_1_method_30_code
def yX5_isRuling : MethodName := ⟨RX5, "isRuling", "(I)Z"⟩
abbrev cX5_verdictUnder : ByteArray := prog_1_method_31_code
def yX5_verdictUnder : MethodName := ⟨RX5, "verdictUnder", "(LBallCourt$Laws;I)I"⟩
abbrev cX5_coveredKinds : ByteArray := prog_1_method_32_code
def yX5_coveredKinds : MethodName := ⟨RX5, "coveredKinds", "()I"⟩
abbrev cX5_turnedKinds : ByteArray := prog_1_method_33_code
def yX5_turnedKinds : MethodName := ⟨RX5, "turnedKinds", "()I"⟩
abbrev cX5_casesOfTurnedKinds : ByteArray := prog_1_method_34_code
def yX5_casesOfTurnedKinds : MethodName := ⟨RX5, "casesOfTurnedKinds", "()I"⟩
abbrev cX5_turnedVerdicts : ByteArray := prog_1_method_35_code
def yX5_turnedVerdicts : MethodName := ⟨RX5, "turnedVerdicts", "()I"⟩
def RX6 : String := "BallCourtModel"
def TX6 : u_T := fun k => match k with
  | 0 => ("BallCourtModel", "facts", "I", false)
  | 1 => ("BallCourtModel", "bars", "[I", true)
  | 2 => ("BallCourtModel", "lines", "I", false)
  | 3 => ("BallCourtModel", "must", "[I", true)
  | 4 => ("BallCourtModel", "mustNot", "[I", true)
  | 5 => ("BallCourtModel", "ruling", "[I", true)
  | 6 => ("BallCourtModel", "isRepealed", "[Z", true)
  | 7 => ("BallCourtModel", "excepts", "[I", true)
  | 8 => ("BallCourtModel", "moments", "I", false)
  | 9 => ("BallCourtModel", "toldSo", "[I", true)
  | 10 => ("BallCourtModel", "toldNot", "[I", true)
  | 11 => ("BallCourtModel", "ruled", "[I", true)
  | 12 => ("BallCourtModel", "cases", "I", false)
  | 13 => ("BallCourtModel", "caseKind", "[I", true)
  | 14 => ("BallCourtModel", "caseRuling", "[I", true)
  | 15 => ("BallCourtModel", "caseNames", "[I", true)
  | 16 => ("BallCourtModel", "goal", "I", false)
  | 17 => ("BallCourtModel", "before", "[I", true)
  | 18 => ("BallCourtModel", "verdict", "[I", true)
  | 19 => ("BallCourtModel", "state", "[I", true)
  | _ => ("BallCourtModel", "course", "[I", true)
def tyX6 : Nat → FieldType := fun k => match k with
  | 0 => .int
  | 1 => .array .int
  | 2 => .int
  | 3 => .array .int
  | 4 => .array .int
  | 5 => .array .int
  | 6 => .array .boolean
  | 7 => .array .int
  | 8 => .int
  | 9 => .array .int
  | 10 => .array .int
  | 11 => .array .int
  | 12 => .int
  | 13 => .array .int
  | 14 => .array .int
  | 15 => .array .int
  | 16 => .int
  | 17 => .array .int
  | 18 => .array .int
  | 19 => .array .int
  | _ => .array .int
abbrev wsX60 : List Cond := u_ws RX6 TX6 21
theorem nmX6 : ∀ a, a < 21 → ∀ b, b < 21 → a ≠ b → (TX6 a).2.1 ≠ (TX6 b).2.1 := by decide +kernel
theorem tyX6_ok : ∀ k, k < 21 → parseFieldDescriptor (TX6 k).2.2.1 = some (tyX6 k) := by decide +kernel
abbrev cX6_init : ByteArray := prog_8_method_1_code
def yX6_init : MethodName := ⟨RX6, "<init>", "()V"⟩
abbrev cX6_in : ByteArray := prog_8_method_2_code
def yX6_in : MethodName := ⟨RX6, "in", "(III)Z"⟩
abbrev cX6_isFact : ByteArray := prog_8_method_3_code
def yX6_isFact : MethodName := ⟨RX6, "isFact", "(I)Z"⟩
abbrev cX6_allFacts : ByteArray := prog_8_method_4_code
def yX6_allFacts : MethodName := ⟨RX6, "allFacts", "()I"⟩
abbrev cX6_isLine : ByteArray := prog_8_method_5_code
def yX6_isLine : MethodName := ⟨RX6, "isLine", "(I)Z"⟩
abbrev cX6_isRuling : ByteArray := prog_8_method_6_code
def yX6_isRuling : MethodName := ⟨RX6, "isRuling", "(I)Z"⟩
abbrev cX6_facts : ByteArray := prog_8_method_7_code
def yX6_facts : MethodName := ⟨RX6, "facts", "(I)I"⟩
abbrev cX6_barred : ByteArray := prog_8_method_8_code
def yX6_barred : MethodName := ⟨RX6, "barred", "(IIZ)I"⟩
abbrev cX6_isKind : ByteArray := prog_8_method_9_code
def yX6_isKind : MethodName := ⟨RX6, "isKind", "(I)Z"⟩
abbrev cX6_line : ByteArray := prog_8_method_10_code
def yX6_line : MethodName := ⟨RX6, "line", "(III)I"⟩
abbrev cX6_bits : ByteArray := prog_8_method_11_code
def yX6_bits : MethodName := ⟨RX6, "bits", "(I)I"⟩
abbrev cX6_except : ByteArray := prog_8_method_12_code
def yX6_except : MethodName := ⟨RX6, "except", "(II)I"⟩
abbrev cX6_repeal : ByteArray := prog_8_method_13_code
def yX6_repeal : MethodName := ⟨RX6, "repeal", "(IZ)I"⟩
abbrev cX6_namedBy : ByteArray := prog_8_method_14_code
def yX6_namedBy : MethodName := ⟨RX6, "namedBy", "(I)I"⟩
abbrev cX6_about : ByteArray := prog_8_method_15_code
def yX6_about : MethodName := ⟨RX6, "about", "(II)I"⟩
abbrev cX6_holding : ByteArray := prog_8_method_16_code
def yX6_holding : MethodName := ⟨RX6, "holding", "(I)I"⟩
abbrev cX6_holds : ByteArray := prog_8_method_17_code
def yX6_holds : MethodName := ⟨RX6, "holds", "(II)I"⟩
abbrev cX6_lineFor : ByteArray := prog_8_method_18_code
def yX6_lineFor : MethodName := ⟨RX6, "lineFor", "(I)I"⟩
abbrev cX6_rulingFor : ByteArray := prog_8_method_19_code
def yX6_rulingFor : MethodName := ⟨RX6, "rulingFor", "(I)I"⟩
abbrev cX6_law : ByteArray := prog_8_method_20_code
def yX6_law : MethodName := ⟨RX6, "law", "(II)I"⟩
abbrev cX6_open : ByteArray := prog_8_method_21_code
def yX6_open : MethodName := ⟨RX6, "open", "(I)I"⟩
abbrev cX6_bound : ByteArray := prog_8_method_22_code
def yX6_bound : MethodName := ⟨RX6, "bound", "(I)I"⟩
abbrev cX6_turnedKinds : ByteArray := prog_8_method_23_code
def yX6_turnedKinds : MethodName := ⟨RX6, "turnedKinds", "(I)I"⟩
abbrev cX6_idle : ByteArray := prog_8_method_24_code
def yX6_idle : MethodName := ⟨RX6, "idle", "(I)I"⟩
abbrev cX6_isMoment : ByteArray := prog_8_method_25_code
def yX6_isMoment : MethodName := ⟨RX6, "isMoment", "(I)Z"⟩
abbrev cX6_moment : ByteArray := prog_8_method_26_code
def yX6_moment : MethodName := ⟨RX6, "moment", "()I"⟩
abbrev cX6_tell : ByteArray := prog_8_method_27_code
def yX6_tell : MethodName := ⟨RX6, "tell", "(IIII)I"⟩
abbrev cX6_so : ByteArray := prog_8_method_28_code
def yX6_so : MethodName := ⟨RX6, "so", "(I)I"⟩
abbrev cX6_notSo : ByteArray := prog_8_method_29_code
def yX6_notSo : MethodName := ⟨RX6, "notSo", "(I)I"⟩
abbrev cX6_doubt : ByteArray := prog_8_method_30_code
def yX6_doubt : MethodName := ⟨RX6, "doubt", "(I)I"⟩
abbrev cX6_mayBe : ByteArray := prog_8_method_31_code
def yX6_mayBe : MethodName := ⟨RX6, "mayBe", "(II)Z"⟩
abbrev cX6_mayBes : ByteArray := prog_8_method_32_code
def yX6_mayBes : MethodName := ⟨RX6, "mayBes", "(II)I"⟩
abbrev cX6_known : ByteArray := prog_8_method_33_code
def yX6_known : MethodName := ⟨RX6, "known", "(II)I"⟩
abbrev cX6_proof : ByteArray := prog_8_method_34_code
def yX6_proof : MethodName := ⟨RX6, "proof", "(II)I"⟩
abbrev cX6_bindingCase : ByteArray := prog_8_method_35_code
def yX6_bindingCase : MethodName := ⟨RX6, "bindingCase", "(I)I"⟩
abbrev cX6_binds : ByteArray := prog_8_method_36_code
def yX6_binds : MethodName := ⟨RX6, "binds", "(I)I"⟩
abbrev cX6_verdictOf : ByteArray := prog_8_method_37_code
def yX6_verdictOf : MethodName := ⟨RX6, "verdictOf", "(I)I"⟩
abbrev cX6_verdict : ByteArray := prog_8_method_38_code
def yX6_verdict : MethodName := ⟨RX6, "verdict", "(I)I"⟩
abbrev cX6_rule : ByteArray := prog_8_method_39_code
def yX6_rule : MethodName := ⟨RX6, "rule", "(II)I"⟩
abbrev cX6_make : ByteArray := prog_8_method_40_code
def yX6_make : MethodName := ⟨RX6, "make", "(I)I"⟩
abbrev cX6_ofCase : ByteArray := prog_8_method_41_code
def yX6_ofCase : MethodName := ⟨RX6, "ofCase", "(II)I"⟩
abbrev cX6_turned : ByteArray := prog_8_method_42_code
def yX6_turned : MethodName := ⟨RX6, "turned", "()I"⟩
abbrev cX6_mend : ByteArray := prog_8_method_43_code
def yX6_mend : MethodName := ⟨RX6, "mend", "(II)I"⟩
abbrev cX6_goal : ByteArray := prog_8_method_44_code
def yX6_goal : MethodName := ⟨RX6, "goal", "(I)I"⟩
abbrev cX6_begin : ByteArray := prog_8_method_45_code
def yX6_begin : MethodName := ⟨RX6, "begin", "()V"⟩
abbrev cX6_play : ByteArray := prog_8_method_46_code
def yX6_play : MethodName := ⟨RX6, "play", "(I)V"⟩
abbrev cX6_score : ByteArray := prog_8_method_47_code
def yX6_score : MethodName := ⟨RX6, "score", "(II)I"⟩
abbrev cX6_packed : ByteArray := prog_8_method_48_code
def yX6_packed : MethodName := ⟨RX6, "packed", "()I"⟩
abbrev cX6_appeal : ByteArray := prog_8_method_49_code
def yX6_appeal : MethodName := ⟨RX6, "appeal", "(II)I"⟩
abbrev cX6_kinds : ByteArray := prog_8_method_50_code
def yX6_kinds : MethodName := ⟨RX6, "kinds", "(Z)I"⟩
abbrev cX6_told : ByteArray := prog_8_method_51_code
def yX6_told : MethodName := ⟨RX6, "told", "(I)I"⟩
def RJ6 : String := "java/lang/Integer"
def TJ6 : u_T := fun k => match k with
  | _ => ("", "", "", false)
def tyJ6 : Nat → FieldType := fun k => match k with
  | _ => .int
abbrev wsJ60 : List Cond := u_ws RJ6 TJ6 0
theorem nmJ6 : ∀ a, a < 0 → ∀ b, b < 0 → a ≠ b → (TJ6 a).2.1 ≠ (TJ6 b).2.1 := by decide +kernel
theorem tyJ6_ok : ∀ k, k < 0 → parseFieldDescriptor (TJ6 k).2.2.1 = some (tyJ6 k) := by decide +kernel
abbrev cJ6_bitCount_0f7a4 : ByteArray := prog_9_method_49_code
def yJ6_bitCount_0f7a4 : MethodName := ⟨RJ6, "bitCount", "(I)I"⟩
def RL : String := "BallCourtLaw"
abbrev cL_law : ByteArray := code
def yL_law : MethodName := ⟨RL, "law", "([I)Z"⟩
def wsX0_init : List Cond := .code yX0_init cX0_init 1 none :: ([.methodLink RX0 3 objectInit, .instanceMethod objectInit, .code objectInit ⟨#[0xb1]⟩ 1 none, .arrayClass .boolean, .fieldLink RX0 9 "BallCourt$Book" "isKind" "[Z", .arrayClass .int, .fieldLink RX0 15 "BallCourt$Book" "barredWith" "[I", .fieldLink RX0 19 "BallCourt$Book" "must" "[I", .fieldLink RX0 22 "BallCourt$Book" "mustNot" "[I", .fieldLink RX0 25 "BallCourt$Book" "ruling" "[I", .fieldLink RX0 28 "BallCourt$Book" "excepters" "[I"] ++ wsX00)
def wsX5_hasBit : List Cond := .code yX5_hasBit cX5_hasBit 2 (some .boolean) :: ([])
def wsX0_hasBarredPair : List Cond := .code yX0_hasBarredPair cX0_hasBarredPair 3 (some .boolean) :: ([.fieldLink RX0 31 "BallCourt$Book" "facts" "I", .fieldLink RX0 15 "BallCourt$Book" "barredWith" "[I", .static yX5_hasBit, .initialized RX5, .code yX5_hasBit cX5_hasBit 2 (some .boolean)] ++ wsX00)
def wsX0_workKinds : List Cond := .code yX0_workKinds cX0_workKinds 2 none :: ([.fieldLink RX0 35 "BallCourt$Book" "numbers" "I", .fieldLink RX0 9 "BallCourt$Book" "isKind" "[Z", .methodLink RX0 54 yX0_hasBarredPair, .instanceMethod yX0_hasBarredPair, .selects RX0 yX0_hasBarredPair yX0_hasBarredPair, .initialized RX0, .code yX0_hasBarredPair cX0_hasBarredPair 3 (some .boolean), .fieldLink RX0 31 "BallCourt$Book" "facts" "I", .fieldLink RX0 15 "BallCourt$Book" "barredWith" "[I", .static yX5_hasBit, .initialized RX5, .code yX5_hasBit cX5_hasBit 2 (some .boolean)] ++ wsX00)
def wsX0_begin : List Cond := .code yX0_begin cX0_begin 3 none :: ([.fieldLink RX0 31 "BallCourt$Book" "facts" "I", .fieldLink RX0 35 "BallCourt$Book" "numbers" "I", .fieldLink RX0 38 "BallCourt$Book" "lines" "I", .fieldLink RX0 41 "BallCourt$Book" "repealed" "I", .fieldLink RX0 44 "BallCourt$Book" "excepting" "I", .fieldLink RX0 15 "BallCourt$Book" "barredWith" "[I", .methodLink RX0 47 yX0_workKinds, .instanceMethod yX0_workKinds, .selects RX0 yX0_workKinds yX0_workKinds, .initialized RX0, .code yX0_workKinds cX0_workKinds 2 none, .fieldLink RX0 9 "BallCourt$Book" "isKind" "[Z", .methodLink RX0 54 yX0_hasBarredPair, .instanceMethod yX0_hasBarredPair, .selects RX0 yX0_hasBarredPair yX0_hasBarredPair, .code yX0_hasBarredPair cX0_hasBarredPair 3 (some .boolean), .static yX5_hasBit, .initialized RX5, .code yX5_hasBit cX5_hasBit 2 (some .boolean)] ++ wsX00)
def wsX0_hasFact : List Cond := .code yX0_hasFact cX0_hasFact 2 (some .boolean) :: ([.fieldLink RX0 31 "BallCourt$Book" "facts" "I"] ++ wsX00)
def wsX0_areFacts : List Cond := .code yX0_areFacts cX0_areFacts 2 (some .boolean) :: ([.fieldLink RX0 35 "BallCourt$Book" "numbers" "I"] ++ wsX00)
def wsX0_allFacts : List Cond := .code yX0_allFacts cX0_allFacts 1 (some .int) :: ([.fieldLink RX0 35 "BallCourt$Book" "numbers" "I"] ++ wsX00)
def wsX0_hasKind : List Cond := .code yX0_hasKind cX0_hasKind 2 (some .boolean) :: ([.fieldLink RX0 35 "BallCourt$Book" "numbers" "I", .fieldLink RX0 9 "BallCourt$Book" "isKind" "[Z"] ++ wsX00)
def wsX0_hasLine : List Cond := .code yX0_hasLine cX0_hasLine 2 (some .boolean) :: ([.fieldLink RX0 38 "BallCourt$Book" "lines" "I"] ++ wsX00)
def wsX0_areBarred : List Cond := .code yX0_areBarred cX0_areBarred 3 (some .boolean) :: ([.fieldLink RX0 15 "BallCourt$Book" "barredWith" "[I", .static yX5_hasBit, .initialized RX5, .code yX5_hasBit cX5_hasBit 2 (some .boolean)] ++ wsX00)
def wsX0_bar : List Cond := .code yX0_bar cX0_bar 4 none :: ([.fieldLink RX0 15 "BallCourt$Book" "barredWith" "[I", .methodLink RX0 47 yX0_workKinds, .instanceMethod yX0_workKinds, .selects RX0 yX0_workKinds yX0_workKinds, .initialized RX0, .code yX0_workKinds cX0_workKinds 2 none, .fieldLink RX0 35 "BallCourt$Book" "numbers" "I", .fieldLink RX0 9 "BallCourt$Book" "isKind" "[Z", .methodLink RX0 54 yX0_hasBarredPair, .instanceMethod yX0_hasBarredPair, .selects RX0 yX0_hasBarredPair yX0_hasBarredPair, .code yX0_hasBarredPair cX0_hasBarredPair 3 (some .boolean), .fieldLink RX0 31 "BallCourt$Book" "facts" "I", .static yX5_hasBit, .initialized RX5, .code yX5_hasBit cX5_hasBit 2 (some .boolean)] ++ wsX00)
def wsX0_mayBe : List Cond := .code yX0_mayBe cX0_mayBe 4 (some .boolean) :: ([.fieldLink RX0 9 "BallCourt$Book" "isKind" "[Z"] ++ wsX00)
def wsX0_countMayBe : List Cond := .code yX0_countMayBe cX0_countMayBe 5 (some .int) :: ([.fieldLink RX0 35 "BallCourt$Book" "numbers" "I", .methodLink RX0 58 yX0_mayBe, .instanceMethod yX0_mayBe, .selects RX0 yX0_mayBe yX0_mayBe, .initialized RX0, .code yX0_mayBe cX0_mayBe 4 (some .boolean), .fieldLink RX0 9 "BallCourt$Book" "isKind" "[Z"] ++ wsX00)
def wsX0_addLine : List Cond := .code yX0_addLine cX0_addLine 5 (some .int) :: ([.fieldLink RX0 38 "BallCourt$Book" "lines" "I", .fieldLink RX0 19 "BallCourt$Book" "must" "[I", .fieldLink RX0 22 "BallCourt$Book" "mustNot" "[I", .fieldLink RX0 25 "BallCourt$Book" "ruling" "[I", .fieldLink RX0 28 "BallCourt$Book" "excepters" "[I"] ++ wsX00)
def wsX0_excepts : List Cond := .code yX0_excepts cX0_excepts 3 (some .boolean) :: ([.fieldLink RX0 28 "BallCourt$Book" "excepters" "[I", .static yX5_hasBit, .initialized RX5, .code yX5_hasBit cX5_hasBit 2 (some .boolean)] ++ wsX00)
def wsX0_addException : List Cond := .code yX0_addException cX0_addException 3 none :: ([.fieldLink RX0 28 "BallCourt$Book" "excepters" "[I", .fieldLink RX0 44 "BallCourt$Book" "excepting" "I"] ++ wsX00)
def wsX0_isRepealed : List Cond := .code yX0_isRepealed cX0_isRepealed 2 (some .boolean) :: ([.fieldLink RX0 41 "BallCourt$Book" "repealed" "I", .static yX5_hasBit, .initialized RX5, .code yX5_hasBit cX5_hasBit 2 (some .boolean)] ++ wsX00)
def wsX0_repealedIfMended : List Cond := .code yX0_repealedIfMended cX0_repealedIfMended 2 (some .int) :: ([.fieldLink RX0 41 "BallCourt$Book" "repealed" "I"] ++ wsX00)
def wsX0_holding : List Cond := .code yX0_holding cX0_holding 6 (some .int) :: ([.fieldLink RX0 38 "BallCourt$Book" "lines" "I", .fieldLink RX0 19 "BallCourt$Book" "must" "[I", .fieldLink RX0 22 "BallCourt$Book" "mustNot" "[I", .fieldLink RX0 28 "BallCourt$Book" "excepters" "[I", .static yX5_hasBit, .initialized RX5, .code yX5_hasBit cX5_hasBit 2 (some .boolean)] ++ wsX00)
def wsX0_lawLine : List Cond := .code yX0_lawLine cX0_lawLine 5 (some .int) :: ([.fieldLink RX0 44 "BallCourt$Book" "excepting" "I", .fieldLink RX0 38 "BallCourt$Book" "lines" "I", .methodLink RX0 62 yX0_holding, .instanceMethod yX0_holding, .selects RX0 yX0_holding yX0_holding, .initialized RX0, .code yX0_holding cX0_holding 6 (some .int), .fieldLink RX0 19 "BallCourt$Book" "must" "[I", .fieldLink RX0 22 "BallCourt$Book" "mustNot" "[I", .fieldLink RX0 28 "BallCourt$Book" "excepters" "[I", .static yX5_hasBit, .initialized RX5, .code yX5_hasBit cX5_hasBit 2 (some .boolean)] ++ wsX00)
def wsX0_namedBy : List Cond := .code yX0_namedBy cX0_namedBy 5 (some .int) :: ([.fieldLink RX0 38 "BallCourt$Book" "lines" "I", .fieldLink RX0 19 "BallCourt$Book" "must" "[I", .fieldLink RX0 22 "BallCourt$Book" "mustNot" "[I", .fieldLink RX0 28 "BallCourt$Book" "excepters" "[I", .fieldLink RX0 41 "BallCourt$Book" "repealed" "I", .static yX5_hasBit, .initialized RX5, .code yX5_hasBit cX5_hasBit 2 (some .boolean)] ++ wsX00)
def wsX1_init : List Cond := .code yX1_init cX1_init 1 none :: ([.methodLink RX1 3 objectInit, .instanceMethod objectInit, .code objectInit ⟨#[0xb1]⟩ 1 none, .arrayClass .int, .fieldLink RX1 9 "BallCourt$Cases" "kind" "[I", .fieldLink RX1 15 "BallCourt$Cases" "ruling" "[I", .fieldLink RX1 18 "BallCourt$Cases" "names" "[I"] ++ wsX10)
def wsX1_has : List Cond := .code yX1_has cX1_has 2 (some .boolean) :: ([.fieldLink RX1 21 "BallCourt$Cases" "count" "I"] ++ wsX10)
def wsX1_add : List Cond := .code yX1_add cX1_add 5 (some .int) :: ([.fieldLink RX1 21 "BallCourt$Cases" "count" "I", .fieldLink RX1 9 "BallCourt$Cases" "kind" "[I", .fieldLink RX1 15 "BallCourt$Cases" "ruling" "[I", .fieldLink RX1 18 "BallCourt$Cases" "names" "[I"] ++ wsX10)
def wsX1_firstThatBinds : List Cond := .code yX1_firstThatBinds cX1_firstThatBinds 6 (some .int) :: ([.fieldLink RX1 21 "BallCourt$Cases" "count" "I", .fieldLink RX1 18 "BallCourt$Cases" "names" "[I", .fieldLink RX1 9 "BallCourt$Cases" "kind" "[I"] ++ wsX10)
def wsX2_init : List Cond := .code yX2_init cX2_init 1 none :: ([.methodLink RX2 3 objectInit, .instanceMethod objectInit, .code objectInit ⟨#[0xb1]⟩ 1 none])
def wsX2_begin : List Cond := .code yX2_begin cX2_begin 2 none :: ([.fieldLink RX2 9 "BallCourt$Game" "toWin" "I", .fieldLink RX2 15 "BallCourt$Game" "hoopsOf0" "I", .fieldLink RX2 18 "BallCourt$Game" "hoopsOf1" "I", .fieldLink RX2 21 "BallCourt$Game" "striker" "I"] ++ wsX20)
def wsX2_winner : List Cond := .code yX2_winner cX2_winner 1 (some .int) :: ([.fieldLink RX2 15 "BallCourt$Game" "hoopsOf0" "I", .fieldLink RX2 9 "BallCourt$Game" "toWin" "I", .fieldLink RX2 18 "BallCourt$Game" "hoopsOf1" "I"] ++ wsX20)
def wsX2_giveHoop : List Cond := .code yX2_giveHoop cX2_giveHoop 2 none :: ([.fieldLink RX2 15 "BallCourt$Game" "hoopsOf0" "I", .fieldLink RX2 18 "BallCourt$Game" "hoopsOf1" "I"] ++ wsX20)
def wsX2_play : List Cond := .code yX2_play cX2_play 2 none :: ([.fieldLink RX2 21 "BallCourt$Game" "striker" "I", .methodLink RX2 24 yX2_winner, .instanceMethod yX2_winner, .selects RX2 yX2_winner yX2_winner, .initialized RX2, .code yX2_winner cX2_winner 1 (some .int), .fieldLink RX2 15 "BallCourt$Game" "hoopsOf0" "I", .fieldLink RX2 9 "BallCourt$Game" "toWin" "I", .fieldLink RX2 18 "BallCourt$Game" "hoopsOf1" "I", .methodLink RX2 28 yX2_giveHoop, .instanceMethod yX2_giveHoop, .selects RX2 yX2_giveHoop yX2_giveHoop, .code yX2_giveHoop cX2_giveHoop 2 none] ++ wsX20)
def wsX2_standsAs : List Cond := .code yX2_standsAs cX2_standsAs 2 (some .boolean) :: ([.fieldLink RX2 15 "BallCourt$Game" "hoopsOf0" "I", .fieldLink RX2 18 "BallCourt$Game" "hoopsOf1" "I", .fieldLink RX2 21 "BallCourt$Game" "striker" "I", .methodLink RX2 24 yX2_winner, .instanceMethod yX2_winner, .selects RX2 yX2_winner yX2_winner, .initialized RX2, .code yX2_winner cX2_winner 1 (some .int), .fieldLink RX2 9 "BallCourt$Game" "toWin" "I"] ++ wsX20)
def wsX3_init : List Cond := .code yX3_init cX3_init 2 none :: ([.methodLink RX3 3 objectInit, .instanceMethod objectInit, .code objectInit ⟨#[0xb1]⟩ 1 none, .arrayClass .int, .fieldLink RX3 9 "BallCourt$Laws" "lineOf" "[I", .fieldLink RX3 15 "BallCourt$Laws" "book" "LBallCourt$Book;"] ++ wsX30)
def wsX3_work : List Cond := .code yX3_work cX3_work 3 none :: ([.fieldLink RX3 15 "BallCourt$Laws" "book" "LBallCourt$Book;", .fieldLink RX3 9 "BallCourt$Laws" "lineOf" "[I", .methodLink RX3 25 yX0_lawLine, .instanceMethod yX0_lawLine, .selects RX0 yX0_lawLine yX0_lawLine, .initialized RX0, .code yX0_lawLine cX0_lawLine 5 (some .int), .fieldLink RX0 44 "BallCourt$Book" "excepting" "I", .fieldLink RX0 38 "BallCourt$Book" "lines" "I", .methodLink RX0 62 yX0_holding, .instanceMethod yX0_holding, .selects RX0 yX0_holding yX0_holding, .code yX0_holding cX0_holding 6 (some .int), .fieldLink RX0 19 "BallCourt$Book" "must" "[I", .fieldLink RX0 22 "BallCourt$Book" "mustNot" "[I", .fieldLink RX0 28 "BallCourt$Book" "excepters" "[I", .static yX5_hasBit, .initialized RX5, .code yX5_hasBit cX5_hasBit 2 (some .boolean)] ++ wsX30 ++ wsX00)
def wsX3_covers : List Cond := .code yX3_covers cX3_covers 2 (some .boolean) :: ([.fieldLink RX3 9 "BallCourt$Laws" "lineOf" "[I"] ++ wsX30)
def wsX3_rulingFor : List Cond := .code yX3_rulingFor cX3_rulingFor 2 (some .int) :: ([.fieldLink RX3 15 "BallCourt$Laws" "book" "LBallCourt$Book;", .fieldLink RX3 9 "BallCourt$Laws" "lineOf" "[I", .methodLink RX3 29 yX3_covers, .instanceMethod yX3_covers, .selects RX3 yX3_covers yX3_covers, .initialized RX3, .code yX3_covers cX3_covers 2 (some .boolean)] ++ wsX30 ++ wsX00)
def wsX3_differFor : List Cond := .code yX3_differFor cX3_differFor 3 (some .boolean) :: ([.methodLink RX3 36 yX3_rulingFor, .instanceMethod yX3_rulingFor, .selects RX3 yX3_rulingFor yX3_rulingFor, .initialized RX3, .code yX3_rulingFor cX3_rulingFor 2 (some .int), .fieldLink RX3 15 "BallCourt$Laws" "book" "LBallCourt$Book;", .fieldLink RX3 9 "BallCourt$Laws" "lineOf" "[I", .methodLink RX3 29 yX3_covers, .instanceMethod yX3_covers, .selects RX3 yX3_covers yX3_covers, .code yX3_covers cX3_covers 2 (some .boolean)] ++ wsX30 ++ wsX00)
def wsX3_countMayBeRuled : List Cond := .code yX3_countMayBeRuled cX3_countMayBeRuled 6 (some .int) :: ([.fieldLink RX3 15 "BallCourt$Laws" "book" "LBallCourt$Book;", .methodLink RX3 40 yX0_mayBe, .instanceMethod yX0_mayBe, .selects RX0 yX0_mayBe yX0_mayBe, .initialized RX0, .code yX0_mayBe cX0_mayBe 4 (some .boolean), .fieldLink RX0 9 "BallCourt$Book" "isKind" "[Z", .methodLink RX3 36 yX3_rulingFor, .instanceMethod yX3_rulingFor, .selects RX3 yX3_rulingFor yX3_rulingFor, .initialized RX3, .code yX3_rulingFor cX3_rulingFor 2 (some .int), .fieldLink RX3 9 "BallCourt$Laws" "lineOf" "[I", .methodLink RX3 29 yX3_covers, .instanceMethod yX3_covers, .selects RX3 yX3_covers yX3_covers, .code yX3_covers cX3_covers 2 (some .boolean)] ++ wsX30 ++ wsX00)
def wsX3_rulingForAll : List Cond := .code yX3_rulingForAll cX3_rulingForAll 6 (some .int) :: ([.fieldLink RX3 15 "BallCourt$Laws" "book" "LBallCourt$Book;", .methodLink RX3 40 yX0_mayBe, .instanceMethod yX0_mayBe, .selects RX0 yX0_mayBe yX0_mayBe, .initialized RX0, .code yX0_mayBe cX0_mayBe 4 (some .boolean), .fieldLink RX0 9 "BallCourt$Book" "isKind" "[Z", .methodLink RX3 36 yX3_rulingFor, .instanceMethod yX3_rulingFor, .selects RX3 yX3_rulingFor yX3_rulingFor, .initialized RX3, .code yX3_rulingFor cX3_rulingFor 2 (some .int), .fieldLink RX3 9 "BallCourt$Laws" "lineOf" "[I", .methodLink RX3 29 yX3_covers, .instanceMethod yX3_covers, .selects RX3 yX3_covers yX3_covers, .code yX3_covers cX3_covers 2 (some .boolean)] ++ wsX30 ++ wsX00)
def wsX4_init : List Cond := .code yX4_init cX4_init 1 none :: ([.methodLink RX4 3 objectInit, .instanceMethod objectInit, .code objectInit ⟨#[0xb1]⟩ 1 none, .arrayClass .int, .fieldLink RX4 9 "BallCourt$Moments" "toldSo" "[I", .fieldLink RX4 15 "BallCourt$Moments" "toldNotSo" "[I", .fieldLink RX4 18 "BallCourt$Moments" "ruled" "[I"] ++ wsX40)
def wsX4_has : List Cond := .code yX4_has cX4_has 2 (some .boolean) :: ([.fieldLink RX4 21 "BallCourt$Moments" "count" "I"] ++ wsX40)
def wsX4_add : List Cond := .code yX4_add cX4_add 3 (some .int) :: ([.fieldLink RX4 21 "BallCourt$Moments" "count" "I", .fieldLink RX4 9 "BallCourt$Moments" "toldSo" "[I", .fieldLink RX4 15 "BallCourt$Moments" "toldNotSo" "[I", .fieldLink RX4 18 "BallCourt$Moments" "ruled" "[I"] ++ wsX40)
def wsX4_hear : List Cond := .code yX4_hear cX4_hear 7 (some .int) :: ([.fieldLink RX4 9 "BallCourt$Moments" "toldSo" "[I", .fieldLink RX4 15 "BallCourt$Moments" "toldNotSo" "[I", .static yX5_hasBit, .initialized RX5, .code yX5_hasBit cX5_hasBit 2 (some .boolean)] ++ wsX40)
def wsX4_ofAll : List Cond := .code yX4_ofAll cX4_ofAll 4 (some .int) :: ([])
def wsX4_knownSo : List Cond := .code yX4_knownSo cX4_knownSo 2 (some .int) :: ([.fieldLink RX4 9 "BallCourt$Moments" "toldSo" "[I", .fieldLink RX4 15 "BallCourt$Moments" "toldNotSo" "[I", .methodLink RX4 29 yX4_ofAll, .static yX4_ofAll, .initialized RX4, .code yX4_ofAll cX4_ofAll 4 (some .int)] ++ wsX40)
def wsX4_knownNotSo : List Cond := .code yX4_knownNotSo cX4_knownNotSo 2 (some .int) :: ([.fieldLink RX4 15 "BallCourt$Moments" "toldNotSo" "[I", .fieldLink RX4 9 "BallCourt$Moments" "toldSo" "[I", .methodLink RX4 29 yX4_ofAll, .static yX4_ofAll, .initialized RX4, .code yX4_ofAll cX4_ofAll 4 (some .int)] ++ wsX40)
def wsX5_beginAnew_r1 : List Cond := [Cond.fieldLink RX5 10 "BallCourt" "book" "LBallCourt$Book;", Cond.fieldLink RX5 31 "BallCourt" "played" "LBallCourt$Moments;", Cond.fieldLink RX5 38 "BallCourt" "cases" "LBallCourt$Cases;", Cond.fieldLink RX5 21 "BallCourt" "laws" "LBallCourt$Laws;", Cond.methodLink RX5 60 yX0_begin, Cond.instanceMethod yX0_begin, Cond.selects RX0 yX0_begin yX0_begin, Cond.initialized RX0, Cond.code yX0_begin cX0_begin 3 none, Cond.fieldLink RX0 31 "BallCourt$Book" "facts" "I", Cond.fieldLink RX0 35 "BallCourt$Book" "numbers" "I", Cond.fieldLink RX0 38 "BallCourt$Book" "lines" "I", Cond.fieldLink RX0 41 "BallCourt$Book" "repealed" "I", Cond.fieldLink RX0 44 "BallCourt$Book" "excepting" "I", Cond.fieldLink RX0 15 "BallCourt$Book" "barredWith" "[I", Cond.methodLink RX0 47 yX0_workKinds, Cond.instanceMethod yX0_workKinds, Cond.selects RX0 yX0_workKinds yX0_workKinds, Cond.code yX0_workKinds cX0_workKinds 2 none, Cond.fieldLink RX0 9 "BallCourt$Book" "isKind" "[Z", Cond.methodLink RX0 54 yX0_hasBarredPair, Cond.instanceMethod yX0_hasBarredPair, Cond.selects RX0 yX0_hasBarredPair yX0_hasBarredPair, Cond.code yX0_hasBarredPair cX0_hasBarredPair 3 (some .boolean)]
def wsX5_beginAnew_r2 : List Cond := [Cond.static yX5_hasBit, Cond.initialized RX5, Cond.code yX5_hasBit cX5_hasBit 2 (some .boolean), Cond.methodLink RX5 70 yX3_work, Cond.instanceMethod yX3_work, Cond.selects RX3 yX3_work yX3_work, Cond.initialized RX3, Cond.code yX3_work cX3_work 3 none, Cond.fieldLink RX3 15 "BallCourt$Laws" "book" "LBallCourt$Book;", Cond.fieldLink RX3 9 "BallCourt$Laws" "lineOf" "[I", Cond.methodLink RX3 25 yX0_lawLine, Cond.instanceMethod yX0_lawLine, Cond.selects RX0 yX0_lawLine yX0_lawLine, Cond.code yX0_lawLine cX0_lawLine 5 (some .int), Cond.methodLink RX0 62 yX0_holding, Cond.instanceMethod yX0_holding, Cond.selects RX0 yX0_holding yX0_holding, Cond.code yX0_holding cX0_holding 6 (some .int), Cond.fieldLink RX0 19 "BallCourt$Book" "must" "[I", Cond.fieldLink RX0 22 "BallCourt$Book" "mustNot" "[I", Cond.fieldLink RX0 28 "BallCourt$Book" "excepters" "[I"]
def wsX5_beginAnew : List Cond := .code yX5_beginAnew cX5_beginAnew 2 none :: ((wsX5_beginAnew_r1 ++ wsX5_beginAnew_r2) ++ wsX50 ++ wsX40 ++ wsX10 ++ wsX00 ++ wsX30)
def wsX5_init_r1 : List Cond := [Cond.methodLink RX5 1 objectInit, Cond.instanceMethod objectInit, Cond.code objectInit ⟨#[0xb1]⟩ 1 none, Cond.classLink RX5 7 RX0, Cond.instantiable RX0 11, Cond.initialized RX0, Cond.fieldLink RX5 10 "BallCourt" "book" "LBallCourt$Book;", Cond.classLink RX5 16 RX3, Cond.instantiable RX3 2, Cond.initialized RX3, Cond.fieldLink RX5 21 "BallCourt" "laws" "LBallCourt$Laws;", Cond.fieldLink RX5 25 "BallCourt" "lawsIfMended" "LBallCourt$Laws;", Cond.classLink RX5 28 RX4, Cond.instantiable RX4 4, Cond.initialized RX4, Cond.fieldLink RX5 31 "BallCourt" "played" "LBallCourt$Moments;", Cond.classLink RX5 35 RX1, Cond.instantiable RX1 4, Cond.initialized RX1, Cond.fieldLink RX5 38 "BallCourt" "cases" "LBallCourt$Cases;", Cond.classLink RX5 42 RX2, Cond.instantiable RX2 4, Cond.initialized RX2, Cond.fieldLink RX5 45 "BallCourt" "game" "LBallCourt$Game;"]
def wsX5_init_r2 : List Cond := [Cond.fieldLink RX5 49 "BallCourt" "gameIfRuled" "LBallCourt$Game;", Cond.fieldLink RX5 52 "BallCourt" "hoopsToWin" "I", Cond.instanceMethod yX0_init, Cond.code yX0_init cX0_init 1 none, Cond.methodLink RX0 3 objectInit, Cond.arrayClass .boolean, Cond.fieldLink RX0 9 "BallCourt$Book" "isKind" "[Z", Cond.arrayClass .int, Cond.fieldLink RX0 15 "BallCourt$Book" "barredWith" "[I", Cond.fieldLink RX0 19 "BallCourt$Book" "must" "[I", Cond.fieldLink RX0 22 "BallCourt$Book" "mustNot" "[I", Cond.fieldLink RX0 25 "BallCourt$Book" "ruling" "[I", Cond.fieldLink RX0 28 "BallCourt$Book" "excepters" "[I", Cond.methodLink RX5 18 yX3_init, Cond.instanceMethod yX3_init, Cond.code yX3_init cX3_init 2 none, Cond.methodLink RX3 3 objectInit, Cond.fieldLink RX3 9 "BallCourt$Laws" "lineOf" "[I", Cond.fieldLink RX3 15 "BallCourt$Laws" "book" "LBallCourt$Book;", Cond.instanceMethod yX4_init, Cond.code yX4_init cX4_init 1 none, Cond.methodLink RX4 3 objectInit, Cond.fieldLink RX4 9 "BallCourt$Moments" "toldSo" "[I", Cond.fieldLink RX4 15 "BallCourt$Moments" "toldNotSo" "[I"]
def wsX5_init_r3 : List Cond := [Cond.fieldLink RX4 18 "BallCourt$Moments" "ruled" "[I", Cond.instanceMethod yX1_init, Cond.code yX1_init cX1_init 1 none, Cond.methodLink RX1 3 objectInit, Cond.fieldLink RX1 9 "BallCourt$Cases" "kind" "[I", Cond.fieldLink RX1 15 "BallCourt$Cases" "ruling" "[I", Cond.fieldLink RX1 18 "BallCourt$Cases" "names" "[I", Cond.instanceMethod yX2_init, Cond.code yX2_init cX2_init 1 none, Cond.methodLink RX2 3 objectInit, Cond.methodLink RX5 56 yX5_beginAnew, Cond.instanceMethod yX5_beginAnew, Cond.selects RX5 yX5_beginAnew yX5_beginAnew, Cond.initialized RX5, Cond.code yX5_beginAnew cX5_beginAnew 2 none, Cond.methodLink RX5 60 yX0_begin, Cond.instanceMethod yX0_begin, Cond.selects RX0 yX0_begin yX0_begin, Cond.code yX0_begin cX0_begin 3 none, Cond.fieldLink RX0 31 "BallCourt$Book" "facts" "I", Cond.fieldLink RX0 35 "BallCourt$Book" "numbers" "I", Cond.fieldLink RX0 38 "BallCourt$Book" "lines" "I", Cond.fieldLink RX0 41 "BallCourt$Book" "repealed" "I", Cond.fieldLink RX0 44 "BallCourt$Book" "excepting" "I"]
def wsX5_init_r4 : List Cond := [Cond.methodLink RX0 47 yX0_workKinds, Cond.instanceMethod yX0_workKinds, Cond.selects RX0 yX0_workKinds yX0_workKinds, Cond.code yX0_workKinds cX0_workKinds 2 none, Cond.methodLink RX0 54 yX0_hasBarredPair, Cond.instanceMethod yX0_hasBarredPair, Cond.selects RX0 yX0_hasBarredPair yX0_hasBarredPair, Cond.code yX0_hasBarredPair cX0_hasBarredPair 3 (some .boolean), Cond.static yX5_hasBit, Cond.code yX5_hasBit cX5_hasBit 2 (some .boolean), Cond.methodLink RX5 70 yX3_work, Cond.instanceMethod yX3_work, Cond.selects RX3 yX3_work yX3_work, Cond.code yX3_work cX3_work 3 none, Cond.methodLink RX3 25 yX0_lawLine, Cond.instanceMethod yX0_lawLine, Cond.selects RX0 yX0_lawLine yX0_lawLine, Cond.code yX0_lawLine cX0_lawLine 5 (some .int), Cond.methodLink RX0 62 yX0_holding, Cond.instanceMethod yX0_holding, Cond.selects RX0 yX0_holding yX0_holding, Cond.code yX0_holding cX0_holding 6 (some .int)]
def wsX5_init : List Cond := .code yX5_init cX5_init 1 none :: ((wsX5_init_r1 ++ (wsX5_init_r2 ++ (wsX5_init_r3 ++ wsX5_init_r4))) ++ wsX00 ++ wsX50 ++ wsX30 ++ wsX40 ++ wsX10 ++ wsX20)
def wsX5_facts_r1 : List Cond := [Cond.fieldLink RX5 10 "BallCourt" "book" "LBallCourt$Book;", Cond.methodLink RX5 56 yX5_beginAnew, Cond.instanceMethod yX5_beginAnew, Cond.selects RX5 yX5_beginAnew yX5_beginAnew, Cond.initialized RX5, Cond.code yX5_beginAnew cX5_beginAnew 2 none, Cond.fieldLink RX5 31 "BallCourt" "played" "LBallCourt$Moments;", Cond.fieldLink RX5 38 "BallCourt" "cases" "LBallCourt$Cases;", Cond.fieldLink RX5 21 "BallCourt" "laws" "LBallCourt$Laws;", Cond.methodLink RX5 60 yX0_begin, Cond.instanceMethod yX0_begin, Cond.selects RX0 yX0_begin yX0_begin, Cond.initialized RX0, Cond.code yX0_begin cX0_begin 3 none, Cond.fieldLink RX0 31 "BallCourt$Book" "facts" "I", Cond.fieldLink RX0 35 "BallCourt$Book" "numbers" "I", Cond.fieldLink RX0 38 "BallCourt$Book" "lines" "I", Cond.fieldLink RX0 41 "BallCourt$Book" "repealed" "I", Cond.fieldLink RX0 44 "BallCourt$Book" "excepting" "I", Cond.fieldLink RX0 15 "BallCourt$Book" "barredWith" "[I", Cond.methodLink RX0 47 yX0_workKinds, Cond.instanceMethod yX0_workKinds, Cond.selects RX0 yX0_workKinds yX0_workKinds, Cond.code yX0_workKinds cX0_workKinds 2 none]
def wsX5_facts_r2 : List Cond := [Cond.fieldLink RX0 9 "BallCourt$Book" "isKind" "[Z", Cond.methodLink RX0 54 yX0_hasBarredPair, Cond.instanceMethod yX0_hasBarredPair, Cond.selects RX0 yX0_hasBarredPair yX0_hasBarredPair, Cond.code yX0_hasBarredPair cX0_hasBarredPair 3 (some .boolean), Cond.static yX5_hasBit, Cond.code yX5_hasBit cX5_hasBit 2 (some .boolean), Cond.methodLink RX5 70 yX3_work, Cond.instanceMethod yX3_work, Cond.selects RX3 yX3_work yX3_work, Cond.initialized RX3, Cond.code yX3_work cX3_work 3 none, Cond.fieldLink RX3 15 "BallCourt$Laws" "book" "LBallCourt$Book;", Cond.fieldLink RX3 9 "BallCourt$Laws" "lineOf" "[I", Cond.methodLink RX3 25 yX0_lawLine, Cond.instanceMethod yX0_lawLine, Cond.selects RX0 yX0_lawLine yX0_lawLine, Cond.code yX0_lawLine cX0_lawLine 5 (some .int), Cond.methodLink RX0 62 yX0_holding, Cond.instanceMethod yX0_holding, Cond.selects RX0 yX0_holding yX0_holding, Cond.code yX0_holding cX0_holding 6 (some .int), Cond.fieldLink RX0 19 "BallCourt$Book" "must" "[I", Cond.fieldLink RX0 22 "BallCourt$Book" "mustNot" "[I"]
def wsX5_facts_r3 : List Cond := [Cond.fieldLink RX0 28 "BallCourt$Book" "excepters" "[I"]
def wsX5_facts : List Cond := .code yX5_facts cX5_facts 3 (some .int) :: ((wsX5_facts_r1 ++ (wsX5_facts_r2 ++ wsX5_facts_r3)) ++ wsX50 ++ wsX00 ++ wsX40 ++ wsX10 ++ wsX30)
def wsX5_oneIf : List Cond := .code yX5_oneIf cX5_oneIf 1 (some .int) :: ([])
def wsX5_barred_r1 : List Cond := [Cond.fieldLink RX5 10 "BallCourt" "book" "LBallCourt$Book;", Cond.methodLink RX5 76 yX0_hasFact, Cond.instanceMethod yX0_hasFact, Cond.selects RX0 yX0_hasFact yX0_hasFact, Cond.initialized RX0, Cond.code yX0_hasFact cX0_hasFact 2 (some .boolean), Cond.fieldLink RX0 31 "BallCourt$Book" "facts" "I", Cond.methodLink RX5 80 yX0_areBarred, Cond.instanceMethod yX0_areBarred, Cond.selects RX0 yX0_areBarred yX0_areBarred, Cond.code yX0_areBarred cX0_areBarred 3 (some .boolean), Cond.fieldLink RX0 15 "BallCourt$Book" "barredWith" "[I", Cond.static yX5_hasBit, Cond.initialized RX5, Cond.code yX5_hasBit cX5_hasBit 2 (some .boolean), Cond.methodLink RX5 84 yX0_bar, Cond.instanceMethod yX0_bar, Cond.selects RX0 yX0_bar yX0_bar, Cond.code yX0_bar cX0_bar 4 none, Cond.methodLink RX0 47 yX0_workKinds, Cond.instanceMethod yX0_workKinds, Cond.selects RX0 yX0_workKinds yX0_workKinds, Cond.code yX0_workKinds cX0_workKinds 2 none, Cond.fieldLink RX0 35 "BallCourt$Book" "numbers" "I"]
def wsX5_barred_r2 : List Cond := [Cond.fieldLink RX0 9 "BallCourt$Book" "isKind" "[Z", Cond.methodLink RX0 54 yX0_hasBarredPair, Cond.instanceMethod yX0_hasBarredPair, Cond.selects RX0 yX0_hasBarredPair yX0_hasBarredPair, Cond.code yX0_hasBarredPair cX0_hasBarredPair 3 (some .boolean), Cond.methodLink RX5 88 yX5_oneIf, Cond.static yX5_oneIf, Cond.code yX5_oneIf cX5_oneIf 1 (some .int)]
def wsX5_barred : List Cond := .code yX5_barred cX5_barred 5 (some .int) :: ((wsX5_barred_r1 ++ wsX5_barred_r2) ++ wsX50 ++ wsX00)
def wsX5_isRuling : List Cond := .code yX5_isRuling cX5_isRuling 1 (some .boolean) :: ([])
def wsX5_line_r1 : List Cond := [Cond.fieldLink RX5 10 "BallCourt" "book" "LBallCourt$Book;", Cond.fieldLink RX5 21 "BallCourt" "laws" "LBallCourt$Laws;", Cond.methodLink RX5 92 yX0_areFacts, Cond.instanceMethod yX0_areFacts, Cond.selects RX0 yX0_areFacts yX0_areFacts, Cond.initialized RX0, Cond.code yX0_areFacts cX0_areFacts 2 (some .boolean), Cond.fieldLink RX0 35 "BallCourt$Book" "numbers" "I", Cond.methodLink RX5 95 yX5_isRuling, Cond.static yX5_isRuling, Cond.initialized RX5, Cond.code yX5_isRuling cX5_isRuling 1 (some .boolean), Cond.methodLink RX5 101 yX0_addLine, Cond.instanceMethod yX0_addLine, Cond.selects RX0 yX0_addLine yX0_addLine, Cond.code yX0_addLine cX0_addLine 5 (some .int), Cond.fieldLink RX0 38 "BallCourt$Book" "lines" "I", Cond.fieldLink RX0 19 "BallCourt$Book" "must" "[I", Cond.fieldLink RX0 22 "BallCourt$Book" "mustNot" "[I", Cond.fieldLink RX0 25 "BallCourt$Book" "ruling" "[I", Cond.fieldLink RX0 28 "BallCourt$Book" "excepters" "[I", Cond.methodLink RX5 70 yX3_work, Cond.instanceMethod yX3_work, Cond.selects RX3 yX3_work yX3_work]
def wsX5_line_r2 : List Cond := [Cond.initialized RX3, Cond.code yX3_work cX3_work 3 none, Cond.fieldLink RX3 15 "BallCourt$Laws" "book" "LBallCourt$Book;", Cond.fieldLink RX3 9 "BallCourt$Laws" "lineOf" "[I", Cond.methodLink RX3 25 yX0_lawLine, Cond.instanceMethod yX0_lawLine, Cond.selects RX0 yX0_lawLine yX0_lawLine, Cond.code yX0_lawLine cX0_lawLine 5 (some .int), Cond.fieldLink RX0 44 "BallCourt$Book" "excepting" "I", Cond.methodLink RX0 62 yX0_holding, Cond.instanceMethod yX0_holding, Cond.selects RX0 yX0_holding yX0_holding, Cond.code yX0_holding cX0_holding 6 (some .int), Cond.static yX5_hasBit, Cond.code yX5_hasBit cX5_hasBit 2 (some .boolean)]
def wsX5_line : List Cond := .code yX5_line cX5_line 5 (some .int) :: ((wsX5_line_r1 ++ wsX5_line_r2) ++ wsX50 ++ wsX00 ++ wsX30)
def wsJ6_bitCount_0f7a4 : List Cond := .code yJ6_bitCount_0f7a4 cJ6_bitCount_0f7a4 1 (some .int) :: ([.constant RJ6 265 (1431655765), .constant RJ6 266 (858993459), .constant RJ6 267 (252645135)])
def wsX5_except_r1 : List Cond := [Cond.fieldLink RX5 10 "BallCourt" "book" "LBallCourt$Book;", Cond.fieldLink RX5 21 "BallCourt" "laws" "LBallCourt$Laws;", Cond.methodLink RX5 105 yX0_hasLine, Cond.instanceMethod yX0_hasLine, Cond.selects RX0 yX0_hasLine yX0_hasLine, Cond.initialized RX0, Cond.code yX0_hasLine cX0_hasLine 2 (some .boolean), Cond.fieldLink RX0 38 "BallCourt$Book" "lines" "I", Cond.methodLink RX5 108 yX0_excepts, Cond.instanceMethod yX0_excepts, Cond.selects RX0 yX0_excepts yX0_excepts, Cond.code yX0_excepts cX0_excepts 3 (some .boolean), Cond.fieldLink RX0 28 "BallCourt$Book" "excepters" "[I", Cond.static yX5_hasBit, Cond.initialized RX5, Cond.code yX5_hasBit cX5_hasBit 2 (some .boolean), Cond.methodLink RX5 111 yX0_addException, Cond.instanceMethod yX0_addException, Cond.selects RX0 yX0_addException yX0_addException, Cond.code yX0_addException cX0_addException 3 none, Cond.fieldLink RX0 44 "BallCourt$Book" "excepting" "I", Cond.methodLink RX5 70 yX3_work, Cond.instanceMethod yX3_work, Cond.selects RX3 yX3_work yX3_work]
def wsX5_except_r2 : List Cond := [Cond.initialized RX3, Cond.code yX3_work cX3_work 3 none, Cond.fieldLink RX3 15 "BallCourt$Laws" "book" "LBallCourt$Book;", Cond.fieldLink RX3 9 "BallCourt$Laws" "lineOf" "[I", Cond.methodLink RX3 25 yX0_lawLine, Cond.instanceMethod yX0_lawLine, Cond.selects RX0 yX0_lawLine yX0_lawLine, Cond.code yX0_lawLine cX0_lawLine 5 (some .int), Cond.methodLink RX0 62 yX0_holding, Cond.instanceMethod yX0_holding, Cond.selects RX0 yX0_holding yX0_holding, Cond.code yX0_holding cX0_holding 6 (some .int), Cond.fieldLink RX0 19 "BallCourt$Book" "must" "[I", Cond.fieldLink RX0 22 "BallCourt$Book" "mustNot" "[I", Cond.methodLink RX5 119 yJ6_bitCount_0f7a4, Cond.static yJ6_bitCount_0f7a4, Cond.initialized RJ6, Cond.code yJ6_bitCount_0f7a4 cJ6_bitCount_0f7a4 1 (some .int), Cond.constant RJ6 265 (1431655765), Cond.constant RJ6 266 (858993459), Cond.constant RJ6 267 (252645135)]
def wsX5_except : List Cond := .code yX5_except cX5_except 3 (some .int) :: ((wsX5_except_r1 ++ wsX5_except_r2) ++ wsX50 ++ wsX00 ++ wsX30)
def wsX5_repeal_r1 : List Cond := [Cond.fieldLink RX5 10 "BallCourt" "book" "LBallCourt$Book;", Cond.fieldLink RX5 21 "BallCourt" "laws" "LBallCourt$Laws;", Cond.methodLink RX5 105 yX0_hasLine, Cond.instanceMethod yX0_hasLine, Cond.selects RX0 yX0_hasLine yX0_hasLine, Cond.initialized RX0, Cond.code yX0_hasLine cX0_hasLine 2 (some .boolean), Cond.fieldLink RX0 38 "BallCourt$Book" "lines" "I", Cond.methodLink RX5 125 yX0_isRepealed, Cond.instanceMethod yX0_isRepealed, Cond.selects RX0 yX0_isRepealed yX0_isRepealed, Cond.code yX0_isRepealed cX0_isRepealed 2 (some .boolean), Cond.fieldLink RX0 41 "BallCourt$Book" "repealed" "I", Cond.static yX5_hasBit, Cond.initialized RX5, Cond.code yX5_hasBit cX5_hasBit 2 (some .boolean), Cond.methodLink RX5 128 yX0_repealedIfMended, Cond.instanceMethod yX0_repealedIfMended, Cond.selects RX0 yX0_repealedIfMended yX0_repealedIfMended, Cond.code yX0_repealedIfMended cX0_repealedIfMended 2 (some .int), Cond.methodLink RX5 70 yX3_work, Cond.instanceMethod yX3_work, Cond.selects RX3 yX3_work yX3_work, Cond.initialized RX3]
def wsX5_repeal_r2 : List Cond := [Cond.code yX3_work cX3_work 3 none, Cond.fieldLink RX3 15 "BallCourt$Laws" "book" "LBallCourt$Book;", Cond.fieldLink RX3 9 "BallCourt$Laws" "lineOf" "[I", Cond.methodLink RX3 25 yX0_lawLine, Cond.instanceMethod yX0_lawLine, Cond.selects RX0 yX0_lawLine yX0_lawLine, Cond.code yX0_lawLine cX0_lawLine 5 (some .int), Cond.fieldLink RX0 44 "BallCourt$Book" "excepting" "I", Cond.methodLink RX0 62 yX0_holding, Cond.instanceMethod yX0_holding, Cond.selects RX0 yX0_holding yX0_holding, Cond.code yX0_holding cX0_holding 6 (some .int), Cond.fieldLink RX0 19 "BallCourt$Book" "must" "[I", Cond.fieldLink RX0 22 "BallCourt$Book" "mustNot" "[I", Cond.fieldLink RX0 28 "BallCourt$Book" "excepters" "[I", Cond.methodLink RX5 88 yX5_oneIf, Cond.static yX5_oneIf, Cond.code yX5_oneIf cX5_oneIf 1 (some .int)]
def wsX5_repeal : List Cond := .code yX5_repeal cX5_repeal 4 (some .int) :: ((wsX5_repeal_r1 ++ wsX5_repeal_r2) ++ wsX50 ++ wsX00 ++ wsX30)
def wsX5_about_r1 : List Cond := [Cond.fieldLink RX5 10 "BallCourt" "book" "LBallCourt$Book;", Cond.methodLink RX5 105 yX0_hasLine, Cond.instanceMethod yX0_hasLine, Cond.selects RX0 yX0_hasLine yX0_hasLine, Cond.initialized RX0, Cond.code yX0_hasLine cX0_hasLine 2 (some .boolean), Cond.fieldLink RX0 38 "BallCourt$Book" "lines" "I", Cond.methodLink RX5 125 yX0_isRepealed, Cond.instanceMethod yX0_isRepealed, Cond.selects RX0 yX0_isRepealed yX0_isRepealed, Cond.code yX0_isRepealed cX0_isRepealed 2 (some .boolean), Cond.fieldLink RX0 41 "BallCourt$Book" "repealed" "I", Cond.static yX5_hasBit, Cond.initialized RX5, Cond.code yX5_hasBit cX5_hasBit 2 (some .boolean), Cond.methodLink RX5 88 yX5_oneIf, Cond.static yX5_oneIf, Cond.code yX5_oneIf cX5_oneIf 1 (some .int), Cond.methodLink RX5 140 yX0_namedBy, Cond.instanceMethod yX0_namedBy, Cond.selects RX0 yX0_namedBy yX0_namedBy, Cond.code yX0_namedBy cX0_namedBy 5 (some .int), Cond.fieldLink RX0 19 "BallCourt$Book" "must" "[I", Cond.fieldLink RX0 22 "BallCourt$Book" "mustNot" "[I"]
def wsX5_about_r2 : List Cond := [Cond.fieldLink RX0 28 "BallCourt$Book" "excepters" "[I"]
def wsX5_about : List Cond := .code yX5_about cX5_about 3 (some .int) :: ((wsX5_about_r1 ++ wsX5_about_r2) ++ wsX50 ++ wsX00)
def wsX5_holds_r1 : List Cond := [Cond.fieldLink RX5 10 "BallCourt" "book" "LBallCourt$Book;", Cond.methodLink RX5 105 yX0_hasLine, Cond.instanceMethod yX0_hasLine, Cond.selects RX0 yX0_hasLine yX0_hasLine, Cond.initialized RX0, Cond.code yX0_hasLine cX0_hasLine 2 (some .boolean), Cond.fieldLink RX0 38 "BallCourt$Book" "lines" "I", Cond.methodLink RX5 143 yX0_hasKind, Cond.instanceMethod yX0_hasKind, Cond.selects RX0 yX0_hasKind yX0_hasKind, Cond.code yX0_hasKind cX0_hasKind 2 (some .boolean), Cond.fieldLink RX0 35 "BallCourt$Book" "numbers" "I", Cond.fieldLink RX0 9 "BallCourt$Book" "isKind" "[Z", Cond.methodLink RX5 146 yX0_holding, Cond.instanceMethod yX0_holding, Cond.selects RX0 yX0_holding yX0_holding, Cond.code yX0_holding cX0_holding 6 (some .int), Cond.fieldLink RX0 19 "BallCourt$Book" "must" "[I", Cond.fieldLink RX0 22 "BallCourt$Book" "mustNot" "[I", Cond.fieldLink RX0 28 "BallCourt$Book" "excepters" "[I", Cond.static yX5_hasBit, Cond.initialized RX5, Cond.code yX5_hasBit cX5_hasBit 2 (some .boolean), Cond.methodLink RX5 150 yX5_hasBit]
def wsX5_holds_r2 : List Cond := [Cond.methodLink RX5 88 yX5_oneIf, Cond.static yX5_oneIf, Cond.code yX5_oneIf cX5_oneIf 1 (some .int)]
def wsX5_holds : List Cond := .code yX5_holds cX5_holds 3 (some .int) :: ((wsX5_holds_r1 ++ wsX5_holds_r2) ++ wsX50 ++ wsX00)
def wsX5_law : List Cond := .code yX5_law cX5_law 3 (some .int) :: ([.fieldLink RX5 10 "BallCourt" "book" "LBallCourt$Book;", .fieldLink RX5 21 "BallCourt" "laws" "LBallCourt$Laws;", .methodLink RX5 143 yX0_hasKind, .instanceMethod yX0_hasKind, .selects RX0 yX0_hasKind yX0_hasKind, .initialized RX0, .code yX0_hasKind cX0_hasKind 2 (some .boolean), .fieldLink RX0 35 "BallCourt$Book" "numbers" "I", .fieldLink RX0 9 "BallCourt$Book" "isKind" "[Z", .methodLink RX5 156 yX3_rulingFor, .instanceMethod yX3_rulingFor, .selects RX3 yX3_rulingFor yX3_rulingFor, .initialized RX3, .code yX3_rulingFor cX3_rulingFor 2 (some .int), .fieldLink RX3 15 "BallCourt$Laws" "book" "LBallCourt$Book;", .fieldLink RX3 9 "BallCourt$Laws" "lineOf" "[I", .methodLink RX3 29 yX3_covers, .instanceMethod yX3_covers, .selects RX3 yX3_covers yX3_covers, .code yX3_covers cX3_covers 2 (some .boolean)] ++ wsX50 ++ wsX30 ++ wsX00)
def wsX5_open : List Cond := .code yX5_open cX5_open 4 (some .int) :: ([.fieldLink RX5 10 "BallCourt" "book" "LBallCourt$Book;", .fieldLink RX5 21 "BallCourt" "laws" "LBallCourt$Laws;", .methodLink RX5 143 yX0_hasKind, .instanceMethod yX0_hasKind, .selects RX0 yX0_hasKind yX0_hasKind, .initialized RX0, .code yX0_hasKind cX0_hasKind 2 (some .boolean), .fieldLink RX0 35 "BallCourt$Book" "numbers" "I", .fieldLink RX0 9 "BallCourt$Book" "isKind" "[Z", .methodLink RX5 162 yX3_covers, .instanceMethod yX3_covers, .selects RX3 yX3_covers yX3_covers, .initialized RX3, .code yX3_covers cX3_covers 2 (some .boolean), .fieldLink RX3 9 "BallCourt$Laws" "lineOf" "[I"] ++ wsX50 ++ wsX00 ++ wsX30)
def wsX5_turnedKinds_r1 : List Cond := [Cond.fieldLink RX5 10 "BallCourt" "book" "LBallCourt$Book;", Cond.fieldLink RX5 21 "BallCourt" "laws" "LBallCourt$Laws;", Cond.fieldLink RX5 25 "BallCourt" "lawsIfMended" "LBallCourt$Laws;", Cond.methodLink RX5 143 yX0_hasKind, Cond.instanceMethod yX0_hasKind, Cond.selects RX0 yX0_hasKind yX0_hasKind, Cond.initialized RX0, Cond.code yX0_hasKind cX0_hasKind 2 (some .boolean), Cond.fieldLink RX0 35 "BallCourt$Book" "numbers" "I", Cond.fieldLink RX0 9 "BallCourt$Book" "isKind" "[Z", Cond.methodLink RX5 246 yX3_differFor, Cond.instanceMethod yX3_differFor, Cond.selects RX3 yX3_differFor yX3_differFor, Cond.initialized RX3, Cond.code yX3_differFor cX3_differFor 3 (some .boolean), Cond.methodLink RX3 36 yX3_rulingFor, Cond.instanceMethod yX3_rulingFor, Cond.selects RX3 yX3_rulingFor yX3_rulingFor, Cond.code yX3_rulingFor cX3_rulingFor 2 (some .int), Cond.fieldLink RX3 15 "BallCourt$Laws" "book" "LBallCourt$Book;", Cond.fieldLink RX3 9 "BallCourt$Laws" "lineOf" "[I", Cond.methodLink RX3 29 yX3_covers, Cond.instanceMethod yX3_covers, Cond.selects RX3 yX3_covers yX3_covers]
def wsX5_turnedKinds_r2 : List Cond := [Cond.code yX3_covers cX3_covers 2 (some .boolean)]
def wsX5_turnedKinds : List Cond := .code yX5_turnedKinds cX5_turnedKinds 3 (some .int) :: ((wsX5_turnedKinds_r1 ++ wsX5_turnedKinds_r2) ++ wsX50 ++ wsX00 ++ wsX30)
def wsX5_idle_r1 : List Cond := [Cond.fieldLink RX5 10 "BallCourt" "book" "LBallCourt$Book;", Cond.fieldLink RX5 25 "BallCourt" "lawsIfMended" "LBallCourt$Laws;", Cond.methodLink RX5 105 yX0_hasLine, Cond.instanceMethod yX0_hasLine, Cond.selects RX0 yX0_hasLine yX0_hasLine, Cond.initialized RX0, Cond.code yX0_hasLine cX0_hasLine 2 (some .boolean), Cond.fieldLink RX0 38 "BallCourt$Book" "lines" "I", Cond.methodLink RX5 128 yX0_repealedIfMended, Cond.instanceMethod yX0_repealedIfMended, Cond.selects RX0 yX0_repealedIfMended yX0_repealedIfMended, Cond.code yX0_repealedIfMended cX0_repealedIfMended 2 (some .int), Cond.fieldLink RX0 41 "BallCourt$Book" "repealed" "I", Cond.methodLink RX5 70 yX3_work, Cond.instanceMethod yX3_work, Cond.selects RX3 yX3_work yX3_work, Cond.initialized RX3, Cond.code yX3_work cX3_work 3 none, Cond.fieldLink RX3 15 "BallCourt$Laws" "book" "LBallCourt$Book;", Cond.fieldLink RX3 9 "BallCourt$Laws" "lineOf" "[I", Cond.methodLink RX3 25 yX0_lawLine, Cond.instanceMethod yX0_lawLine, Cond.selects RX0 yX0_lawLine yX0_lawLine, Cond.code yX0_lawLine cX0_lawLine 5 (some .int)]
def wsX5_idle_r2 : List Cond := [Cond.fieldLink RX0 44 "BallCourt$Book" "excepting" "I", Cond.methodLink RX0 62 yX0_holding, Cond.instanceMethod yX0_holding, Cond.selects RX0 yX0_holding yX0_holding, Cond.code yX0_holding cX0_holding 6 (some .int), Cond.fieldLink RX0 19 "BallCourt$Book" "must" "[I", Cond.fieldLink RX0 22 "BallCourt$Book" "mustNot" "[I", Cond.fieldLink RX0 28 "BallCourt$Book" "excepters" "[I", Cond.static yX5_hasBit, Cond.initialized RX5, Cond.code yX5_hasBit cX5_hasBit 2 (some .boolean), Cond.methodLink RX5 165 yX5_turnedKinds, Cond.instanceMethod yX5_turnedKinds, Cond.selects RX5 yX5_turnedKinds yX5_turnedKinds, Cond.code yX5_turnedKinds cX5_turnedKinds 3 (some .int), Cond.fieldLink RX5 21 "BallCourt" "laws" "LBallCourt$Laws;", Cond.methodLink RX5 143 yX0_hasKind, Cond.instanceMethod yX0_hasKind, Cond.selects RX0 yX0_hasKind yX0_hasKind, Cond.code yX0_hasKind cX0_hasKind 2 (some .boolean), Cond.fieldLink RX0 35 "BallCourt$Book" "numbers" "I", Cond.fieldLink RX0 9 "BallCourt$Book" "isKind" "[Z", Cond.methodLink RX5 246 yX3_differFor, Cond.instanceMethod yX3_differFor]
def wsX5_idle_r3 : List Cond := [Cond.selects RX3 yX3_differFor yX3_differFor, Cond.code yX3_differFor cX3_differFor 3 (some .boolean), Cond.methodLink RX3 36 yX3_rulingFor, Cond.instanceMethod yX3_rulingFor, Cond.selects RX3 yX3_rulingFor yX3_rulingFor, Cond.code yX3_rulingFor cX3_rulingFor 2 (some .int), Cond.methodLink RX3 29 yX3_covers, Cond.instanceMethod yX3_covers, Cond.selects RX3 yX3_covers yX3_covers, Cond.code yX3_covers cX3_covers 2 (some .boolean), Cond.methodLink RX5 88 yX5_oneIf, Cond.static yX5_oneIf, Cond.code yX5_oneIf cX5_oneIf 1 (some .int)]
def wsX5_idle : List Cond := .code yX5_idle cX5_idle 2 (some .int) :: ((wsX5_idle_r1 ++ (wsX5_idle_r2 ++ wsX5_idle_r3)) ++ wsX50 ++ wsX00 ++ wsX30)
def wsX5_moment : List Cond := .code yX5_moment cX5_moment 1 (some .int) :: ([.fieldLink RX5 31 "BallCourt" "played" "LBallCourt$Moments;", .methodLink RX5 169 yX4_add, .instanceMethod yX4_add, .selects RX4 yX4_add yX4_add, .initialized RX4, .code yX4_add cX4_add 3 (some .int), .fieldLink RX4 21 "BallCourt$Moments" "count" "I", .fieldLink RX4 9 "BallCourt$Moments" "toldSo" "[I", .fieldLink RX4 15 "BallCourt$Moments" "toldNotSo" "[I", .fieldLink RX4 18 "BallCourt$Moments" "ruled" "[I"] ++ wsX50 ++ wsX40)
def wsX5_tell : List Cond := .code yX5_tell cX5_tell 5 (some .int) :: ([.fieldLink RX5 31 "BallCourt" "played" "LBallCourt$Moments;", .fieldLink RX5 10 "BallCourt" "book" "LBallCourt$Book;", .methodLink RX5 172 yX4_has, .instanceMethod yX4_has, .selects RX4 yX4_has yX4_has, .initialized RX4, .code yX4_has cX4_has 2 (some .boolean), .fieldLink RX4 21 "BallCourt$Moments" "count" "I", .methodLink RX5 76 yX0_hasFact, .instanceMethod yX0_hasFact, .selects RX0 yX0_hasFact yX0_hasFact, .initialized RX0, .code yX0_hasFact cX0_hasFact 2 (some .boolean), .fieldLink RX0 31 "BallCourt$Book" "facts" "I", .methodLink RX5 175 yX4_hear, .instanceMethod yX4_hear, .selects RX4 yX4_hear yX4_hear, .code yX4_hear cX4_hear 7 (some .int), .fieldLink RX4 9 "BallCourt$Moments" "toldSo" "[I", .fieldLink RX4 15 "BallCourt$Moments" "toldNotSo" "[I", .static yX5_hasBit, .initialized RX5, .code yX5_hasBit cX5_hasBit 2 (some .boolean)] ++ wsX50 ++ wsX40 ++ wsX00)
def wsX5_known_r1 : List Cond := [Cond.fieldLink RX5 31 "BallCourt" "played" "LBallCourt$Moments;", Cond.fieldLink RX5 10 "BallCourt" "book" "LBallCourt$Book;", Cond.methodLink RX5 172 yX4_has, Cond.instanceMethod yX4_has, Cond.selects RX4 yX4_has yX4_has, Cond.initialized RX4, Cond.code yX4_has cX4_has 2 (some .boolean), Cond.fieldLink RX4 21 "BallCourt$Moments" "count" "I", Cond.methodLink RX5 179 yX4_knownSo, Cond.instanceMethod yX4_knownSo, Cond.selects RX4 yX4_knownSo yX4_knownSo, Cond.code yX4_knownSo cX4_knownSo 2 (some .int), Cond.fieldLink RX4 9 "BallCourt$Moments" "toldSo" "[I", Cond.fieldLink RX4 15 "BallCourt$Moments" "toldNotSo" "[I", Cond.methodLink RX4 29 yX4_ofAll, Cond.static yX4_ofAll, Cond.code yX4_ofAll cX4_ofAll 4 (some .int), Cond.methodLink RX5 182 yX4_knownNotSo, Cond.instanceMethod yX4_knownNotSo, Cond.selects RX4 yX4_knownNotSo yX4_knownNotSo, Cond.code yX4_knownNotSo cX4_knownNotSo 2 (some .int), Cond.methodLink RX5 185 yX0_allFacts, Cond.instanceMethod yX0_allFacts, Cond.selects RX0 yX0_allFacts yX0_allFacts]
def wsX5_known_r2 : List Cond := [Cond.initialized RX0, Cond.code yX0_allFacts cX0_allFacts 1 (some .int), Cond.fieldLink RX0 35 "BallCourt$Book" "numbers" "I", Cond.methodLink RX5 188 yX0_countMayBe, Cond.instanceMethod yX0_countMayBe, Cond.selects RX0 yX0_countMayBe yX0_countMayBe, Cond.code yX0_countMayBe cX0_countMayBe 5 (some .int), Cond.methodLink RX0 58 yX0_mayBe, Cond.instanceMethod yX0_mayBe, Cond.selects RX0 yX0_mayBe yX0_mayBe, Cond.code yX0_mayBe cX0_mayBe 4 (some .boolean), Cond.fieldLink RX0 9 "BallCourt$Book" "isKind" "[Z"]
def wsX5_known : List Cond := .code yX5_known cX5_known 5 (some .int) :: ((wsX5_known_r1 ++ wsX5_known_r2) ++ wsX50 ++ wsX40 ++ wsX00)
def wsX5_proof_r1 : List Cond := [Cond.fieldLink RX5 31 "BallCourt" "played" "LBallCourt$Moments;", Cond.fieldLink RX5 21 "BallCourt" "laws" "LBallCourt$Laws;", Cond.fieldLink RX5 10 "BallCourt" "book" "LBallCourt$Book;", Cond.methodLink RX5 172 yX4_has, Cond.instanceMethod yX4_has, Cond.selects RX4 yX4_has yX4_has, Cond.initialized RX4, Cond.code yX4_has cX4_has 2 (some .boolean), Cond.fieldLink RX4 21 "BallCourt$Moments" "count" "I", Cond.methodLink RX5 95 yX5_isRuling, Cond.static yX5_isRuling, Cond.initialized RX5, Cond.code yX5_isRuling cX5_isRuling 1 (some .boolean), Cond.methodLink RX5 179 yX4_knownSo, Cond.instanceMethod yX4_knownSo, Cond.selects RX4 yX4_knownSo yX4_knownSo, Cond.code yX4_knownSo cX4_knownSo 2 (some .int), Cond.fieldLink RX4 9 "BallCourt$Moments" "toldSo" "[I", Cond.fieldLink RX4 15 "BallCourt$Moments" "toldNotSo" "[I", Cond.methodLink RX4 29 yX4_ofAll, Cond.static yX4_ofAll, Cond.code yX4_ofAll cX4_ofAll 4 (some .int), Cond.methodLink RX5 182 yX4_knownNotSo, Cond.instanceMethod yX4_knownNotSo]
def wsX5_proof_r2 : List Cond := [Cond.selects RX4 yX4_knownNotSo yX4_knownNotSo, Cond.code yX4_knownNotSo cX4_knownNotSo 2 (some .int), Cond.methodLink RX5 191 yX3_countMayBeRuled, Cond.instanceMethod yX3_countMayBeRuled, Cond.selects RX3 yX3_countMayBeRuled yX3_countMayBeRuled, Cond.initialized RX3, Cond.code yX3_countMayBeRuled cX3_countMayBeRuled 6 (some .int), Cond.fieldLink RX3 15 "BallCourt$Laws" "book" "LBallCourt$Book;", Cond.methodLink RX3 40 yX0_mayBe, Cond.instanceMethod yX0_mayBe, Cond.selects RX0 yX0_mayBe yX0_mayBe, Cond.initialized RX0, Cond.code yX0_mayBe cX0_mayBe 4 (some .boolean), Cond.fieldLink RX0 9 "BallCourt$Book" "isKind" "[Z", Cond.methodLink RX3 36 yX3_rulingFor, Cond.instanceMethod yX3_rulingFor, Cond.selects RX3 yX3_rulingFor yX3_rulingFor, Cond.code yX3_rulingFor cX3_rulingFor 2 (some .int), Cond.fieldLink RX3 9 "BallCourt$Laws" "lineOf" "[I", Cond.methodLink RX3 29 yX3_covers, Cond.instanceMethod yX3_covers, Cond.selects RX3 yX3_covers yX3_covers, Cond.code yX3_covers cX3_covers 2 (some .boolean), Cond.methodLink RX5 188 yX0_countMayBe]
def wsX5_proof_r3 : List Cond := [Cond.instanceMethod yX0_countMayBe, Cond.selects RX0 yX0_countMayBe yX0_countMayBe, Cond.code yX0_countMayBe cX0_countMayBe 5 (some .int), Cond.fieldLink RX0 35 "BallCourt$Book" "numbers" "I", Cond.methodLink RX0 58 yX0_mayBe]
def wsX5_proof : List Cond := .code yX5_proof cX5_proof 6 (some .int) :: ((wsX5_proof_r1 ++ (wsX5_proof_r2 ++ wsX5_proof_r3)) ++ wsX50 ++ wsX40 ++ wsX30 ++ wsX00)
def wsX5_binds_r1 : List Cond := [Cond.fieldLink RX5 31 "BallCourt" "played" "LBallCourt$Moments;", Cond.fieldLink RX5 38 "BallCourt" "cases" "LBallCourt$Cases;", Cond.methodLink RX5 172 yX4_has, Cond.instanceMethod yX4_has, Cond.selects RX4 yX4_has yX4_has, Cond.initialized RX4, Cond.code yX4_has cX4_has 2 (some .boolean), Cond.fieldLink RX4 21 "BallCourt$Moments" "count" "I", Cond.methodLink RX5 179 yX4_knownSo, Cond.instanceMethod yX4_knownSo, Cond.selects RX4 yX4_knownSo yX4_knownSo, Cond.code yX4_knownSo cX4_knownSo 2 (some .int), Cond.fieldLink RX4 9 "BallCourt$Moments" "toldSo" "[I", Cond.fieldLink RX4 15 "BallCourt$Moments" "toldNotSo" "[I", Cond.methodLink RX4 29 yX4_ofAll, Cond.static yX4_ofAll, Cond.code yX4_ofAll cX4_ofAll 4 (some .int), Cond.methodLink RX5 182 yX4_knownNotSo, Cond.instanceMethod yX4_knownNotSo, Cond.selects RX4 yX4_knownNotSo yX4_knownNotSo, Cond.code yX4_knownNotSo cX4_knownNotSo 2 (some .int), Cond.methodLink RX5 194 yX1_firstThatBinds, Cond.instanceMethod yX1_firstThatBinds, Cond.selects RX1 yX1_firstThatBinds yX1_firstThatBinds]
def wsX5_binds_r2 : List Cond := [Cond.initialized RX1, Cond.code yX1_firstThatBinds cX1_firstThatBinds 6 (some .int), Cond.fieldLink RX1 21 "BallCourt$Cases" "count" "I", Cond.fieldLink RX1 18 "BallCourt$Cases" "names" "[I", Cond.fieldLink RX1 9 "BallCourt$Cases" "kind" "[I"]
def wsX5_binds : List Cond := .code yX5_binds cX5_binds 2 (some .int) :: ((wsX5_binds_r1 ++ wsX5_binds_r2) ++ wsX50 ++ wsX40 ++ wsX10)
def wsX5_verdictUnder_r1 : List Cond := [Cond.fieldLink RX5 31 "BallCourt" "played" "LBallCourt$Moments;", Cond.fieldLink RX5 10 "BallCourt" "book" "LBallCourt$Book;", Cond.fieldLink RX5 38 "BallCourt" "cases" "LBallCourt$Cases;", Cond.methodLink RX5 179 yX4_knownSo, Cond.instanceMethod yX4_knownSo, Cond.selects RX4 yX4_knownSo yX4_knownSo, Cond.initialized RX4, Cond.code yX4_knownSo cX4_knownSo 2 (some .int), Cond.fieldLink RX4 9 "BallCourt$Moments" "toldSo" "[I", Cond.fieldLink RX4 15 "BallCourt$Moments" "toldNotSo" "[I", Cond.methodLink RX4 29 yX4_ofAll, Cond.static yX4_ofAll, Cond.code yX4_ofAll cX4_ofAll 4 (some .int), Cond.methodLink RX5 182 yX4_knownNotSo, Cond.instanceMethod yX4_knownNotSo, Cond.selects RX4 yX4_knownNotSo yX4_knownNotSo, Cond.code yX4_knownNotSo cX4_knownNotSo 2 (some .int), Cond.methodLink RX5 188 yX0_countMayBe, Cond.instanceMethod yX0_countMayBe, Cond.selects RX0 yX0_countMayBe yX0_countMayBe, Cond.initialized RX0, Cond.code yX0_countMayBe cX0_countMayBe 5 (some .int), Cond.fieldLink RX0 35 "BallCourt$Book" "numbers" "I", Cond.methodLink RX0 58 yX0_mayBe]
def wsX5_verdictUnder_r2 : List Cond := [Cond.instanceMethod yX0_mayBe, Cond.selects RX0 yX0_mayBe yX0_mayBe, Cond.code yX0_mayBe cX0_mayBe 4 (some .boolean), Cond.fieldLink RX0 9 "BallCourt$Book" "isKind" "[Z", Cond.methodLink RX5 194 yX1_firstThatBinds, Cond.instanceMethod yX1_firstThatBinds, Cond.selects RX1 yX1_firstThatBinds yX1_firstThatBinds, Cond.initialized RX1, Cond.code yX1_firstThatBinds cX1_firstThatBinds 6 (some .int), Cond.fieldLink RX1 21 "BallCourt$Cases" "count" "I", Cond.fieldLink RX1 18 "BallCourt$Cases" "names" "[I", Cond.fieldLink RX1 9 "BallCourt$Cases" "kind" "[I", Cond.methodLink RX5 243 yX3_rulingForAll, Cond.instanceMethod yX3_rulingForAll, Cond.selects RX3 yX3_rulingForAll yX3_rulingForAll, Cond.initialized RX3, Cond.code yX3_rulingForAll cX3_rulingForAll 6 (some .int), Cond.fieldLink RX3 15 "BallCourt$Laws" "book" "LBallCourt$Book;", Cond.methodLink RX3 40 yX0_mayBe, Cond.methodLink RX3 36 yX3_rulingFor, Cond.instanceMethod yX3_rulingFor, Cond.selects RX3 yX3_rulingFor yX3_rulingFor, Cond.code yX3_rulingFor cX3_rulingFor 2 (some .int), Cond.fieldLink RX3 9 "BallCourt$Laws" "lineOf" "[I"]
def wsX5_verdictUnder_r3 : List Cond := [Cond.methodLink RX3 29 yX3_covers, Cond.instanceMethod yX3_covers, Cond.selects RX3 yX3_covers yX3_covers, Cond.code yX3_covers cX3_covers 2 (some .boolean)]
def wsX5_verdictUnder : List Cond := .code yX5_verdictUnder cX5_verdictUnder 6 (some .int) :: ((wsX5_verdictUnder_r1 ++ (wsX5_verdictUnder_r2 ++ wsX5_verdictUnder_r3)) ++ wsX50 ++ wsX40 ++ wsX10 ++ wsX00 ++ wsX30)
def wsX5_verdict_r1 : List Cond := [Cond.fieldLink RX5 31 "BallCourt" "played" "LBallCourt$Moments;", Cond.fieldLink RX5 21 "BallCourt" "laws" "LBallCourt$Laws;", Cond.methodLink RX5 172 yX4_has, Cond.instanceMethod yX4_has, Cond.selects RX4 yX4_has yX4_has, Cond.initialized RX4, Cond.code yX4_has cX4_has 2 (some .boolean), Cond.fieldLink RX4 21 "BallCourt$Moments" "count" "I", Cond.methodLink RX5 197 yX5_verdictUnder, Cond.instanceMethod yX5_verdictUnder, Cond.selects RX5 yX5_verdictUnder yX5_verdictUnder, Cond.initialized RX5, Cond.code yX5_verdictUnder cX5_verdictUnder 6 (some .int), Cond.fieldLink RX5 10 "BallCourt" "book" "LBallCourt$Book;", Cond.fieldLink RX5 38 "BallCourt" "cases" "LBallCourt$Cases;", Cond.methodLink RX5 179 yX4_knownSo, Cond.instanceMethod yX4_knownSo, Cond.selects RX4 yX4_knownSo yX4_knownSo, Cond.code yX4_knownSo cX4_knownSo 2 (some .int), Cond.fieldLink RX4 9 "BallCourt$Moments" "toldSo" "[I", Cond.fieldLink RX4 15 "BallCourt$Moments" "toldNotSo" "[I", Cond.methodLink RX4 29 yX4_ofAll, Cond.static yX4_ofAll, Cond.code yX4_ofAll cX4_ofAll 4 (some .int)]
def wsX5_verdict_r2 : List Cond := [Cond.methodLink RX5 182 yX4_knownNotSo, Cond.instanceMethod yX4_knownNotSo, Cond.selects RX4 yX4_knownNotSo yX4_knownNotSo, Cond.code yX4_knownNotSo cX4_knownNotSo 2 (some .int), Cond.methodLink RX5 188 yX0_countMayBe, Cond.instanceMethod yX0_countMayBe, Cond.selects RX0 yX0_countMayBe yX0_countMayBe, Cond.initialized RX0, Cond.code yX0_countMayBe cX0_countMayBe 5 (some .int), Cond.fieldLink RX0 35 "BallCourt$Book" "numbers" "I", Cond.methodLink RX0 58 yX0_mayBe, Cond.instanceMethod yX0_mayBe, Cond.selects RX0 yX0_mayBe yX0_mayBe, Cond.code yX0_mayBe cX0_mayBe 4 (some .boolean), Cond.fieldLink RX0 9 "BallCourt$Book" "isKind" "[Z", Cond.methodLink RX5 194 yX1_firstThatBinds, Cond.instanceMethod yX1_firstThatBinds, Cond.selects RX1 yX1_firstThatBinds yX1_firstThatBinds, Cond.initialized RX1, Cond.code yX1_firstThatBinds cX1_firstThatBinds 6 (some .int), Cond.fieldLink RX1 21 "BallCourt$Cases" "count" "I", Cond.fieldLink RX1 18 "BallCourt$Cases" "names" "[I", Cond.fieldLink RX1 9 "BallCourt$Cases" "kind" "[I", Cond.methodLink RX5 243 yX3_rulingForAll]
def wsX5_verdict_r3 : List Cond := [Cond.instanceMethod yX3_rulingForAll, Cond.selects RX3 yX3_rulingForAll yX3_rulingForAll, Cond.initialized RX3, Cond.code yX3_rulingForAll cX3_rulingForAll 6 (some .int), Cond.fieldLink RX3 15 "BallCourt$Laws" "book" "LBallCourt$Book;", Cond.methodLink RX3 40 yX0_mayBe, Cond.methodLink RX3 36 yX3_rulingFor, Cond.instanceMethod yX3_rulingFor, Cond.selects RX3 yX3_rulingFor yX3_rulingFor, Cond.code yX3_rulingFor cX3_rulingFor 2 (some .int), Cond.fieldLink RX3 9 "BallCourt$Laws" "lineOf" "[I", Cond.methodLink RX3 29 yX3_covers, Cond.instanceMethod yX3_covers, Cond.selects RX3 yX3_covers yX3_covers, Cond.code yX3_covers cX3_covers 2 (some .boolean)]
def wsX5_verdict : List Cond := .code yX5_verdict cX5_verdict 2 (some .int) :: ((wsX5_verdict_r1 ++ (wsX5_verdict_r2 ++ wsX5_verdict_r3)) ++ wsX50 ++ wsX40 ++ wsX10 ++ wsX00 ++ wsX30)
def wsX5_rule_r1 : List Cond := [Cond.fieldLink RX5 31 "BallCourt" "played" "LBallCourt$Moments;", Cond.fieldLink RX5 21 "BallCourt" "laws" "LBallCourt$Laws;", Cond.methodLink RX5 172 yX4_has, Cond.instanceMethod yX4_has, Cond.selects RX4 yX4_has yX4_has, Cond.initialized RX4, Cond.code yX4_has cX4_has 2 (some .boolean), Cond.fieldLink RX4 21 "BallCourt$Moments" "count" "I", Cond.methodLink RX5 95 yX5_isRuling, Cond.static yX5_isRuling, Cond.initialized RX5, Cond.code yX5_isRuling cX5_isRuling 1 (some .boolean), Cond.methodLink RX5 197 yX5_verdictUnder, Cond.instanceMethod yX5_verdictUnder, Cond.selects RX5 yX5_verdictUnder yX5_verdictUnder, Cond.code yX5_verdictUnder cX5_verdictUnder 6 (some .int), Cond.fieldLink RX5 10 "BallCourt" "book" "LBallCourt$Book;", Cond.fieldLink RX5 38 "BallCourt" "cases" "LBallCourt$Cases;", Cond.methodLink RX5 179 yX4_knownSo, Cond.instanceMethod yX4_knownSo, Cond.selects RX4 yX4_knownSo yX4_knownSo, Cond.code yX4_knownSo cX4_knownSo 2 (some .int), Cond.fieldLink RX4 9 "BallCourt$Moments" "toldSo" "[I", Cond.fieldLink RX4 15 "BallCourt$Moments" "toldNotSo" "[I"]
def wsX5_rule_r2 : List Cond := [Cond.methodLink RX4 29 yX4_ofAll, Cond.static yX4_ofAll, Cond.code yX4_ofAll cX4_ofAll 4 (some .int), Cond.methodLink RX5 182 yX4_knownNotSo, Cond.instanceMethod yX4_knownNotSo, Cond.selects RX4 yX4_knownNotSo yX4_knownNotSo, Cond.code yX4_knownNotSo cX4_knownNotSo 2 (some .int), Cond.methodLink RX5 188 yX0_countMayBe, Cond.instanceMethod yX0_countMayBe, Cond.selects RX0 yX0_countMayBe yX0_countMayBe, Cond.initialized RX0, Cond.code yX0_countMayBe cX0_countMayBe 5 (some .int), Cond.fieldLink RX0 35 "BallCourt$Book" "numbers" "I", Cond.methodLink RX0 58 yX0_mayBe, Cond.instanceMethod yX0_mayBe, Cond.selects RX0 yX0_mayBe yX0_mayBe, Cond.code yX0_mayBe cX0_mayBe 4 (some .boolean), Cond.fieldLink RX0 9 "BallCourt$Book" "isKind" "[Z", Cond.methodLink RX5 194 yX1_firstThatBinds, Cond.instanceMethod yX1_firstThatBinds, Cond.selects RX1 yX1_firstThatBinds yX1_firstThatBinds, Cond.initialized RX1, Cond.code yX1_firstThatBinds cX1_firstThatBinds 6 (some .int), Cond.fieldLink RX1 21 "BallCourt$Cases" "count" "I"]
def wsX5_rule_r3 : List Cond := [Cond.fieldLink RX1 18 "BallCourt$Cases" "names" "[I", Cond.fieldLink RX1 9 "BallCourt$Cases" "kind" "[I", Cond.methodLink RX5 243 yX3_rulingForAll, Cond.instanceMethod yX3_rulingForAll, Cond.selects RX3 yX3_rulingForAll yX3_rulingForAll, Cond.initialized RX3, Cond.code yX3_rulingForAll cX3_rulingForAll 6 (some .int), Cond.fieldLink RX3 15 "BallCourt$Laws" "book" "LBallCourt$Book;", Cond.methodLink RX3 40 yX0_mayBe, Cond.methodLink RX3 36 yX3_rulingFor, Cond.instanceMethod yX3_rulingFor, Cond.selects RX3 yX3_rulingFor yX3_rulingFor, Cond.code yX3_rulingFor cX3_rulingFor 2 (some .int), Cond.fieldLink RX3 9 "BallCourt$Laws" "lineOf" "[I", Cond.methodLink RX3 29 yX3_covers, Cond.instanceMethod yX3_covers, Cond.selects RX3 yX3_covers yX3_covers, Cond.code yX3_covers cX3_covers 2 (some .boolean)]
def wsX5_rule : List Cond := .code yX5_rule cX5_rule 4 (some .int) :: ((wsX5_rule_r1 ++ (wsX5_rule_r2 ++ wsX5_rule_r3)) ++ wsX50 ++ wsX40 ++ wsX10 ++ wsX00 ++ wsX30)
def wsX5_make_r1 : List Cond := [Cond.fieldLink RX5 31 "BallCourt" "played" "LBallCourt$Moments;", Cond.fieldLink RX5 10 "BallCourt" "book" "LBallCourt$Book;", Cond.fieldLink RX5 38 "BallCourt" "cases" "LBallCourt$Cases;", Cond.fieldLink RX5 21 "BallCourt" "laws" "LBallCourt$Laws;", Cond.methodLink RX5 172 yX4_has, Cond.instanceMethod yX4_has, Cond.selects RX4 yX4_has yX4_has, Cond.initialized RX4, Cond.code yX4_has cX4_has 2 (some .boolean), Cond.fieldLink RX4 21 "BallCourt$Moments" "count" "I", Cond.methodLink RX5 179 yX4_knownSo, Cond.instanceMethod yX4_knownSo, Cond.selects RX4 yX4_knownSo yX4_knownSo, Cond.code yX4_knownSo cX4_knownSo 2 (some .int), Cond.fieldLink RX4 9 "BallCourt$Moments" "toldSo" "[I", Cond.fieldLink RX4 15 "BallCourt$Moments" "toldNotSo" "[I", Cond.methodLink RX4 29 yX4_ofAll, Cond.static yX4_ofAll, Cond.code yX4_ofAll cX4_ofAll 4 (some .int), Cond.methodLink RX5 182 yX4_knownNotSo, Cond.instanceMethod yX4_knownNotSo, Cond.selects RX4 yX4_knownNotSo yX4_knownNotSo, Cond.code yX4_knownNotSo cX4_knownNotSo 2 (some .int), Cond.methodLink RX5 185 yX0_allFacts]
def wsX5_make_r2 : List Cond := [Cond.instanceMethod yX0_allFacts, Cond.selects RX0 yX0_allFacts yX0_allFacts, Cond.initialized RX0, Cond.code yX0_allFacts cX0_allFacts 1 (some .int), Cond.fieldLink RX0 35 "BallCourt$Book" "numbers" "I", Cond.methodLink RX5 143 yX0_hasKind, Cond.instanceMethod yX0_hasKind, Cond.selects RX0 yX0_hasKind yX0_hasKind, Cond.code yX0_hasKind cX0_hasKind 2 (some .boolean), Cond.fieldLink RX0 9 "BallCourt$Book" "isKind" "[Z", Cond.methodLink RX5 162 yX3_covers, Cond.instanceMethod yX3_covers, Cond.selects RX3 yX3_covers yX3_covers, Cond.initialized RX3, Cond.code yX3_covers cX3_covers 2 (some .boolean), Cond.fieldLink RX3 9 "BallCourt$Laws" "lineOf" "[I", Cond.methodLink RX5 140 yX0_namedBy, Cond.instanceMethod yX0_namedBy, Cond.selects RX0 yX0_namedBy yX0_namedBy, Cond.code yX0_namedBy cX0_namedBy 5 (some .int), Cond.fieldLink RX0 38 "BallCourt$Book" "lines" "I", Cond.fieldLink RX0 19 "BallCourt$Book" "must" "[I", Cond.fieldLink RX0 22 "BallCourt$Book" "mustNot" "[I", Cond.fieldLink RX0 28 "BallCourt$Book" "excepters" "[I"]
def wsX5_make_r3 : List Cond := [Cond.fieldLink RX0 41 "BallCourt$Book" "repealed" "I", Cond.static yX5_hasBit, Cond.initialized RX5, Cond.code yX5_hasBit cX5_hasBit 2 (some .boolean), Cond.methodLink RX5 197 yX5_verdictUnder, Cond.instanceMethod yX5_verdictUnder, Cond.selects RX5 yX5_verdictUnder yX5_verdictUnder, Cond.code yX5_verdictUnder cX5_verdictUnder 6 (some .int), Cond.methodLink RX5 188 yX0_countMayBe, Cond.instanceMethod yX0_countMayBe, Cond.selects RX0 yX0_countMayBe yX0_countMayBe, Cond.code yX0_countMayBe cX0_countMayBe 5 (some .int), Cond.methodLink RX0 58 yX0_mayBe, Cond.instanceMethod yX0_mayBe, Cond.selects RX0 yX0_mayBe yX0_mayBe, Cond.code yX0_mayBe cX0_mayBe 4 (some .boolean), Cond.methodLink RX5 194 yX1_firstThatBinds, Cond.instanceMethod yX1_firstThatBinds, Cond.selects RX1 yX1_firstThatBinds yX1_firstThatBinds, Cond.initialized RX1, Cond.code yX1_firstThatBinds cX1_firstThatBinds 6 (some .int), Cond.fieldLink RX1 21 "BallCourt$Cases" "count" "I", Cond.fieldLink RX1 18 "BallCourt$Cases" "names" "[I", Cond.fieldLink RX1 9 "BallCourt$Cases" "kind" "[I"]
def wsX5_make_r4 : List Cond := [Cond.methodLink RX5 243 yX3_rulingForAll, Cond.instanceMethod yX3_rulingForAll, Cond.selects RX3 yX3_rulingForAll yX3_rulingForAll, Cond.code yX3_rulingForAll cX3_rulingForAll 6 (some .int), Cond.fieldLink RX3 15 "BallCourt$Laws" "book" "LBallCourt$Book;", Cond.methodLink RX3 40 yX0_mayBe, Cond.methodLink RX3 36 yX3_rulingFor, Cond.instanceMethod yX3_rulingFor, Cond.selects RX3 yX3_rulingFor yX3_rulingFor, Cond.code yX3_rulingFor cX3_rulingFor 2 (some .int), Cond.methodLink RX3 29 yX3_covers, Cond.methodLink RX5 204 yX1_add, Cond.instanceMethod yX1_add, Cond.selects RX1 yX1_add yX1_add, Cond.code yX1_add cX1_add 5 (some .int), Cond.fieldLink RX1 15 "BallCourt$Cases" "ruling" "[I"]
def wsX5_make : List Cond := .code yX5_make cX5_make 5 (some .int) :: ((wsX5_make_r1 ++ (wsX5_make_r2 ++ (wsX5_make_r3 ++ wsX5_make_r4))) ++ wsX50 ++ wsX10 ++ wsX30 ++ wsX40 ++ wsX00)
def wsX5_ofCase : List Cond := .code yX5_ofCase cX5_ofCase 3 (some .int) :: ([.fieldLink RX5 38 "BallCourt" "cases" "LBallCourt$Cases;", .methodLink RX5 206 yX1_has, .instanceMethod yX1_has, .selects RX1 yX1_has yX1_has, .initialized RX1, .code yX1_has cX1_has 2 (some .boolean), .fieldLink RX1 21 "BallCourt$Cases" "count" "I"] ++ wsX50 ++ wsX10)
def wsX5_turned : List Cond := .code yX5_turned cX5_turned 3 (some .int) :: ([.fieldLink RX5 38 "BallCourt" "cases" "LBallCourt$Cases;", .fieldLink RX5 21 "BallCourt" "laws" "LBallCourt$Laws;", .methodLink RX5 156 yX3_rulingFor, .instanceMethod yX3_rulingFor, .selects RX3 yX3_rulingFor yX3_rulingFor, .initialized RX3, .code yX3_rulingFor cX3_rulingFor 2 (some .int), .fieldLink RX3 15 "BallCourt$Laws" "book" "LBallCourt$Book;", .fieldLink RX3 9 "BallCourt$Laws" "lineOf" "[I", .methodLink RX3 29 yX3_covers, .instanceMethod yX3_covers, .selects RX3 yX3_covers yX3_covers, .code yX3_covers cX3_covers 2 (some .boolean)] ++ wsX50 ++ wsX10 ++ wsX30 ++ wsX00)
def wsX5_casesOfTurnedKinds : List Cond := .code yX5_casesOfTurnedKinds cX5_casesOfTurnedKinds 3 (some .int) :: ([.fieldLink RX5 38 "BallCourt" "cases" "LBallCourt$Cases;", .fieldLink RX5 21 "BallCourt" "laws" "LBallCourt$Laws;", .fieldLink RX5 25 "BallCourt" "lawsIfMended" "LBallCourt$Laws;", .methodLink RX5 246 yX3_differFor, .instanceMethod yX3_differFor, .selects RX3 yX3_differFor yX3_differFor, .initialized RX3, .code yX3_differFor cX3_differFor 3 (some .boolean), .methodLink RX3 36 yX3_rulingFor, .instanceMethod yX3_rulingFor, .selects RX3 yX3_rulingFor yX3_rulingFor, .code yX3_rulingFor cX3_rulingFor 2 (some .int), .fieldLink RX3 15 "BallCourt$Laws" "book" "LBallCourt$Book;", .fieldLink RX3 9 "BallCourt$Laws" "lineOf" "[I", .methodLink RX3 29 yX3_covers, .instanceMethod yX3_covers, .selects RX3 yX3_covers yX3_covers, .code yX3_covers cX3_covers 2 (some .boolean)] ++ wsX50 ++ wsX10 ++ wsX30 ++ wsX00)
def wsX5_turnedVerdicts_r1 : List Cond := [Cond.fieldLink RX5 31 "BallCourt" "played" "LBallCourt$Moments;", Cond.fieldLink RX5 21 "BallCourt" "laws" "LBallCourt$Laws;", Cond.fieldLink RX5 25 "BallCourt" "lawsIfMended" "LBallCourt$Laws;", Cond.methodLink RX5 197 yX5_verdictUnder, Cond.instanceMethod yX5_verdictUnder, Cond.selects RX5 yX5_verdictUnder yX5_verdictUnder, Cond.initialized RX5, Cond.code yX5_verdictUnder cX5_verdictUnder 6 (some .int), Cond.fieldLink RX5 10 "BallCourt" "book" "LBallCourt$Book;", Cond.fieldLink RX5 38 "BallCourt" "cases" "LBallCourt$Cases;", Cond.methodLink RX5 179 yX4_knownSo, Cond.instanceMethod yX4_knownSo, Cond.selects RX4 yX4_knownSo yX4_knownSo, Cond.initialized RX4, Cond.code yX4_knownSo cX4_knownSo 2 (some .int), Cond.fieldLink RX4 9 "BallCourt$Moments" "toldSo" "[I", Cond.fieldLink RX4 15 "BallCourt$Moments" "toldNotSo" "[I", Cond.methodLink RX4 29 yX4_ofAll, Cond.static yX4_ofAll, Cond.code yX4_ofAll cX4_ofAll 4 (some .int), Cond.methodLink RX5 182 yX4_knownNotSo, Cond.instanceMethod yX4_knownNotSo, Cond.selects RX4 yX4_knownNotSo yX4_knownNotSo, Cond.code yX4_knownNotSo cX4_knownNotSo 2 (some .int)]
def wsX5_turnedVerdicts_r2 : List Cond := [Cond.methodLink RX5 188 yX0_countMayBe, Cond.instanceMethod yX0_countMayBe, Cond.selects RX0 yX0_countMayBe yX0_countMayBe, Cond.initialized RX0, Cond.code yX0_countMayBe cX0_countMayBe 5 (some .int), Cond.fieldLink RX0 35 "BallCourt$Book" "numbers" "I", Cond.methodLink RX0 58 yX0_mayBe, Cond.instanceMethod yX0_mayBe, Cond.selects RX0 yX0_mayBe yX0_mayBe, Cond.code yX0_mayBe cX0_mayBe 4 (some .boolean), Cond.fieldLink RX0 9 "BallCourt$Book" "isKind" "[Z", Cond.methodLink RX5 194 yX1_firstThatBinds, Cond.instanceMethod yX1_firstThatBinds, Cond.selects RX1 yX1_firstThatBinds yX1_firstThatBinds, Cond.initialized RX1, Cond.code yX1_firstThatBinds cX1_firstThatBinds 6 (some .int), Cond.fieldLink RX1 21 "BallCourt$Cases" "count" "I", Cond.fieldLink RX1 18 "BallCourt$Cases" "names" "[I", Cond.fieldLink RX1 9 "BallCourt$Cases" "kind" "[I", Cond.methodLink RX5 243 yX3_rulingForAll, Cond.instanceMethod yX3_rulingForAll, Cond.selects RX3 yX3_rulingForAll yX3_rulingForAll, Cond.initialized RX3, Cond.code yX3_rulingForAll cX3_rulingForAll 6 (some .int)]
def wsX5_turnedVerdicts_r3 : List Cond := [Cond.fieldLink RX3 15 "BallCourt$Laws" "book" "LBallCourt$Book;", Cond.methodLink RX3 40 yX0_mayBe, Cond.methodLink RX3 36 yX3_rulingFor, Cond.instanceMethod yX3_rulingFor, Cond.selects RX3 yX3_rulingFor yX3_rulingFor, Cond.code yX3_rulingFor cX3_rulingFor 2 (some .int), Cond.fieldLink RX3 9 "BallCourt$Laws" "lineOf" "[I", Cond.methodLink RX3 29 yX3_covers, Cond.instanceMethod yX3_covers, Cond.selects RX3 yX3_covers yX3_covers, Cond.code yX3_covers cX3_covers 2 (some .boolean)]
def wsX5_turnedVerdicts : List Cond := .code yX5_turnedVerdicts cX5_turnedVerdicts 3 (some .int) :: ((wsX5_turnedVerdicts_r1 ++ (wsX5_turnedVerdicts_r2 ++ wsX5_turnedVerdicts_r3)) ++ wsX50 ++ wsX40 ++ wsX10 ++ wsX00 ++ wsX30)
def wsX5_mend_r1 : List Cond := [Cond.fieldLink RX5 10 "BallCourt" "book" "LBallCourt$Book;", Cond.fieldLink RX5 25 "BallCourt" "lawsIfMended" "LBallCourt$Laws;", Cond.methodLink RX5 105 yX0_hasLine, Cond.instanceMethod yX0_hasLine, Cond.selects RX0 yX0_hasLine yX0_hasLine, Cond.initialized RX0, Cond.code yX0_hasLine cX0_hasLine 2 (some .boolean), Cond.fieldLink RX0 38 "BallCourt$Book" "lines" "I", Cond.methodLink RX5 128 yX0_repealedIfMended, Cond.instanceMethod yX0_repealedIfMended, Cond.selects RX0 yX0_repealedIfMended yX0_repealedIfMended, Cond.code yX0_repealedIfMended cX0_repealedIfMended 2 (some .int), Cond.fieldLink RX0 41 "BallCourt$Book" "repealed" "I", Cond.methodLink RX5 70 yX3_work, Cond.instanceMethod yX3_work, Cond.selects RX3 yX3_work yX3_work, Cond.initialized RX3, Cond.code yX3_work cX3_work 3 none, Cond.fieldLink RX3 15 "BallCourt$Laws" "book" "LBallCourt$Book;", Cond.fieldLink RX3 9 "BallCourt$Laws" "lineOf" "[I", Cond.methodLink RX3 25 yX0_lawLine, Cond.instanceMethod yX0_lawLine, Cond.selects RX0 yX0_lawLine yX0_lawLine, Cond.code yX0_lawLine cX0_lawLine 5 (some .int)]
def wsX5_mend_r2 : List Cond := [Cond.fieldLink RX0 44 "BallCourt$Book" "excepting" "I", Cond.methodLink RX0 62 yX0_holding, Cond.instanceMethod yX0_holding, Cond.selects RX0 yX0_holding yX0_holding, Cond.code yX0_holding cX0_holding 6 (some .int), Cond.fieldLink RX0 19 "BallCourt$Book" "must" "[I", Cond.fieldLink RX0 22 "BallCourt$Book" "mustNot" "[I", Cond.fieldLink RX0 28 "BallCourt$Book" "excepters" "[I", Cond.static yX5_hasBit, Cond.initialized RX5, Cond.code yX5_hasBit cX5_hasBit 2 (some .boolean), Cond.methodLink RX5 165 yX5_turnedKinds, Cond.instanceMethod yX5_turnedKinds, Cond.selects RX5 yX5_turnedKinds yX5_turnedKinds, Cond.code yX5_turnedKinds cX5_turnedKinds 3 (some .int), Cond.fieldLink RX5 21 "BallCourt" "laws" "LBallCourt$Laws;", Cond.methodLink RX5 143 yX0_hasKind, Cond.instanceMethod yX0_hasKind, Cond.selects RX0 yX0_hasKind yX0_hasKind, Cond.code yX0_hasKind cX0_hasKind 2 (some .boolean), Cond.fieldLink RX0 35 "BallCourt$Book" "numbers" "I", Cond.fieldLink RX0 9 "BallCourt$Book" "isKind" "[Z", Cond.methodLink RX5 246 yX3_differFor, Cond.instanceMethod yX3_differFor]
def wsX5_mend_r3 : List Cond := [Cond.selects RX3 yX3_differFor yX3_differFor, Cond.code yX3_differFor cX3_differFor 3 (some .boolean), Cond.methodLink RX3 36 yX3_rulingFor, Cond.instanceMethod yX3_rulingFor, Cond.selects RX3 yX3_rulingFor yX3_rulingFor, Cond.code yX3_rulingFor cX3_rulingFor 2 (some .int), Cond.methodLink RX3 29 yX3_covers, Cond.instanceMethod yX3_covers, Cond.selects RX3 yX3_covers yX3_covers, Cond.code yX3_covers cX3_covers 2 (some .boolean), Cond.methodLink RX5 214 yX5_casesOfTurnedKinds, Cond.instanceMethod yX5_casesOfTurnedKinds, Cond.selects RX5 yX5_casesOfTurnedKinds yX5_casesOfTurnedKinds, Cond.code yX5_casesOfTurnedKinds cX5_casesOfTurnedKinds 3 (some .int), Cond.fieldLink RX5 38 "BallCourt" "cases" "LBallCourt$Cases;", Cond.methodLink RX5 217 yX5_turnedVerdicts, Cond.instanceMethod yX5_turnedVerdicts, Cond.selects RX5 yX5_turnedVerdicts yX5_turnedVerdicts, Cond.code yX5_turnedVerdicts cX5_turnedVerdicts 3 (some .int), Cond.fieldLink RX5 31 "BallCourt" "played" "LBallCourt$Moments;", Cond.methodLink RX5 197 yX5_verdictUnder, Cond.instanceMethod yX5_verdictUnder, Cond.selects RX5 yX5_verdictUnder yX5_verdictUnder, Cond.code yX5_verdictUnder cX5_verdictUnder 6 (some .int)]
def wsX5_mend_r4 : List Cond := [Cond.methodLink RX5 179 yX4_knownSo, Cond.instanceMethod yX4_knownSo, Cond.selects RX4 yX4_knownSo yX4_knownSo, Cond.initialized RX4, Cond.code yX4_knownSo cX4_knownSo 2 (some .int), Cond.fieldLink RX4 9 "BallCourt$Moments" "toldSo" "[I", Cond.fieldLink RX4 15 "BallCourt$Moments" "toldNotSo" "[I", Cond.methodLink RX4 29 yX4_ofAll, Cond.static yX4_ofAll, Cond.code yX4_ofAll cX4_ofAll 4 (some .int), Cond.methodLink RX5 182 yX4_knownNotSo, Cond.instanceMethod yX4_knownNotSo, Cond.selects RX4 yX4_knownNotSo yX4_knownNotSo, Cond.code yX4_knownNotSo cX4_knownNotSo 2 (some .int), Cond.methodLink RX5 188 yX0_countMayBe, Cond.instanceMethod yX0_countMayBe, Cond.selects RX0 yX0_countMayBe yX0_countMayBe, Cond.code yX0_countMayBe cX0_countMayBe 5 (some .int), Cond.methodLink RX0 58 yX0_mayBe, Cond.instanceMethod yX0_mayBe, Cond.selects RX0 yX0_mayBe yX0_mayBe, Cond.code yX0_mayBe cX0_mayBe 4 (some .boolean), Cond.methodLink RX5 194 yX1_firstThatBinds, Cond.instanceMethod yX1_firstThatBinds]
def wsX5_mend_r5 : List Cond := [Cond.selects RX1 yX1_firstThatBinds yX1_firstThatBinds, Cond.initialized RX1, Cond.code yX1_firstThatBinds cX1_firstThatBinds 6 (some .int), Cond.fieldLink RX1 21 "BallCourt$Cases" "count" "I", Cond.fieldLink RX1 18 "BallCourt$Cases" "names" "[I", Cond.fieldLink RX1 9 "BallCourt$Cases" "kind" "[I", Cond.methodLink RX5 243 yX3_rulingForAll, Cond.instanceMethod yX3_rulingForAll, Cond.selects RX3 yX3_rulingForAll yX3_rulingForAll, Cond.code yX3_rulingForAll cX3_rulingForAll 6 (some .int), Cond.methodLink RX3 40 yX0_mayBe]
def wsX5_mend : List Cond := .code yX5_mend cX5_mend 3 (some .int) :: ((wsX5_mend_r1 ++ (wsX5_mend_r2 ++ (wsX5_mend_r3 ++ (wsX5_mend_r4 ++ wsX5_mend_r5)))) ++ wsX50 ++ wsX00 ++ wsX30 ++ wsX10 ++ wsX40)
def wsX5_goal : List Cond := .code yX5_goal cX5_goal 3 (some .int) :: ([.fieldLink RX5 52 "BallCourt" "hoopsToWin" "I"] ++ wsX50)
def wsX5_score_r1 : List Cond := [Cond.fieldLink RX5 31 "BallCourt" "played" "LBallCourt$Moments;", Cond.fieldLink RX5 45 "BallCourt" "game" "LBallCourt$Game;", Cond.fieldLink RX5 52 "BallCourt" "hoopsToWin" "I", Cond.fieldLink RX5 21 "BallCourt" "laws" "LBallCourt$Laws;", Cond.methodLink RX5 220 yX2_begin, Cond.instanceMethod yX2_begin, Cond.selects RX2 yX2_begin yX2_begin, Cond.initialized RX2, Cond.code yX2_begin cX2_begin 2 none, Cond.fieldLink RX2 9 "BallCourt$Game" "toWin" "I", Cond.fieldLink RX2 15 "BallCourt$Game" "hoopsOf0" "I", Cond.fieldLink RX2 18 "BallCourt$Game" "hoopsOf1" "I", Cond.fieldLink RX2 21 "BallCourt$Game" "striker" "I", Cond.methodLink RX5 197 yX5_verdictUnder, Cond.instanceMethod yX5_verdictUnder, Cond.selects RX5 yX5_verdictUnder yX5_verdictUnder, Cond.initialized RX5, Cond.code yX5_verdictUnder cX5_verdictUnder 6 (some .int), Cond.fieldLink RX5 10 "BallCourt" "book" "LBallCourt$Book;", Cond.fieldLink RX5 38 "BallCourt" "cases" "LBallCourt$Cases;", Cond.methodLink RX5 179 yX4_knownSo, Cond.instanceMethod yX4_knownSo, Cond.selects RX4 yX4_knownSo yX4_knownSo, Cond.initialized RX4]
def wsX5_score_r2 : List Cond := [Cond.code yX4_knownSo cX4_knownSo 2 (some .int), Cond.fieldLink RX4 9 "BallCourt$Moments" "toldSo" "[I", Cond.fieldLink RX4 15 "BallCourt$Moments" "toldNotSo" "[I", Cond.methodLink RX4 29 yX4_ofAll, Cond.static yX4_ofAll, Cond.code yX4_ofAll cX4_ofAll 4 (some .int), Cond.methodLink RX5 182 yX4_knownNotSo, Cond.instanceMethod yX4_knownNotSo, Cond.selects RX4 yX4_knownNotSo yX4_knownNotSo, Cond.code yX4_knownNotSo cX4_knownNotSo 2 (some .int), Cond.methodLink RX5 188 yX0_countMayBe, Cond.instanceMethod yX0_countMayBe, Cond.selects RX0 yX0_countMayBe yX0_countMayBe, Cond.initialized RX0, Cond.code yX0_countMayBe cX0_countMayBe 5 (some .int), Cond.fieldLink RX0 35 "BallCourt$Book" "numbers" "I", Cond.methodLink RX0 58 yX0_mayBe, Cond.instanceMethod yX0_mayBe, Cond.selects RX0 yX0_mayBe yX0_mayBe, Cond.code yX0_mayBe cX0_mayBe 4 (some .boolean), Cond.fieldLink RX0 9 "BallCourt$Book" "isKind" "[Z", Cond.methodLink RX5 194 yX1_firstThatBinds, Cond.instanceMethod yX1_firstThatBinds, Cond.selects RX1 yX1_firstThatBinds yX1_firstThatBinds]
def wsX5_score_r3 : List Cond := [Cond.initialized RX1, Cond.code yX1_firstThatBinds cX1_firstThatBinds 6 (some .int), Cond.fieldLink RX1 21 "BallCourt$Cases" "count" "I", Cond.fieldLink RX1 18 "BallCourt$Cases" "names" "[I", Cond.fieldLink RX1 9 "BallCourt$Cases" "kind" "[I", Cond.methodLink RX5 243 yX3_rulingForAll, Cond.instanceMethod yX3_rulingForAll, Cond.selects RX3 yX3_rulingForAll yX3_rulingForAll, Cond.initialized RX3, Cond.code yX3_rulingForAll cX3_rulingForAll 6 (some .int), Cond.fieldLink RX3 15 "BallCourt$Laws" "book" "LBallCourt$Book;", Cond.methodLink RX3 40 yX0_mayBe, Cond.methodLink RX3 36 yX3_rulingFor, Cond.instanceMethod yX3_rulingFor, Cond.selects RX3 yX3_rulingFor yX3_rulingFor, Cond.code yX3_rulingFor cX3_rulingFor 2 (some .int), Cond.fieldLink RX3 9 "BallCourt$Laws" "lineOf" "[I", Cond.methodLink RX3 29 yX3_covers, Cond.instanceMethod yX3_covers, Cond.selects RX3 yX3_covers yX3_covers, Cond.code yX3_covers cX3_covers 2 (some .boolean), Cond.methodLink RX5 221 yX2_play, Cond.instanceMethod yX2_play, Cond.selects RX2 yX2_play yX2_play]
def wsX5_score_r4 : List Cond := [Cond.code yX2_play cX2_play 2 none, Cond.methodLink RX2 24 yX2_winner, Cond.instanceMethod yX2_winner, Cond.selects RX2 yX2_winner yX2_winner, Cond.code yX2_winner cX2_winner 1 (some .int), Cond.methodLink RX2 28 yX2_giveHoop, Cond.instanceMethod yX2_giveHoop, Cond.selects RX2 yX2_giveHoop yX2_giveHoop, Cond.code yX2_giveHoop cX2_giveHoop 2 none, Cond.methodLink RX5 233 yX2_winner]
def wsX5_score : List Cond := .code yX5_score cX5_score 4 (some .int) :: ((wsX5_score_r1 ++ (wsX5_score_r2 ++ (wsX5_score_r3 ++ wsX5_score_r4))) ++ wsX50 ++ wsX40 ++ wsX20 ++ wsX10 ++ wsX00 ++ wsX30)
def wsX5_appeal_r1 : List Cond := [Cond.fieldLink RX5 31 "BallCourt" "played" "LBallCourt$Moments;", Cond.fieldLink RX5 45 "BallCourt" "game" "LBallCourt$Game;", Cond.fieldLink RX5 52 "BallCourt" "hoopsToWin" "I", Cond.fieldLink RX5 49 "BallCourt" "gameIfRuled" "LBallCourt$Game;", Cond.fieldLink RX5 21 "BallCourt" "laws" "LBallCourt$Laws;", Cond.methodLink RX5 172 yX4_has, Cond.instanceMethod yX4_has, Cond.selects RX4 yX4_has yX4_has, Cond.initialized RX4, Cond.code yX4_has cX4_has 2 (some .boolean), Cond.fieldLink RX4 21 "BallCourt$Moments" "count" "I", Cond.methodLink RX5 95 yX5_isRuling, Cond.static yX5_isRuling, Cond.initialized RX5, Cond.code yX5_isRuling cX5_isRuling 1 (some .boolean), Cond.methodLink RX5 220 yX2_begin, Cond.instanceMethod yX2_begin, Cond.selects RX2 yX2_begin yX2_begin, Cond.initialized RX2, Cond.code yX2_begin cX2_begin 2 none, Cond.fieldLink RX2 9 "BallCourt$Game" "toWin" "I", Cond.fieldLink RX2 15 "BallCourt$Game" "hoopsOf0" "I", Cond.fieldLink RX2 18 "BallCourt$Game" "hoopsOf1" "I", Cond.fieldLink RX2 21 "BallCourt$Game" "striker" "I"]
def wsX5_appeal_r2 : List Cond := [Cond.methodLink RX5 197 yX5_verdictUnder, Cond.instanceMethod yX5_verdictUnder, Cond.selects RX5 yX5_verdictUnder yX5_verdictUnder, Cond.code yX5_verdictUnder cX5_verdictUnder 6 (some .int), Cond.fieldLink RX5 10 "BallCourt" "book" "LBallCourt$Book;", Cond.fieldLink RX5 38 "BallCourt" "cases" "LBallCourt$Cases;", Cond.methodLink RX5 179 yX4_knownSo, Cond.instanceMethod yX4_knownSo, Cond.selects RX4 yX4_knownSo yX4_knownSo, Cond.code yX4_knownSo cX4_knownSo 2 (some .int), Cond.fieldLink RX4 9 "BallCourt$Moments" "toldSo" "[I", Cond.fieldLink RX4 15 "BallCourt$Moments" "toldNotSo" "[I", Cond.methodLink RX4 29 yX4_ofAll, Cond.static yX4_ofAll, Cond.code yX4_ofAll cX4_ofAll 4 (some .int), Cond.methodLink RX5 182 yX4_knownNotSo, Cond.instanceMethod yX4_knownNotSo, Cond.selects RX4 yX4_knownNotSo yX4_knownNotSo, Cond.code yX4_knownNotSo cX4_knownNotSo 2 (some .int), Cond.methodLink RX5 188 yX0_countMayBe, Cond.instanceMethod yX0_countMayBe, Cond.selects RX0 yX0_countMayBe yX0_countMayBe, Cond.initialized RX0, Cond.code yX0_countMayBe cX0_countMayBe 5 (some .int)]
def wsX5_appeal_r3 : List Cond := [Cond.fieldLink RX0 35 "BallCourt$Book" "numbers" "I", Cond.methodLink RX0 58 yX0_mayBe, Cond.instanceMethod yX0_mayBe, Cond.selects RX0 yX0_mayBe yX0_mayBe, Cond.code yX0_mayBe cX0_mayBe 4 (some .boolean), Cond.fieldLink RX0 9 "BallCourt$Book" "isKind" "[Z", Cond.methodLink RX5 194 yX1_firstThatBinds, Cond.instanceMethod yX1_firstThatBinds, Cond.selects RX1 yX1_firstThatBinds yX1_firstThatBinds, Cond.initialized RX1, Cond.code yX1_firstThatBinds cX1_firstThatBinds 6 (some .int), Cond.fieldLink RX1 21 "BallCourt$Cases" "count" "I", Cond.fieldLink RX1 18 "BallCourt$Cases" "names" "[I", Cond.fieldLink RX1 9 "BallCourt$Cases" "kind" "[I", Cond.methodLink RX5 243 yX3_rulingForAll, Cond.instanceMethod yX3_rulingForAll, Cond.selects RX3 yX3_rulingForAll yX3_rulingForAll, Cond.initialized RX3, Cond.code yX3_rulingForAll cX3_rulingForAll 6 (some .int), Cond.fieldLink RX3 15 "BallCourt$Laws" "book" "LBallCourt$Book;", Cond.methodLink RX3 40 yX0_mayBe, Cond.methodLink RX3 36 yX3_rulingFor, Cond.instanceMethod yX3_rulingFor, Cond.selects RX3 yX3_rulingFor yX3_rulingFor]
def wsX5_appeal_r4 : List Cond := [Cond.code yX3_rulingFor cX3_rulingFor 2 (some .int), Cond.fieldLink RX3 9 "BallCourt$Laws" "lineOf" "[I", Cond.methodLink RX3 29 yX3_covers, Cond.instanceMethod yX3_covers, Cond.selects RX3 yX3_covers yX3_covers, Cond.code yX3_covers cX3_covers 2 (some .boolean), Cond.methodLink RX5 221 yX2_play, Cond.instanceMethod yX2_play, Cond.selects RX2 yX2_play yX2_play, Cond.code yX2_play cX2_play 2 none, Cond.methodLink RX2 24 yX2_winner, Cond.instanceMethod yX2_winner, Cond.selects RX2 yX2_winner yX2_winner, Cond.code yX2_winner cX2_winner 1 (some .int), Cond.methodLink RX2 28 yX2_giveHoop, Cond.instanceMethod yX2_giveHoop, Cond.selects RX2 yX2_giveHoop yX2_giveHoop, Cond.code yX2_giveHoop cX2_giveHoop 2 none, Cond.methodLink RX5 236 yX2_standsAs, Cond.instanceMethod yX2_standsAs, Cond.selects RX2 yX2_standsAs yX2_standsAs, Cond.code yX2_standsAs cX2_standsAs 2 (some .boolean)]
def wsX5_appeal : List Cond := .code yX5_appeal cX5_appeal 5 (some .int) :: ((wsX5_appeal_r1 ++ (wsX5_appeal_r2 ++ (wsX5_appeal_r3 ++ wsX5_appeal_r4))) ++ wsX50 ++ wsX40 ++ wsX20 ++ wsX10 ++ wsX00 ++ wsX30)
def wsX5_coveredKinds : List Cond := .code yX5_coveredKinds cX5_coveredKinds 3 (some .int) :: ([.fieldLink RX5 10 "BallCourt" "book" "LBallCourt$Book;", .fieldLink RX5 21 "BallCourt" "laws" "LBallCourt$Laws;", .methodLink RX5 143 yX0_hasKind, .instanceMethod yX0_hasKind, .selects RX0 yX0_hasKind yX0_hasKind, .initialized RX0, .code yX0_hasKind cX0_hasKind 2 (some .boolean), .fieldLink RX0 35 "BallCourt$Book" "numbers" "I", .fieldLink RX0 9 "BallCourt$Book" "isKind" "[Z", .methodLink RX5 162 yX3_covers, .instanceMethod yX3_covers, .selects RX3 yX3_covers yX3_covers, .initialized RX3, .code yX3_covers cX3_covers 2 (some .boolean), .fieldLink RX3 9 "BallCourt$Laws" "lineOf" "[I"] ++ wsX50 ++ wsX00 ++ wsX30)
def wsX5_told_r1 : List Cond := [Cond.fieldLink RX5 10 "BallCourt" "book" "LBallCourt$Book;", Cond.fieldLink RX5 31 "BallCourt" "played" "LBallCourt$Moments;", Cond.fieldLink RX5 38 "BallCourt" "cases" "LBallCourt$Cases;", Cond.fieldLink RX5 52 "BallCourt" "hoopsToWin" "I", Cond.methodLink RX5 188 yX0_countMayBe, Cond.instanceMethod yX0_countMayBe, Cond.selects RX0 yX0_countMayBe yX0_countMayBe, Cond.initialized RX0, Cond.code yX0_countMayBe cX0_countMayBe 5 (some .int), Cond.fieldLink RX0 35 "BallCourt$Book" "numbers" "I", Cond.methodLink RX0 58 yX0_mayBe, Cond.instanceMethod yX0_mayBe, Cond.selects RX0 yX0_mayBe yX0_mayBe, Cond.code yX0_mayBe cX0_mayBe 4 (some .boolean), Cond.fieldLink RX0 9 "BallCourt$Book" "isKind" "[Z", Cond.methodLink RX5 240 yX5_coveredKinds, Cond.instanceMethod yX5_coveredKinds, Cond.selects RX5 yX5_coveredKinds yX5_coveredKinds, Cond.initialized RX5, Cond.code yX5_coveredKinds cX5_coveredKinds 3 (some .int), Cond.fieldLink RX5 21 "BallCourt" "laws" "LBallCourt$Laws;", Cond.methodLink RX5 143 yX0_hasKind, Cond.instanceMethod yX0_hasKind, Cond.selects RX0 yX0_hasKind yX0_hasKind]
def wsX5_told_r2 : List Cond := [Cond.code yX0_hasKind cX0_hasKind 2 (some .boolean), Cond.methodLink RX5 162 yX3_covers, Cond.instanceMethod yX3_covers, Cond.selects RX3 yX3_covers yX3_covers, Cond.initialized RX3, Cond.code yX3_covers cX3_covers 2 (some .boolean), Cond.fieldLink RX3 9 "BallCourt$Laws" "lineOf" "[I"]
def wsX5_told : List Cond := .code yX5_told cX5_told 2 (some .int) :: ((wsX5_told_r1 ++ wsX5_told_r2) ++ wsX50 ++ wsX00 ++ wsX40 ++ wsX10 ++ wsX30)
def wsX6_init : List Cond := .code yX6_init cX6_init 1 none :: ([.methodLink RX6 1 objectInit, .instanceMethod objectInit, .code objectInit ⟨#[0xb1]⟩ 1 none, .fieldLink RX6 7 "BallCourtModel" "facts" "I", .arrayClass .int, .fieldLink RX6 13 "BallCourtModel" "bars" "[I", .fieldLink RX6 17 "BallCourtModel" "must" "[I", .fieldLink RX6 20 "BallCourtModel" "mustNot" "[I", .fieldLink RX6 23 "BallCourtModel" "ruling" "[I", .arrayClass .boolean, .fieldLink RX6 26 "BallCourtModel" "isRepealed" "[Z", .fieldLink RX6 30 "BallCourtModel" "excepts" "[I", .fieldLink RX6 33 "BallCourtModel" "toldSo" "[I", .fieldLink RX6 36 "BallCourtModel" "toldNot" "[I", .fieldLink RX6 39 "BallCourtModel" "ruled" "[I", .fieldLink RX6 42 "BallCourtModel" "caseKind" "[I", .fieldLink RX6 45 "BallCourtModel" "caseRuling" "[I", .fieldLink RX6 48 "BallCourtModel" "caseNames" "[I", .fieldLink RX6 51 "BallCourtModel" "goal" "I", .fieldLink RX6 54 "BallCourtModel" "before" "[I", .fieldLink RX6 57 "BallCourtModel" "verdict" "[I", .fieldLink RX6 60 "BallCourtModel" "state" "[I", .fieldLink RX6 63 "BallCourtModel" "course" "[I"] ++ wsX60)
def wsX6_in : List Cond := .code yX6_in cX6_in 3 (some .boolean) :: ([])
def wsX6_isFact : List Cond := .code yX6_isFact cX6_isFact 2 (some .boolean) :: ([.fieldLink RX6 7 "BallCourtModel" "facts" "I", .methodLink RX6 66 yX6_in, .static yX6_in, .initialized RX6, .code yX6_in cX6_in 3 (some .boolean)] ++ wsX60)
def wsX6_allFacts : List Cond := .code yX6_allFacts cX6_allFacts 1 (some .int) :: ([.fieldLink RX6 7 "BallCourtModel" "facts" "I"] ++ wsX60)
def wsX6_isLine : List Cond := .code yX6_isLine cX6_isLine 2 (some .boolean) :: ([.fieldLink RX6 70 "BallCourtModel" "lines" "I", .methodLink RX6 66 yX6_in, .static yX6_in, .initialized RX6, .code yX6_in cX6_in 3 (some .boolean)] ++ wsX60)
def wsX6_isRuling : List Cond := .code yX6_isRuling cX6_isRuling 1 (some .boolean) :: ([.methodLink RX6 66 yX6_in, .static yX6_in, .initialized RX6, .code yX6_in cX6_in 3 (some .boolean)])
def wsX6_facts : List Cond := .code yX6_facts cX6_facts 4 (some .int) :: ([.fieldLink RX6 7 "BallCourtModel" "facts" "I", .fieldLink RX6 13 "BallCourtModel" "bars" "[I", .fieldLink RX6 70 "BallCourtModel" "lines" "I", .fieldLink RX6 73 "BallCourtModel" "moments" "I", .fieldLink RX6 76 "BallCourtModel" "cases" "I", .methodLink RX6 66 yX6_in, .static yX6_in, .initialized RX6, .code yX6_in cX6_in 3 (some .boolean)] ++ wsX60)
def wsX6_barred : List Cond := .code yX6_barred cX6_barred 5 (some .int) :: ([.fieldLink RX6 13 "BallCourtModel" "bars" "[I", .methodLink RX6 79 yX6_isFact, .instanceMethod yX6_isFact, .selects RX6 yX6_isFact yX6_isFact, .initialized RX6, .code yX6_isFact cX6_isFact 2 (some .boolean), .fieldLink RX6 7 "BallCourtModel" "facts" "I", .methodLink RX6 66 yX6_in, .static yX6_in, .code yX6_in cX6_in 3 (some .boolean)] ++ wsX60)
def wsX6_isKind : List Cond := .code yX6_isKind cX6_isKind 4 (some .boolean) :: ([.fieldLink RX6 7 "BallCourtModel" "facts" "I", .fieldLink RX6 13 "BallCourtModel" "bars" "[I", .methodLink RX6 83 yX6_allFacts, .instanceMethod yX6_allFacts, .selects RX6 yX6_allFacts yX6_allFacts, .initialized RX6, .code yX6_allFacts cX6_allFacts 1 (some .int), .methodLink RX6 66 yX6_in, .static yX6_in, .code yX6_in cX6_in 3 (some .boolean)] ++ wsX60)
def wsX6_line : List Cond := .code yX6_line cX6_line 4 (some .int) :: ([.fieldLink RX6 70 "BallCourtModel" "lines" "I", .fieldLink RX6 17 "BallCourtModel" "must" "[I", .fieldLink RX6 20 "BallCourtModel" "mustNot" "[I", .fieldLink RX6 23 "BallCourtModel" "ruling" "[I", .fieldLink RX6 26 "BallCourtModel" "isRepealed" "[Z", .fieldLink RX6 30 "BallCourtModel" "excepts" "[I", .methodLink RX6 83 yX6_allFacts, .instanceMethod yX6_allFacts, .selects RX6 yX6_allFacts yX6_allFacts, .initialized RX6, .code yX6_allFacts cX6_allFacts 1 (some .int), .fieldLink RX6 7 "BallCourtModel" "facts" "I", .methodLink RX6 66 yX6_in, .static yX6_in, .code yX6_in cX6_in 3 (some .boolean), .methodLink RX6 87 yX6_isRuling, .static yX6_isRuling, .code yX6_isRuling cX6_isRuling 1 (some .boolean)] ++ wsX60)
def wsX6_bits : List Cond := .code yX6_bits cX6_bits 3 (some .int) :: ([])
def wsX6_except : List Cond := .code yX6_except cX6_except 3 (some .int) :: ([.fieldLink RX6 30 "BallCourtModel" "excepts" "[I", .methodLink RX6 90 yX6_isLine, .instanceMethod yX6_isLine, .selects RX6 yX6_isLine yX6_isLine, .initialized RX6, .code yX6_isLine cX6_isLine 2 (some .boolean), .fieldLink RX6 70 "BallCourtModel" "lines" "I", .methodLink RX6 66 yX6_in, .static yX6_in, .code yX6_in cX6_in 3 (some .boolean), .methodLink RX6 93 yX6_bits, .static yX6_bits, .code yX6_bits cX6_bits 3 (some .int)] ++ wsX60)
def wsX6_repeal : List Cond := .code yX6_repeal cX6_repeal 4 (some .int) :: ([.fieldLink RX6 26 "BallCourtModel" "isRepealed" "[Z", .methodLink RX6 90 yX6_isLine, .instanceMethod yX6_isLine, .selects RX6 yX6_isLine yX6_isLine, .initialized RX6, .code yX6_isLine cX6_isLine 2 (some .boolean), .fieldLink RX6 70 "BallCourtModel" "lines" "I", .methodLink RX6 66 yX6_in, .static yX6_in, .code yX6_in cX6_in 3 (some .boolean)] ++ wsX60)
def wsX6_namedBy : List Cond := .code yX6_namedBy cX6_namedBy 5 (some .int) :: ([.fieldLink RX6 70 "BallCourtModel" "lines" "I", .fieldLink RX6 26 "BallCourtModel" "isRepealed" "[Z", .fieldLink RX6 17 "BallCourtModel" "must" "[I", .fieldLink RX6 20 "BallCourtModel" "mustNot" "[I", .fieldLink RX6 30 "BallCourtModel" "excepts" "[I"] ++ wsX60)
def wsX6_about : List Cond := .code yX6_about cX6_about 3 (some .int) :: ([.fieldLink RX6 17 "BallCourtModel" "must" "[I", .fieldLink RX6 20 "BallCourtModel" "mustNot" "[I", .fieldLink RX6 23 "BallCourtModel" "ruling" "[I", .fieldLink RX6 26 "BallCourtModel" "isRepealed" "[Z", .fieldLink RX6 30 "BallCourtModel" "excepts" "[I", .methodLink RX6 90 yX6_isLine, .instanceMethod yX6_isLine, .selects RX6 yX6_isLine yX6_isLine, .initialized RX6, .code yX6_isLine cX6_isLine 2 (some .boolean), .fieldLink RX6 70 "BallCourtModel" "lines" "I", .methodLink RX6 66 yX6_in, .static yX6_in, .code yX6_in cX6_in 3 (some .boolean), .methodLink RX6 97 yX6_namedBy, .instanceMethod yX6_namedBy, .selects RX6 yX6_namedBy yX6_namedBy, .code yX6_namedBy cX6_namedBy 5 (some .int)] ++ wsX60)
def wsX6_holding : List Cond := .code yX6_holding cX6_holding 5 (some .int) :: ([.fieldLink RX6 70 "BallCourtModel" "lines" "I", .fieldLink RX6 26 "BallCourtModel" "isRepealed" "[Z", .fieldLink RX6 17 "BallCourtModel" "must" "[I", .fieldLink RX6 20 "BallCourtModel" "mustNot" "[I", .fieldLink RX6 30 "BallCourtModel" "excepts" "[I"] ++ wsX60)
def wsX6_holds_r1 : List Cond := [Cond.methodLink RX6 90 yX6_isLine, Cond.instanceMethod yX6_isLine, Cond.selects RX6 yX6_isLine yX6_isLine, Cond.initialized RX6, Cond.code yX6_isLine cX6_isLine 2 (some .boolean), Cond.fieldLink RX6 70 "BallCourtModel" "lines" "I", Cond.methodLink RX6 66 yX6_in, Cond.static yX6_in, Cond.code yX6_in cX6_in 3 (some .boolean), Cond.methodLink RX6 100 yX6_isKind, Cond.instanceMethod yX6_isKind, Cond.selects RX6 yX6_isKind yX6_isKind, Cond.code yX6_isKind cX6_isKind 4 (some .boolean), Cond.fieldLink RX6 7 "BallCourtModel" "facts" "I", Cond.fieldLink RX6 13 "BallCourtModel" "bars" "[I", Cond.methodLink RX6 83 yX6_allFacts, Cond.instanceMethod yX6_allFacts, Cond.selects RX6 yX6_allFacts yX6_allFacts, Cond.code yX6_allFacts cX6_allFacts 1 (some .int), Cond.methodLink RX6 103 yX6_holding, Cond.instanceMethod yX6_holding, Cond.selects RX6 yX6_holding yX6_holding, Cond.code yX6_holding cX6_holding 5 (some .int), Cond.fieldLink RX6 26 "BallCourtModel" "isRepealed" "[Z"]
def wsX6_holds_r2 : List Cond := [Cond.fieldLink RX6 17 "BallCourtModel" "must" "[I", Cond.fieldLink RX6 20 "BallCourtModel" "mustNot" "[I", Cond.fieldLink RX6 30 "BallCourtModel" "excepts" "[I"]
def wsX6_holds : List Cond := .code yX6_holds cX6_holds 3 (some .int) :: ((wsX6_holds_r1 ++ wsX6_holds_r2) ++ wsX60)
def wsX6_lineFor : List Cond := .code yX6_lineFor cX6_lineFor 5 (some .int) :: ([.fieldLink RX6 70 "BallCourtModel" "lines" "I", .fieldLink RX6 30 "BallCourtModel" "excepts" "[I", .methodLink RX6 103 yX6_holding, .instanceMethod yX6_holding, .selects RX6 yX6_holding yX6_holding, .initialized RX6, .code yX6_holding cX6_holding 5 (some .int), .fieldLink RX6 26 "BallCourtModel" "isRepealed" "[Z", .fieldLink RX6 17 "BallCourtModel" "must" "[I", .fieldLink RX6 20 "BallCourtModel" "mustNot" "[I"] ++ wsX60)
def wsX6_rulingFor : List Cond := .code yX6_rulingFor cX6_rulingFor 3 (some .int) :: ([.fieldLink RX6 23 "BallCourtModel" "ruling" "[I", .methodLink RX6 106 yX6_lineFor, .instanceMethod yX6_lineFor, .selects RX6 yX6_lineFor yX6_lineFor, .initialized RX6, .code yX6_lineFor cX6_lineFor 5 (some .int), .fieldLink RX6 70 "BallCourtModel" "lines" "I", .fieldLink RX6 30 "BallCourtModel" "excepts" "[I", .methodLink RX6 103 yX6_holding, .instanceMethod yX6_holding, .selects RX6 yX6_holding yX6_holding, .code yX6_holding cX6_holding 5 (some .int), .fieldLink RX6 26 "BallCourtModel" "isRepealed" "[Z", .fieldLink RX6 17 "BallCourtModel" "must" "[I", .fieldLink RX6 20 "BallCourtModel" "mustNot" "[I"] ++ wsX60)
def wsX6_law_r1 : List Cond := [Cond.methodLink RX6 100 yX6_isKind, Cond.instanceMethod yX6_isKind, Cond.selects RX6 yX6_isKind yX6_isKind, Cond.initialized RX6, Cond.code yX6_isKind cX6_isKind 4 (some .boolean), Cond.fieldLink RX6 7 "BallCourtModel" "facts" "I", Cond.fieldLink RX6 13 "BallCourtModel" "bars" "[I", Cond.methodLink RX6 83 yX6_allFacts, Cond.instanceMethod yX6_allFacts, Cond.selects RX6 yX6_allFacts yX6_allFacts, Cond.code yX6_allFacts cX6_allFacts 1 (some .int), Cond.methodLink RX6 66 yX6_in, Cond.static yX6_in, Cond.code yX6_in cX6_in 3 (some .boolean), Cond.methodLink RX6 106 yX6_lineFor, Cond.instanceMethod yX6_lineFor, Cond.selects RX6 yX6_lineFor yX6_lineFor, Cond.code yX6_lineFor cX6_lineFor 5 (some .int), Cond.fieldLink RX6 70 "BallCourtModel" "lines" "I", Cond.fieldLink RX6 30 "BallCourtModel" "excepts" "[I", Cond.methodLink RX6 103 yX6_holding, Cond.instanceMethod yX6_holding, Cond.selects RX6 yX6_holding yX6_holding, Cond.code yX6_holding cX6_holding 5 (some .int)]
def wsX6_law_r2 : List Cond := [Cond.fieldLink RX6 26 "BallCourtModel" "isRepealed" "[Z", Cond.fieldLink RX6 17 "BallCourtModel" "must" "[I", Cond.fieldLink RX6 20 "BallCourtModel" "mustNot" "[I", Cond.methodLink RX6 109 yX6_rulingFor, Cond.instanceMethod yX6_rulingFor, Cond.selects RX6 yX6_rulingFor yX6_rulingFor, Cond.code yX6_rulingFor cX6_rulingFor 3 (some .int), Cond.fieldLink RX6 23 "BallCourtModel" "ruling" "[I"]
def wsX6_law : List Cond := .code yX6_law cX6_law 3 (some .int) :: ((wsX6_law_r1 ++ wsX6_law_r2) ++ wsX60)
def wsX6_open_r1 : List Cond := [Cond.methodLink RX6 83 yX6_allFacts, Cond.instanceMethod yX6_allFacts, Cond.selects RX6 yX6_allFacts yX6_allFacts, Cond.initialized RX6, Cond.code yX6_allFacts cX6_allFacts 1 (some .int), Cond.fieldLink RX6 7 "BallCourtModel" "facts" "I", Cond.methodLink RX6 100 yX6_isKind, Cond.instanceMethod yX6_isKind, Cond.selects RX6 yX6_isKind yX6_isKind, Cond.code yX6_isKind cX6_isKind 4 (some .boolean), Cond.fieldLink RX6 13 "BallCourtModel" "bars" "[I", Cond.methodLink RX6 66 yX6_in, Cond.static yX6_in, Cond.code yX6_in cX6_in 3 (some .boolean), Cond.methodLink RX6 106 yX6_lineFor, Cond.instanceMethod yX6_lineFor, Cond.selects RX6 yX6_lineFor yX6_lineFor, Cond.code yX6_lineFor cX6_lineFor 5 (some .int), Cond.fieldLink RX6 70 "BallCourtModel" "lines" "I", Cond.fieldLink RX6 30 "BallCourtModel" "excepts" "[I", Cond.methodLink RX6 103 yX6_holding, Cond.instanceMethod yX6_holding, Cond.selects RX6 yX6_holding yX6_holding, Cond.code yX6_holding cX6_holding 5 (some .int)]
def wsX6_open_r2 : List Cond := [Cond.fieldLink RX6 26 "BallCourtModel" "isRepealed" "[Z", Cond.fieldLink RX6 17 "BallCourtModel" "must" "[I", Cond.fieldLink RX6 20 "BallCourtModel" "mustNot" "[I"]
def wsX6_open : List Cond := .code yX6_open cX6_open 4 (some .int) :: ((wsX6_open_r1 ++ wsX6_open_r2) ++ wsX60)
def wsX6_bound : List Cond := .code yX6_bound cX6_bound 2 (some .int) :: ([.methodLink RX6 109 yX6_rulingFor, .instanceMethod yX6_rulingFor, .selects RX6 yX6_rulingFor yX6_rulingFor, .initialized RX6, .code yX6_rulingFor cX6_rulingFor 3 (some .int), .fieldLink RX6 23 "BallCourtModel" "ruling" "[I", .methodLink RX6 106 yX6_lineFor, .instanceMethod yX6_lineFor, .selects RX6 yX6_lineFor yX6_lineFor, .code yX6_lineFor cX6_lineFor 5 (some .int), .fieldLink RX6 70 "BallCourtModel" "lines" "I", .fieldLink RX6 30 "BallCourtModel" "excepts" "[I", .methodLink RX6 103 yX6_holding, .instanceMethod yX6_holding, .selects RX6 yX6_holding yX6_holding, .code yX6_holding cX6_holding 5 (some .int), .fieldLink RX6 26 "BallCourtModel" "isRepealed" "[Z", .fieldLink RX6 17 "BallCourtModel" "must" "[I", .fieldLink RX6 20 "BallCourtModel" "mustNot" "[I"] ++ wsX60)
def wsX6_turnedKinds_r1 : List Cond := [Cond.fieldLink RX6 54 "BallCourtModel" "before" "[I", Cond.fieldLink RX6 26 "BallCourtModel" "isRepealed" "[Z", Cond.methodLink RX6 83 yX6_allFacts, Cond.instanceMethod yX6_allFacts, Cond.selects RX6 yX6_allFacts yX6_allFacts, Cond.initialized RX6, Cond.code yX6_allFacts cX6_allFacts 1 (some .int), Cond.fieldLink RX6 7 "BallCourtModel" "facts" "I", Cond.methodLink RX6 112 yX6_bound, Cond.instanceMethod yX6_bound, Cond.selects RX6 yX6_bound yX6_bound, Cond.code yX6_bound cX6_bound 2 (some .int), Cond.methodLink RX6 109 yX6_rulingFor, Cond.instanceMethod yX6_rulingFor, Cond.selects RX6 yX6_rulingFor yX6_rulingFor, Cond.code yX6_rulingFor cX6_rulingFor 3 (some .int), Cond.fieldLink RX6 23 "BallCourtModel" "ruling" "[I", Cond.methodLink RX6 106 yX6_lineFor, Cond.instanceMethod yX6_lineFor, Cond.selects RX6 yX6_lineFor yX6_lineFor, Cond.code yX6_lineFor cX6_lineFor 5 (some .int), Cond.fieldLink RX6 70 "BallCourtModel" "lines" "I", Cond.fieldLink RX6 30 "BallCourtModel" "excepts" "[I", Cond.methodLink RX6 103 yX6_holding]
def wsX6_turnedKinds_r2 : List Cond := [Cond.instanceMethod yX6_holding, Cond.selects RX6 yX6_holding yX6_holding, Cond.code yX6_holding cX6_holding 5 (some .int), Cond.fieldLink RX6 17 "BallCourtModel" "must" "[I", Cond.fieldLink RX6 20 "BallCourtModel" "mustNot" "[I", Cond.methodLink RX6 100 yX6_isKind, Cond.instanceMethod yX6_isKind, Cond.selects RX6 yX6_isKind yX6_isKind, Cond.code yX6_isKind cX6_isKind 4 (some .boolean), Cond.fieldLink RX6 13 "BallCourtModel" "bars" "[I", Cond.methodLink RX6 66 yX6_in, Cond.static yX6_in, Cond.code yX6_in cX6_in 3 (some .boolean)]
def wsX6_turnedKinds : List Cond := .code yX6_turnedKinds cX6_turnedKinds 4 (some .int) :: ((wsX6_turnedKinds_r1 ++ wsX6_turnedKinds_r2) ++ wsX60)
def wsX6_idle_r1 : List Cond := [Cond.methodLink RX6 90 yX6_isLine, Cond.instanceMethod yX6_isLine, Cond.selects RX6 yX6_isLine yX6_isLine, Cond.initialized RX6, Cond.code yX6_isLine cX6_isLine 2 (some .boolean), Cond.fieldLink RX6 70 "BallCourtModel" "lines" "I", Cond.methodLink RX6 66 yX6_in, Cond.static yX6_in, Cond.code yX6_in cX6_in 3 (some .boolean), Cond.methodLink RX6 115 yX6_turnedKinds, Cond.instanceMethod yX6_turnedKinds, Cond.selects RX6 yX6_turnedKinds yX6_turnedKinds, Cond.code yX6_turnedKinds cX6_turnedKinds 4 (some .int), Cond.fieldLink RX6 54 "BallCourtModel" "before" "[I", Cond.fieldLink RX6 26 "BallCourtModel" "isRepealed" "[Z", Cond.methodLink RX6 83 yX6_allFacts, Cond.instanceMethod yX6_allFacts, Cond.selects RX6 yX6_allFacts yX6_allFacts, Cond.code yX6_allFacts cX6_allFacts 1 (some .int), Cond.fieldLink RX6 7 "BallCourtModel" "facts" "I", Cond.methodLink RX6 112 yX6_bound, Cond.instanceMethod yX6_bound, Cond.selects RX6 yX6_bound yX6_bound, Cond.code yX6_bound cX6_bound 2 (some .int)]
def wsX6_idle_r2 : List Cond := [Cond.methodLink RX6 109 yX6_rulingFor, Cond.instanceMethod yX6_rulingFor, Cond.selects RX6 yX6_rulingFor yX6_rulingFor, Cond.code yX6_rulingFor cX6_rulingFor 3 (some .int), Cond.fieldLink RX6 23 "BallCourtModel" "ruling" "[I", Cond.methodLink RX6 106 yX6_lineFor, Cond.instanceMethod yX6_lineFor, Cond.selects RX6 yX6_lineFor yX6_lineFor, Cond.code yX6_lineFor cX6_lineFor 5 (some .int), Cond.fieldLink RX6 30 "BallCourtModel" "excepts" "[I", Cond.methodLink RX6 103 yX6_holding, Cond.instanceMethod yX6_holding, Cond.selects RX6 yX6_holding yX6_holding, Cond.code yX6_holding cX6_holding 5 (some .int), Cond.fieldLink RX6 17 "BallCourtModel" "must" "[I", Cond.fieldLink RX6 20 "BallCourtModel" "mustNot" "[I", Cond.methodLink RX6 100 yX6_isKind, Cond.instanceMethod yX6_isKind, Cond.selects RX6 yX6_isKind yX6_isKind, Cond.code yX6_isKind cX6_isKind 4 (some .boolean), Cond.fieldLink RX6 13 "BallCourtModel" "bars" "[I"]
def wsX6_idle : List Cond := .code yX6_idle cX6_idle 2 (some .int) :: ((wsX6_idle_r1 ++ wsX6_idle_r2) ++ wsX60)
def wsX6_isMoment : List Cond := .code yX6_isMoment cX6_isMoment 2 (some .boolean) :: ([.fieldLink RX6 73 "BallCourtModel" "moments" "I", .methodLink RX6 66 yX6_in, .static yX6_in, .initialized RX6, .code yX6_in cX6_in 3 (some .boolean)] ++ wsX60)
def wsX6_moment : List Cond := .code yX6_moment cX6_moment 2 (some .int) :: ([.fieldLink RX6 73 "BallCourtModel" "moments" "I", .fieldLink RX6 33 "BallCourtModel" "toldSo" "[I", .fieldLink RX6 36 "BallCourtModel" "toldNot" "[I", .fieldLink RX6 39 "BallCourtModel" "ruled" "[I"] ++ wsX60)
def wsX6_tell : List Cond := .code yX6_tell cX6_tell 7 (some .int) :: ([.fieldLink RX6 33 "BallCourtModel" "toldSo" "[I", .fieldLink RX6 36 "BallCourtModel" "toldNot" "[I", .methodLink RX6 118 yX6_isMoment, .instanceMethod yX6_isMoment, .selects RX6 yX6_isMoment yX6_isMoment, .initialized RX6, .code yX6_isMoment cX6_isMoment 2 (some .boolean), .fieldLink RX6 73 "BallCourtModel" "moments" "I", .methodLink RX6 66 yX6_in, .static yX6_in, .code yX6_in cX6_in 3 (some .boolean), .methodLink RX6 79 yX6_isFact, .instanceMethod yX6_isFact, .selects RX6 yX6_isFact yX6_isFact, .code yX6_isFact cX6_isFact 2 (some .boolean), .fieldLink RX6 7 "BallCourtModel" "facts" "I"] ++ wsX60)
def wsX6_so : List Cond := .code yX6_so cX6_so 4 (some .int) :: ([.fieldLink RX6 33 "BallCourtModel" "toldSo" "[I", .fieldLink RX6 36 "BallCourtModel" "toldNot" "[I"] ++ wsX60)
def wsX6_notSo : List Cond := .code yX6_notSo cX6_notSo 4 (some .int) :: ([.fieldLink RX6 33 "BallCourtModel" "toldSo" "[I", .fieldLink RX6 36 "BallCourtModel" "toldNot" "[I"] ++ wsX60)
def wsX6_doubt : List Cond := .code yX6_doubt cX6_doubt 2 (some .int) :: ([.methodLink RX6 83 yX6_allFacts, .instanceMethod yX6_allFacts, .selects RX6 yX6_allFacts yX6_allFacts, .initialized RX6, .code yX6_allFacts cX6_allFacts 1 (some .int), .fieldLink RX6 7 "BallCourtModel" "facts" "I", .methodLink RX6 121 yX6_so, .instanceMethod yX6_so, .selects RX6 yX6_so yX6_so, .code yX6_so cX6_so 4 (some .int), .fieldLink RX6 33 "BallCourtModel" "toldSo" "[I", .fieldLink RX6 36 "BallCourtModel" "toldNot" "[I", .methodLink RX6 124 yX6_notSo, .instanceMethod yX6_notSo, .selects RX6 yX6_notSo yX6_notSo, .code yX6_notSo cX6_notSo 4 (some .int)] ++ wsX60)
def wsX6_mayBe : List Cond := .code yX6_mayBe cX6_mayBe 3 (some .boolean) :: ([.methodLink RX6 100 yX6_isKind, .instanceMethod yX6_isKind, .selects RX6 yX6_isKind yX6_isKind, .initialized RX6, .code yX6_isKind cX6_isKind 4 (some .boolean), .fieldLink RX6 7 "BallCourtModel" "facts" "I", .fieldLink RX6 13 "BallCourtModel" "bars" "[I", .methodLink RX6 83 yX6_allFacts, .instanceMethod yX6_allFacts, .selects RX6 yX6_allFacts yX6_allFacts, .code yX6_allFacts cX6_allFacts 1 (some .int), .methodLink RX6 66 yX6_in, .static yX6_in, .code yX6_in cX6_in 3 (some .boolean), .methodLink RX6 121 yX6_so, .instanceMethod yX6_so, .selects RX6 yX6_so yX6_so, .code yX6_so cX6_so 4 (some .int), .fieldLink RX6 33 "BallCourtModel" "toldSo" "[I", .fieldLink RX6 36 "BallCourtModel" "toldNot" "[I", .methodLink RX6 124 yX6_notSo, .instanceMethod yX6_notSo, .selects RX6 yX6_notSo yX6_notSo, .code yX6_notSo cX6_notSo 4 (some .int)] ++ wsX60)
def wsX6_mayBes_r1 : List Cond := [Cond.methodLink RX6 83 yX6_allFacts, Cond.instanceMethod yX6_allFacts, Cond.selects RX6 yX6_allFacts yX6_allFacts, Cond.initialized RX6, Cond.code yX6_allFacts cX6_allFacts 1 (some .int), Cond.fieldLink RX6 7 "BallCourtModel" "facts" "I", Cond.methodLink RX6 127 yX6_mayBe, Cond.instanceMethod yX6_mayBe, Cond.selects RX6 yX6_mayBe yX6_mayBe, Cond.code yX6_mayBe cX6_mayBe 3 (some .boolean), Cond.methodLink RX6 100 yX6_isKind, Cond.instanceMethod yX6_isKind, Cond.selects RX6 yX6_isKind yX6_isKind, Cond.code yX6_isKind cX6_isKind 4 (some .boolean), Cond.fieldLink RX6 13 "BallCourtModel" "bars" "[I", Cond.methodLink RX6 66 yX6_in, Cond.static yX6_in, Cond.code yX6_in cX6_in 3 (some .boolean), Cond.methodLink RX6 121 yX6_so, Cond.instanceMethod yX6_so, Cond.selects RX6 yX6_so yX6_so, Cond.code yX6_so cX6_so 4 (some .int), Cond.fieldLink RX6 33 "BallCourtModel" "toldSo" "[I", Cond.fieldLink RX6 36 "BallCourtModel" "toldNot" "[I"]
def wsX6_mayBes_r2 : List Cond := [Cond.methodLink RX6 124 yX6_notSo, Cond.instanceMethod yX6_notSo, Cond.selects RX6 yX6_notSo yX6_notSo, Cond.code yX6_notSo cX6_notSo 4 (some .int), Cond.methodLink RX6 109 yX6_rulingFor, Cond.instanceMethod yX6_rulingFor, Cond.selects RX6 yX6_rulingFor yX6_rulingFor, Cond.code yX6_rulingFor cX6_rulingFor 3 (some .int), Cond.fieldLink RX6 23 "BallCourtModel" "ruling" "[I", Cond.methodLink RX6 106 yX6_lineFor, Cond.instanceMethod yX6_lineFor, Cond.selects RX6 yX6_lineFor yX6_lineFor, Cond.code yX6_lineFor cX6_lineFor 5 (some .int), Cond.fieldLink RX6 70 "BallCourtModel" "lines" "I", Cond.fieldLink RX6 30 "BallCourtModel" "excepts" "[I", Cond.methodLink RX6 103 yX6_holding, Cond.instanceMethod yX6_holding, Cond.selects RX6 yX6_holding yX6_holding, Cond.code yX6_holding cX6_holding 5 (some .int), Cond.fieldLink RX6 26 "BallCourtModel" "isRepealed" "[Z", Cond.fieldLink RX6 17 "BallCourtModel" "must" "[I", Cond.fieldLink RX6 20 "BallCourtModel" "mustNot" "[I"]
def wsX6_mayBes : List Cond := .code yX6_mayBes cX6_mayBes 5 (some .int) :: ((wsX6_mayBes_r1 ++ wsX6_mayBes_r2) ++ wsX60)
def wsX6_known_r1 : List Cond := [Cond.methodLink RX6 118 yX6_isMoment, Cond.instanceMethod yX6_isMoment, Cond.selects RX6 yX6_isMoment yX6_isMoment, Cond.initialized RX6, Cond.code yX6_isMoment cX6_isMoment 2 (some .boolean), Cond.fieldLink RX6 73 "BallCourtModel" "moments" "I", Cond.methodLink RX6 66 yX6_in, Cond.static yX6_in, Cond.code yX6_in cX6_in 3 (some .boolean), Cond.methodLink RX6 121 yX6_so, Cond.instanceMethod yX6_so, Cond.selects RX6 yX6_so yX6_so, Cond.code yX6_so cX6_so 4 (some .int), Cond.fieldLink RX6 33 "BallCourtModel" "toldSo" "[I", Cond.fieldLink RX6 36 "BallCourtModel" "toldNot" "[I", Cond.methodLink RX6 124 yX6_notSo, Cond.instanceMethod yX6_notSo, Cond.selects RX6 yX6_notSo yX6_notSo, Cond.code yX6_notSo cX6_notSo 4 (some .int), Cond.methodLink RX6 131 yX6_doubt, Cond.instanceMethod yX6_doubt, Cond.selects RX6 yX6_doubt yX6_doubt, Cond.code yX6_doubt cX6_doubt 2 (some .int), Cond.methodLink RX6 83 yX6_allFacts]
def wsX6_known_r2 : List Cond := [Cond.instanceMethod yX6_allFacts, Cond.selects RX6 yX6_allFacts yX6_allFacts, Cond.code yX6_allFacts cX6_allFacts 1 (some .int), Cond.fieldLink RX6 7 "BallCourtModel" "facts" "I", Cond.methodLink RX6 134 yX6_mayBes, Cond.instanceMethod yX6_mayBes, Cond.selects RX6 yX6_mayBes yX6_mayBes, Cond.code yX6_mayBes cX6_mayBes 5 (some .int), Cond.methodLink RX6 127 yX6_mayBe, Cond.instanceMethod yX6_mayBe, Cond.selects RX6 yX6_mayBe yX6_mayBe, Cond.code yX6_mayBe cX6_mayBe 3 (some .boolean), Cond.methodLink RX6 100 yX6_isKind, Cond.instanceMethod yX6_isKind, Cond.selects RX6 yX6_isKind yX6_isKind, Cond.code yX6_isKind cX6_isKind 4 (some .boolean), Cond.fieldLink RX6 13 "BallCourtModel" "bars" "[I", Cond.methodLink RX6 109 yX6_rulingFor, Cond.instanceMethod yX6_rulingFor, Cond.selects RX6 yX6_rulingFor yX6_rulingFor, Cond.code yX6_rulingFor cX6_rulingFor 3 (some .int), Cond.fieldLink RX6 23 "BallCourtModel" "ruling" "[I", Cond.methodLink RX6 106 yX6_lineFor, Cond.instanceMethod yX6_lineFor]
def wsX6_known_r3 : List Cond := [Cond.selects RX6 yX6_lineFor yX6_lineFor, Cond.code yX6_lineFor cX6_lineFor 5 (some .int), Cond.fieldLink RX6 70 "BallCourtModel" "lines" "I", Cond.fieldLink RX6 30 "BallCourtModel" "excepts" "[I", Cond.methodLink RX6 103 yX6_holding, Cond.instanceMethod yX6_holding, Cond.selects RX6 yX6_holding yX6_holding, Cond.code yX6_holding cX6_holding 5 (some .int), Cond.fieldLink RX6 26 "BallCourtModel" "isRepealed" "[Z", Cond.fieldLink RX6 17 "BallCourtModel" "must" "[I", Cond.fieldLink RX6 20 "BallCourtModel" "mustNot" "[I"]
def wsX6_known : List Cond := .code yX6_known cX6_known 3 (some .int) :: ((wsX6_known_r1 ++ (wsX6_known_r2 ++ wsX6_known_r3)) ++ wsX60)
def wsX6_proof_r1 : List Cond := [Cond.methodLink RX6 118 yX6_isMoment, Cond.instanceMethod yX6_isMoment, Cond.selects RX6 yX6_isMoment yX6_isMoment, Cond.initialized RX6, Cond.code yX6_isMoment cX6_isMoment 2 (some .boolean), Cond.fieldLink RX6 73 "BallCourtModel" "moments" "I", Cond.methodLink RX6 66 yX6_in, Cond.static yX6_in, Cond.code yX6_in cX6_in 3 (some .boolean), Cond.methodLink RX6 87 yX6_isRuling, Cond.static yX6_isRuling, Cond.code yX6_isRuling cX6_isRuling 1 (some .boolean), Cond.methodLink RX6 134 yX6_mayBes, Cond.instanceMethod yX6_mayBes, Cond.selects RX6 yX6_mayBes yX6_mayBes, Cond.code yX6_mayBes cX6_mayBes 5 (some .int), Cond.methodLink RX6 83 yX6_allFacts, Cond.instanceMethod yX6_allFacts, Cond.selects RX6 yX6_allFacts yX6_allFacts, Cond.code yX6_allFacts cX6_allFacts 1 (some .int), Cond.fieldLink RX6 7 "BallCourtModel" "facts" "I", Cond.methodLink RX6 127 yX6_mayBe, Cond.instanceMethod yX6_mayBe, Cond.selects RX6 yX6_mayBe yX6_mayBe]
def wsX6_proof_r2 : List Cond := [Cond.code yX6_mayBe cX6_mayBe 3 (some .boolean), Cond.methodLink RX6 100 yX6_isKind, Cond.instanceMethod yX6_isKind, Cond.selects RX6 yX6_isKind yX6_isKind, Cond.code yX6_isKind cX6_isKind 4 (some .boolean), Cond.fieldLink RX6 13 "BallCourtModel" "bars" "[I", Cond.methodLink RX6 121 yX6_so, Cond.instanceMethod yX6_so, Cond.selects RX6 yX6_so yX6_so, Cond.code yX6_so cX6_so 4 (some .int), Cond.fieldLink RX6 33 "BallCourtModel" "toldSo" "[I", Cond.fieldLink RX6 36 "BallCourtModel" "toldNot" "[I", Cond.methodLink RX6 124 yX6_notSo, Cond.instanceMethod yX6_notSo, Cond.selects RX6 yX6_notSo yX6_notSo, Cond.code yX6_notSo cX6_notSo 4 (some .int), Cond.methodLink RX6 109 yX6_rulingFor, Cond.instanceMethod yX6_rulingFor, Cond.selects RX6 yX6_rulingFor yX6_rulingFor, Cond.code yX6_rulingFor cX6_rulingFor 3 (some .int), Cond.fieldLink RX6 23 "BallCourtModel" "ruling" "[I", Cond.methodLink RX6 106 yX6_lineFor, Cond.instanceMethod yX6_lineFor, Cond.selects RX6 yX6_lineFor yX6_lineFor]
def wsX6_proof_r3 : List Cond := [Cond.code yX6_lineFor cX6_lineFor 5 (some .int), Cond.fieldLink RX6 70 "BallCourtModel" "lines" "I", Cond.fieldLink RX6 30 "BallCourtModel" "excepts" "[I", Cond.methodLink RX6 103 yX6_holding, Cond.instanceMethod yX6_holding, Cond.selects RX6 yX6_holding yX6_holding, Cond.code yX6_holding cX6_holding 5 (some .int), Cond.fieldLink RX6 26 "BallCourtModel" "isRepealed" "[Z", Cond.fieldLink RX6 17 "BallCourtModel" "must" "[I", Cond.fieldLink RX6 20 "BallCourtModel" "mustNot" "[I"]
def wsX6_proof : List Cond := .code yX6_proof cX6_proof 4 (some .int) :: ((wsX6_proof_r1 ++ (wsX6_proof_r2 ++ wsX6_proof_r3)) ++ wsX60)
def wsX6_bindingCase : List Cond := .code yX6_bindingCase cX6_bindingCase 4 (some .int) :: ([.fieldLink RX6 76 "BallCourtModel" "cases" "I", .fieldLink RX6 48 "BallCourtModel" "caseNames" "[I", .fieldLink RX6 42 "BallCourtModel" "caseKind" "[I", .methodLink RX6 131 yX6_doubt, .instanceMethod yX6_doubt, .selects RX6 yX6_doubt yX6_doubt, .initialized RX6, .code yX6_doubt cX6_doubt 2 (some .int), .methodLink RX6 83 yX6_allFacts, .instanceMethod yX6_allFacts, .selects RX6 yX6_allFacts yX6_allFacts, .code yX6_allFacts cX6_allFacts 1 (some .int), .fieldLink RX6 7 "BallCourtModel" "facts" "I", .methodLink RX6 121 yX6_so, .instanceMethod yX6_so, .selects RX6 yX6_so yX6_so, .code yX6_so cX6_so 4 (some .int), .fieldLink RX6 33 "BallCourtModel" "toldSo" "[I", .fieldLink RX6 36 "BallCourtModel" "toldNot" "[I", .methodLink RX6 124 yX6_notSo, .instanceMethod yX6_notSo, .selects RX6 yX6_notSo yX6_notSo, .code yX6_notSo cX6_notSo 4 (some .int)] ++ wsX60)
def wsX6_binds_r1 : List Cond := [Cond.methodLink RX6 118 yX6_isMoment, Cond.instanceMethod yX6_isMoment, Cond.selects RX6 yX6_isMoment yX6_isMoment, Cond.initialized RX6, Cond.code yX6_isMoment cX6_isMoment 2 (some .boolean), Cond.fieldLink RX6 73 "BallCourtModel" "moments" "I", Cond.methodLink RX6 66 yX6_in, Cond.static yX6_in, Cond.code yX6_in cX6_in 3 (some .boolean), Cond.methodLink RX6 138 yX6_bindingCase, Cond.instanceMethod yX6_bindingCase, Cond.selects RX6 yX6_bindingCase yX6_bindingCase, Cond.code yX6_bindingCase cX6_bindingCase 4 (some .int), Cond.fieldLink RX6 76 "BallCourtModel" "cases" "I", Cond.fieldLink RX6 48 "BallCourtModel" "caseNames" "[I", Cond.fieldLink RX6 42 "BallCourtModel" "caseKind" "[I", Cond.methodLink RX6 131 yX6_doubt, Cond.instanceMethod yX6_doubt, Cond.selects RX6 yX6_doubt yX6_doubt, Cond.code yX6_doubt cX6_doubt 2 (some .int), Cond.methodLink RX6 83 yX6_allFacts, Cond.instanceMethod yX6_allFacts, Cond.selects RX6 yX6_allFacts yX6_allFacts, Cond.code yX6_allFacts cX6_allFacts 1 (some .int)]
def wsX6_binds_r2 : List Cond := [Cond.fieldLink RX6 7 "BallCourtModel" "facts" "I", Cond.methodLink RX6 121 yX6_so, Cond.instanceMethod yX6_so, Cond.selects RX6 yX6_so yX6_so, Cond.code yX6_so cX6_so 4 (some .int), Cond.fieldLink RX6 33 "BallCourtModel" "toldSo" "[I", Cond.fieldLink RX6 36 "BallCourtModel" "toldNot" "[I", Cond.methodLink RX6 124 yX6_notSo, Cond.instanceMethod yX6_notSo, Cond.selects RX6 yX6_notSo yX6_notSo, Cond.code yX6_notSo cX6_notSo 4 (some .int)]
def wsX6_binds : List Cond := .code yX6_binds cX6_binds 2 (some .int) :: ((wsX6_binds_r1 ++ wsX6_binds_r2) ++ wsX60)
def wsX6_verdictOf_r1 : List Cond := [Cond.fieldLink RX6 39 "BallCourtModel" "ruled" "[I", Cond.fieldLink RX6 45 "BallCourtModel" "caseRuling" "[I", Cond.methodLink RX6 134 yX6_mayBes, Cond.instanceMethod yX6_mayBes, Cond.selects RX6 yX6_mayBes yX6_mayBes, Cond.initialized RX6, Cond.code yX6_mayBes cX6_mayBes 5 (some .int), Cond.methodLink RX6 83 yX6_allFacts, Cond.instanceMethod yX6_allFacts, Cond.selects RX6 yX6_allFacts yX6_allFacts, Cond.code yX6_allFacts cX6_allFacts 1 (some .int), Cond.fieldLink RX6 7 "BallCourtModel" "facts" "I", Cond.methodLink RX6 127 yX6_mayBe, Cond.instanceMethod yX6_mayBe, Cond.selects RX6 yX6_mayBe yX6_mayBe, Cond.code yX6_mayBe cX6_mayBe 3 (some .boolean), Cond.methodLink RX6 100 yX6_isKind, Cond.instanceMethod yX6_isKind, Cond.selects RX6 yX6_isKind yX6_isKind, Cond.code yX6_isKind cX6_isKind 4 (some .boolean), Cond.fieldLink RX6 13 "BallCourtModel" "bars" "[I", Cond.methodLink RX6 66 yX6_in, Cond.static yX6_in, Cond.code yX6_in cX6_in 3 (some .boolean)]
def wsX6_verdictOf_r2 : List Cond := [Cond.methodLink RX6 121 yX6_so, Cond.instanceMethod yX6_so, Cond.selects RX6 yX6_so yX6_so, Cond.code yX6_so cX6_so 4 (some .int), Cond.fieldLink RX6 33 "BallCourtModel" "toldSo" "[I", Cond.fieldLink RX6 36 "BallCourtModel" "toldNot" "[I", Cond.methodLink RX6 124 yX6_notSo, Cond.instanceMethod yX6_notSo, Cond.selects RX6 yX6_notSo yX6_notSo, Cond.code yX6_notSo cX6_notSo 4 (some .int), Cond.methodLink RX6 109 yX6_rulingFor, Cond.instanceMethod yX6_rulingFor, Cond.selects RX6 yX6_rulingFor yX6_rulingFor, Cond.code yX6_rulingFor cX6_rulingFor 3 (some .int), Cond.fieldLink RX6 23 "BallCourtModel" "ruling" "[I", Cond.methodLink RX6 106 yX6_lineFor, Cond.instanceMethod yX6_lineFor, Cond.selects RX6 yX6_lineFor yX6_lineFor, Cond.code yX6_lineFor cX6_lineFor 5 (some .int), Cond.fieldLink RX6 70 "BallCourtModel" "lines" "I", Cond.fieldLink RX6 30 "BallCourtModel" "excepts" "[I", Cond.methodLink RX6 103 yX6_holding, Cond.instanceMethod yX6_holding, Cond.selects RX6 yX6_holding yX6_holding]
def wsX6_verdictOf_r3 : List Cond := [Cond.code yX6_holding cX6_holding 5 (some .int), Cond.fieldLink RX6 26 "BallCourtModel" "isRepealed" "[Z", Cond.fieldLink RX6 17 "BallCourtModel" "must" "[I", Cond.fieldLink RX6 20 "BallCourtModel" "mustNot" "[I", Cond.methodLink RX6 138 yX6_bindingCase, Cond.instanceMethod yX6_bindingCase, Cond.selects RX6 yX6_bindingCase yX6_bindingCase, Cond.code yX6_bindingCase cX6_bindingCase 4 (some .int), Cond.fieldLink RX6 76 "BallCourtModel" "cases" "I", Cond.fieldLink RX6 48 "BallCourtModel" "caseNames" "[I", Cond.fieldLink RX6 42 "BallCourtModel" "caseKind" "[I", Cond.methodLink RX6 131 yX6_doubt, Cond.instanceMethod yX6_doubt, Cond.selects RX6 yX6_doubt yX6_doubt, Cond.code yX6_doubt cX6_doubt 2 (some .int)]
def wsX6_verdictOf : List Cond := .code yX6_verdictOf cX6_verdictOf 5 (some .int) :: ((wsX6_verdictOf_r1 ++ (wsX6_verdictOf_r2 ++ wsX6_verdictOf_r3)) ++ wsX60)
def wsX6_verdict_r1 : List Cond := [Cond.methodLink RX6 118 yX6_isMoment, Cond.instanceMethod yX6_isMoment, Cond.selects RX6 yX6_isMoment yX6_isMoment, Cond.initialized RX6, Cond.code yX6_isMoment cX6_isMoment 2 (some .boolean), Cond.fieldLink RX6 73 "BallCourtModel" "moments" "I", Cond.methodLink RX6 66 yX6_in, Cond.static yX6_in, Cond.code yX6_in cX6_in 3 (some .boolean), Cond.methodLink RX6 141 yX6_verdictOf, Cond.instanceMethod yX6_verdictOf, Cond.selects RX6 yX6_verdictOf yX6_verdictOf, Cond.code yX6_verdictOf cX6_verdictOf 5 (some .int), Cond.fieldLink RX6 39 "BallCourtModel" "ruled" "[I", Cond.fieldLink RX6 45 "BallCourtModel" "caseRuling" "[I", Cond.methodLink RX6 134 yX6_mayBes, Cond.instanceMethod yX6_mayBes, Cond.selects RX6 yX6_mayBes yX6_mayBes, Cond.code yX6_mayBes cX6_mayBes 5 (some .int), Cond.methodLink RX6 83 yX6_allFacts, Cond.instanceMethod yX6_allFacts, Cond.selects RX6 yX6_allFacts yX6_allFacts, Cond.code yX6_allFacts cX6_allFacts 1 (some .int), Cond.fieldLink RX6 7 "BallCourtModel" "facts" "I"]
def wsX6_verdict_r2 : List Cond := [Cond.methodLink RX6 127 yX6_mayBe, Cond.instanceMethod yX6_mayBe, Cond.selects RX6 yX6_mayBe yX6_mayBe, Cond.code yX6_mayBe cX6_mayBe 3 (some .boolean), Cond.methodLink RX6 100 yX6_isKind, Cond.instanceMethod yX6_isKind, Cond.selects RX6 yX6_isKind yX6_isKind, Cond.code yX6_isKind cX6_isKind 4 (some .boolean), Cond.fieldLink RX6 13 "BallCourtModel" "bars" "[I", Cond.methodLink RX6 121 yX6_so, Cond.instanceMethod yX6_so, Cond.selects RX6 yX6_so yX6_so, Cond.code yX6_so cX6_so 4 (some .int), Cond.fieldLink RX6 33 "BallCourtModel" "toldSo" "[I", Cond.fieldLink RX6 36 "BallCourtModel" "toldNot" "[I", Cond.methodLink RX6 124 yX6_notSo, Cond.instanceMethod yX6_notSo, Cond.selects RX6 yX6_notSo yX6_notSo, Cond.code yX6_notSo cX6_notSo 4 (some .int), Cond.methodLink RX6 109 yX6_rulingFor, Cond.instanceMethod yX6_rulingFor, Cond.selects RX6 yX6_rulingFor yX6_rulingFor, Cond.code yX6_rulingFor cX6_rulingFor 3 (some .int), Cond.fieldLink RX6 23 "BallCourtModel" "ruling" "[I"]
def wsX6_verdict_r3 : List Cond := [Cond.methodLink RX6 106 yX6_lineFor, Cond.instanceMethod yX6_lineFor, Cond.selects RX6 yX6_lineFor yX6_lineFor, Cond.code yX6_lineFor cX6_lineFor 5 (some .int), Cond.fieldLink RX6 70 "BallCourtModel" "lines" "I", Cond.fieldLink RX6 30 "BallCourtModel" "excepts" "[I", Cond.methodLink RX6 103 yX6_holding, Cond.instanceMethod yX6_holding, Cond.selects RX6 yX6_holding yX6_holding, Cond.code yX6_holding cX6_holding 5 (some .int), Cond.fieldLink RX6 26 "BallCourtModel" "isRepealed" "[Z", Cond.fieldLink RX6 17 "BallCourtModel" "must" "[I", Cond.fieldLink RX6 20 "BallCourtModel" "mustNot" "[I", Cond.methodLink RX6 138 yX6_bindingCase, Cond.instanceMethod yX6_bindingCase, Cond.selects RX6 yX6_bindingCase yX6_bindingCase, Cond.code yX6_bindingCase cX6_bindingCase 4 (some .int), Cond.fieldLink RX6 76 "BallCourtModel" "cases" "I", Cond.fieldLink RX6 48 "BallCourtModel" "caseNames" "[I", Cond.fieldLink RX6 42 "BallCourtModel" "caseKind" "[I", Cond.methodLink RX6 131 yX6_doubt, Cond.instanceMethod yX6_doubt, Cond.selects RX6 yX6_doubt yX6_doubt, Cond.code yX6_doubt cX6_doubt 2 (some .int)]
def wsX6_verdict : List Cond := .code yX6_verdict cX6_verdict 2 (some .int) :: ((wsX6_verdict_r1 ++ (wsX6_verdict_r2 ++ wsX6_verdict_r3)) ++ wsX60)
def wsX6_rule_r1 : List Cond := [Cond.fieldLink RX6 39 "BallCourtModel" "ruled" "[I", Cond.methodLink RX6 118 yX6_isMoment, Cond.instanceMethod yX6_isMoment, Cond.selects RX6 yX6_isMoment yX6_isMoment, Cond.initialized RX6, Cond.code yX6_isMoment cX6_isMoment 2 (some .boolean), Cond.fieldLink RX6 73 "BallCourtModel" "moments" "I", Cond.methodLink RX6 66 yX6_in, Cond.static yX6_in, Cond.code yX6_in cX6_in 3 (some .boolean), Cond.methodLink RX6 87 yX6_isRuling, Cond.static yX6_isRuling, Cond.code yX6_isRuling cX6_isRuling 1 (some .boolean), Cond.methodLink RX6 141 yX6_verdictOf, Cond.instanceMethod yX6_verdictOf, Cond.selects RX6 yX6_verdictOf yX6_verdictOf, Cond.code yX6_verdictOf cX6_verdictOf 5 (some .int), Cond.fieldLink RX6 45 "BallCourtModel" "caseRuling" "[I", Cond.methodLink RX6 134 yX6_mayBes, Cond.instanceMethod yX6_mayBes, Cond.selects RX6 yX6_mayBes yX6_mayBes, Cond.code yX6_mayBes cX6_mayBes 5 (some .int), Cond.methodLink RX6 83 yX6_allFacts, Cond.instanceMethod yX6_allFacts]
def wsX6_rule_r2 : List Cond := [Cond.selects RX6 yX6_allFacts yX6_allFacts, Cond.code yX6_allFacts cX6_allFacts 1 (some .int), Cond.fieldLink RX6 7 "BallCourtModel" "facts" "I", Cond.methodLink RX6 127 yX6_mayBe, Cond.instanceMethod yX6_mayBe, Cond.selects RX6 yX6_mayBe yX6_mayBe, Cond.code yX6_mayBe cX6_mayBe 3 (some .boolean), Cond.methodLink RX6 100 yX6_isKind, Cond.instanceMethod yX6_isKind, Cond.selects RX6 yX6_isKind yX6_isKind, Cond.code yX6_isKind cX6_isKind 4 (some .boolean), Cond.fieldLink RX6 13 "BallCourtModel" "bars" "[I", Cond.methodLink RX6 121 yX6_so, Cond.instanceMethod yX6_so, Cond.selects RX6 yX6_so yX6_so, Cond.code yX6_so cX6_so 4 (some .int), Cond.fieldLink RX6 33 "BallCourtModel" "toldSo" "[I", Cond.fieldLink RX6 36 "BallCourtModel" "toldNot" "[I", Cond.methodLink RX6 124 yX6_notSo, Cond.instanceMethod yX6_notSo, Cond.selects RX6 yX6_notSo yX6_notSo, Cond.code yX6_notSo cX6_notSo 4 (some .int), Cond.methodLink RX6 109 yX6_rulingFor, Cond.instanceMethod yX6_rulingFor]
def wsX6_rule_r3 : List Cond := [Cond.selects RX6 yX6_rulingFor yX6_rulingFor, Cond.code yX6_rulingFor cX6_rulingFor 3 (some .int), Cond.fieldLink RX6 23 "BallCourtModel" "ruling" "[I", Cond.methodLink RX6 106 yX6_lineFor, Cond.instanceMethod yX6_lineFor, Cond.selects RX6 yX6_lineFor yX6_lineFor, Cond.code yX6_lineFor cX6_lineFor 5 (some .int), Cond.fieldLink RX6 70 "BallCourtModel" "lines" "I", Cond.fieldLink RX6 30 "BallCourtModel" "excepts" "[I", Cond.methodLink RX6 103 yX6_holding, Cond.instanceMethod yX6_holding, Cond.selects RX6 yX6_holding yX6_holding, Cond.code yX6_holding cX6_holding 5 (some .int), Cond.fieldLink RX6 26 "BallCourtModel" "isRepealed" "[Z", Cond.fieldLink RX6 17 "BallCourtModel" "must" "[I", Cond.fieldLink RX6 20 "BallCourtModel" "mustNot" "[I", Cond.methodLink RX6 138 yX6_bindingCase, Cond.instanceMethod yX6_bindingCase, Cond.selects RX6 yX6_bindingCase yX6_bindingCase, Cond.code yX6_bindingCase cX6_bindingCase 4 (some .int), Cond.fieldLink RX6 76 "BallCourtModel" "cases" "I", Cond.fieldLink RX6 48 "BallCourtModel" "caseNames" "[I", Cond.fieldLink RX6 42 "BallCourtModel" "caseKind" "[I", Cond.methodLink RX6 131 yX6_doubt]
def wsX6_rule_r4 : List Cond := [Cond.instanceMethod yX6_doubt, Cond.selects RX6 yX6_doubt yX6_doubt, Cond.code yX6_doubt cX6_doubt 2 (some .int)]
def wsX6_rule : List Cond := .code yX6_rule cX6_rule 4 (some .int) :: ((wsX6_rule_r1 ++ (wsX6_rule_r2 ++ (wsX6_rule_r3 ++ wsX6_rule_r4))) ++ wsX60)
def wsX6_make_r1 : List Cond := [Cond.fieldLink RX6 76 "BallCourtModel" "cases" "I", Cond.fieldLink RX6 45 "BallCourtModel" "caseRuling" "[I", Cond.fieldLink RX6 42 "BallCourtModel" "caseKind" "[I", Cond.fieldLink RX6 48 "BallCourtModel" "caseNames" "[I", Cond.methodLink RX6 118 yX6_isMoment, Cond.instanceMethod yX6_isMoment, Cond.selects RX6 yX6_isMoment yX6_isMoment, Cond.initialized RX6, Cond.code yX6_isMoment cX6_isMoment 2 (some .boolean), Cond.fieldLink RX6 73 "BallCourtModel" "moments" "I", Cond.methodLink RX6 66 yX6_in, Cond.static yX6_in, Cond.code yX6_in cX6_in 3 (some .boolean), Cond.methodLink RX6 131 yX6_doubt, Cond.instanceMethod yX6_doubt, Cond.selects RX6 yX6_doubt yX6_doubt, Cond.code yX6_doubt cX6_doubt 2 (some .int), Cond.methodLink RX6 83 yX6_allFacts, Cond.instanceMethod yX6_allFacts, Cond.selects RX6 yX6_allFacts yX6_allFacts, Cond.code yX6_allFacts cX6_allFacts 1 (some .int), Cond.fieldLink RX6 7 "BallCourtModel" "facts" "I", Cond.methodLink RX6 121 yX6_so, Cond.instanceMethod yX6_so]
def wsX6_make_r2 : List Cond := [Cond.selects RX6 yX6_so yX6_so, Cond.code yX6_so cX6_so 4 (some .int), Cond.fieldLink RX6 33 "BallCourtModel" "toldSo" "[I", Cond.fieldLink RX6 36 "BallCourtModel" "toldNot" "[I", Cond.methodLink RX6 124 yX6_notSo, Cond.instanceMethod yX6_notSo, Cond.selects RX6 yX6_notSo yX6_notSo, Cond.code yX6_notSo cX6_notSo 4 (some .int), Cond.methodLink RX6 134 yX6_mayBes, Cond.instanceMethod yX6_mayBes, Cond.selects RX6 yX6_mayBes yX6_mayBes, Cond.code yX6_mayBes cX6_mayBes 5 (some .int), Cond.methodLink RX6 127 yX6_mayBe, Cond.instanceMethod yX6_mayBe, Cond.selects RX6 yX6_mayBe yX6_mayBe, Cond.code yX6_mayBe cX6_mayBe 3 (some .boolean), Cond.methodLink RX6 100 yX6_isKind, Cond.instanceMethod yX6_isKind, Cond.selects RX6 yX6_isKind yX6_isKind, Cond.code yX6_isKind cX6_isKind 4 (some .boolean), Cond.fieldLink RX6 13 "BallCourtModel" "bars" "[I", Cond.methodLink RX6 109 yX6_rulingFor, Cond.instanceMethod yX6_rulingFor, Cond.selects RX6 yX6_rulingFor yX6_rulingFor]
def wsX6_make_r3 : List Cond := [Cond.code yX6_rulingFor cX6_rulingFor 3 (some .int), Cond.fieldLink RX6 23 "BallCourtModel" "ruling" "[I", Cond.methodLink RX6 106 yX6_lineFor, Cond.instanceMethod yX6_lineFor, Cond.selects RX6 yX6_lineFor yX6_lineFor, Cond.code yX6_lineFor cX6_lineFor 5 (some .int), Cond.fieldLink RX6 70 "BallCourtModel" "lines" "I", Cond.fieldLink RX6 30 "BallCourtModel" "excepts" "[I", Cond.methodLink RX6 103 yX6_holding, Cond.instanceMethod yX6_holding, Cond.selects RX6 yX6_holding yX6_holding, Cond.code yX6_holding cX6_holding 5 (some .int), Cond.fieldLink RX6 26 "BallCourtModel" "isRepealed" "[Z", Cond.fieldLink RX6 17 "BallCourtModel" "must" "[I", Cond.fieldLink RX6 20 "BallCourtModel" "mustNot" "[I", Cond.methodLink RX6 141 yX6_verdictOf, Cond.instanceMethod yX6_verdictOf, Cond.selects RX6 yX6_verdictOf yX6_verdictOf, Cond.code yX6_verdictOf cX6_verdictOf 5 (some .int), Cond.fieldLink RX6 39 "BallCourtModel" "ruled" "[I", Cond.methodLink RX6 138 yX6_bindingCase, Cond.instanceMethod yX6_bindingCase, Cond.selects RX6 yX6_bindingCase yX6_bindingCase, Cond.code yX6_bindingCase cX6_bindingCase 4 (some .int)]
def wsX6_make_r4 : List Cond := [Cond.methodLink RX6 97 yX6_namedBy, Cond.instanceMethod yX6_namedBy, Cond.selects RX6 yX6_namedBy yX6_namedBy, Cond.code yX6_namedBy cX6_namedBy 5 (some .int)]
def wsX6_make : List Cond := .code yX6_make cX6_make 4 (some .int) :: ((wsX6_make_r1 ++ (wsX6_make_r2 ++ (wsX6_make_r3 ++ wsX6_make_r4))) ++ wsX60)
def wsX6_ofCase : List Cond := .code yX6_ofCase cX6_ofCase 3 (some .int) :: ([.fieldLink RX6 76 "BallCourtModel" "cases" "I", .fieldLink RX6 42 "BallCourtModel" "caseKind" "[I", .fieldLink RX6 45 "BallCourtModel" "caseRuling" "[I", .fieldLink RX6 48 "BallCourtModel" "caseNames" "[I", .methodLink RX6 66 yX6_in, .static yX6_in, .initialized RX6, .code yX6_in cX6_in 3 (some .boolean)] ++ wsX60)
def wsX6_turned : List Cond := .code yX6_turned cX6_turned 3 (some .int) :: ([.fieldLink RX6 76 "BallCourtModel" "cases" "I", .fieldLink RX6 45 "BallCourtModel" "caseRuling" "[I", .fieldLink RX6 42 "BallCourtModel" "caseKind" "[I", .methodLink RX6 109 yX6_rulingFor, .instanceMethod yX6_rulingFor, .selects RX6 yX6_rulingFor yX6_rulingFor, .initialized RX6, .code yX6_rulingFor cX6_rulingFor 3 (some .int), .fieldLink RX6 23 "BallCourtModel" "ruling" "[I", .methodLink RX6 106 yX6_lineFor, .instanceMethod yX6_lineFor, .selects RX6 yX6_lineFor yX6_lineFor, .code yX6_lineFor cX6_lineFor 5 (some .int), .fieldLink RX6 70 "BallCourtModel" "lines" "I", .fieldLink RX6 30 "BallCourtModel" "excepts" "[I", .methodLink RX6 103 yX6_holding, .instanceMethod yX6_holding, .selects RX6 yX6_holding yX6_holding, .code yX6_holding cX6_holding 5 (some .int), .fieldLink RX6 26 "BallCourtModel" "isRepealed" "[Z", .fieldLink RX6 17 "BallCourtModel" "must" "[I", .fieldLink RX6 20 "BallCourtModel" "mustNot" "[I"] ++ wsX60)
def wsX6_mend_r1 : List Cond := [Cond.fieldLink RX6 76 "BallCourtModel" "cases" "I", Cond.fieldLink RX6 54 "BallCourtModel" "before" "[I", Cond.fieldLink RX6 42 "BallCourtModel" "caseKind" "[I", Cond.fieldLink RX6 73 "BallCourtModel" "moments" "I", Cond.fieldLink RX6 57 "BallCourtModel" "verdict" "[I", Cond.fieldLink RX6 26 "BallCourtModel" "isRepealed" "[Z", Cond.methodLink RX6 90 yX6_isLine, Cond.instanceMethod yX6_isLine, Cond.selects RX6 yX6_isLine yX6_isLine, Cond.initialized RX6, Cond.code yX6_isLine cX6_isLine 2 (some .boolean), Cond.fieldLink RX6 70 "BallCourtModel" "lines" "I", Cond.methodLink RX6 66 yX6_in, Cond.static yX6_in, Cond.code yX6_in cX6_in 3 (some .boolean), Cond.methodLink RX6 115 yX6_turnedKinds, Cond.instanceMethod yX6_turnedKinds, Cond.selects RX6 yX6_turnedKinds yX6_turnedKinds, Cond.code yX6_turnedKinds cX6_turnedKinds 4 (some .int), Cond.methodLink RX6 83 yX6_allFacts, Cond.instanceMethod yX6_allFacts, Cond.selects RX6 yX6_allFacts yX6_allFacts, Cond.code yX6_allFacts cX6_allFacts 1 (some .int), Cond.fieldLink RX6 7 "BallCourtModel" "facts" "I"]
def wsX6_mend_r2 : List Cond := [Cond.methodLink RX6 112 yX6_bound, Cond.instanceMethod yX6_bound, Cond.selects RX6 yX6_bound yX6_bound, Cond.code yX6_bound cX6_bound 2 (some .int), Cond.methodLink RX6 109 yX6_rulingFor, Cond.instanceMethod yX6_rulingFor, Cond.selects RX6 yX6_rulingFor yX6_rulingFor, Cond.code yX6_rulingFor cX6_rulingFor 3 (some .int), Cond.fieldLink RX6 23 "BallCourtModel" "ruling" "[I", Cond.methodLink RX6 106 yX6_lineFor, Cond.instanceMethod yX6_lineFor, Cond.selects RX6 yX6_lineFor yX6_lineFor, Cond.code yX6_lineFor cX6_lineFor 5 (some .int), Cond.fieldLink RX6 30 "BallCourtModel" "excepts" "[I", Cond.methodLink RX6 103 yX6_holding, Cond.instanceMethod yX6_holding, Cond.selects RX6 yX6_holding yX6_holding, Cond.code yX6_holding cX6_holding 5 (some .int), Cond.fieldLink RX6 17 "BallCourtModel" "must" "[I", Cond.fieldLink RX6 20 "BallCourtModel" "mustNot" "[I", Cond.methodLink RX6 100 yX6_isKind, Cond.instanceMethod yX6_isKind, Cond.selects RX6 yX6_isKind yX6_isKind, Cond.code yX6_isKind cX6_isKind 4 (some .boolean)]
def wsX6_mend_r3 : List Cond := [Cond.fieldLink RX6 13 "BallCourtModel" "bars" "[I", Cond.methodLink RX6 141 yX6_verdictOf, Cond.instanceMethod yX6_verdictOf, Cond.selects RX6 yX6_verdictOf yX6_verdictOf, Cond.code yX6_verdictOf cX6_verdictOf 5 (some .int), Cond.fieldLink RX6 39 "BallCourtModel" "ruled" "[I", Cond.fieldLink RX6 45 "BallCourtModel" "caseRuling" "[I", Cond.methodLink RX6 134 yX6_mayBes, Cond.instanceMethod yX6_mayBes, Cond.selects RX6 yX6_mayBes yX6_mayBes, Cond.code yX6_mayBes cX6_mayBes 5 (some .int), Cond.methodLink RX6 127 yX6_mayBe, Cond.instanceMethod yX6_mayBe, Cond.selects RX6 yX6_mayBe yX6_mayBe, Cond.code yX6_mayBe cX6_mayBe 3 (some .boolean), Cond.methodLink RX6 121 yX6_so, Cond.instanceMethod yX6_so, Cond.selects RX6 yX6_so yX6_so, Cond.code yX6_so cX6_so 4 (some .int), Cond.fieldLink RX6 33 "BallCourtModel" "toldSo" "[I", Cond.fieldLink RX6 36 "BallCourtModel" "toldNot" "[I", Cond.methodLink RX6 124 yX6_notSo, Cond.instanceMethod yX6_notSo, Cond.selects RX6 yX6_notSo yX6_notSo]
def wsX6_mend_r4 : List Cond := [Cond.code yX6_notSo cX6_notSo 4 (some .int), Cond.methodLink RX6 138 yX6_bindingCase, Cond.instanceMethod yX6_bindingCase, Cond.selects RX6 yX6_bindingCase yX6_bindingCase, Cond.code yX6_bindingCase cX6_bindingCase 4 (some .int), Cond.fieldLink RX6 48 "BallCourtModel" "caseNames" "[I", Cond.methodLink RX6 131 yX6_doubt, Cond.instanceMethod yX6_doubt, Cond.selects RX6 yX6_doubt yX6_doubt, Cond.code yX6_doubt cX6_doubt 2 (some .int)]
def wsX6_mend : List Cond := .code yX6_mend cX6_mend 6 (some .int) :: ((wsX6_mend_r1 ++ (wsX6_mend_r2 ++ (wsX6_mend_r3 ++ wsX6_mend_r4))) ++ wsX60)
def wsX6_goal : List Cond := .code yX6_goal cX6_goal 3 (some .int) :: ([.fieldLink RX6 51 "BallCourtModel" "goal" "I", .methodLink RX6 66 yX6_in, .static yX6_in, .initialized RX6, .code yX6_in cX6_in 3 (some .boolean)] ++ wsX60)
def wsX6_begin : List Cond := .code yX6_begin cX6_begin 1 none :: ([.fieldLink RX6 60 "BallCourtModel" "state" "[I"] ++ wsX60)
def wsX6_play : List Cond := .code yX6_play cX6_play 3 none :: ([.fieldLink RX6 60 "BallCourtModel" "state" "[I", .fieldLink RX6 51 "BallCourtModel" "goal" "I"] ++ wsX60)
def wsX6_score_r1 : List Cond := [Cond.fieldLink RX6 73 "BallCourtModel" "moments" "I", Cond.fieldLink RX6 60 "BallCourtModel" "state" "[I", Cond.methodLink RX6 66 yX6_in, Cond.static yX6_in, Cond.initialized RX6, Cond.code yX6_in cX6_in 3 (some .boolean), Cond.methodLink RX6 144 yX6_begin, Cond.instanceMethod yX6_begin, Cond.selects RX6 yX6_begin yX6_begin, Cond.code yX6_begin cX6_begin 1 none, Cond.methodLink RX6 141 yX6_verdictOf, Cond.instanceMethod yX6_verdictOf, Cond.selects RX6 yX6_verdictOf yX6_verdictOf, Cond.code yX6_verdictOf cX6_verdictOf 5 (some .int), Cond.fieldLink RX6 39 "BallCourtModel" "ruled" "[I", Cond.fieldLink RX6 45 "BallCourtModel" "caseRuling" "[I", Cond.methodLink RX6 134 yX6_mayBes, Cond.instanceMethod yX6_mayBes, Cond.selects RX6 yX6_mayBes yX6_mayBes, Cond.code yX6_mayBes cX6_mayBes 5 (some .int), Cond.methodLink RX6 83 yX6_allFacts, Cond.instanceMethod yX6_allFacts, Cond.selects RX6 yX6_allFacts yX6_allFacts, Cond.code yX6_allFacts cX6_allFacts 1 (some .int)]
def wsX6_score_r2 : List Cond := [Cond.fieldLink RX6 7 "BallCourtModel" "facts" "I", Cond.methodLink RX6 127 yX6_mayBe, Cond.instanceMethod yX6_mayBe, Cond.selects RX6 yX6_mayBe yX6_mayBe, Cond.code yX6_mayBe cX6_mayBe 3 (some .boolean), Cond.methodLink RX6 100 yX6_isKind, Cond.instanceMethod yX6_isKind, Cond.selects RX6 yX6_isKind yX6_isKind, Cond.code yX6_isKind cX6_isKind 4 (some .boolean), Cond.fieldLink RX6 13 "BallCourtModel" "bars" "[I", Cond.methodLink RX6 121 yX6_so, Cond.instanceMethod yX6_so, Cond.selects RX6 yX6_so yX6_so, Cond.code yX6_so cX6_so 4 (some .int), Cond.fieldLink RX6 33 "BallCourtModel" "toldSo" "[I", Cond.fieldLink RX6 36 "BallCourtModel" "toldNot" "[I", Cond.methodLink RX6 124 yX6_notSo, Cond.instanceMethod yX6_notSo, Cond.selects RX6 yX6_notSo yX6_notSo, Cond.code yX6_notSo cX6_notSo 4 (some .int), Cond.methodLink RX6 109 yX6_rulingFor, Cond.instanceMethod yX6_rulingFor, Cond.selects RX6 yX6_rulingFor yX6_rulingFor, Cond.code yX6_rulingFor cX6_rulingFor 3 (some .int)]
def wsX6_score_r3 : List Cond := [Cond.fieldLink RX6 23 "BallCourtModel" "ruling" "[I", Cond.methodLink RX6 106 yX6_lineFor, Cond.instanceMethod yX6_lineFor, Cond.selects RX6 yX6_lineFor yX6_lineFor, Cond.code yX6_lineFor cX6_lineFor 5 (some .int), Cond.fieldLink RX6 70 "BallCourtModel" "lines" "I", Cond.fieldLink RX6 30 "BallCourtModel" "excepts" "[I", Cond.methodLink RX6 103 yX6_holding, Cond.instanceMethod yX6_holding, Cond.selects RX6 yX6_holding yX6_holding, Cond.code yX6_holding cX6_holding 5 (some .int), Cond.fieldLink RX6 26 "BallCourtModel" "isRepealed" "[Z", Cond.fieldLink RX6 17 "BallCourtModel" "must" "[I", Cond.fieldLink RX6 20 "BallCourtModel" "mustNot" "[I", Cond.methodLink RX6 138 yX6_bindingCase, Cond.instanceMethod yX6_bindingCase, Cond.selects RX6 yX6_bindingCase yX6_bindingCase, Cond.code yX6_bindingCase cX6_bindingCase 4 (some .int), Cond.fieldLink RX6 76 "BallCourtModel" "cases" "I", Cond.fieldLink RX6 48 "BallCourtModel" "caseNames" "[I", Cond.fieldLink RX6 42 "BallCourtModel" "caseKind" "[I", Cond.methodLink RX6 131 yX6_doubt, Cond.instanceMethod yX6_doubt, Cond.selects RX6 yX6_doubt yX6_doubt]
def wsX6_score_r4 : List Cond := [Cond.code yX6_doubt cX6_doubt 2 (some .int), Cond.methodLink RX6 147 yX6_play, Cond.instanceMethod yX6_play, Cond.selects RX6 yX6_play yX6_play, Cond.code yX6_play cX6_play 3 none, Cond.fieldLink RX6 51 "BallCourtModel" "goal" "I"]
def wsX6_score : List Cond := .code yX6_score cX6_score 4 (some .int) :: ((wsX6_score_r1 ++ (wsX6_score_r2 ++ (wsX6_score_r3 ++ wsX6_score_r4))) ++ wsX60)
def wsX6_packed : List Cond := .code yX6_packed cX6_packed 1 (some .int) :: ([.fieldLink RX6 60 "BallCourtModel" "state" "[I"] ++ wsX60)
def wsX6_appeal_r1 : List Cond := [Cond.fieldLink RX6 73 "BallCourtModel" "moments" "I", Cond.fieldLink RX6 57 "BallCourtModel" "verdict" "[I", Cond.fieldLink RX6 63 "BallCourtModel" "course" "[I", Cond.methodLink RX6 118 yX6_isMoment, Cond.instanceMethod yX6_isMoment, Cond.selects RX6 yX6_isMoment yX6_isMoment, Cond.initialized RX6, Cond.code yX6_isMoment cX6_isMoment 2 (some .boolean), Cond.methodLink RX6 66 yX6_in, Cond.static yX6_in, Cond.code yX6_in cX6_in 3 (some .boolean), Cond.methodLink RX6 87 yX6_isRuling, Cond.static yX6_isRuling, Cond.code yX6_isRuling cX6_isRuling 1 (some .boolean), Cond.methodLink RX6 144 yX6_begin, Cond.instanceMethod yX6_begin, Cond.selects RX6 yX6_begin yX6_begin, Cond.code yX6_begin cX6_begin 1 none, Cond.fieldLink RX6 60 "BallCourtModel" "state" "[I", Cond.methodLink RX6 141 yX6_verdictOf, Cond.instanceMethod yX6_verdictOf, Cond.selects RX6 yX6_verdictOf yX6_verdictOf, Cond.code yX6_verdictOf cX6_verdictOf 5 (some .int), Cond.fieldLink RX6 39 "BallCourtModel" "ruled" "[I"]
def wsX6_appeal_r2 : List Cond := [Cond.fieldLink RX6 45 "BallCourtModel" "caseRuling" "[I", Cond.methodLink RX6 134 yX6_mayBes, Cond.instanceMethod yX6_mayBes, Cond.selects RX6 yX6_mayBes yX6_mayBes, Cond.code yX6_mayBes cX6_mayBes 5 (some .int), Cond.methodLink RX6 83 yX6_allFacts, Cond.instanceMethod yX6_allFacts, Cond.selects RX6 yX6_allFacts yX6_allFacts, Cond.code yX6_allFacts cX6_allFacts 1 (some .int), Cond.fieldLink RX6 7 "BallCourtModel" "facts" "I", Cond.methodLink RX6 127 yX6_mayBe, Cond.instanceMethod yX6_mayBe, Cond.selects RX6 yX6_mayBe yX6_mayBe, Cond.code yX6_mayBe cX6_mayBe 3 (some .boolean), Cond.methodLink RX6 100 yX6_isKind, Cond.instanceMethod yX6_isKind, Cond.selects RX6 yX6_isKind yX6_isKind, Cond.code yX6_isKind cX6_isKind 4 (some .boolean), Cond.fieldLink RX6 13 "BallCourtModel" "bars" "[I", Cond.methodLink RX6 121 yX6_so, Cond.instanceMethod yX6_so, Cond.selects RX6 yX6_so yX6_so, Cond.code yX6_so cX6_so 4 (some .int), Cond.fieldLink RX6 33 "BallCourtModel" "toldSo" "[I"]
def wsX6_appeal_r3 : List Cond := [Cond.fieldLink RX6 36 "BallCourtModel" "toldNot" "[I", Cond.methodLink RX6 124 yX6_notSo, Cond.instanceMethod yX6_notSo, Cond.selects RX6 yX6_notSo yX6_notSo, Cond.code yX6_notSo cX6_notSo 4 (some .int), Cond.methodLink RX6 109 yX6_rulingFor, Cond.instanceMethod yX6_rulingFor, Cond.selects RX6 yX6_rulingFor yX6_rulingFor, Cond.code yX6_rulingFor cX6_rulingFor 3 (some .int), Cond.fieldLink RX6 23 "BallCourtModel" "ruling" "[I", Cond.methodLink RX6 106 yX6_lineFor, Cond.instanceMethod yX6_lineFor, Cond.selects RX6 yX6_lineFor yX6_lineFor, Cond.code yX6_lineFor cX6_lineFor 5 (some .int), Cond.fieldLink RX6 70 "BallCourtModel" "lines" "I", Cond.fieldLink RX6 30 "BallCourtModel" "excepts" "[I", Cond.methodLink RX6 103 yX6_holding, Cond.instanceMethod yX6_holding, Cond.selects RX6 yX6_holding yX6_holding, Cond.code yX6_holding cX6_holding 5 (some .int), Cond.fieldLink RX6 26 "BallCourtModel" "isRepealed" "[Z", Cond.fieldLink RX6 17 "BallCourtModel" "must" "[I", Cond.fieldLink RX6 20 "BallCourtModel" "mustNot" "[I", Cond.methodLink RX6 138 yX6_bindingCase]
def wsX6_appeal_r4 : List Cond := [Cond.instanceMethod yX6_bindingCase, Cond.selects RX6 yX6_bindingCase yX6_bindingCase, Cond.code yX6_bindingCase cX6_bindingCase 4 (some .int), Cond.fieldLink RX6 76 "BallCourtModel" "cases" "I", Cond.fieldLink RX6 48 "BallCourtModel" "caseNames" "[I", Cond.fieldLink RX6 42 "BallCourtModel" "caseKind" "[I", Cond.methodLink RX6 131 yX6_doubt, Cond.instanceMethod yX6_doubt, Cond.selects RX6 yX6_doubt yX6_doubt, Cond.code yX6_doubt cX6_doubt 2 (some .int), Cond.methodLink RX6 147 yX6_play, Cond.instanceMethod yX6_play, Cond.selects RX6 yX6_play yX6_play, Cond.code yX6_play cX6_play 3 none, Cond.fieldLink RX6 51 "BallCourtModel" "goal" "I", Cond.methodLink RX6 151 yX6_packed, Cond.instanceMethod yX6_packed, Cond.selects RX6 yX6_packed yX6_packed, Cond.code yX6_packed cX6_packed 1 (some .int)]
def wsX6_appeal : List Cond := .code yX6_appeal cX6_appeal 4 (some .int) :: ((wsX6_appeal_r1 ++ (wsX6_appeal_r2 ++ (wsX6_appeal_r3 ++ wsX6_appeal_r4))) ++ wsX60)
def wsX6_kinds_r1 : List Cond := [Cond.methodLink RX6 83 yX6_allFacts, Cond.instanceMethod yX6_allFacts, Cond.selects RX6 yX6_allFacts yX6_allFacts, Cond.initialized RX6, Cond.code yX6_allFacts cX6_allFacts 1 (some .int), Cond.fieldLink RX6 7 "BallCourtModel" "facts" "I", Cond.methodLink RX6 100 yX6_isKind, Cond.instanceMethod yX6_isKind, Cond.selects RX6 yX6_isKind yX6_isKind, Cond.code yX6_isKind cX6_isKind 4 (some .boolean), Cond.fieldLink RX6 13 "BallCourtModel" "bars" "[I", Cond.methodLink RX6 66 yX6_in, Cond.static yX6_in, Cond.code yX6_in cX6_in 3 (some .boolean), Cond.methodLink RX6 106 yX6_lineFor, Cond.instanceMethod yX6_lineFor, Cond.selects RX6 yX6_lineFor yX6_lineFor, Cond.code yX6_lineFor cX6_lineFor 5 (some .int), Cond.fieldLink RX6 70 "BallCourtModel" "lines" "I", Cond.fieldLink RX6 30 "BallCourtModel" "excepts" "[I", Cond.methodLink RX6 103 yX6_holding, Cond.instanceMethod yX6_holding, Cond.selects RX6 yX6_holding yX6_holding, Cond.code yX6_holding cX6_holding 5 (some .int)]
def wsX6_kinds_r2 : List Cond := [Cond.fieldLink RX6 26 "BallCourtModel" "isRepealed" "[Z", Cond.fieldLink RX6 17 "BallCourtModel" "must" "[I", Cond.fieldLink RX6 20 "BallCourtModel" "mustNot" "[I"]
def wsX6_kinds : List Cond := .code yX6_kinds cX6_kinds 4 (some .int) :: ((wsX6_kinds_r1 ++ wsX6_kinds_r2) ++ wsX60)
def wsX6_told_r1 : List Cond := [Cond.fieldLink RX6 7 "BallCourtModel" "facts" "I", Cond.fieldLink RX6 70 "BallCourtModel" "lines" "I", Cond.fieldLink RX6 73 "BallCourtModel" "moments" "I", Cond.fieldLink RX6 76 "BallCourtModel" "cases" "I", Cond.fieldLink RX6 51 "BallCourtModel" "goal" "I", Cond.methodLink RX6 154 yX6_kinds, Cond.instanceMethod yX6_kinds, Cond.selects RX6 yX6_kinds yX6_kinds, Cond.initialized RX6, Cond.code yX6_kinds cX6_kinds 4 (some .int), Cond.methodLink RX6 83 yX6_allFacts, Cond.instanceMethod yX6_allFacts, Cond.selects RX6 yX6_allFacts yX6_allFacts, Cond.code yX6_allFacts cX6_allFacts 1 (some .int), Cond.methodLink RX6 100 yX6_isKind, Cond.instanceMethod yX6_isKind, Cond.selects RX6 yX6_isKind yX6_isKind, Cond.code yX6_isKind cX6_isKind 4 (some .boolean), Cond.fieldLink RX6 13 "BallCourtModel" "bars" "[I", Cond.methodLink RX6 66 yX6_in, Cond.static yX6_in, Cond.code yX6_in cX6_in 3 (some .boolean), Cond.methodLink RX6 106 yX6_lineFor, Cond.instanceMethod yX6_lineFor]
def wsX6_told_r2 : List Cond := [Cond.selects RX6 yX6_lineFor yX6_lineFor, Cond.code yX6_lineFor cX6_lineFor 5 (some .int), Cond.fieldLink RX6 30 "BallCourtModel" "excepts" "[I", Cond.methodLink RX6 103 yX6_holding, Cond.instanceMethod yX6_holding, Cond.selects RX6 yX6_holding yX6_holding, Cond.code yX6_holding cX6_holding 5 (some .int), Cond.fieldLink RX6 26 "BallCourtModel" "isRepealed" "[Z", Cond.fieldLink RX6 17 "BallCourtModel" "must" "[I", Cond.fieldLink RX6 20 "BallCourtModel" "mustNot" "[I"]
def wsX6_told : List Cond := .code yX6_told cX6_told 2 (some .int) :: ((wsX6_told_r1 ++ wsX6_told_r2) ++ wsX60)
theorem inJ6 : ∀ w ∈ wsJ60, w ∈ lw_tbl := by decide +kernel
abbrev vwCl : List vw_C := [(RX0, TX0, 11), (RX1, TX1, 4), (RX2, TX2, 4), (RX3, TX3, 2), (RX4, TX4, 4), (RX5, TX5, 8), (RX6, TX6, 21)]
end
section
/-! my own base: the nest words as one premise, worlds, pure calls and writing calls, array rows by a Nat place -/
def nwF : List (String × Nat × String × String × String) := [("BallCourt", 63, "BallCourt$Moments", "count", "I"), ("BallCourt", 66, "BallCourt$Cases", "count", "I"), ("BallCourt", 67, "BallCourt$Book", "repealed", "I"), ("BallCourt", 73, "BallCourt$Book", "facts", "I"), ("BallCourt", 98, "BallCourt$Book", "lines", "I"), ("BallCourt", 115, "BallCourt$Book", "excepters", "[I"), ("BallCourt", 131, "BallCourt$Book", "must", "[I"), ("BallCourt", 134, "BallCourt$Book", "mustNot", "[I"), ("BallCourt", 137, "BallCourt$Book", "ruling", "[I"), ("BallCourt", 153, "BallCourt$Laws", "lineOf", "[I"), ("BallCourt", 159, "BallCourt$Book", "numbers", "I"), ("BallCourt", 201, "BallCourt$Moments", "ruled", "[I"), ("BallCourt", 207, "BallCourt$Cases", "kind", "[I"), ("BallCourt", 210, "BallCourt$Cases", "ruling", "[I"), ("BallCourt", 211, "BallCourt$Cases", "names", "[I"), ("BallCourt", 224, "BallCourt$Game", "hoopsOf0", "I"), ("BallCourt", 227, "BallCourt$Game", "hoopsOf1", "I"), ("BallCourt", 230, "BallCourt$Game", "striker", "I"), ("BallCourt$Laws", 19, "BallCourt$Book", "numbers", "I"), ("BallCourt$Laws", 33, "BallCourt$Book", "ruling", "[I")]
def nwM : List (String × Nat × MethodName) := [("BallCourt", 9, yX0_init), ("BallCourt", 30, yX4_init), ("BallCourt", 37, yX1_init), ("BallCourt", 44, yX2_init), ("BallCourt$Book", 50, yX5_hasBit), ("BallCourt$Moments", 25, yX5_hasBit)]
def NW (U : State) : Prop := (∀ q ∈ nwF, va_Nw (.fieldLinkNest q.1 q.2.1 q.2.2.1 q.2.2.2.1 q.2.2.2.2 "BallCourt") U) ∧ ∀ q ∈ nwM, va_Nw (.methodLinkNest q.1 q.2.1 q.2.2 "BallCourt") U
theorem NW.warm {s U : State} (hW : s.WarmedH U.vm) (h : NW s) : NW U := ⟨fun q hq => va_Nw.warmF hW (h.1 q hq), fun q hq => va_Nw.warmM hW (h.2 q hq)⟩
theorem NW.same {u U : State} (h : u.vm = U.vm) (hZ : NW u) : NW U := ⟨fun q hq => va_Nw.same rfl h (hZ.1 q hq), fun q hq => va_Nw.same rfl h (hZ.2 q hq)⟩
theorem NW.f {s : State} (h : NW s) (i : Nat) {own ref n d : String} {idx : Nat} (hq : nwF[i]? = some (own, idx, ref, n, d)) (args : Array Value) : (Cond.fieldLinkNest own idx ref n d "BallCourt").before args s = true := va_Nw.use rfl (h.1 _ (List.mem_of_getElem? hq))
theorem NW.m {s : State} (h : NW s) (i : Nat) {own : String} {idx : Nat} {y : MethodName} (hq : nwM[i]? = some (own, idx, y)) : va_Nw (.methodLinkNest own idx y "BallCourt") s := h.2 _ (List.mem_of_getElem? hq)
abbrev tyA (cI cZ : ClassId) : List (ClassId × FieldType) := [(cI, .int), (cZ, .boolean)]
def XP (D : va_G) (cI cZ : ClassId) (wc : va_W) (U : State) : Prop := va_P D vwCl wc U.heap ∧ va_K D vwCl (tyA cI cZ) U ∧ NW U
def XW (D : va_G) (cI cZ : ClassId) (wc : va_W) (sz : Nat) (U : State) : Prop := U.heap.size = sz ∧ XP D cI cZ wc U ∧ va_D (fun _ => True) wc
def XB (D : va_G) (cI cZ : ClassId) (A : Nat → Prop) (w : va_W) (t : State) : Prop := XP D cI cZ w t ∧ va_D A w
theorem XP.blind {D : va_G} {cI cZ : ClassId} {wc : va_W} {As : List Value} : FrameBlind (va_Pc As (XP D cI cZ wc)) := fun a U g mk q => by
  obtain ⟨q0, qP, qK, qN⟩ := q
  exact ⟨q0, qP, va_K.moved (u := U) (U := U.calling g mk a) (Vm.Alike.refl U.vm) qK, NW.same (u := U) (U := U.calling g mk a) rfl qN⟩
theorem XW.blind {D : va_G} {cI cZ : ClassId} {wc : va_W} {sz : Nat} {As : List Value} : FrameBlind (va_Pc As (XW D cI cZ wc sz)) := fun a U g mk q => by
  obtain ⟨q0, qz, ⟨qP, qK, qN⟩, qD⟩ := q
  exact ⟨q0, qz, ⟨qP, va_K.moved (u := U) (U := U.calling g mk a) (Vm.Alike.refl U.vm) qK, NW.same (u := U) (U := U.calling g mk a) rfl qN⟩, qD⟩
theorem fm_of_map {α β : Type} {f : α → Option β} : ∀ {l : List α} {r : List β}, l.map f = r.map some → l.filterMap f = r
  | [], [], _ => rfl
  | [], _ :: _, h => by cases h
  | _ :: _, [], h => by cases h
  | a :: l, b :: r, h => by
    simp only [List.map_cons, List.cons.injEq] at h
    rw [List.filterMap_cons, h.1]
    simp only [fm_of_map h.2]
section XC
variable {p : Program} {l : Launch} {e : Env} {R : Room} {s : State} {m : MethodId} {args : Array Value} {below : List Frame} {meth : Method} {c : Code} {H : Heap} {locs : List Loc} {cells slots : Nat} {Q : State → Prop}
variable {y : MethodName} {bytes cc : ByteArray} {maxL nL mc ms n index : Nat} {ret : Option FieldType} {ws : List Cond} {rm : Room} {Ts : List Cond} {own C : String} {b : Addr} {As rest st0 : List Value} {pc : Nat} {ls : Array Slot}
variable {D : va_G} {cI cZ : ClassId} {ws0 wc wr : va_W} {A0 : Nat → Prop} {H0 : Heap} {ci q0 N : Nat} {T : u_T} {fs : List Value}
theorem lv_asi {x x' : Int32} (h : x = x') (k : W p l e R s m args below meth c H locs cells slots Q (F0 m pc ls (.int x' :: rest))) : W p l e R s m args below meth c H locs cells slots Q (F0 m pc ls (.int x :: rest)) := h ▸ k
theorem xpV {post : Int32 → Prop} (S : CallFix p m c cc nL s args Ts own) (hM : Met l y ws rm (va_Pc (.ref b :: As) (XP D cI cZ wc)) (vp_Si post) 0 0 (fun _ => False)) (cw : CallW R s args own C index y bytes maxL ret ws rm 0 0 n)
    (hP : va_P D vwCl ws0 H) (is : List Nat) (hs : is.map (fun i => ws0[i]?) = wc.map some) (hK : va_K D vwCl (tyA cI cZ) s) (hN : NW s) (hc : vwCl[ci]? = some (C, T, N)) (he : ws0[q0]? = some (b, .inr (ci, fs)))
    (hn : As.length = n) (hsize : ls.size = nL) (hstack : st0 = As.reverse ++ .ref b :: rest) (hW : (rest.map fun v => v.category).sum ≤ 8) (hdg : decode cc pc = .ok (.invokevirtual index, 3)) (hf : cells ≤ R.cells ∧ slots ≤ R.slots)
    (kk : ∀ r : Int32, post r → W p l e R s m args below meth c H locs cells slots Q (F0 m (pc + 3) ls (.int r :: rest))) : W p l e R s m args below meth c H locs cells slots Q (F0 m pc ls st0) :=
  vp_callSi (va_Run.run (va_runV S hM cw ⟨XP.blind, va_recv hK hP hc he, fun U hU hW => ⟨rfl, by rw [hU]; exact hP.sub is (fm_of_map hs), va_K.moved hW.alike hK, NW.warm hW hN⟩⟩ rfl hn hsize hstack (lv_room hW) hdg hf)) kk
theorem xpS {post : Int32 → Prop} (S : CallFix p m c cc nL s args Ts own) (hM : Met l y ws rm (va_Pc As (XP D cI cZ wc)) (vp_Si post) 0 0 (fun _ => False)) (cw : CallB R s args own index y bytes maxL ret ws rm 0 0 n ∧ (Cond.static y).before args s = true)
    (hP : va_P D vwCl ws0 H) (is : List Nat) (hs : is.map (fun i => ws0[i]?) = wc.map some) (hK : va_K D vwCl (tyA cI cZ) s) (hN : NW s)
    (hn : As.length = n) (hsize : ls.size = nL) (hstack : st0 = As.reverse ++ rest) (hW : (rest.map fun v => v.category).sum ≤ 8) (hdg : decode cc pc = .ok (.invokestatic index, 3)) (hf : cells ≤ R.cells ∧ slots ≤ R.slots)
    (kk : ∀ r : Int32, post r → W p l e R s m args below meth c H locs cells slots Q (F0 m (pc + 3) ls (.int r :: rest))) : W p l e R s m args below meth c H locs cells slots Q (F0 m pc ls st0) :=
  vp_callSi (va_Run.run (va_runS S hM cw ⟨XP.blind, fun U hU hW => ⟨rfl, by rw [hU]; exact hP.sub is (fm_of_map hs), va_K.moved hW.alike hK, NW.warm hW hN⟩⟩ rfl hn hsize hstack (lv_room hW) hdg hf)) kk
theorem xpSN {host : String} {post : Int32 → Prop} (S : CallFix p m c cc nL s args Ts own) (hM : Met l y ws rm (va_Pc As (XP D cI cZ wc)) (vp_Si post) 0 0 (fun _ => False)) (cw : va_CN R s args own index y host bytes maxL ret ws rm 0 0 n) (hst : (Cond.static y).before args s = true)
    (hP : va_P D vwCl ws0 H) (is : List Nat) (hs : is.map (fun i => ws0[i]?) = wc.map some) (hK : va_K D vwCl (tyA cI cZ) s) (hN : NW s)
    (hn : As.length = n) (hsize : ls.size = nL) (hstack : st0 = As.reverse ++ rest) (hW : (rest.map fun v => v.category).sum ≤ 8) (hdg : decode cc pc = .ok (.invokestatic index, 3)) (hf : cells ≤ R.cells ∧ slots ≤ R.slots)
    (kk : ∀ r : Int32, post r → W p l e R s m args below meth c H locs cells slots Q (F0 m (pc + 3) ls (.int r :: rest))) : W p l e R s m args below meth c H locs cells slots Q (F0 m pc ls st0) :=
  vp_callSi (va_Run.run (va_runSN S hM ⟨cw, hst, trivial⟩ ⟨XP.blind, fun U hU hW => ⟨rfl, by rw [hU]; exact hP.sub is (fm_of_map hs), va_K.moved hW.alike hK, NW.warm hW hN⟩⟩ rfl hn hsize hstack (lv_room hW) hdg hf)) kk
theorem xw_pre (hP : va_P D vwCl ws0 H) (hD : va_D A0 ws0) (isC : List Nat) (hC : isC.map (fun i => ws0[i]?) = wc.map some) (hnC : va_nd isC = true) (hK : va_K D vwCl (tyA cI cZ) s) (hN : NW s) : ∀ U : State, U.heap = H → s.WarmedH U.vm → va_Pc As (XW D cI cZ wc H.size) As.toArray U :=
  fun U hU hW => ⟨rfl, by rw [hU], ⟨by rw [hU]; exact hP.sub isC (fm_of_map hC), va_K.moved hW.alike hK, NW.warm hW hN⟩, (hD.sub isC hnC hC).weaken (fun _ _ _ _ => trivial)⟩
theorem xwV {S0 : Type} {post : Int32 → S0 → Prop} {w1 : S0 → va_W} (S : CallFix p m c cc nL s args Ts own) (hM : Met l y ws rm (va_Pc (.ref b :: As) (XW D cI cZ wc H.size)) (va_Qi post (fun u => XB D cI cZ (va_A wc H.size) (w1 u)) (va_A wc H.size)) mc ms (va_A wc H.size)) (cw : CallW R s args own C index y bytes maxL ret ws rm mc ms n)
    (hP : va_P D vwCl ws0 H) (hD : va_D A0 ws0) (hS : va_S A0 H0 H locs) (hA : ∀ q, H0.size ≤ q → A0 q) (isC isR : List Nat) (hC : isC.map (fun i => ws0[i]?) = wc.map some) (hR : isR.map (fun i => ws0[i]?) = wr.map some) (hnC : va_nd isC = true) (hnR : va_nd isR = true) (hdis : ∀ i ∈ isR, i ∉ isC)
    (hK : va_K D vwCl (tyA cI cZ) s) (hN : NW s) (hc : vwCl[ci]? = some (C, T, N)) (he : ws0[q0]? = some (b, .inr (ci, fs)))
    (hn : As.length = n) (hsize : ls.size = nL) (hstack : st0 = As.reverse ++ .ref b :: rest) (hW : (rest.map fun v => v.category).sum ≤ 8) (hdg : decode cc pc = .ok (.invokevirtual index, 3)) (hf : cells + mc ≤ R.cells ∧ slots + ms ≤ R.slots)
    (kk : ∀ (r : Int32) (u : S0) (H1 : Heap) (locs1 : List Loc), post r u → va_P D vwCl (wr ++ w1 u) H1 → va_D A0 (wr ++ w1 u) → va_S A0 H0 H1 locs1 → W p l e R s m args below meth c H1 locs1 (cells + mc) (slots + ms) Q (F0 m (pc + 3) ls (.int r :: rest))) : W p l e R s m args below meth c H locs cells slots Q (F0 m pc ls st0) :=
  va_calli (va_runV S hM cw ⟨XW.blind, va_recv hK hP hc he, xw_pre hP hD isC hC hnC hK hN⟩ rfl hn hsize hstack (lv_room hW) hdg hf) hS (fun q _ h => va_free hD hS hA isC hC q h) (va_free hD hS hA isC hC) (fun r u t H1 locs1 ht _ hw hB _ hk1 hS1 => by
    obtain ⟨⟨hP1, -, -⟩, hD1⟩ := hB
    rw [ht] at hP1
    obtain ⟨hP2, hD2⟩ := va_join hP hD isC isR hC hR hnR hdis hk1 (va_free hD hS hA isC hC) hP1 hD1
    exact kk r u H1 locs1 hw hP2 hD2 hS1)
theorem xwVv {S0 : Type} {post : S0 → Prop} {w1 : S0 → va_W} (S : CallFix p m c cc nL s args Ts own) (hM : Met l y ws rm (va_Pc (.ref b :: As) (XW D cI cZ wc H.size)) (va_Qv post (fun u => XB D cI cZ (va_A wc H.size) (w1 u)) (va_A wc H.size)) mc ms (va_A wc H.size)) (cw : CallW R s args own C index y bytes maxL ret ws rm mc ms n)
    (hP : va_P D vwCl ws0 H) (hD : va_D A0 ws0) (hS : va_S A0 H0 H locs) (hA : ∀ q, H0.size ≤ q → A0 q) (isC isR : List Nat) (hC : isC.map (fun i => ws0[i]?) = wc.map some) (hR : isR.map (fun i => ws0[i]?) = wr.map some) (hnC : va_nd isC = true) (hnR : va_nd isR = true) (hdis : ∀ i ∈ isR, i ∉ isC)
    (hK : va_K D vwCl (tyA cI cZ) s) (hN : NW s) (hc : vwCl[ci]? = some (C, T, N)) (he : ws0[q0]? = some (b, .inr (ci, fs)))
    (hn : As.length = n) (hsize : ls.size = nL) (hstack : st0 = As.reverse ++ .ref b :: rest) (hW : (rest.map fun v => v.category).sum ≤ 8) (hdg : decode cc pc = .ok (.invokevirtual index, 3)) (hf : cells + mc ≤ R.cells ∧ slots + ms ≤ R.slots)
    (kk : ∀ (u : S0) (H1 : Heap) (locs1 : List Loc), post u → va_P D vwCl (wr ++ w1 u) H1 → va_D A0 (wr ++ w1 u) → va_S A0 H0 H1 locs1 → W p l e R s m args below meth c H1 locs1 (cells + mc) (slots + ms) Q (F0 m (pc + 3) ls rest)) : W p l e R s m args below meth c H locs cells slots Q (F0 m pc ls st0) :=
  va_callv (va_runV S hM cw ⟨XW.blind, va_recv hK hP hc he, xw_pre hP hD isC hC hnC hK hN⟩ rfl hn hsize hstack (lv_room hW) hdg hf) hS (fun q _ h => va_free hD hS hA isC hC q h) (va_free hD hS hA isC hC) (fun u t H1 locs1 ht _ hw hB _ hk1 hS1 => by
    obtain ⟨⟨hP1, -, -⟩, hD1⟩ := hB
    rw [ht] at hP1
    obtain ⟨hP2, hD2⟩ := va_join hP hD isC isR hC hR hnR hdis hk1 (va_free hD hS hA isC hC) hP1 hD1
    exact kk u H1 locs1 hw hP2 hD2 hS1)
theorem xwI {S0 : Type} {post : S0 → Prop} {w1 : S0 → va_W} (S : CallFix p m c cc nL s args Ts own) (hM : Met l y ws rm (va_Pc (.ref b :: As) (XW D cI cZ wc H.size)) (va_Qv post (fun u => XB D cI cZ (va_A wc H.size) (w1 u)) (va_A wc H.size)) mc ms (va_A wc H.size)) (cw : CallB R s args own index y bytes maxL none ws rm mc ms n ∧ y.name = "<init>" ∧ (Cond.instanceMethod y).before args s = true)
    (hP : va_P D vwCl ws0 H) (hD : va_D A0 ws0) (hS : va_S A0 H0 H locs) (hA : ∀ q, H0.size ≤ q → A0 q) (isC isR : List Nat) (hC : isC.map (fun i => ws0[i]?) = wc.map some) (hR : isR.map (fun i => ws0[i]?) = wr.map some) (hnC : va_nd isC = true) (hnR : va_nd isR = true) (hdis : ∀ i ∈ isR, i ∉ isC)
    (hK : va_K D vwCl (tyA cI cZ) s) (hN : NW s)
    (hn : As.length = n) (hsize : ls.size = nL) (hstack : st0 = As.reverse ++ .ref b :: rest) (hW : (rest.map fun v => v.category).sum ≤ 8) (hdg : decode cc pc = .ok (.invokespecial index, 3)) (hf : cells + mc ≤ R.cells ∧ slots + ms ≤ R.slots)
    (kk : ∀ (u : S0) (H1 : Heap) (locs1 : List Loc), post u → va_P D vwCl (wr ++ w1 u) H1 → va_D A0 (wr ++ w1 u) → va_S A0 H0 H1 locs1 → W p l e R s m args below meth c H1 locs1 (cells + mc) (slots + ms) Q (F0 m (pc + 3) ls rest)) : W p l e R s m args below meth c H locs cells slots Q (F0 m pc ls st0) :=
  va_callv (va_runI S hM cw ⟨XW.blind, xw_pre hP hD isC hC hnC hK hN⟩ rfl hn hsize hstack (lv_room hW) hdg hf) hS (fun q _ h => va_free hD hS hA isC hC q h) (va_free hD hS hA isC hC) (fun u t H1 locs1 ht _ hw hB _ hk1 hS1 => by
    obtain ⟨⟨hP1, -, -⟩, hD1⟩ := hB
    rw [ht] at hP1
    obtain ⟨hP2, hD2⟩ := va_join hP hD isC isR hC hR hnR hdis hk1 (va_free hD hS hA isC hC) hP1 hD1
    exact kk u H1 locs1 hw hP2 hD2 hS1)
theorem xwIN {host : String} {S0 : Type} {post : S0 → Prop} {w1 : S0 → va_W} (S : CallFix p m c cc nL s args Ts own) (hM : Met l y ws rm (va_Pc (.ref b :: As) (XW D cI cZ wc H.size)) (va_Qv post (fun u => XB D cI cZ (va_A wc H.size) (w1 u)) (va_A wc H.size)) mc ms (va_A wc H.size)) (cw : va_CN R s args own index y host bytes maxL none ws rm mc ms n ∧ y.name = "<init>" ∧ (Cond.instanceMethod y).before args s = true)
    (hP : va_P D vwCl ws0 H) (hD : va_D A0 ws0) (hS : va_S A0 H0 H locs) (hA : ∀ q, H0.size ≤ q → A0 q) (isC isR : List Nat) (hC : isC.map (fun i => ws0[i]?) = wc.map some) (hR : isR.map (fun i => ws0[i]?) = wr.map some) (hnC : va_nd isC = true) (hnR : va_nd isR = true) (hdis : ∀ i ∈ isR, i ∉ isC)
    (hK : va_K D vwCl (tyA cI cZ) s) (hN : NW s)
    (hn : As.length = n) (hsize : ls.size = nL) (hstack : st0 = As.reverse ++ .ref b :: rest) (hW : (rest.map fun v => v.category).sum ≤ 8) (hdg : decode cc pc = .ok (.invokespecial index, 3)) (hf : cells + mc ≤ R.cells ∧ slots + ms ≤ R.slots)
    (kk : ∀ (u : S0) (H1 : Heap) (locs1 : List Loc), post u → va_P D vwCl (wr ++ w1 u) H1 → va_D A0 (wr ++ w1 u) → va_S A0 H0 H1 locs1 → W p l e R s m args below meth c H1 locs1 (cells + mc) (slots + ms) Q (F0 m (pc + 3) ls rest)) : W p l e R s m args below meth c H locs cells slots Q (F0 m pc ls st0) :=
  va_callv (va_runIN S hM cw ⟨XW.blind, xw_pre hP hD isC hC hnC hK hN⟩ rfl hn hsize hstack (lv_room hW) hdg hf) hS (fun q _ h => va_free hD hS hA isC hC q h) (va_free hD hS hA isC hC) (fun u t H1 locs1 ht _ hw hB _ hk1 hS1 => by
    obtain ⟨⟨hP1, -, -⟩, hD1⟩ := hB
    rw [ht] at hP1
    obtain ⟨hP2, hD2⟩ := va_join hP hD isC isR hC hR hnR hdis hk1 (va_free hD hS hA isC hC) hP1 hD1
    exact kk u H1 locs1 hw hP2 hD2 hS1)
/-- arrays by a Nat place -/
theorem xald (hexec : p.tables.exec = Jvm.exec) (hb : c.code = cc) (hK : va_K D vwCl (tyA cI cZ) s) (hP : va_P D vwCl ws0 H) (q0 : Nat) {a n k : Nat} {f : Nat → Int32} (ha : ws0[q0]? = some (a, .inl (cI, n, .inl f))) (hk : k < n) (hn : n < 2 ^ 31) (hdg : decode cc pc = .ok (.iaload, 1))
    (kk : W p l e R s m args below meth c H locs cells slots Q (F0 m (pc + 1) ls (.int (f k) :: rest))) : W p l e R s m args below meth c H locs cells slots Q (F0 m pc ls (.int (nI k) :: .ref a :: rest)) :=
  va_iald hexec hb hK hP q0 0 ha rfl (vp_in_nI hk hn) hdg (by rw [nI_clamp (Nat.lt_trans hk hn)]; exact kk)
theorem xzld (hexec : p.tables.exec = Jvm.exec) (hb : c.code = cc) (hK : va_K D vwCl (tyA cI cZ) s) (hP : va_P D vwCl ws0 H) (q0 : Nat) {a n k : Nat} {f : Nat → Int32} (ha : ws0[q0]? = some (a, .inl (cZ, n, .inl f))) (hk : k < n) (hn : n < 2 ^ 31) (hdg : decode cc pc = .ok (.baload, 1))
    (kk : W p l e R s m args below meth c H locs cells slots Q (F0 m (pc + 1) ls (.int (f k) :: rest))) : W p l e R s m args below meth c H locs cells slots Q (F0 m pc ls (.int (nI k) :: .ref a :: rest)) :=
  va_zald hexec hb hK hP q0 1 ha rfl (vp_in_nI hk hn) hdg (by rw [nI_clamp (Nat.lt_trans hk hn)]; exact kk)
theorem xast (hexec : p.tables.exec = Jvm.exec) (hb : c.code = cc) (hK : va_K D vwCl (tyA cI cZ) s) (hP : va_P D vwCl ws0 H) (hD : va_D A0 ws0) (hS : va_S A0 H0 H locs) (q0 : Nat) {a n k : Nat} {f : Nat → Int32} (ha : ws0[q0]? = some (a, .inl (cI, n, .inl f))) {x : Int32} (hk : k < n) (hn : n < 2 ^ 31) (hdg : decode cc pc = .ok (.iastore, 1))
    (kk : ∀ (H1 : Heap) (locs1 : List Loc), va_P D vwCl (ws0.set q0 (a, .inl (cI, n, .inl (upd f k x)))) H1 → va_D A0 (ws0.set q0 (a, .inl (cI, n, .inl (upd f k x)))) → va_S A0 H0 H1 locs1 → W p l e R s m args below meth c H1 locs1 cells slots Q (F0 m (pc + 1) ls rest)) : W p l e R s m args below meth c H locs cells slots Q (F0 m pc ls (.int x :: .int (nI k) :: .ref a :: rest)) :=
  va_iast hexec hb hK hP hD hS q0 0 ha rfl (vp_in_nI hk hn) hdg (by rw [nI_clamp (Nat.lt_trans hk hn)]; exact kk)
theorem xzst (hexec : p.tables.exec = Jvm.exec) (hb : c.code = cc) (hK : va_K D vwCl (tyA cI cZ) s) (hP : va_P D vwCl ws0 H) (hD : va_D A0 ws0) (hS : va_S A0 H0 H locs) (q0 : Nat) {a n k : Nat} {f : Nat → Int32} (ha : ws0[q0]? = some (a, .inl (cZ, n, .inl f))) {x : Int32} (hx : vp_nar .boolean x = x) (hk : k < n) (hn : n < 2 ^ 31) (hdg : decode cc pc = .ok (.bastore, 1))
    (kk : ∀ (H1 : Heap) (locs1 : List Loc), va_P D vwCl (ws0.set q0 (a, .inl (cZ, n, .inl (upd f k x)))) H1 → va_D A0 (ws0.set q0 (a, .inl (cZ, n, .inl (upd f k x)))) → va_S A0 H0 H1 locs1 → W p l e R s m args below meth c H1 locs1 cells slots Q (F0 m (pc + 1) ls rest)) : W p l e R s m args below meth c H locs cells slots Q (F0 m pc ls (.int x :: .int (nI k) :: .ref a :: rest)) :=
  va_zast hexec hb hK hP hD hS q0 1 ha rfl (vp_in_nI hk hn) hdg (by rw [nI_clamp (Nat.lt_trans hk hn), hx]; exact kk)
theorem xnewI (hexec : p.tables.exec = Jvm.exec) (hb : c.code = cc) (harr : (Cond.arrayClass .int).before args s = true) (hK : va_K D vwCl (tyA cI cZ) s) (hP : va_P D vwCl ws0 H) (hD : va_D A0 ws0) (hS : va_S A0 H0 H locs) (hA : ∀ q, H0.size ≤ q → A0 q) {x : Int32} {n : Nat} (hx : x = nI n) (hn : n < 32768) (hcells : cells + 1 ≤ R.cells) (hslots : slots + n ≤ R.slots) (hdg : decode cc pc = .ok (.newarray .int, 2))
    (kk : ∀ (q : Nat) (H1 : Heap), va_P D vwCl (ws0 ++ [(q, .inl (cI, n, .inl (fun _ => 0)))]) H1 → va_D A0 (ws0 ++ [(q, .inl (cI, n, .inl (fun _ => 0)))]) → va_S A0 H0 H1 locs → W p l e R s m args below meth c H1 locs (cells + 1) (slots + n) Q (F0 m (pc + 2) ls (.ref q :: rest))) : W p l e R s m args below meth c H locs cells slots Q (F0 m pc ls (.int x :: rest)) := by
  subst hx
  refine va_newa (atype := .int) (ty := .int) (a0 := (n, .inl (fun _ => 0))) hexec hb harr rfl hK hP hD hS hA (fun cA => rfl) (nI_pos (by omega)) (nI_clamp (by omega)) (by show n * 4 ≤ _; omega) hcells hslots hdg (fun q cA H1 hK1 hP1 hD1 hS1 => ?_)
  have h1 := (hK1.2 2 (cA, .int) rfl).2
  have h2 := (hK.2 0 (cI, .int) rfl).2
  have h3 : cA = cI := Option.some.inj (Eq.trans (Eq.symm h1) h2)
  subst h3
  exact kk q H1 hP1 hD1 hS1
theorem xnewZ (hexec : p.tables.exec = Jvm.exec) (hb : c.code = cc) (harr : (Cond.arrayClass .boolean).before args s = true) (hK : va_K D vwCl (tyA cI cZ) s) (hP : va_P D vwCl ws0 H) (hD : va_D A0 ws0) (hS : va_S A0 H0 H locs) (hA : ∀ q, H0.size ≤ q → A0 q) {x : Int32} {n : Nat} (hx : x = nI n) (hn : n < 32768) (hcells : cells + 1 ≤ R.cells) (hslots : slots + n ≤ R.slots) (hdg : decode cc pc = .ok (.newarray .boolean, 2))
    (kk : ∀ (q : Nat) (H1 : Heap), va_P D vwCl (ws0 ++ [(q, .inl (cZ, n, .inl (fun _ => 0)))]) H1 → va_D A0 (ws0 ++ [(q, .inl (cZ, n, .inl (fun _ => 0)))]) → va_S A0 H0 H1 locs → W p l e R s m args below meth c H1 locs (cells + 1) (slots + n) Q (F0 m (pc + 2) ls (.ref q :: rest))) : W p l e R s m args below meth c H locs cells slots Q (F0 m pc ls (.int x :: rest)) := by
  subst hx
  refine va_newa (atype := .boolean) (ty := .boolean) (a0 := (n, .inl (fun _ => 0))) hexec hb harr rfl hK hP hD hS hA (fun cA => rfl) (nI_pos (by omega)) (nI_clamp (by omega)) (by show n * 1 ≤ _; omega) hcells hslots hdg (fun q cA H1 hK1 hP1 hD1 hS1 => ?_)
  have h1 := (hK1.2 2 (cA, .boolean) rfl).2
  have h2 := (hK.2 1 (cZ, .boolean) rfl).2
  have h3 : cA = cZ := Option.some.inj (Eq.trans (Eq.symm h1) h2)
  subst h3
  exact kk q H1 hP1 hD1 hS1
end XC
end
section
/-! my spec: the state of the court as one value, and what each answer is -/
section XL
variable {p : Program} {l : Launch} {e : Env} {R : Room} {s : State} {m : MethodId} {args : Array Value} {below : List Frame} {meth : Method} {c : Code} {H : Heap} {locs : List Loc} {cells slots : Nat} {Q : State → Prop}
variable {pc : Nat} {rest : List Value} {D : va_G} {A0 : Nat → Prop} {H0 : Heap}
theorem wloop {α : Type} (μ : α → Nat) (lv : α → List (Nat × Value)) (I : α → Prop) (nL : Nat)
    (step : ∀ a : α, I a → (∀ b : α, I b → μ b < μ a → ∀ ls : Array Slot, lv_has ls nL (lv b) → W p l e R s m args below meth c H locs cells slots Q (F0 m pc ls rest)) → ∀ ls : Array Slot, lv_has ls nL (lv a) → W p l e R s m args below meth c H locs cells slots Q (F0 m pc ls rest))
    (a0 : α) (h0 : I a0) (ls0 : Array Slot) (hl0 : lv_has ls0 nL (lv a0)) : W p l e R s m args below meth c H locs cells slots Q (F0 m pc ls0 rest) := by
  have key : ∀ (n : Nat) (a : α), μ a < n → I a → ∀ ls : Array Slot, lv_has ls nL (lv a) → W p l e R s m args below meth c H locs cells slots Q (F0 m pc ls rest) := by
    intro n
    induction n with
    | zero => intro a h; exact absurd h (Nat.not_lt_zero _)
    | succ n ih => intro a h hi ls hl; exact step a hi (fun b hb hlt ls hl => ih b (by omega) hb ls hl) ls hl
  exact key (μ a0 + 1) a0 (Nat.lt_succ_self _) h0 ls0 hl0
theorem wloopW {α : Type} (μ : α → Nat) (w : α → va_W) (lv : α → List (Nat × Value)) (I : α → Prop) (nL : Nat)
    (step : ∀ a : α, I a → (∀ b : α, I b → μ b < μ a → ∀ (H : Heap) (locs : List Loc), va_P D vwCl (w b) H → va_D A0 (w b) → va_S A0 H0 H locs → ∀ ls : Array Slot, lv_has ls nL (lv b) → W p l e R s m args below meth c H locs cells slots Q (F0 m pc ls rest)) → ∀ (H : Heap) (locs : List Loc), va_P D vwCl (w a) H → va_D A0 (w a) → va_S A0 H0 H locs → ∀ ls : Array Slot, lv_has ls nL (lv a) → W p l e R s m args below meth c H locs cells slots Q (F0 m pc ls rest))
    (a0 : α) (h0 : I a0) (hP : va_P D vwCl (w a0) H) (hD : va_D A0 (w a0)) (hS : va_S A0 H0 H locs) (ls0 : Array Slot) (hl0 : lv_has ls0 nL (lv a0)) : W p l e R s m args below meth c H locs cells slots Q (F0 m pc ls0 rest) := by
  have key : ∀ (n : Nat) (a : α), μ a < n → I a → ∀ (H : Heap) (locs : List Loc), va_P D vwCl (w a) H → va_D A0 (w a) → va_S A0 H0 H locs → ∀ ls : Array Slot, lv_has ls nL (lv a) → W p l e R s m args below meth c H locs cells slots Q (F0 m pc ls rest) := by
    intro n
    induction n with
    | zero => intro a h; exact absurd h (Nat.not_lt_zero _)
    | succ n ih => intro a h hi H locs hP hD hS ls hl; exact step a hi (fun b hb hlt H locs hP hD hS ls hl => ih b (by omega) hb H locs hP hD hS ls hl) H locs hP hD hS ls hl
  exact key (μ a0 + 1) a0 (Nat.lt_succ_self _) h0 H locs hP hD hS ls0 hl0
theorem wjoin {pcJ : Nat} {lv : List (Nat × Value)} {nL : Nat} {st st0 : List Value} {ls0 : Array Slot} (k : ∀ ls : Array Slot, lv_has ls nL lv → W p l e R s m args below meth c H locs cells slots Q (F0 m pcJ ls st))
    (main : (∀ ls : Array Slot, lv_has ls nL lv → W p l e R s m args below meth c H locs cells slots Q (F0 m pcJ ls st)) → W p l e R s m args below meth c H locs cells slots Q (F0 m pc ls0 st0)) : W p l e R s m args below meth c H locs cells slots Q (F0 m pc ls0 st0) := main k
end XL
def b2 (b : Bool) : Int32 := if b then 1 else 0
theorem b2_0 {b : Bool} (h : b2 b = 0) : b = false := by cases b; rfl; exact absurd h (by decide)
theorem b2_1 {b : Bool} (h : ¬ b2 b = 0) : b = true := by cases b; exact absurd rfl h; rfl
theorem nab2 (b : Bool) : narrow .boolean (.int (b2 b)) = .int (b2 b) := by cases b <;> rfl
theorem nar_b2 (b : Bool) : vp_nar .boolean (b2 b) = b2 b := by cases b <;> rfl
theorem b2_t {b : Bool} (h : b = true) : (1 : Int32) = b2 b := by rw [h]; rfl
theorem b2_f {b : Bool} (h : b = false) : (0 : Int32) = b2 b := by rw [h]; rfl
theorem b2_inj {a b : Bool} : b2 a = b2 b ↔ a = b := by cases a <;> cases b <;> decide
theorem nf {b : Bool} (h : ¬ b = true) : b = false := by cases b; rfl; exact absurd rfl h
theorem nt {b : Bool} (h : ¬ b = false) : b = true := by cases b; exact absurd rfl h; rfl
theorem nI_n (n : Nat) : (OfNat.ofNat n : Int32) = nI n := rfl
abbrev ST : Type := Nat × Nat × Nat × Nat × Nat × Int32 × (Nat → Int32) × (Nat → Int32) × (Nat → Int32) × (Nat → Int32) × (Nat → Int32) × (Nat → Int32) × (Nat → Int32) × (Nat → Int32) × (Nat → Int32) × (Nat → Int32) × (Nat → Int32)
def mkS (f n mc cc g : Nat) (rp : Int32) (b mu mn ru er ts tn rd ck cr cn : Nat → Int32) : ST := (f, n, mc, cc, g, rp, b, mu, mn, ru, er, ts, tn, rd, ck, cr, cn)
def sF (σ : ST) : Nat := σ.1
def sN (σ : ST) : Nat := σ.2.1
def sM (σ : ST) : Nat := σ.2.2.1
def sC (σ : ST) : Nat := σ.2.2.2.1
def sG (σ : ST) : Nat := σ.2.2.2.2.1
def sR (σ : ST) : Int32 := σ.2.2.2.2.2.1
def rB (σ : ST) : Nat → Int32 := σ.2.2.2.2.2.2.1
def rMu (σ : ST) : Nat → Int32 := σ.2.2.2.2.2.2.2.1
def rMn (σ : ST) : Nat → Int32 := σ.2.2.2.2.2.2.2.2.1
def rRu (σ : ST) : Nat → Int32 := σ.2.2.2.2.2.2.2.2.2.1
def rEr (σ : ST) : Nat → Int32 := σ.2.2.2.2.2.2.2.2.2.2.1
def rTs (σ : ST) : Nat → Int32 := σ.2.2.2.2.2.2.2.2.2.2.2.1
def rTn (σ : ST) : Nat → Int32 := σ.2.2.2.2.2.2.2.2.2.2.2.2.1
def rRd (σ : ST) : Nat → Int32 := σ.2.2.2.2.2.2.2.2.2.2.2.2.2.1
def rCk (σ : ST) : Nat → Int32 := σ.2.2.2.2.2.2.2.2.2.2.2.2.2.2.1
def rCr (σ : ST) : Nat → Int32 := σ.2.2.2.2.2.2.2.2.2.2.2.2.2.2.2.1
def rCn (σ : ST) : Nat → Int32 := σ.2.2.2.2.2.2.2.2.2.2.2.2.2.2.2.2
def Ok (σ : ST) : Prop := (1 ≤ sF σ ∧ sF σ ≤ 7 ∧ sN σ ≤ 12 ∧ sM σ ≤ 30 ∧ sC σ ≤ 12 ∧ 1 ≤ sG σ ∧ sG σ ≤ 20) ∧
  (∀ l, l < sN σ → (∃ r, r < 5 ∧ rRu σ l = nI r) ∧ (∃ a, a < 2 ^ sF σ ∧ rMu σ l = nI a) ∧ (∃ a, a < 2 ^ sF σ ∧ rMn σ l = nI a) ∧ ∃ a, a < 4096 ∧ rEr σ l = nI a) ∧
  (∀ m, m < 3 * sM σ → (∃ a, a < 2 ^ sF σ ∧ rTs σ m = nI a) ∧ ∃ a, a < 2 ^ sF σ ∧ rTn σ m = nI a) ∧
  (∀ m, m < sM σ → rRd σ m = -1 ∨ ∃ r, r < 5 ∧ rRd σ m = nI r) ∧
  ∀ k, k < sC σ → (∃ a, a < 2 ^ sF σ ∧ rCk σ k = nI a) ∧ ∃ a, a < 2 ^ sF σ ∧ rCn σ k = nI a
theorem p27 {f : Nat} (h : f ≤ 7) : 2 ^ f ≤ 128 := Nat.pow_le_pow_right (by decide) h
theorem Ok.k {σ : ST} (h : Ok σ) : 2 ^ sF σ ≤ 128 := p27 h.1.2.1
theorem Ok.n {σ : ST} (h : Ok σ) : sN σ ≤ 12 := h.1.2.2.1
theorem Ok.m {σ : ST} (h : Ok σ) : sM σ ≤ 30 := h.1.2.2.2.1
theorem Ok.c {σ : ST} (h : Ok σ) : sC σ ≤ 12 := h.1.2.2.2.2.1
/-! bits -/
def bt (x : Int32) (i : Nat) : Bool := x.toBitVec.getLsbD i
theorem b_ext {x y : Int32} (h : ∀ i, i < 32 → bt x i = bt y i) : x = y := Int32.toBitVec_inj.mp (BitVec.eq_of_getLsbD_eq fun i hi => h i hi)
theorem b_or (x y : Int32) (i : Nat) : bt (x ||| y) i = (bt x i || bt y i) := by simp [bt]
theorem b_and (x y : Int32) (i : Nat) : bt (x &&& y) i = (bt x i && bt y i) := by simp [bt]
theorem b_xor (x y : Int32) (i : Nat) : bt (x ^^^ y) i = (bt x i ^^ bt y i) := by simp [bt]
theorem b_m1 : ∀ i, i < 32 → bt (-1) i = true := by decide +kernel
theorem b_0 (i : Nat) : bt 0 i = false := by simp [bt]
theorem b_nI (n : Nat) {i : Nat} (hi : i < 32) : bt (nI n) i = n.testBit i := by
  show (BitVec.ofNat 32 n).getLsbD i = _
  rw [BitVec.getLsbD_ofNat]; simp [hi]
/-- is the bit y of x set, as Java's (x >> y & 1) != 0 -/
def hb (x y : Int32) : Bool := !decide ((x >>> (y &&& 31)) &&& 1 = 0)
theorem and1 (x : Int32) : x &&& 1 = 0 ∨ x &&& 1 = 1 := by
  have h : x &&& 1 = nI (x.toBitVec.toNat % 2 ^ 1) := pk_and x 1 (by decide)
  rcases Nat.mod_two_eq_zero_or_one x.toBitVec.toNat with q | q
  · left; rw [h, show (2 : Nat) ^ 1 = 2 from rfl, q]; rfl
  · right; rw [h, show (2 : Nat) ^ 1 = 2 from rfl, q]; rfl
theorem hb_1 (x y : Int32) : ((x >>> (y &&& 31)) &&& 1 = 1) ↔ hb x y = true := by
  unfold hb
  rcases and1 (x >>> (y &&& 31)) with q | q <;> rw [q] <;> decide
theorem hb_b2 (x y : Int32) : (x >>> (y &&& 31)) &&& 1 = b2 (hb x y) := by
  unfold hb
  rcases and1 (x >>> (y &&& 31)) with q | q <;> rw [q] <;> rfl
/-- k has all of m: two spellings -/
theorem an_iff (m k : Int32) : m &&& (k ^^^ (-1)) = 0 ↔ k &&& m = m := by
  constructor <;> intro h <;> apply b_ext <;> intro i hi <;> have h2 := congrArg (fun z => bt z i) h <;> simp only [b_and, b_xor, b_m1 i hi, b_0] at h2 ⊢ <;> cases hm : bt m i <;> cases hk : bt k i <;> simp_all
theorem or_0 (x : Int32) : x ||| 0 = x := by apply b_ext; intro i hi; simp [b_or, b_0]
theorem or_0' (x : Int32) : 0 ||| x = x := by apply b_ext; intro i hi; simp [b_or, b_0]
theorem and_c (x y : Int32) : x &&& y = y &&& x := by apply b_ext; intro i hi; simp [b_and, Bool.and_comm]
theorem shl1 : ∀ i, i < 31 → (1 : Int32) <<< (nI i &&& 31) = nI (2 ^ i) := by decide +kernel
/-! numbers in a range -/
def inN (x : Int32) (n : Nat) : Bool := !decide (x < 0) && !decide (nI n ≤ x)
def inI (x lo hi : Int32) : Bool := !decide (x < lo) && !decide (hi < x)
theorem inN_t {x : Int32} {n : Nat} (h : inN x n = true) (hn : n < 2 ^ 31) : ∃ k : Nat, k < n ∧ x = nI k := by
  simp only [inN, Bool.and_eq_true, Bool.not_eq_true', decide_eq_false_iff_not] at h
  rcases pk_ix x hn with q | q | q
  · exact absurd q h.1
  · exact absurd q h.2
  · exact q
theorem inN_nI {k n : Nat} (h : k < n) (hn : n < 2 ^ 31) : inN (nI k) n = true := by
  simp only [inN, Bool.and_eq_true, Bool.not_eq_true', decide_eq_false_iff_not]
  exact ⟨nI_pos (by omega), nI_ge h hn⟩
theorem inI_n (x : Int32) (n : Nat) (hn : n < 2 ^ 30) : inI x 0 (nI n - 1) = inN x n := by
  unfold inI inN
  congr 1
  congr 1
  apply decide_eq_decide.mpr
  have h1 : (nI n - 1).toInt = (n : Int) - 1 := by
    have := pk_sub_toInt (a := n) (b := 1) hn (by decide)
    exact this
  rw [Int32.lt_iff_toInt_lt, Int32.le_iff_toInt_le, h1, nI_toInt (by omega)]
  omega
/-! counting, the first, all -/
def allB (q : Nat → Bool) : Nat → Bool
  | 0 => true
  | n + 1 => allB q n && q n
def cnt (q : Nat → Bool) : Nat → Nat
  | 0 => 0
  | n + 1 => cnt q n + if q n then 1 else 0
def fst (q : Nat → Bool) : Nat → Nat
  | 0 => 0
  | n + 1 => if fst q n < n then fst q n else if q n then n else n + 1
theorem allB_t {q : Nat → Bool} : ∀ {n : Nat}, allB q n = true ↔ ∀ k, k < n → q k = true
  | 0 => by simp [allB]
  | n + 1 => by
    rw [allB, Bool.and_eq_true, allB_t]
    exact ⟨fun h k hk => (Nat.lt_succ_iff_lt_or_eq.mp hk).elim (h.1 k) (fun e => e ▸ h.2), fun h => ⟨fun k hk => h k (by omega), h n (by omega)⟩⟩
theorem allB_f {q : Nat → Bool} {n k : Nat} (h : k < n) (hq : q k = false) : allB q n = false := by
  apply nf
  rw [allB_t]
  exact fun z => by have := z k h; rw [hq] at this; cases this
theorem cnt_le (q : Nat → Bool) : ∀ n, cnt q n ≤ n
  | 0 => Nat.le_refl _
  | n + 1 => by have := cnt_le q n; rw [cnt]; split <;> omega
theorem cnt_y {q : Nat → Bool} {n : Nat} (h : q n = true) : nI (cnt q n) + 1 = nI (cnt q (n + 1)) := by rw [cnt, if_pos h, nI_1]
theorem cnt_n {q : Nat → Bool} {n : Nat} (h : q n = false) : cnt q n = cnt q (n + 1) := by rw [cnt, if_neg (by rw [h]; decide)]; rfl
theorem cnt_0 {q : Nat → Bool} : ∀ {n : Nat}, cnt q n = 0 ↔ ∀ k, k < n → q k = false
  | 0 => by simp [cnt]
  | n + 1 => by
    have h := cnt_0 (q := q) (n := n)
    rw [cnt]
    constructor
    · intro z k hk
      cases hq : q n
      · rcases Nat.lt_succ_iff_lt_or_eq.mp hk with a | a
        · exact h.mp (by rw [hq] at z; simpa using z) k a
        · rw [a]; exact hq
      · rw [hq] at z; simp at z
    · intro z
      rw [h.mpr (fun k hk => z k (by omega)), z n (by omega)]; rfl
theorem cnt_cong {q r : Nat → Bool} : ∀ {n : Nat}, (∀ k, k < n → q k = r k) → cnt q n = cnt r n
  | 0, _ => rfl
  | n + 1, h => by rw [cnt, cnt, cnt_cong (fun k hk => h k (by omega)), h n (by omega)]
theorem cnt_sub {q r : Nat → Bool} : ∀ {n : Nat}, (∀ k, k < n → q k = true → r k = true) → cnt q n = cnt r n → ∀ k, k < n → r k = true → q k = true
  | 0, _, _, _, hk, _ => absurd hk (Nat.not_lt_zero _)
  | n + 1, h, e, k, hk, hr => by
    have hle : ∀ m, (∀ k, k < m → q k = true → r k = true) → cnt q m ≤ cnt r m := by
      intro m
      induction m with
      | zero => intro _; exact Nat.le_refl _
      | succ m ih =>
        intro hm
        have h1 := ih (fun k hk => hm k (by omega))
        have h2 := hm m (by omega)
        rw [cnt, cnt]
        cases hq : q m <;> cases hr : r m <;> simp_all <;> omega
    have h1 := hle n (fun k hk => h k (by omega))
    have h2 := h n (by omega)
    rw [cnt, cnt] at e
    have e2 : cnt q n = cnt r n ∧ (q n = r n) := by
      cases hq : q n <;> cases hr : r n <;> simp_all <;> omega
    rcases Nat.lt_succ_iff_lt_or_eq.mp hk with a | a
    · exact cnt_sub (fun k hk => h k (by omega)) e2.1 k a hr
    · rw [a] at hr ⊢; rw [e2.2]; exact hr
theorem fst_le (q : Nat → Bool) : ∀ n, fst q n ≤ n
  | 0 => Nat.le_refl _
  | n + 1 => by rw [fst]; split; omega; split <;> omega
theorem fst_at {q : Nat → Bool} {i : Nat} (hi : q i = true) (hn : ∀ j, j < i → q j = false) : ∀ {n : Nat}, i < n → fst q n = i
  | 0, h => absurd h (Nat.not_lt_zero _)
  | n + 1, h => by
    rw [fst]
    rcases Nat.lt_succ_iff_lt_or_eq.mp h with a | a
    · rw [fst_at hi hn a, if_pos a]
    · subst a
      have : fst q i = i := by
        have hh : ∀ m, m ≤ i → fst q m = m := by
          intro m
          induction m with
          | zero => intro _; rfl
          | succ m ih => intro hm; rw [fst, ih (by omega), if_neg (Nat.lt_irrefl _), if_neg (by rw [hn m (by omega)]; decide)]
        exact hh i (Nat.le_refl _)
      rw [this, if_neg (Nat.lt_irrefl _), if_pos hi]
theorem fst_no {q : Nat → Bool} : ∀ {n : Nat}, (∀ j, j < n → q j = false) → fst q n = n
  | 0, _ => rfl
  | n + 1, h => by rw [fst, fst_no (fun j hj => h j (by omega)), if_neg (Nat.lt_irrefl _), if_neg (by rw [h n (by omega)]; decide)]
theorem fst_yes {q : Nat → Bool} : ∀ {n : Nat}, fst q n < n → q (fst q n) = true ∧ ∀ j, j < fst q n → q j = false
  | 0, h => absurd h (Nat.not_lt_zero _)
  | n + 1, h => by
    rw [fst] at h ⊢
    by_cases a : fst q n < n
    · rw [if_pos a]; exact fst_yes a
    · rw [if_neg a] at h ⊢
      by_cases b : q n = true
      · rw [if_pos b]
        refine ⟨b, fun j hj => ?_⟩
        apply nf
        intro z
        exact a (by
          have : ∀ m, m ≤ n → j < m → fst q m < m := by
            intro m
            induction m with
            | zero => intro _ h; exact absurd h (Nat.not_lt_zero _)
            | succ m ih =>
              intro hm hj2
              rw [fst]
              by_cases x : fst q m < m
              · rw [if_pos x]; omega
              · rw [if_neg x]
                rcases Nat.lt_succ_iff_lt_or_eq.mp hj2 with y | y
                · exact absurd (ih (by omega) y) x
                · rw [← y, if_pos z]; omega
          exact this n (Nat.le_refl _) hj)
      · rw [if_neg b] at h; omega
theorem fst_cong {q r : Nat → Bool} : ∀ {n : Nat}, (∀ k, k < n → q k = r k) → fst q n = fst r n
  | 0, _ => rfl
  | n + 1, h => by rw [fst, fst, fst_cong (fun k hk => h k (by omega)), h n (by omega)]
/-! kinds, lines, the law -/
def kbad (σ : ST) (k i : Nat) : Bool := hb (nI k) (nI i) && !decide (rB σ i &&& nI k = 0)
def kok (σ : ST) (k : Nat) : Bool := allB (fun i => !kbad σ k i) (sF σ)
def kin (σ : ST) (x : Int32) : Bool := inN x (2 ^ sF σ) && kok σ x.toNatClampNeg
def cnd (σ : ST) (rp : Int32) (k l : Nat) (h : Int32) : Bool := decide (nI k &&& rMu σ l = rMu σ l) && decide (nI k &&& rMn σ l = 0) && !hb rp (nI l) && decide (rEr σ l &&& h = 0)
def hdR (σ : ST) (rp : Int32) (k : Nat) : Nat → Int32
  | 0 => 0
  | j + 1 => if cnd σ rp k (sN σ - (j + 1)) (hdR σ rp k j) then hdR σ rp k j ||| nI (2 ^ (sN σ - (j + 1))) else hdR σ rp k j
def holdI (σ : ST) (rp : Int32) (k : Nat) : Int32 := hdR σ rp k (sN σ)
def orE (σ : ST) : Nat → Int32
  | 0 => 0
  | j + 1 => orE σ j ||| rEr σ j
def givI (σ : ST) (rp : Int32) (k : Nat) : Int32 := holdI σ rp k &&& (orE σ (sN σ) ^^^ (-1))
def lawN (σ : ST) (rp : Int32) (k : Nat) : Nat := fst (fun i => hb (givI σ rp k) (nI i)) (sN σ)
def lawI (σ : ST) (rp : Int32) (k : Nat) : Int32 := if lawN σ rp k < sN σ then nI (lawN σ rp k) else -6
def covB (σ : ST) (rp : Int32) (k : Nat) : Bool := decide (lawN σ rp k < sN σ)
def rulI (σ : ST) (rp : Int32) (k : Nat) : Int32 := if lawN σ rp k < sN σ then rRu σ (lawN σ rp k) else 0
theorem hd_y {σ : ST} {rp : Int32} {k q : Nat} (hq : q < sN σ) (h : cnd σ rp k q (hdR σ rp k (sN σ - (q + 1))) = true) : hdR σ rp k (sN σ - q) = hdR σ rp k (sN σ - (q + 1)) ||| nI (2 ^ q) := by
  have e : sN σ - q = (sN σ - (q + 1)) + 1 := by omega
  have e2 : sN σ - ((sN σ - (q + 1)) + 1) = q := by omega
  rw [e, hdR, e2, if_pos h]
theorem hd_n {σ : ST} {rp : Int32} {k q : Nat} (hq : q < sN σ) (h : cnd σ rp k q (hdR σ rp k (sN σ - (q + 1))) = false) : hdR σ rp k (sN σ - q) = hdR σ rp k (sN σ - (q + 1)) := by
  have e : sN σ - q = (sN σ - (q + 1)) + 1 := by omega
  have e2 : sN σ - ((sN σ - (q + 1)) + 1) = q := by omega
  rw [e, hdR, e2, if_neg (by rw [h]; decide)]
theorem lawI_at {σ : ST} {rp : Int32} {k i : Nat} (hi : i < sN σ) (h : hb (givI σ rp k) (nI i) = true) (hn : ∀ j, j < i → hb (givI σ rp k) (nI j) = false) : lawN σ rp k = i := fst_at h hn hi
theorem lawI_no {σ : ST} {rp : Int32} {k : Nat} (h : ∀ j, j < sN σ → hb (givI σ rp k) (nI j) = false) : lawN σ rp k = sN σ := fst_no h
theorem lawI_6 {σ : ST} {rp : Int32} {k : Nat} (hn : sN σ ≤ 12) : (lawI σ rp k = -6) ↔ covB σ rp k = false := by
  unfold lawI covB
  by_cases h : lawN σ rp k < sN σ
  · rw [if_pos h, decide_eq_true h]
    refine ⟨fun z => ?_, fun z => by cases z⟩
    have : ∀ a, a < 12 → ¬ nI a = -6 := by decide +kernel
    exact absurd z (this _ (by omega))
  · rw [if_neg h, decide_eq_false h]
    exact ⟨fun _ => rfl, fun _ => rfl⟩
/-! moments -/
def yesI (t : Nat → Int32) (m : Nat) : Int32 := (t (3 * m) ||| t (3 * m + 1)) ||| t (3 * m + 2)
def soI (σ : ST) (m : Nat) : Int32 := yesI (rTs σ) m &&& (yesI (rTn σ) m ^^^ (-1))
def nsI (σ : ST) (m : Nat) : Int32 := yesI (rTn σ) m &&& (yesI (rTs σ) m ^^^ (-1))
def mbB (σ : ST) (so ns : Int32) (k : Nat) : Bool := kok σ k && decide (nI k &&& so = so) && decide (nI k &&& ns = 0)
def cmb (σ : ST) (so ns : Int32) : Nat := cnt (mbB σ so ns) (2 ^ sF σ)
def mrB (σ : ST) (rp so ns r : Int32) (k : Nat) : Bool := mbB σ so ns k && decide (rulI σ rp k = r)
def cmr (σ : ST) (rp so ns r : Int32) : Nat := cnt (mrB σ rp so ns r) (2 ^ sF σ)
def rfaN (σ : ST) (rp so ns : Int32) : Nat := fst (fun r => decide (cmr σ rp so ns (nI r) = cmb σ so ns)) 5
def rfaI (σ : ST) (rp so ns : Int32) : Int32 := if rfaN σ rp so ns < 5 then nI (rfaN σ rp so ns) else 0
def bnB (σ : ST) (so ns : Int32) (k : Nat) : Bool := decide (so &&& (rCn σ k &&& rCk σ k) = rCn σ k &&& rCk σ k) && decide (ns &&& (rCn σ k &&& (rCk σ k ^^^ (-1))) = rCn σ k &&& (rCk σ k ^^^ (-1)))
def bnN (σ : ST) (so ns : Int32) : Nat := fst (bnB σ so ns) (sC σ)
def bnI (σ : ST) (so ns : Int32) : Int32 := if bnN σ so ns < sC σ then nI (bnN σ so ns) else -6
def verI (σ : ST) (rp : Int32) (m : Nat) : Int32 := if ¬ rRd σ m = -1 then rRd σ m else if cmb σ (soI σ m) (nsI σ m) = 0 then 0 else if bnN σ (soI σ m) (nsI σ m) < sC σ then rCr σ (bnN σ (soI σ m) (nsI σ m)) else rfaI σ rp (soI σ m) (nsI σ m)
theorem bnI_6 {σ : ST} {so ns : Int32} (hc : sC σ ≤ 12) : (bnI σ so ns = -6) ↔ ¬ bnN σ so ns < sC σ := by
  unfold bnI
  by_cases h : bnN σ so ns < sC σ
  · rw [if_pos h]
    have : ∀ a, a < 12 → ¬ nI a = -6 := by decide +kernel
    exact ⟨fun z => absurd z (this _ (by omega)), fun z => absurd h z⟩
  · rw [if_neg h]
    exact ⟨fun _ => h, fun _ => rfl⟩
end
