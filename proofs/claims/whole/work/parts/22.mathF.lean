/-! the reference's ways to the same numbers -/
theorem inI_p (x : Int32) {n : Nat} (h1 : 1 ≤ n) (hn : n < 2 ^ 30) : inI x 0 (nI (n - 1)) = inN x n := by
  rw [← inI_n x n hn, show nI (n - 1) = nI n - 1 from (pk_sub (a := n) (b := 1) h1).symm]
theorem b2_e1 {b : Bool} (h : b2 b = 1) : b = true := by cases b; exact absurd h (by decide); rfl
theorem b2_n1 {b : Bool} (h : ¬ b2 b = 1) : b = false := by cases b; rfl; exact absurd rfl h
def kbI (σ : ST) (x : Int32) (i : Nat) : Bool := bit x (nI i) && !decide (rB σ i &&& x = 0)
def kiE (σ : ST) (x : Int32) (i : Nat) : Bool := inN x (2 ^ sF σ) && allB (fun j => !kbI σ x j) i
theorem kiE_0 (σ : ST) (x : Int32) : inN x (2 ^ sF σ) = kiE σ x 0 := by unfold kiE; rw [allB, Bool.and_true]
theorem kiE_F {σ : ST} (hok : Ok σ) (x : Int32) : kiE σ x (sF σ) = kin σ x := by
  have hk := hok.k
  unfold kiE kin
  cases h : inN x (2 ^ sF σ)
  · rfl
  · obtain ⟨k, hk2, rfl⟩ := inN_t h (by omega)
    rw [clp hk2 hk]; rfl
theorem allB_le {q : Nat → Bool} {i n : Nat} (h : allB q i = false) (hi : i ≤ n) : allB q n = false := by
  apply nf
  intro z
  rw [allB_t.mpr (fun k hk => allB_t.mp z k (by omega))] at h
  cases h
theorem kiE_f {σ : ST} (hok : Ok σ) {x : Int32} {i : Nat} (h : kiE σ x i = false) (hi : i ≤ sF σ) : kin σ x = false := by
  rw [← kiE_F hok]
  unfold kiE at h ⊢
  cases h1 : inN x (2 ^ sF σ)
  · rfl
  · rw [h1, Bool.true_and] at h
    rw [Bool.true_and]
    exact allB_le h hi
theorem kiE_s {σ : ST} {x : Int32} {i : Nat} (h : kiE σ x i = true) : (!kbI σ x i) = kiE σ x (i + 1) := by
  unfold kiE at h ⊢
  rw [Bool.and_eq_true] at h
  rw [allB, h.1, h.2, Bool.true_and, Bool.true_and]
theorem lawI_ge {σ : ST} {rp : Int32} {k : Nat} (hn : sN σ ≤ 12) : (0 ≤ lawI σ rp k) ↔ lawN σ rp k < sN σ := by
  unfold lawI
  by_cases h : lawN σ rp k < sN σ
  · rw [if_pos h]; exact ⟨fun _ => h, fun _ => nI_pos' (by omega)⟩
  · rw [if_neg h]; exact ⟨fun z => absurd z (by decide), fun z => absurd z h⟩
theorem lawI_lt {σ : ST} {rp : Int32} {k : Nat} (hn : sN σ ≤ 12) : (lawI σ rp k < 0) ↔ ¬ lawN σ rp k < sN σ := by
  unfold lawI
  by_cases h : lawN σ rp k < sN σ
  · rw [if_pos h]; exact ⟨fun z => absurd z (nI_pos (by omega)), fun z => absurd h z⟩
  · rw [if_neg h]; exact ⟨fun _ => h, fun _ => by decide⟩
theorem bnI_ge {σ : ST} {so ns : Int32} (hc : sC σ ≤ 12) : (bnI σ so ns < 0) ↔ ¬ bnN σ so ns < sC σ := by
  unfold bnI
  by_cases h : bnN σ so ns < sC σ
  · rw [if_pos h]; exact ⟨fun z => absurd z (nI_pos (by omega)), fun z => absurd h z⟩
  · rw [if_neg h]; exact ⟨fun _ => h, fun _ => by decide⟩
def bdI (σ : ST) (rp : Int32) (k : Nat) : Int32 := 2 * rulI σ rp k + b2 (covB σ rp k)
theorem bd_dec : ∀ a, a < 5 → ∀ b, b < 5 → ∀ c d : Bool, (2 * nI a + b2 c = 2 * nI b + b2 d) ↔ (!decide (nI a = nI b) || !decide (c = d)) = false := by decide +kernel
theorem bdI_eq {σ : ST} (hok : Ok σ) (rp rq : Int32) (k : Nat) : (bdI σ rp k = bdI σ rq k) ↔ difB σ rp rq k = false := by
  obtain ⟨a, ha, ea⟩ := rulI_5 hok rp k
  obtain ⟨b, hb, eb⟩ := rulI_5 hok rq k
  unfold bdI difB
  rw [ea, eb]
  exact bd_dec a ha b hb _ _
theorem cnt_b2 (q : Nat → Bool) (n : Nat) : nI (cnt q n) + b2 (q n) = nI (cnt q (n + 1)) := by
  cases h : q n
  · rw [← cnt_n h]; show nI _ + 0 = _; rw [show (0 : Int32) = nI 0 from rfl, nI_add]; rfl
  · rw [← cnt_y h]; rfl
def dbI (σ : ST) (m : Nat) : Int32 := (nI (2 ^ sF σ - 1) &&& (soI σ m ^^^ (-1))) &&& (nsI σ m ^^^ (-1))
theorem dbI_eq (σ : ST) (m : Nat) : dbI σ m = nI (2 ^ sF σ - 1) &&& ((soI σ m ||| nsI σ m) ^^^ (-1)) := by
  apply b_ext
  intro i hi
  simp only [dbI, b_and, b_xor, b_or, b_m1 i hi]
  cases bt (nI (2 ^ sF σ - 1)) i <;> cases bt (soI σ m) i <;> cases bt (nsI σ m) i <;> rfl
def msq (σ : ST) (rp : Int32) (m : Nat) (r : Int32) (k : Nat) : Bool := mbB σ (soI σ m) (nsI σ m) k && (decide (r < 0) || decide (rulI σ rp k = r))
def msN (σ : ST) (rp : Int32) (m : Nat) (r : Int32) : Nat := cnt (msq σ rp m r) (2 ^ sF σ)
theorem ms_m1 (σ : ST) (rp : Int32) (m : Nat) : msN σ rp m (-1) = cmb σ (soI σ m) (nsI σ m) := cnt_cong (fun k _ => by unfold msq; rw [decide_eq_true (by decide), Bool.true_or, Bool.and_true])
theorem ms_r (σ : ST) (rp : Int32) (m : Nat) {r : Int32} (hr : ¬ r < 0) : msN σ rp m r = cmr σ rp (soI σ m) (nsI σ m) r := cnt_cong (fun k _ => by unfold msq mrB; rw [decide_eq_false hr, Bool.false_or])
theorem ok_r0 {r : Int32} (h : inI r 0 4 = true) : ¬ r < 0 := by
  simp only [inI, Bool.and_eq_true, Bool.not_eq_true', decide_eq_false_iff_not] at h
  exact h.1
theorem eq_bits {x y : Int32} : x = y ↔ ∀ i, i < 32 → bt x i = bt y i := ⟨fun h i _ => by rw [h], b_ext⟩
theorem A_bits (f : Nat) (hf : f ≤ 7) {i : Nat} (hi : i < 32) : bt (nI (2 ^ f - 1)) i = decide (i < f) := by
  rw [b_nI _ hi, Nat.testBit_two_pow_sub_one]
theorem lt_bits {a f i : Nat} (h : a < 2 ^ f) (hi : f ≤ i) : a.testBit i = false := Nat.testBit_lt_two_pow (Nat.lt_of_lt_of_le h (Nat.pow_le_pow_right (by decide) hi))
theorem so_ns (σ : ST) (m i : Nat) (hi : i < 32) : (bt (soI σ m) i && bt (nsI σ m) i) = false := by
  simp only [soI, nsI, b_and, b_xor, b_m1 i hi]
  cases bt (yesI (rTs σ) m) i <;> cases bt (yesI (rTn σ) m) i <;> rfl
theorem bn_iff {σ : ST} (hok : Ok σ) {j : Nat} (hj : j < sC σ) (m : Nat) : (decide (rCn σ j &&& dbI σ m = 0) && decide ((soI σ m ^^^ rCk σ j) &&& rCn σ j = 0)) = bnB σ (soI σ m) (nsI σ m) j := by
  obtain ⟨a, ha, ea⟩ := (hok.2.2.2.2.1 j hj).2
  have hF := hok.1.2.1
  unfold bnB
  have hA : ∀ i, i < 32 → bt (rCn σ j) i = true → bt (nI (2 ^ sF σ - 1)) i = true := by
    intro i hi h
    rw [A_bits _ hF hi]
    rw [ea, b_nI _ hi] at h
    apply decide_eq_true
    rcases Nat.lt_or_ge i (sF σ) with q | q
    · exact q
    · rw [lt_bits ha q] at h; cases h
  have e1 : (rCn σ j &&& dbI σ m = 0 ∧ (soI σ m ^^^ rCk σ j) &&& rCn σ j = 0) ↔ (soI σ m &&& (rCn σ j &&& rCk σ j) = rCn σ j &&& rCk σ j ∧ nsI σ m &&& (rCn σ j &&& (rCk σ j ^^^ (-1))) = rCn σ j &&& (rCk σ j ^^^ (-1))) := by
    rw [eq_bits, eq_bits, eq_bits, eq_bits]
    constructor
    · rintro ⟨h1, h2⟩
      refine ⟨fun i hi => ?_, fun i hi => ?_⟩ <;> have a1 := h1 i hi <;> have a2 := h2 i hi <;> have a3 := so_ns σ m i hi <;> have a4 := hA i hi <;> simp only [dbI, b_and, b_xor, b_or, b_m1 i hi, b_0] at a1 a2 ⊢ <;> revert a1 a2 a3 a4 <;> cases bt (rCn σ j) i <;> cases bt (soI σ m) i <;> cases bt (nsI σ m) i <;> cases bt (rCk σ j) i <;> cases bt (nI (2 ^ sF σ - 1)) i <;> simp
    · rintro ⟨h1, h2⟩
      refine ⟨fun i hi => ?_, fun i hi => ?_⟩ <;> have a1 := h1 i hi <;> have a2 := h2 i hi <;> have a3 := so_ns σ m i hi <;> have a4 := hA i hi <;> simp only [dbI, b_and, b_xor, b_or, b_m1 i hi, b_0] at a1 a2 ⊢ <;> revert a1 a2 a3 a4 <;> cases bt (rCn σ j) i <;> cases bt (soI σ m) i <;> cases bt (nsI σ m) i <;> cases bt (rCk σ j) i <;> cases bt (nI (2 ^ sF σ - 1)) i <;> simp
  rw [← Bool.decide_and, ← Bool.decide_and]
  exact decide_eq_decide.mpr e1
theorem rd_lt {σ : ST} (hok : Ok σ) {m : Nat} (hm : m < sM σ) : (rRd σ m < 0) ↔ rRd σ m = -1 := by
  rcases hok.2.2.2.1 m hm with h | ⟨r, hr, h⟩
  · rw [h]; decide
  · rw [h]; exact ⟨fun z => absurd z (nI_pos (by omega)), fun z => absurd z (n5 r hr)⟩
/-! lines that a line names, the reference's way -/
def mmR (σ : ST) (rp : Int32) (q : Nat) : Nat → Int32 × Int32
  | 0 => (0, nI (2 ^ q))
  | j + 1 => if (bit (mmR σ rp q j).2 (nI (q + j)) && (decide (j = 0) || !bit rp (nI (q + j)))) then ((mmR σ rp q j).1 ||| (rMu σ (q + j) ||| rMn σ (q + j)), (mmR σ rp q j).2 ||| rEr σ (q + j)) else mmR σ rp q j
theorem mmR_y {σ : ST} {rp : Int32} {q j : Nat} (h : (bit (mmR σ rp q j).2 (nI (q + j)) && (decide (j = 0) || !bit rp (nI (q + j)))) = true) : mmR σ rp q (j + 1) = ((mmR σ rp q j).1 ||| (rMu σ (q + j) ||| rMn σ (q + j)), (mmR σ rp q j).2 ||| rEr σ (q + j)) := by rw [mmR, if_pos h]
theorem mmR_n {σ : ST} {rp : Int32} {q j : Nat} (h : (bit (mmR σ rp q j).2 (nI (q + j)) && (decide (j = 0) || !bit rp (nI (q + j)))) = false) : mmR σ rp q (j + 1) = mmR σ rp q j := by rw [mmR, if_neg (by rw [h]; decide)]
theorem mm_nm (σ : ST) (rp : Int32) (q : Nat) : ∀ j, q + j ≤ 20 → (mmR σ rp q j).1 = (nmR σ rp q j).1 ∧ ∀ k, q + j ≤ k → k < 31 → bt (nmR σ rp q j).2 k = (bt (mmR σ rp q j).2 k && (decide (k = q) || !bt rp k)) := by
  intro j
  induction j with
  | zero =>
    intro h
    refine ⟨rfl, fun k h1 h2 => ?_⟩
    show bt (nI (2 ^ q)) k = (bt (nI (2 ^ q)) k && _)
    rw [bt_2 q (by omega) k h2]
    cases h3 : decide (k = q) <;> rfl
  | succ j ih =>
    intro h
    obtain ⟨h1, h2⟩ := ih (by omega)
    have c := h2 (q + j) (by omega) (by omega)
    have e : decide (q + j = q) = decide (j = 0) := decide_eq_decide.mpr (by omega)
    rw [e] at c
    have cb : bit (nmR σ rp q j).2 (nI (q + j)) = (bit (mmR σ rp q j).2 (nI (q + j)) && (decide (j = 0) || !bit rp (nI (q + j)))) := by
      rw [bit_bt _ (by omega), bit_bt _ (by omega), bit_bt _ (by omega)]; exact c
    cases hc : bit (nmR σ rp q j).2 (nI (q + j))
    · rw [nmR_n hc, mmR_n (cb.symm.trans hc)]
      exact ⟨h1, fun k hk hk2 => h2 k (by omega) hk2⟩
    · rw [nmR_y hc, mmR_y (cb.symm.trans hc)]
      refine ⟨by rw [h1], fun k hk hk2 => ?_⟩
      simp only
      rw [b_or, b_or, b_and, b_xor, b_m1 k (by omega), h2 k (by omega) hk2, decide_eq_false (show ¬ k = q by omega)]
      cases bt (mmR σ rp q j).2 k <;> cases bt (rEr σ (q + j)) k <;> cases bt rp k <;> rfl
theorem mm_nmI {σ : ST} (hok : Ok σ) (rp : Int32) {q : Nat} (hq : q < sN σ) : (mmR σ rp q (sN σ - q)).1 = nmI σ rp q := by
  have := hok.n
  exact (mm_nm σ rp q (sN σ - q) (by omega)).1
/-! a moment of which a case may be made -/
theorem and_n {a : Nat} (y : Int32) {f : Nat} (h : a < 2 ^ f) : ∃ s, s < 2 ^ f ∧ nI a &&& y = nI s := by
  refine ⟨a &&& y.toBitVec.toNat, Nat.lt_of_le_of_lt Nat.and_le_left h, ?_⟩
  apply b_ext
  intro i hi
  rw [b_and, b_nI _ hi, b_nI _ hi, Nat.testBit_and]
  rfl
theorem so_n {σ : ST} (hok : Ok σ) {m : Nat} (hm : m < sM σ) : (∃ s, s < 2 ^ sF σ ∧ soI σ m = nI s) ∧ ∃ s, s < 2 ^ sF σ ∧ nsI σ m = nI s := by
  have h := hok.2.2.1
  obtain ⟨⟨a1, b1, c1⟩, ⟨d1, e1, f1⟩⟩ := h (3 * m) (by omega)
  obtain ⟨⟨a2, b2, c2⟩, ⟨d2, e2, f2⟩⟩ := h (3 * m + 1) (by omega)
  obtain ⟨⟨a3, b3, c3⟩, ⟨d3, e3, f3⟩⟩ := h (3 * m + 2) (by omega)
  have hy : yesI (rTs σ) m = nI ((a1 ||| a2) ||| a3) := by unfold yesI; rw [c1, c2, c3, nI_or, nI_or]
  have hn : yesI (rTn σ) m = nI ((d1 ||| d2) ||| d3) := by unfold yesI; rw [f1, f2, f3, nI_or, nI_or]
  unfold soI nsI
  constructor
  · rw [hy]; exact and_n _ (Nat.or_lt_two_pow (Nat.or_lt_two_pow b1 b2) b3)
  · rw [hn]; exact and_n _ (Nat.or_lt_two_pow (Nat.or_lt_two_pow e1 e2) e3)
theorem mk_iff {σ : ST} (hok : Ok σ) {m : Nat} (hm : m < sM σ) : mkB σ m = (decide (dbI σ m = 0) && !decide (cmb σ (soI σ m) (nsI σ m) = 0)) := by
  obtain ⟨⟨s, hs, es⟩, ⟨t, ht, et⟩⟩ := so_n hok hm
  have hF := hok.1.2.1
  have hk := hok.k
  have h1 : (soI σ m ||| nsI σ m = nI (2 ^ sF σ - 1)) ↔ dbI σ m = 0 := by
    rw [eq_bits, eq_bits]
    constructor <;> intro h i hi <;> have a1 := h i hi <;> have z1 : sF σ ≤ i → bt (soI σ m) i = false ∧ bt (nsI σ m) i = false := (fun q => ⟨by rw [es, b_nI _ hi, lt_bits hs q], by rw [et, b_nI _ hi, lt_bits ht q]⟩) <;> simp only [dbI, b_and, b_xor, b_or, b_m1 i hi, b_0, A_bits _ hF hi] at a1 ⊢ <;> by_cases q : i < sF σ
    · rw [decide_eq_true q] at a1 ⊢; revert a1; cases bt (soI σ m) i <;> cases bt (nsI σ m) i <;> simp
    · rw [decide_eq_false q]; rfl
    · rw [decide_eq_true q] at a1 ⊢; revert a1; cases bt (soI σ m) i <;> cases bt (nsI σ m) i <;> simp
    · rw [decide_eq_false q, (z1 (by omega)).1, (z1 (by omega)).2]; rfl
  unfold mkB
  by_cases hd : dbI σ m = 0
  · rw [decide_eq_true (h1.mpr hd), decide_eq_true hd, Bool.true_and, Bool.true_and]
    have hkin : kin σ (soI σ m) = kok σ s := by rw [es]; exact kin_nI hs (by omega)
    rw [hkin]
    have hd2 := eq_bits.mp hd
    cases hko : kok σ s
    · rw [decide_eq_true]; rfl
      apply cnt_0.mpr
      intro k hk2
      apply nf
      intro z
      simp only [mbB, Bool.and_eq_true, decide_eq_true_eq] at z
      obtain ⟨⟨z1, z2⟩, z3⟩ := z
      have : nI k = nI s := by
        rw [← es]
        apply b_ext
        intro i hi
        have a1 := eq_bits.mp z2 i hi
        have a2 := eq_bits.mp z3 i hi
        have a3 := hd2 i hi
        by_cases q : i < sF σ
        · simp only [dbI, b_and, b_xor, b_m1 i hi, b_0, A_bits _ hF hi, decide_eq_true q] at a1 a2 a3
          revert a1 a2 a3
          cases bt (nI k) i <;> cases bt (soI σ m) i <;> cases bt (nsI σ m) i <;> simp
        · rw [es, b_nI _ hi, b_nI _ hi, lt_bits hs (by omega), lt_bits hk2 (by omega)]
      have e : k = s := (nI_eq (by omega) (by omega)).mp this
      rw [e, hko] at z1
      cases z1
    · rw [decide_eq_false]; rfl
      intro z
      have := cnt_0.mp z s hs
      simp only [mbB, hko, Bool.true_and] at this
      rw [es] at this
      have q1 : nI s &&& nI s = nI s := by apply b_ext; intro i _; rw [b_and, Bool.and_self]
      have q2 : nI s &&& nsI σ m = 0 := by
        rw [← es]
        apply b_ext
        intro i hi
        rw [b_and, b_0]; exact so_ns σ m i hi
      rw [decide_eq_true q1, decide_eq_true q2] at this
      cases this
  · rw [decide_eq_false (fun z => hd (h1.mp z)), decide_eq_false hd]; rfl
/-! one line more or less -/
theorem ir_flip {σ : ST} (hok : Ok σ) {ir : Nat → Int32} {rp : Int32} (hir : ∀ l, l < sN σ → ir l = b2 (bit rp (nI l))) {q : Nat} (hq : q < sN σ) {b : Bool} (hb : b = !bit rp (nI q)) : ∀ l, l < sN σ → upd ir q (b2 b) l = b2 (bit (rp ^^^ nI (2 ^ q)) (nI l)) := by
  intro l hl
  have hn := hok.n
  rw [bit_flip _ (by omega) (by omega)]
  by_cases h : l = q
  · subst h; rw [pk_us, hb, decide_eq_true rfl]; cases bit rp (nI l) <;> rfl
  · rw [pk_un h, hir l hl, decide_eq_false h]; cases bit rp (nI l) <;> rfl
theorem flip2 (rp : Int32) (q : Nat) : (rp ^^^ nI (2 ^ q)) ^^^ nI (2 ^ q) = rp := by
  apply b_ext; intro i hi; rw [b_xor, b_xor]; cases bt rp i <;> cases bt (nI (2 ^ q)) i <;> rfl
/-! the reference's game -/
def stR (tw : Nat) (s : Nat × Nat × Nat) (z : Nat → Int32) : Prop := z 0 = nI s.1 ∧ z 1 = nI s.2.1 ∧ z 2 = nI s.2.2 ∧ z 3 = gwin tw s.1 s.2.1
theorem gwin_n {tw pa pb : Nat} : (gwin tw pa pb < 0) ↔ ¬ (tw ≤ pa ∨ tw ≤ pb) := by
  unfold gwin
  by_cases h1 : tw ≤ pa
  · rw [if_pos h1]; exact ⟨fun h => absurd h (by decide), fun h => absurd (Or.inl h1) h⟩
  · rw [if_neg h1]
    by_cases h2 : tw ≤ pb
    · rw [if_pos h2]; exact ⟨fun h => absurd h (by decide), fun h => absurd (Or.inr h2) h⟩
    · rw [if_neg h2]; exact ⟨fun _ h => h.elim h1 h2, fun _ => by decide⟩
def plE (z : Nat → Int32) (t : Nat) (r : Int32) : Nat → Int32 := upd (upd (upd z t (z t + if r = 1 then 1 else 0)) (1 - t) (upd z t (z t + if r = 1 then 1 else 0) (1 - t) + if r = 3 then 1 else 0)) 2 (if r = 2 ∨ r = 3 then nI (1 - t) else nI t)
theorem plE_eq {tw : Nat} {s : Nat × Nat × Nat} {z : Nat → Int32} {r : Int32} (hz : stR tw s z) (ht : s.2.2 < 2) (hw : ¬ (tw ≤ s.1 ∨ tw ≤ s.2.1)) : plE z s.2.2 r 0 = nI (gst tw s r).1 ∧ plE z s.2.2 r 1 = nI (gst tw s r).2.1 ∧ plE z s.2.2 r 2 = nI (gst tw s r).2.2 := by
  obtain ⟨a, b, t⟩ := s
  obtain ⟨z0, z1, z2, z3⟩ := hz
  simp only at ht hw z0 z1 z2
  have h31 : ¬ (3 : Int32) = 1 := by decide
  have h21 : ¬ (2 : Int32) = 1 := by decide
  have h23 : ¬ (2 : Int32) = 3 := by decide
  have h13 : ¬ (1 : Int32) = 3 := by decide
  have h12 : ¬ (1 : Int32) = 2 := by decide
  have h32 : ¬ (3 : Int32) = 2 := by decide
  have z00 : ∀ x : Nat, nI x + 0 = nI x := fun x => by rw [show (0 : Int32) = nI 0 from rfl, nI_add]; rfl
  by_cases r1 : r = 1
  · subst r1
    rw [gst_1 hw]
    rcases (show t = 0 ∨ t = 1 by omega) with rfl | rfl <;> simp [plE, upd, z0, z1, h13, h12, nI_1, z00]
  · by_cases r3 : r = 3
    · subst r3
      rw [gst_3 hw]
      rcases (show t = 0 ∨ t = 1 by omega) with rfl | rfl <;> simp [plE, upd, z0, z1, h31, h32, nI_1, z00]
    · by_cases r2 : r = 2
      · subst r2
        rw [gst_2 hw]
        rcases (show t = 0 ∨ t = 1 by omega) with rfl | rfl <;> simp [plE, upd, z0, z1, h21, h23, nI_1, z00]
      · rw [gst_n hw r1 r3 r2]
        rcases (show t = 0 ∨ t = 1 by omega) with rfl | rfl <;> simp [plE, upd, z0, z1, r1, r2, r3, nI_1, z00]
def pkI (tw : Nat) (s : Nat × Nat × Nat) : Int32 := (((nI s.1 * nI 32 + nI s.2.1) * nI 2 + nI s.2.2) * nI 8 + gwin tw s.1 s.2.1) + nI 6
theorem gw6 (tw a b : Nat) : ∃ w, w < 8 ∧ gwin tw a b + nI 6 = nI w := by
  unfold gwin
  split
  · exact ⟨6, by decide, by decide⟩
  · split
    · exact ⟨7, by decide, by decide⟩
    · exact ⟨0, by decide, by decide⟩
theorem pk_inj {tw : Nat} {s t : Nat × Nat × Nat} (hs : s.1 ≤ 31 ∧ s.2.1 ≤ 31 ∧ s.2.2 < 2) (ht : t.1 ≤ 31 ∧ t.2.1 ≤ 31 ∧ t.2.2 < 2) : pkI tw s = pkI tw t ↔ s = t := by
  obtain ⟨a, b, c⟩ := s
  obtain ⟨d, e, f⟩ := t
  simp only at hs ht
  refine ⟨fun h => ?_, fun h => by rw [h]⟩
  obtain ⟨w, hw, ew⟩ := gw6 tw a b
  obtain ⟨v, hv, ev⟩ := gw6 tw d e
  simp only [pkI] at h
  rw [Int32.add_assoc, Int32.add_assoc, ew, ev] at h
  simp only [pk_mul, nI_add] at h
  have h2 := (nI_eq (by omega) (by omega)).mp h
  have : a = d ∧ b = e ∧ c = f := by omega
  rw [this.1, this.2.1, this.2.2]
