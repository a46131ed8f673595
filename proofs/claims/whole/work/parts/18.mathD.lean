/-! the new states keep the bounds -/
theorem rng1 {a b : Nat} {x : Int32} (hab : a ≤ b ∧ b < 2 ^ 31) (h : inI x (nI a) (nI b) = true) : ∃ q : Nat, (a ≤ q ∧ q ≤ b) ∧ x = nI q := by
  simp only [inI, Bool.and_eq_true, Bool.not_eq_true', decide_eq_false_iff_not] at h
  have h1 : (a : Int) ≤ x.toInt := by
    have := h.1
    rw [Int32.lt_iff_toInt_lt, nI_toInt (by omega)] at this
    omega
  have h2 : x.toInt ≤ (b : Int) := by
    have := h.2
    rw [Int32.lt_iff_toInt_lt, nI_toInt (by omega)] at this
    omega
  have h3 : ¬ x < 0 := by
    rw [Int32.lt_iff_toInt_lt]
    have : (0 : Int32).toInt = 0 := rfl
    omega
  obtain ⟨q, hq, rfl⟩ := nI_of h3
  rw [nI_toInt hq] at h1 h2
  exact ⟨q, ⟨by omega, by omega⟩, rfl⟩
theorem ok_r {x : Int32} (h : inI x 0 4 = true) : ∃ r, r < 5 ∧ x = nI r := by
  obtain ⟨q, h1, h2⟩ := rng1 (a := 0) (b := 4) (by omega) h
  exact ⟨q, by omega, h2⟩
theorem Ok_ln {σ : ST} {so ns rr : Int32} (hok : Ok σ) (h1 : inN so (2 ^ sF σ) = true) (h2 : inN ns (2 ^ sF σ) = true) (h3 : inI rr 0 4 = true) (hn : sN σ < 12) : Ok (lnS σ so ns rr) := by
  have hk := hok.k
  obtain ⟨⟨a1, a2, a3, a4, a5, a6, a7⟩, b, c, d, e, f⟩ := hok
  refine ⟨⟨a1, a2, show sN σ + 1 ≤ 12 by omega, a4, a5, a6, a7⟩, fun l hl => ?_, c, d, e, fun l hl hl2 => f l (show sN σ ≤ l by have : sN σ + 1 ≤ l := hl; omega) hl2⟩
  show (∃ r, r < 5 ∧ upd (rRu σ) (sN σ) rr l = nI r) ∧ (∃ a, a < 2 ^ sF σ ∧ upd (rMu σ) (sN σ) so l = nI a) ∧ (∃ a, a < 2 ^ sF σ ∧ upd (rMn σ) (sN σ) ns l = nI a) ∧ ∃ a, a < 4096 ∧ upd (rEr σ) (sN σ) 0 l = nI a
  by_cases h : l = sN σ
  · subst h
    rw [pk_us, pk_us, pk_us, pk_us]
    exact ⟨ok_r h3, inN_t h1 (by omega), inN_t h2 (by omega), 0, by decide, rfl⟩
  · rw [pk_un h, pk_un h, pk_un h, pk_un h]
    exact b l (by have : l < sN σ + 1 := hl; omega)
theorem nI_or (a b : Nat) : nI a ||| nI b = nI (a ||| b) := by
  apply b_ext
  intro i hi
  rw [b_or, b_nI _ hi, b_nI _ hi, b_nI _ hi, Nat.testBit_or]
theorem Ok_ex {σ : ST} {j i : Nat} (hok : Ok σ) (hj : j < sN σ) (hi : i < sN σ) : Ok (exS σ j i) := by
  obtain ⟨a, b, c⟩ := hok
  refine ⟨a, fun l hl => ?_, c⟩
  obtain ⟨b1, b2, b3, b4⟩ := b l hl
  refine ⟨b1, b2, b3, ?_⟩
  show ∃ a, a < 4096 ∧ upd (rEr σ) i (rEr σ i ||| nI (2 ^ j)) l = nI a
  by_cases h : l = i
  · subst h
    rw [pk_us]
    obtain ⟨q, hq, e⟩ := b4
    rw [e, nI_or]
    refine ⟨_, ?_, rfl⟩
    have : j < 12 := by have := a.2.2.1; omega
    exact Nat.or_lt_two_pow (n := 12) hq (Nat.pow_lt_pow_right (by decide) this)
  · rw [pk_un h]; exact b4
theorem s_l : ∀ n, n < 32 → ((nI n &&& 31).toBitVec.smod 32).toNat = n := by decide +kernel
theorem b_sshr (n : Nat) (hn : n < 32) (x : Int32) {i : Nat} (hi : i < 32) : bt (x >>> (nI n &&& 31)) i = if n + i < 32 then bt x (n + i) else bt x 31 := by
  unfold bt
  rw [Int32.toBitVec_shiftRight]
  show (x.toBitVec.sshiftRight ((nI n &&& 31).toBitVec.smod 32).toNat).getLsbD i = _
  rw [s_l n hn, BitVec.getLsbD_sshiftRight, BitVec.msb_eq_getLsbD_last]
  simp [hi]
theorem bit_bt (x : Int32) {k : Nat} (hk : k < 31) : bit x (nI k) = bt x k := by
  have e : bt ((x >>> (nI k &&& 31)) &&& 1) 0 = bt x k := by
    rw [b_and, b_sshr k (by omega) x (by decide), if_pos (by omega), show bt 1 0 = true from by decide, Bool.and_true]; rfl
  unfold bit
  rcases and1 (x >>> (nI k &&& 31)) with q | q
  · rw [q, b_0] at e
    rw [q, ← e]; rfl
  · rw [q, show bt 1 0 = true from by decide] at e
    rw [q, ← e]; decide
theorem bt_2 : ∀ q, q < 31 → ∀ l, l < 31 → bt (nI (2 ^ q)) l = decide (l = q) := by
  intro q hq l hl
  rw [b_nI _ (by omega), Nat.testBit_two_pow]
  apply decide_eq_decide.mpr
  omega
theorem bit_flip (x : Int32) {q l : Nat} (hq : q < 31) (hl : l < 31) : bit (x ^^^ nI (2 ^ q)) (nI l) = (bit x (nI l) ^^ decide (l = q)) := by
  rw [bit_bt _ hl, bit_bt _ hl, b_xor, bt_2 q hq l hl]
theorem Ok_rp {σ : ST} {q : Nat} (hok : Ok σ) (hq : q < sN σ) : Ok (rpS σ (sR σ ^^^ nI (2 ^ q))) := by
  obtain ⟨a, b, c, d, e, f⟩ := hok
  refine ⟨a, b, c, d, e, fun l hl hl2 => ?_⟩
  have hl : sN σ ≤ l := hl
  have hn := a.2.2.1
  show bit (sR σ ^^^ nI (2 ^ q)) (nI l) = false
  rw [bit_flip _ (by omega) (by omega), f l hl hl2, decide_eq_false (by omega)]; rfl
def jU (x k : Int32) : Int32 := (x.toUInt32 >>> (k.toUInt32 &&& Int32.toUInt32 31)).toInt32
def j1 (x : Int32) : Int32 := x - (jU x 1 &&& 1431655765)
def j2 (x : Int32) : Int32 := (x &&& 858993459) + (jU x 2 &&& 858993459)
def j3 (x : Int32) : Int32 := (x + jU x 4) &&& 252645135
def j4 (x : Int32) : Int32 := x + jU x 8
def j5 (x : Int32) : Int32 := x + jU x 16
def bcJ (x : Int32) : Int32 := j5 (j4 (j3 (j2 (j1 x)))) &&& 63
theorem bcJ_64 : ∀ h, h < 64 → ∀ k, k < 64 → bcJ (nI (64 * h + k)) = bcI (nI (64 * h + k)) 12 := by decide +kernel
theorem bcJ_all (a : Nat) (ha : a < 4096) : bcJ (nI a) = bcI (nI a) 12 := by
  have h := bcJ_64 (a / 64) (by omega) (a % 64) (by omega)
  rw [Nat.div_add_mod] at h
  exact h
theorem bcJ_I {σ : ST} {i : Nat} (hok : Ok σ) (hi : i < sN σ) : bcJ (rEr σ i) = bcI (rEr σ i) 12 := by
  obtain ⟨a, ha, e⟩ := (hok.2.1 i hi).2.2.2
  rw [e]; exact bcJ_all a ha
