/-! new states, and what the writers need -/
theorem kin_nI {σ : ST} {k : Nat} (h : k < 2 ^ sF σ) (h2 : 2 ^ sF σ < 2 ^ 31) : kin σ (nI k) = kok σ k := by
  unfold kin
  rw [inN_nI h h2, nI_clamp (Nat.lt_trans h h2)]; rfl
def zf (w : Nat → Int32) (i : Nat) : Nat → Int32 := fun j => if j < i then 0 else w j
theorem zf_0 (w : Nat → Int32) : w = zf w 0 := by funext j; simp [zf]
theorem zf_up (w : Nat → Int32) (i : Nat) : upd (zf w i) i 0 = zf w (i + 1) := by
  funext j
  by_cases h : j = i
  · subst h; simp [zf, upd]
  · simp only [zf, upd, if_neg h]
    by_cases h2 : j < i
    · rw [if_pos h2, if_pos (by omega)]
    · rw [if_neg h2, if_neg (by omega)]
def bgS (σ : ST) (q : Nat) : ST := mkS q 0 0 0 (sG σ) 0 (zf (rB σ) 7) (rMu σ) (rMn σ) (rRu σ) (rEr σ) (rTs σ) (rTn σ) (rRd σ) (rCk σ) (rCr σ) (rCn σ)
theorem bit_00 : ∀ l, l < 12 → bit 0 (nI l) = false := by decide +kernel
theorem Ok_bg {σ : ST} {q : Nat} (hq : 1 ≤ q ∧ q ≤ 7) (hg : 1 ≤ sG σ ∧ sG σ ≤ 20) : Ok (bgS σ q) :=
  ⟨⟨hq.1, hq.2, Nat.zero_le _, Nat.zero_le _, Nat.zero_le _, hg.1, hg.2⟩, fun l hl => absurd hl (Nat.not_lt_zero _), fun m hm => absurd hm (Nat.not_lt_zero _), fun m hm => absurd hm (Nat.not_lt_zero _), fun m hm => absurd hm (Nat.not_lt_zero _), fun l _ hl => bit_00 l hl⟩
def barR (w : Nat → Int32) (a b : Nat) (is : Bool) : Nat → Int32 := if is = true then upd (upd w a (w a ||| nI (2 ^ b))) b (upd w a (w a ||| nI (2 ^ b)) b ||| nI (2 ^ a)) else upd (upd w a (w a &&& (nI (2 ^ b) ^^^ (-1)))) b (upd w a (w a &&& (nI (2 ^ b) ^^^ (-1))) b &&& (nI (2 ^ a) ^^^ (-1)))
def barS (σ : ST) (a b : Nat) (is : Bool) : ST := mkS (sF σ) (sN σ) (sM σ) (sC σ) (sG σ) (sR σ) (barR (rB σ) a b is) (rMu σ) (rMn σ) (rRu σ) (rEr σ) (rTs σ) (rTn σ) (rRd σ) (rCk σ) (rCr σ) (rCn σ)
theorem Ok_bar {σ : ST} (h : Ok σ) (a b : Nat) (is : Bool) : Ok (barS σ a b is) := h
def lnS (σ : ST) (so ns rr : Int32) : ST := mkS (sF σ) (sN σ + 1) (sM σ) (sC σ) (sG σ) (sR σ) (rB σ) (upd (rMu σ) (sN σ) so) (upd (rMn σ) (sN σ) ns) (upd (rRu σ) (sN σ) rr) (upd (rEr σ) (sN σ) 0) (rTs σ) (rTn σ) (rRd σ) (rCk σ) (rCr σ) (rCn σ)
theorem orE_out (er : Nat → Int32) (n : Nat) (x : Int32) : ∀ k, k ≤ n → orE (upd er n x) k = orE er k
  | 0, _ => rfl
  | k + 1, h => by rw [orE, orE, orE_out er n x k (by omega), pk_un (by omega)]
theorem orE_ln (σ : ST) (so ns rr : Int32) : orE (rEr (lnS σ so ns rr)) (sN (lnS σ so ns rr)) = orE (rEr σ) (sN σ) := by
  show orE (upd (rEr σ) (sN σ) 0) (sN σ + 1) = _
  rw [orE, orE_out _ _ _ _ (Nat.le_refl _), pk_us, or_0]
def exS (σ : ST) (j i : Nat) : ST := mkS (sF σ) (sN σ) (sM σ) (sC σ) (sG σ) (sR σ) (rB σ) (rMu σ) (rMn σ) (rRu σ) (upd (rEr σ) i (rEr σ i ||| nI (2 ^ j))) (rTs σ) (rTn σ) (rRd σ) (rCk σ) (rCr σ) (rCn σ)
theorem or_as (x y z : Int32) : (x ||| y) ||| z = x ||| (y ||| z) := by apply b_ext; intro i _; simp [b_or, Bool.or_assoc]
theorem or_cm (x y : Int32) : x ||| y = y ||| x := by apply b_ext; intro i _; simp [b_or, Bool.or_comm]
theorem orE_in (er : Nat → Int32) (i : Nat) (x : Int32) : ∀ n, i < n → orE (upd er i (er i ||| x)) n = orE er n ||| x
  | 0, h => absurd h (Nat.not_lt_zero _)
  | n + 1, h => by
    rw [orE, orE]
    by_cases e : i = n
    · subst e
      rw [orE_out _ _ _ _ (Nat.le_refl _), pk_us, or_as]
    · rw [orE_in er i x n (by omega), pk_un (by omega), or_as, or_as, or_cm x]
theorem orE_ex (σ : ST) (j : Nat) {i : Nat} (hi : i < sN σ) : orE (rEr (exS σ j i)) (sN (exS σ j i)) = orE (rEr σ) (sN σ) ||| nI (2 ^ j) := orE_in _ _ _ _ hi
def moS (σ : ST) : ST := mkS (sF σ) (sN σ) (sM σ + 1) (sC σ) (sG σ) (sR σ) (rB σ) (rMu σ) (rMn σ) (rRu σ) (rEr σ) (upd (upd (upd (rTs σ) (3 * sM σ + 0) 0) (3 * sM σ + 1) 0) (3 * sM σ + 2) 0) (upd (upd (upd (rTn σ) (3 * sM σ + 0) 0) (3 * sM σ + 1) 0) (3 * sM σ + 2) 0) (upd (rRd σ) (sM σ) (-1)) (rCk σ) (rCr σ) (rCn σ)
def teR (σ : ST) (a f : Nat) : Int32 := if bit (rTs σ a) (nI f) = true then 1 else if bit (rTn σ a) (nI f) = true then 0 else 2
def teS (σ : ST) (a f : Nat) (v : Int32) : ST := mkS (sF σ) (sN σ) (sM σ) (sC σ) (sG σ) (sR σ) (rB σ) (rMu σ) (rMn σ) (rRu σ) (rEr σ) (upd (rTs σ) a (if v = 1 then rTs σ a ||| nI (2 ^ f) else rTs σ a &&& (nI (2 ^ f) ^^^ (-1)))) (upd (rTn σ) a (if v = 0 then rTn σ a ||| nI (2 ^ f) else rTn σ a &&& (nI (2 ^ f) ^^^ (-1)))) (rRd σ) (rCk σ) (rCr σ) (rCn σ)
theorem upd2 (f : Nat → Int32) (i : Nat) (x y : Int32) : upd (upd f i x) i y = upd f i y := by
  funext k; by_cases h : k = i
  · subst h; simp [upd]
  · simp [upd, h]
theorem an_or (x b : Int32) : (x &&& (b ^^^ (-1))) ||| b = x ||| b := by apply b_ext; intro i hi; simp only [b_or, b_and, b_xor, b_m1 i hi]; cases bt x i <;> cases bt b i <;> rfl
theorem te_s1 (σ : ST) (a f : Nat) : upd (upd (rTs σ) a (rTs σ a &&& (nI (2 ^ f) ^^^ (-1)))) a (upd (rTs σ) a (rTs σ a &&& (nI (2 ^ f) ^^^ (-1))) a ||| nI (2 ^ f)) = rTs (teS σ a f 1) := by
  show _ = upd (rTs σ) a (if (1 : Int32) = 1 then _ else _)
  rw [upd2, pk_us, an_or, if_pos rfl]
theorem te_s0 (σ : ST) (a f : Nat) {v : Int32} (h : ¬ v = 1) : upd (rTs σ) a (rTs σ a &&& (nI (2 ^ f) ^^^ (-1))) = rTs (teS σ a f v) := by
  show _ = upd (rTs σ) a (if v = 1 then _ else _)
  rw [if_neg h]
theorem te_n1 (σ : ST) (a f : Nat) : upd (rTn σ) a (rTn σ a &&& (nI (2 ^ f) ^^^ (-1))) = rTn (teS σ a f 1) := by
  show _ = upd (rTn σ) a (if (1 : Int32) = 0 then _ else _)
  rw [if_neg (by decide)]
theorem te_nn (σ : ST) (a f : Nat) {v : Int32} (h : ¬ v = 0) : upd (rTn σ) a (rTn σ a &&& (nI (2 ^ f) ^^^ (-1))) = rTn (teS σ a f v) := by
  show _ = upd (rTn σ) a (if v = 0 then _ else _)
  rw [if_neg h]
theorem te_n0 (σ : ST) (a f : Nat) : upd (upd (rTn σ) a (rTn σ a &&& (nI (2 ^ f) ^^^ (-1)))) a (upd (rTn σ) a (rTn σ a &&& (nI (2 ^ f) ^^^ (-1))) a ||| nI (2 ^ f)) = rTn (teS σ a f 0) := by
  show _ = upd (rTn σ) a (if (0 : Int32) = 0 then _ else _)
  rw [upd2, pk_us, an_or, if_pos rfl]
def caS (σ : ST) (kk rr nn : Int32) : ST := mkS (sF σ) (sN σ) (sM σ) (sC σ + 1) (sG σ) (sR σ) (rB σ) (rMu σ) (rMn σ) (rRu σ) (rEr σ) (rTs σ) (rTn σ) (rRd σ) (upd (rCk σ) (sC σ) kk) (upd (rCr σ) (sC σ) rr) (upd (rCn σ) (sC σ) nn)
/-! the game -/
def gwin (tw pa pb : Nat) : Int32 := if tw ≤ pa then 0 else if tw ≤ pb then 1 else -6
theorem gwin_6 {tw pa pb : Nat} : gwin tw pa pb = -6 ↔ ¬ (tw ≤ pa ∨ tw ≤ pb) := by
  unfold gwin
  by_cases h1 : tw ≤ pa
  · rw [if_pos h1]; exact ⟨fun h => absurd h (by decide), fun h => absurd (Or.inl h1) h⟩
  · rw [if_neg h1]
    by_cases h2 : tw ≤ pb
    · rw [if_pos h2]; exact ⟨fun h => absurd h (by decide), fun h => absurd (Or.inr h2) h⟩
    · rw [if_neg h2]; exact ⟨fun _ h => h.elim h1 h2, fun _ => rfl⟩
def sameB (tw pa pb ps qw qa qb qs : Nat) : Bool := decide (pa = qa) && decide (pb = qb) && decide (ps = qs) && decide (gwin tw pa pb = gwin qw qa qb)
def gst (tw : Nat) (s : Nat × Nat × Nat) (r : Int32) : Nat × Nat × Nat := if tw ≤ s.1 ∨ tw ≤ s.2.1 then s else if r = 1 then (if s.2.2 = 0 then s.1 + 1 else s.1, if s.2.2 = 0 then s.2.1 else s.2.1 + 1, s.2.2) else if r = 3 then (if 1 - s.2.2 = 0 then s.1 + 1 else s.1, if 1 - s.2.2 = 0 then s.2.1 else s.2.1 + 1, 1 - s.2.2) else if r = 2 then (s.1, s.2.1, 1 - s.2.2) else s
theorem gst_w {tw pa pb ps : Nat} {r : Int32} (h : tw ≤ pa ∨ tw ≤ pb) : gst tw (pa, pb, ps) r = (pa, pb, ps) := if_pos h
theorem gst_1 {tw pa pb ps : Nat} (h : ¬ (tw ≤ pa ∨ tw ≤ pb)) : gst tw (pa, pb, ps) 1 = (if ps = 0 then pa + 1 else pa, if ps = 0 then pb else pb + 1, ps) := (if_neg h).trans (if_pos rfl)
theorem gst_3 {tw pa pb ps : Nat} (h : ¬ (tw ≤ pa ∨ tw ≤ pb)) : gst tw (pa, pb, ps) 3 = (if 1 - ps = 0 then pa + 1 else pa, if 1 - ps = 0 then pb else pb + 1, 1 - ps) := (if_neg h).trans ((if_neg (by decide)).trans (if_pos rfl))
theorem gst_2 {tw pa pb ps : Nat} (h : ¬ (tw ≤ pa ∨ tw ≤ pb)) : gst tw (pa, pb, ps) 2 = (pa, pb, 1 - ps) := (if_neg h).trans ((if_neg (by decide)).trans ((if_neg (by decide)).trans (if_pos rfl)))
theorem gst_n {tw pa pb ps : Nat} {r : Int32} (h : ¬ (tw ≤ pa ∨ tw ≤ pb)) (h1 : ¬ r = 1) (h3 : ¬ r = 3) (h2 : ¬ r = 2) : gst tw (pa, pb, ps) r = (pa, pb, ps) := (if_neg h).trans ((if_neg h1).trans ((if_neg h3).trans (if_neg h2)))
