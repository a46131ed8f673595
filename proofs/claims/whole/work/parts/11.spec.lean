/-! my spec: the state of the court as one value, and what each answer is -/
section XL
variable {p : Program} {l : Launch} {e : Env} {R : Room} {s : State} {m : MethodId} {args : Array Value} {below : List Frame} {meth : Method} {c : Code} {H : Heap} {locs : List Loc} {cells slots : Nat} {Q : State → Prop}
variable {pc : Nat} {rest : List Value} {D : va_G} {A0 : Nat → Prop} {H0 : Heap}
theorem wloop {α : Type} (μ : α → Nat) (lv : α → List (Nat × Value)) (I : α → Prop) (nL : Nat)
    (step : ∀ a : α, I a → (∀ b : α, I b → μ b < μ a → ∀ ls : Array Slot, lv_has ls nL (lv b) → W p l e R s m args below meth c H locs cells slots Q (F0 m pc ls rest)) → ∀ ls : Array Slot, lv_has ls nL (lv a) → W p l e R s m args below meth c H locs cells slots Q (F0 m pc ls rest))
    (a0 : α) (h0 : I a0) (ls0 : Array Slot) (hl0 : lv_has ls0 nL (lv a0)) : W p l e R s m args below meth c H locs cells slots Q (F0 m pc ls0 rest) := by
  have key : ∀ (n : Nat) (a : α), μ a < n → I a → ∀ ls : Array Slot, lv_has ls nL (lv a) → W p l e R s m args below meth c H locs cells slots Q (F0 m pc ls rest) := by
    intro n
    induction n with
    | zero => intro a h; exact absurd h (Nat.not_lt_zero _)
    | succ n ih => intro a h hi ls hl; exact step a hi (fun b hb hlt ls hl => ih b (by omega) hb ls hl) ls hl
  exact key (μ a0 + 1) a0 (Nat.lt_succ_self _) h0 ls0 hl0
theorem wloopW {α : Type} (μ : α → Nat) (w : α → va_W) (lv : α → List (Nat × Value)) (I : α → Prop) (nL : Nat)
    (step : ∀ a : α, I a → (∀ b : α, I b → μ b < μ a → ∀ (H : Heap) (locs : List Loc), va_P D vwCl (w b) H → va_D A0 (w b) → va_S A0 H0 H locs → ∀ ls : Array Slot, lv_has ls nL (lv b) → W p l e R s m args below meth c H locs cells slots Q (F0 m pc ls rest)) → ∀ (H : Heap) (locs : List Loc), va_P D vwCl (w a) H → va_D A0 (w a) → va_S A0 H0 H locs → ∀ ls : Array Slot, lv_has ls nL (lv a) → W p l e R s m args below meth c H locs cells slots Q (F0 m pc ls rest))
    (a0 : α) (h0 : I a0) (hP : va_P D vwCl (w a0) H) (hD : va_D A0 (w a0)) (hS : va_S A0 H0 H locs) (ls0 : Array Slot) (hl0 : lv_has ls0 nL (lv a0)) : W p l e R s m args below meth c H locs cells slots Q (F0 m pc ls0 rest) := by
  have key : ∀ (n : Nat) (a : α), μ a < n → I a → ∀ (H : Heap) (locs : List Loc), va_P D vwCl (w a) H → va_D A0 (w a) → va_S A0 H0 H locs → ∀ ls : Array Slot, lv_has ls nL (lv a) → W p l e R s m args below meth c H locs cells slots Q (F0 m pc ls rest) := by
    intro n
    induction n with
    | zero => intro a h; exact absurd h (Nat.not_lt_zero _)
    | succ n ih => intro a h hi H locs hP hD hS ls hl; exact step a hi (fun b hb hlt H locs hP hD hS ls hl => ih b (by omega) hb H locs hP hD hS ls hl) H locs hP hD hS ls hl
  exact key (μ a0 + 1) a0 (Nat.lt_succ_self _) h0 H locs hP hD hS ls0 hl0
theorem wjoin {pcJ : Nat} {lv : List (Nat × Value)} {nL : Nat} {st st0 : List Value} {ls0 : Array Slot} (k : ∀ ls : Array Slot, lv_has ls nL lv → W p l e R s m args below meth c H locs cells slots Q (F0 m pcJ ls st))
    (main : (∀ ls : Array Slot, lv_has ls nL lv → W p l e R s m args below meth c H locs cells slots Q (F0 m pcJ ls st)) → W p l e R s m args below meth c H locs cells slots Q (F0 m pc ls0 st0)) : W p l e R s m args below meth c H locs cells slots Q (F0 m pc ls0 st0) := main k
end XL
def b2 (b : Bool) : Int32 := if b then 1 else 0
theorem b2_0 {b : Bool} (h : b2 b = 0) : b = false := by cases b; rfl; exact absurd h (by decide)
theorem b2_1 {b : Bool} (h : ¬ b2 b = 0) : b = true := by cases b; exact absurd rfl h; rfl
theorem nab2 (b : Bool) : narrow .boolean (.int (b2 b)) = .int (b2 b) := by cases b <;> rfl
theorem nar_b2 (b : Bool) : vp_nar .boolean (b2 b) = b2 b := by cases b <;> rfl
theorem b2_t {b : Bool} (h : b = true) : (1 : Int32) = b2 b := by rw [h]; rfl
theorem b2_f {b : Bool} (h : b = false) : (0 : Int32) = b2 b := by rw [h]; rfl
theorem b2_inj {a b : Bool} : b2 a = b2 b ↔ a = b := by cases a <;> cases b <;> decide
theorem nf {b : Bool} (h : ¬ b = true) : b = false := by cases b; rfl; exact absurd rfl h
theorem nt {b : Bool} (h : ¬ b = false) : b = true := by cases b; exact absurd rfl h; rfl
theorem nI_n (n : Nat) : (OfNat.ofNat n : Int32) = nI n := rfl
abbrev ST : Type := Nat × Nat × Nat × Nat × Nat × Int32 × (Nat → Int32) × (Nat → Int32) × (Nat → Int32) × (Nat → Int32) × (Nat → Int32) × (Nat → Int32) × (Nat → Int32) × (Nat → Int32) × (Nat → Int32) × (Nat → Int32) × (Nat → Int32)
def mkS (f n mc cc g : Nat) (rp : Int32) (b mu mn ru er ts tn rd ck cr cn : Nat → Int32) : ST := (f, n, mc, cc, g, rp, b, mu, mn, ru, er, ts, tn, rd, ck, cr, cn)
def sF (σ : ST) : Nat := σ.1
def sN (σ : ST) : Nat := σ.2.1
def sM (σ : ST) : Nat := σ.2.2.1
def sC (σ : ST) : Nat := σ.2.2.2.1
def sG (σ : ST) : Nat := σ.2.2.2.2.1
def sR (σ : ST) : Int32 := σ.2.2.2.2.2.1
def rB (σ : ST) : Nat → Int32 := σ.2.2.2.2.2.2.1
def rMu (σ : ST) : Nat → Int32 := σ.2.2.2.2.2.2.2.1
def rMn (σ : ST) : Nat → Int32 := σ.2.2.2.2.2.2.2.2.1
def rRu (σ : ST) : Nat → Int32 := σ.2.2.2.2.2.2.2.2.2.1
def rEr (σ : ST) : Nat → Int32 := σ.2.2.2.2.2.2.2.2.2.2.1
def rTs (σ : ST) : Nat → Int32 := σ.2.2.2.2.2.2.2.2.2.2.2.1
def rTn (σ : ST) : Nat → Int32 := σ.2.2.2.2.2.2.2.2.2.2.2.2.1
def rRd (σ : ST) : Nat → Int32 := σ.2.2.2.2.2.2.2.2.2.2.2.2.2.1
def rCk (σ : ST) : Nat → Int32 := σ.2.2.2.2.2.2.2.2.2.2.2.2.2.2.1
def rCr (σ : ST) : Nat → Int32 := σ.2.2.2.2.2.2.2.2.2.2.2.2.2.2.2.1
def rCn (σ : ST) : Nat → Int32 := σ.2.2.2.2.2.2.2.2.2.2.2.2.2.2.2.2
/-- is the bit y of x set, as Java's (x >> y & 1) != 0 -/
def bit (x y : Int32) : Bool := !decide ((x >>> (y &&& 31)) &&& 1 = 0)
def Ok (σ : ST) : Prop := (1 ≤ sF σ ∧ sF σ ≤ 7 ∧ sN σ ≤ 12 ∧ sM σ ≤ 30 ∧ sC σ ≤ 12 ∧ 1 ≤ sG σ ∧ sG σ ≤ 20) ∧
  (∀ l, l < sN σ → (∃ r, r < 5 ∧ rRu σ l = nI r) ∧ (∃ a, a < 2 ^ sF σ ∧ rMu σ l = nI a) ∧ (∃ a, a < 2 ^ sF σ ∧ rMn σ l = nI a) ∧ ∃ a, a < 4096 ∧ rEr σ l = nI a) ∧
  (∀ m, m < 3 * sM σ → (∃ a, a < 2 ^ sF σ ∧ rTs σ m = nI a) ∧ ∃ a, a < 2 ^ sF σ ∧ rTn σ m = nI a) ∧
  (∀ m, m < sM σ → rRd σ m = -1 ∨ ∃ r, r < 5 ∧ rRd σ m = nI r) ∧
  (∀ k, k < sC σ → (∃ a, a < 2 ^ sF σ ∧ rCk σ k = nI a) ∧ ∃ a, a < 2 ^ sF σ ∧ rCn σ k = nI a) ∧
  ∀ l, sN σ ≤ l → l < 12 → bit (sR σ) (nI l) = false
theorem p27 {f : Nat} (h : f ≤ 7) : 2 ^ f ≤ 128 := Nat.pow_le_pow_right (by decide) h
theorem Ok.k {σ : ST} (h : Ok σ) : 2 ^ sF σ ≤ 128 := p27 h.1.2.1
theorem Ok.n {σ : ST} (h : Ok σ) : sN σ ≤ 12 := h.1.2.2.1
theorem Ok.m {σ : ST} (h : Ok σ) : sM σ ≤ 30 := h.1.2.2.2.1
theorem Ok.c {σ : ST} (h : Ok σ) : sC σ ≤ 12 := h.1.2.2.2.2.1
/-! bits -/
def bt (x : Int32) (i : Nat) : Bool := x.toBitVec.getLsbD i
theorem b_ext {x y : Int32} (h : ∀ i, i < 32 → bt x i = bt y i) : x = y := Int32.toBitVec_inj.mp (BitVec.eq_of_getLsbD_eq fun i hi => h i hi)
theorem b_or (x y : Int32) (i : Nat) : bt (x ||| y) i = (bt x i || bt y i) := by simp [bt]
theorem b_and (x y : Int32) (i : Nat) : bt (x &&& y) i = (bt x i && bt y i) := by simp [bt]
theorem b_xor (x y : Int32) (i : Nat) : bt (x ^^^ y) i = (bt x i ^^ bt y i) := by simp [bt]
theorem b_m1 : ∀ i, i < 32 → bt (-1) i = true := by decide +kernel
theorem b_0 (i : Nat) : bt 0 i = false := by simp [bt]
theorem b_nI (n : Nat) {i : Nat} (hi : i < 32) : bt (nI n) i = n.testBit i := by
  show (BitVec.ofNat 32 n).getLsbD i = _
  rw [BitVec.getLsbD_ofNat]; simp [hi]
theorem and1 (x : Int32) : x &&& 1 = 0 ∨ x &&& 1 = 1 := by
  have h : x &&& 1 = nI (x.toBitVec.toNat % 2 ^ 1) := pk_and x 1 (by decide)
  rcases Nat.mod_two_eq_zero_or_one x.toBitVec.toNat with q | q
  · left; rw [h, show (2 : Nat) ^ 1 = 2 from rfl, q]; rfl
  · right; rw [h, show (2 : Nat) ^ 1 = 2 from rfl, q]; rfl
theorem hb_1 (x y : Int32) : ((x >>> (y &&& 31)) &&& 1 = 1) ↔ bit x y = true := by
  unfold bit
  rcases and1 (x >>> (y &&& 31)) with q | q <;> rw [q] <;> decide
theorem hb_b2 (x y : Int32) : (x >>> (y &&& 31)) &&& 1 = b2 (bit x y) := by
  unfold bit
  rcases and1 (x >>> (y &&& 31)) with q | q <;> rw [q] <;> rfl
/-- k has all of m: two spellings -/
theorem an_iff (m k : Int32) : m &&& (k ^^^ (-1)) = 0 ↔ k &&& m = m := by
  constructor <;> intro h <;> apply b_ext <;> intro i hi <;> have h2 := congrArg (fun z => bt z i) h <;> simp only [b_and, b_xor, b_m1 i hi, b_0] at h2 ⊢ <;> cases hm : bt m i <;> cases hk : bt k i <;> simp_all
theorem or_0 (x : Int32) : x ||| 0 = x := by apply b_ext; intro i hi; simp [b_or, b_0]
theorem or_0' (x : Int32) : 0 ||| x = x := by apply b_ext; intro i hi; simp [b_or, b_0]
theorem and_c (x y : Int32) : x &&& y = y &&& x := by apply b_ext; intro i hi; simp [b_and, Bool.and_comm]
theorem shl1 : ∀ i, i < 31 → (1 : Int32) <<< (nI i &&& 31) = nI (2 ^ i) := by decide +kernel
/-! numbers in a range -/
def inN (x : Int32) (n : Nat) : Bool := !decide (x < 0) && !decide (nI n ≤ x)
def inI (x lo hi : Int32) : Bool := !decide (x < lo) && !decide (hi < x)
theorem inN_t {x : Int32} {n : Nat} (h : inN x n = true) (hn : n < 2 ^ 31) : ∃ k : Nat, k < n ∧ x = nI k := by
  simp only [inN, Bool.and_eq_true, Bool.not_eq_true', decide_eq_false_iff_not] at h
  rcases pk_ix x hn with q | q | q
  · exact absurd q h.1
  · exact absurd q h.2
  · exact q
theorem inN_nI {k n : Nat} (h : k < n) (hn : n < 2 ^ 31) : inN (nI k) n = true := by
  simp only [inN, Bool.and_eq_true, Bool.not_eq_true', decide_eq_false_iff_not]
  exact ⟨nI_pos (by omega), nI_ge h hn⟩
theorem inI_n (x : Int32) (n : Nat) (hn : n < 2 ^ 30) : inI x 0 (nI n - 1) = inN x n := by
  unfold inI inN
  congr 1
  congr 1
  apply decide_eq_decide.mpr
  have h1 : (nI n - 1).toInt = (n : Int) - 1 := by
    have := pk_sub_toInt (a := n) (b := 1) hn (by decide)
    exact this
  rw [Int32.lt_iff_toInt_lt, Int32.le_iff_toInt_le, h1, nI_toInt (by omega)]
  omega
/-! counting, the first, all -/
def allB (q : Nat → Bool) : Nat → Bool
  | 0 => true
  | n + 1 => allB q n && q n
def cnt (q : Nat → Bool) : Nat → Nat
  | 0 => 0
  | n + 1 => cnt q n + if q n then 1 else 0
def fst (q : Nat → Bool) : Nat → Nat
  | 0 => 0
  | n + 1 => if fst q n < n then fst q n else if q n then n else n + 1
theorem allB_t {q : Nat → Bool} : ∀ {n : Nat}, allB q n = true ↔ ∀ k, k < n → q k = true
  | 0 => by simp [allB]
  | n + 1 => by
    rw [allB, Bool.and_eq_true, allB_t]
    exact ⟨fun h k hk => (Nat.lt_succ_iff_lt_or_eq.mp hk).elim (h.1 k) (fun e => e ▸ h.2), fun h => ⟨fun k hk => h k (by omega), h n (by omega)⟩⟩
theorem allB_f {q : Nat → Bool} {n k : Nat} (h : k < n) (hq : q k = false) : allB q n = false := by
  apply nf
  rw [allB_t]
  exact fun z => by have := z k h; rw [hq] at this; cases this
theorem cnt_le (q : Nat → Bool) : ∀ n, cnt q n ≤ n
  | 0 => Nat.le_refl _
  | n + 1 => by have := cnt_le q n; rw [cnt]; split <;> omega
theorem cnt_y {q : Nat → Bool} {n : Nat} (h : q n = true) : nI (cnt q n) + 1 = nI (cnt q (n + 1)) := by rw [cnt, if_pos h, nI_1]
theorem cnt_n {q : Nat → Bool} {n : Nat} (h : q n = false) : cnt q n = cnt q (n + 1) := by rw [cnt, if_neg (by rw [h]; decide)]; rfl
theorem cnt_0 {q : Nat → Bool} : ∀ {n : Nat}, cnt q n = 0 ↔ ∀ k, k < n → q k = false
  | 0 => by simp [cnt]
  | n + 1 => by
    have h := cnt_0 (q := q) (n := n)
    rw [cnt]
    constructor
    · intro z k hk
      cases hq : q n
      · rcases Nat.lt_succ_iff_lt_or_eq.mp hk with a | a
        · exact h.mp (by rw [hq] at z; simpa using z) k a
        · rw [a]; exact hq
      · rw [hq] at z; simp at z
    · intro z
      rw [h.mpr (fun k hk => z k (by omega)), z n (by omega)]; rfl
theorem cnt_cong {q r : Nat → Bool} : ∀ {n : Nat}, (∀ k, k < n → q k = r k) → cnt q n = cnt r n
  | 0, _ => rfl
  | n + 1, h => by rw [cnt, cnt, cnt_cong (fun k hk => h k (by omega)), h n (by omega)]
theorem cnt_sub {q r : Nat → Bool} : ∀ {n : Nat}, (∀ k, k < n → q k = true → r k = true) → cnt q n = cnt r n → ∀ k, k < n → r k = true → q k = true
  | 0, _, _, _, hk, _ => absurd hk (Nat.not_lt_zero _)
  | n + 1, h, e, k, hk, hr => by
    have hle : ∀ m, (∀ k, k < m → q k = true → r k = true) → cnt q m ≤ cnt r m := by
      intro m
      induction m with
      | zero => intro _; exact Nat.le_refl _
      | succ m ih =>
        intro hm
        have h1 := ih (fun k hk => hm k (by omega))
        have h2 := hm m (by omega)
        rw [cnt, cnt]
        cases hq : q m <;> cases hr : r m <;> simp_all <;> omega
    have h1 := hle n (fun k hk => h k (by omega))
    have h2 := h n (by omega)
    rw [cnt, cnt] at e
    have e2 : cnt q n = cnt r n ∧ (q n = r n) := by
      cases hq : q n <;> cases hr : r n <;> simp_all <;> omega
    rcases Nat.lt_succ_iff_lt_or_eq.mp hk with a | a
    · exact cnt_sub (fun k hk => h k (by omega)) e2.1 k a hr
    · rw [a] at hr ⊢; rw [e2.2]; exact hr
theorem fst_le (q : Nat → Bool) : ∀ n, fst q n ≤ n
  | 0 => Nat.le_refl _
  | n + 1 => by rw [fst]; split; omega; split <;> omega
theorem fst_at {q : Nat → Bool} {i : Nat} (hi : q i = true) (hn : ∀ j, j < i → q j = false) : ∀ {n : Nat}, i < n → fst q n = i
  | 0, h => absurd h (Nat.not_lt_zero _)
  | n + 1, h => by
    rw [fst]
    rcases Nat.lt_succ_iff_lt_or_eq.mp h with a | a
    · rw [fst_at hi hn a, if_pos a]
    · subst a
      have : fst q i = i := by
        have hh : ∀ m, m ≤ i → fst q m = m := by
          intro m
          induction m with
          | zero => intro _; rfl
          | succ m ih => intro hm; rw [fst, ih (by omega), if_neg (Nat.lt_irrefl _), if_neg (by rw [hn m (by omega)]; decide)]
        exact hh i (Nat.le_refl _)
      rw [this, if_neg (Nat.lt_irrefl _), if_pos hi]
theorem fst_no {q : Nat → Bool} : ∀ {n : Nat}, (∀ j, j < n → q j = false) → fst q n = n
  | 0, _ => rfl
  | n + 1, h => by rw [fst, fst_no (fun j hj => h j (by omega)), if_neg (Nat.lt_irrefl _), if_neg (by rw [h n (by omega)]; decide)]
theorem fst_yes {q : Nat → Bool} : ∀ {n : Nat}, fst q n < n → q (fst q n) = true ∧ ∀ j, j < fst q n → q j = false
  | 0, h => absurd h (Nat.not_lt_zero _)
  | n + 1, h => by
    rw [fst] at h ⊢
    by_cases a : fst q n < n
    · rw [if_pos a]; exact fst_yes a
    · rw [if_neg a] at h ⊢
      by_cases b : q n = true
      · rw [if_pos b]
        refine ⟨b, fun j hj => ?_⟩
        apply nf
        intro z
        exact a (by
          have : ∀ m, m ≤ n → j < m → fst q m < m := by
            intro m
            induction m with
            | zero => intro _ h; exact absurd h (Nat.not_lt_zero _)
            | succ m ih =>
              intro hm hj2
              rw [fst]
              by_cases x : fst q m < m
              · rw [if_pos x]; omega
              · rw [if_neg x]
                rcases Nat.lt_succ_iff_lt_or_eq.mp hj2 with y | y
                · exact absurd (ih (by omega) y) x
                · rw [← y, if_pos z]; omega
          exact this n (Nat.le_refl _) hj)
      · rw [if_neg b] at h; omega
theorem fst_cong {q r : Nat → Bool} : ∀ {n : Nat}, (∀ k, k < n → q k = r k) → fst q n = fst r n
  | 0, _ => rfl
  | n + 1, h => by rw [fst, fst, fst_cong (fun k hk => h k (by omega)), h n (by omega)]
/-! kinds, lines, the law -/
def kbad (σ : ST) (k i : Nat) : Bool := bit (nI k) (nI i) && !decide (rB σ i &&& nI k = 0)
def kok (σ : ST) (k : Nat) : Bool := allB (fun i => !kbad σ k i) (sF σ)
def kin (σ : ST) (x : Int32) : Bool := inN x (2 ^ sF σ) && kok σ x.toNatClampNeg
def cnd (σ : ST) (rp : Int32) (k l : Nat) (h : Int32) : Bool := decide (nI k &&& rMu σ l = rMu σ l) && decide (nI k &&& rMn σ l = 0) && !bit rp (nI l) && decide (rEr σ l &&& h = 0)
def hdR (σ : ST) (rp : Int32) (k : Nat) : Nat → Int32
  | 0 => 0
  | j + 1 => if cnd σ rp k (sN σ - (j + 1)) (hdR σ rp k j) then hdR σ rp k j ||| nI (2 ^ (sN σ - (j + 1))) else hdR σ rp k j
def holdI (σ : ST) (rp : Int32) (k : Nat) : Int32 := hdR σ rp k (sN σ)
def orE (er : Nat → Int32) : Nat → Int32
  | 0 => 0
  | j + 1 => orE er j ||| er j
def givI (σ : ST) (rp : Int32) (k : Nat) : Int32 := holdI σ rp k &&& (orE (rEr σ) (sN σ) ^^^ (-1))
def lawN (σ : ST) (rp : Int32) (k : Nat) : Nat := fst (fun i => bit (givI σ rp k) (nI i)) (sN σ)
def lawI (σ : ST) (rp : Int32) (k : Nat) : Int32 := if lawN σ rp k < sN σ then nI (lawN σ rp k) else -6
def covB (σ : ST) (rp : Int32) (k : Nat) : Bool := decide (lawN σ rp k < sN σ)
def rulI (σ : ST) (rp : Int32) (k : Nat) : Int32 := if lawN σ rp k < sN σ then rRu σ (lawN σ rp k) else 0
theorem hd_y {σ : ST} {rp : Int32} {k q : Nat} (hq : q < sN σ) (h : cnd σ rp k q (hdR σ rp k (sN σ - (q + 1))) = true) : hdR σ rp k (sN σ - q) = hdR σ rp k (sN σ - (q + 1)) ||| nI (2 ^ q) := by
  have e : sN σ - q = (sN σ - (q + 1)) + 1 := by omega
  have e2 : sN σ - ((sN σ - (q + 1)) + 1) = q := by omega
  rw [e, hdR, e2, if_pos h]
theorem hd_n {σ : ST} {rp : Int32} {k q : Nat} (hq : q < sN σ) (h : cnd σ rp k q (hdR σ rp k (sN σ - (q + 1))) = false) : hdR σ rp k (sN σ - q) = hdR σ rp k (sN σ - (q + 1)) := by
  have e : sN σ - q = (sN σ - (q + 1)) + 1 := by omega
  have e2 : sN σ - ((sN σ - (q + 1)) + 1) = q := by omega
  rw [e, hdR, e2, if_neg (by rw [h]; decide)]
theorem lawI_at {σ : ST} {rp : Int32} {k i : Nat} (hi : i < sN σ) (h : bit (givI σ rp k) (nI i) = true) (hn : ∀ j, j < i → bit (givI σ rp k) (nI j) = false) : lawN σ rp k = i := fst_at h hn hi
theorem lawI_no {σ : ST} {rp : Int32} {k : Nat} (h : ∀ j, j < sN σ → bit (givI σ rp k) (nI j) = false) : lawN σ rp k = sN σ := fst_no h
theorem lawI_6 {σ : ST} {rp : Int32} {k : Nat} (hn : sN σ ≤ 12) : (lawI σ rp k = -6) ↔ covB σ rp k = false := by
  unfold lawI covB
  by_cases h : lawN σ rp k < sN σ
  · rw [if_pos h, decide_eq_true h]
    refine ⟨fun z => ?_, fun z => by cases z⟩
    have : ∀ a, a < 12 → ¬ nI a = -6 := by decide +kernel
    exact absurd z (this _ (by omega))
  · rw [if_neg h, decide_eq_false h]
    exact ⟨fun _ => rfl, fun _ => rfl⟩
/-! moments -/
def yesI (t : Nat → Int32) (m : Nat) : Int32 := (t (3 * m) ||| t (3 * m + 1)) ||| t (3 * m + 2)
def soI (σ : ST) (m : Nat) : Int32 := yesI (rTs σ) m &&& (yesI (rTn σ) m ^^^ (-1))
def nsI (σ : ST) (m : Nat) : Int32 := yesI (rTn σ) m &&& (yesI (rTs σ) m ^^^ (-1))
def mbB (σ : ST) (so ns : Int32) (k : Nat) : Bool := kok σ k && decide (nI k &&& so = so) && decide (nI k &&& ns = 0)
def cmb (σ : ST) (so ns : Int32) : Nat := cnt (mbB σ so ns) (2 ^ sF σ)
def mrB (σ : ST) (rp so ns r : Int32) (k : Nat) : Bool := mbB σ so ns k && decide (rulI σ rp k = r)
def cmr (σ : ST) (rp so ns r : Int32) : Nat := cnt (mrB σ rp so ns r) (2 ^ sF σ)
def rfaN (σ : ST) (rp so ns : Int32) : Nat := fst (fun r => decide (cmr σ rp so ns (nI r) = cmb σ so ns)) 5
def rfaI (σ : ST) (rp so ns : Int32) : Int32 := if rfaN σ rp so ns < 5 then nI (rfaN σ rp so ns) else 0
def bnB (σ : ST) (so ns : Int32) (k : Nat) : Bool := decide (so &&& (rCn σ k &&& rCk σ k) = rCn σ k &&& rCk σ k) && decide (ns &&& (rCn σ k &&& (rCk σ k ^^^ (-1))) = rCn σ k &&& (rCk σ k ^^^ (-1)))
def bnN (σ : ST) (so ns : Int32) : Nat := fst (bnB σ so ns) (sC σ)
def bnI (σ : ST) (so ns : Int32) : Int32 := if bnN σ so ns < sC σ then nI (bnN σ so ns) else -6
def verI (σ : ST) (rp : Int32) (m : Nat) : Int32 := if ¬ rRd σ m = -1 then rRd σ m else if cmb σ (soI σ m) (nsI σ m) = 0 then 0 else if bnN σ (soI σ m) (nsI σ m) < sC σ then rCr σ (bnN σ (soI σ m) (nsI σ m)) else rfaI σ rp (soI σ m) (nsI σ m)
theorem bnI_6 {σ : ST} {so ns : Int32} (hc : sC σ ≤ 12) : (bnI σ so ns = -6) ↔ ¬ bnN σ so ns < sC σ := by
  unfold bnI
  by_cases h : bnN σ so ns < sC σ
  · rw [if_pos h]
    have : ∀ a, a < 12 → ¬ nI a = -6 := by decide +kernel
    exact ⟨fun z => absurd z (this _ (by omega)), fun z => absurd h z⟩
  · rw [if_neg h]
    exact ⟨fun _ => h, fun _ => rfl⟩
