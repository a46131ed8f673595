/-! what the loops need -/
theorem m1_f {q : Nat} (h : ¬ nI q - 1 < 0) : 0 < q := by
  rcases Nat.eq_zero_or_pos q with e | e
  · subst e; exact absurd (by decide) h
  · exact e
theorem m1_t {q : Nat} (hq : q < 2 ^ 30) (h : nI q - 1 < 0) : q = 0 := by
  rcases Nat.eq_zero_or_pos q with e | e
  · exact e
  · obtain ⟨j, rfl⟩ : ∃ j, q = j + 1 := ⟨q - 1, by omega⟩
    rw [nI_pred] at h
    exact absurd h (nI_pos (by omega))
theorem dec1 (x : Int32) : x + Int32.ofInt (-1) = x - 1 := by rw [Int32.sub_eq_add_neg]; rfl
def nmR (σ : ST) (rp : Int32) (q : Nat) : Nat → Int32 × Int32
  | 0 => (0, nI (2 ^ q))
  | j + 1 => if bit (nmR σ rp q j).2 (nI (q + j)) then ((nmR σ rp q j).1 ||| (rMu σ (q + j) ||| rMn σ (q + j)), (nmR σ rp q j).2 ||| (rEr σ (q + j) &&& (rp ^^^ (-1)))) else nmR σ rp q j
def nmI (σ : ST) (rp : Int32) (q : Nat) : Int32 := (nmR σ rp q (sN σ - q)).1
theorem nmR_y {σ : ST} {rp : Int32} {q j : Nat} (h : bit (nmR σ rp q j).2 (nI (q + j)) = true) : nmR σ rp q (j + 1) = ((nmR σ rp q j).1 ||| (rMu σ (q + j) ||| rMn σ (q + j)), (nmR σ rp q j).2 ||| (rEr σ (q + j) &&& (rp ^^^ (-1)))) := by rw [nmR, if_pos h]
theorem nmR_n {σ : ST} {rp : Int32} {q j : Nat} (h : bit (nmR σ rp q j).2 (nI (q + j)) = false) : nmR σ rp q (j + 1) = nmR σ rp q j := by rw [nmR, if_neg (by rw [h]; decide)]
def difB (σ : ST) (rp rq : Int32) (k : Nat) : Bool := !decide (rulI σ rp k = rulI σ rq k) || !decide (covB σ rp k = covB σ rq k)
theorem rulI_5 {σ : ST} (hok : Ok σ) (rp : Int32) (k : Nat) : ∃ r, r < 5 ∧ rulI σ rp k = nI r := by
  unfold rulI
  by_cases h : lawN σ rp k < sN σ
  · rw [if_pos h]; exact (hok.2.1 _ h).1
  · rw [if_neg h]; exact ⟨0, by decide, rfl⟩
theorem n5 : ∀ r, r < 5 → ¬ nI r = -1 := by decide +kernel
theorem n5i {a b : Nat} (ha : a < 5) (bit : b < 5) (h : nI a = nI b) : a = b := (nI_eq (by omega) (by omega)).mp h
def rfV (σ : ST) (rp so ns : Int32) (k : Nat) (x : Int32) : Prop := (x = -1 ∧ ∀ j, j < k → mbB σ so ns j = false) ∨ (∃ r, r < 5 ∧ x = nI r ∧ (∀ j, j < k → mbB σ so ns j = true → rulI σ rp j = nI r) ∧ ∃ j, j < k ∧ mbB σ so ns j = true)
theorem rfa_skip {σ : ST} {rp so ns x : Int32} {k : Nat} (hv : rfV σ rp so ns k x) (h : mbB σ so ns k = false) : rfV σ rp so ns (k + 1) x := by
  rcases hv with ⟨a, b⟩ | ⟨r, a, b, c, j, d, e⟩
  · exact Or.inl ⟨a, lt_s b h⟩
  · refine Or.inr ⟨r, a, b, lt_s c (fun z => by rw [h] at z; cases z), j, by omega, e⟩
theorem rfa_step {σ : ST} {rp so ns x : Int32} {k : Nat} (hok : Ok σ) (_ : k < 2 ^ sF σ) (hv : rfV σ rp so ns k x) (h : mbB σ so ns k = true) (hx : x = -1 ∨ x = rulI σ rp k) : rfV σ rp so ns (k + 1) (rulI σ rp k) := by
  obtain ⟨r0, h0, e0⟩ := rulI_5 hok rp k
  rcases hv with ⟨a, b⟩ | ⟨r, a, b, c, j, d, e⟩
  · exact Or.inr ⟨r0, h0, e0, lt_s (fun j hj z => by rw [b j hj] at z; cases z) (fun _ => e0), k, by omega, h⟩
  · rcases hx with q | q
    · exact absurd (b.symm.trans q) (n5 r a)
    · exact Or.inr ⟨r, a, q.symm.trans b, lt_s c (fun _ => q.symm.trans b), k, by omega, h⟩
theorem rfa_all {σ : ST} {rp so ns : Int32} {r : Nat} (h : decide (cmr σ rp so ns (nI r) = cmb σ so ns) = true) : ∀ j, j < 2 ^ sF σ → mbB σ so ns j = true → rulI σ rp j = nI r := by
  intro j hj hm
  have := cnt_sub (q := mrB σ rp so ns (nI r)) (r := mbB σ so ns) (n := 2 ^ sF σ) (fun k _ hq => by simp only [mrB, Bool.and_eq_true] at hq; exact hq.1) (of_decide_eq_true h) j hj hm
  simp only [mrB, Bool.and_eq_true, decide_eq_true_eq] at this
  exact this.2
theorem rfa_two {σ : ST} {rp so ns x : Int32} {k : Nat} (hk : k < 2 ^ sF σ) (hv : rfV σ rp so ns k x) (h : mbB σ so ns k = true) (h1 : ¬ x = -1) (h2 : ¬ x = rulI σ rp k) : rfaI σ rp so ns = 0 := by
  rcases hv with ⟨a, b⟩ | ⟨r, a, b, c, j, d, e⟩
  · exact absurd a h1
  · unfold rfaI rfaN
    rw [fst_no, if_neg (by decide)]
    intro r' _
    apply nf
    intro z
    have z1 := rfa_all z j (by omega) e
    have z2 := rfa_all z k hk h
    exact h2 (b.trans ((c j d e).symm.trans (z1.trans z2.symm)))
theorem rfa_none {σ : ST} {rp so ns x : Int32} {k : Nat} (hk : k = 2 ^ sF σ) (hv : rfV σ rp so ns k x) (h1 : x = -1) : rfaI σ rp so ns = 0 := by
  rcases hv with ⟨a, b⟩ | ⟨r, a, b, c, j, d, e⟩
  · subst hk
    have z1 : cmb σ so ns = 0 := cnt_0.mpr b
    have z2 : cmr σ rp so ns (nI 0) = 0 := cnt_0.mpr (fun j hj => by simp [mrB, b j hj])
    unfold rfaI rfaN
    rw [fst_at (i := 0) (by rw [z1, z2]; rfl) (fun j hj => absurd hj (Nat.not_lt_zero _)) (by decide)]
    rfl
  · exact absurd (b.symm.trans h1) (n5 r a)
theorem rfa_one {σ : ST} {rp so ns x : Int32} {k : Nat} (hk : k = 2 ^ sF σ) (hv : rfV σ rp so ns k x) (h1 : ¬ x = -1) : rfaI σ rp so ns = x := by
  rcases hv with ⟨a, b⟩ | ⟨r, a, b, c, j, d, e⟩
  · exact absurd a h1
  · subst hk
    unfold rfaI rfaN
    have z1 : decide (cmr σ rp so ns (nI r) = cmb σ so ns) = true := decide_eq_true (cnt_cong (fun k hk => by
      cases hm : mbB σ so ns k
      · simp [mrB, hm]
      · simp [mrB, hm, c k hk hm]))
    rw [fst_at (i := r) z1 (fun r' hr' => nf (fun z => by
      have z3 := rfa_all z j d e
      have := n5i (by omega) a (z3.symm.trans (c j d e))
      omega)) a, if_pos a, b]
