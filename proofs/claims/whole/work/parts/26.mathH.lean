/-! what stays from call to call -/
theorem hd_eq {σ τ : ST} {rp : Int32} {k : Nat} (h0 : sN τ = sN σ) (h1 : rMu τ = rMu σ) (h2 : rMn τ = rMn σ) (h3 : rEr τ = rEr σ) : ∀ j, hdR τ rp k j = hdR σ rp k j
  | 0 => rfl
  | j + 1 => by
    show (if cnd τ rp k (sN τ - (j + 1)) (hdR τ rp k j) then hdR τ rp k j ||| nI (2 ^ (sN τ - (j + 1))) else hdR τ rp k j) = (if cnd σ rp k (sN σ - (j + 1)) (hdR σ rp k j) then hdR σ rp k j ||| nI (2 ^ (sN σ - (j + 1))) else hdR σ rp k j)
    unfold cnd
    rw [hd_eq h0 h1 h2 h3 j, h0, h1, h2, h3]
theorem law_eq {σ τ : ST} (h0 : sN τ = sN σ) (h1 : rMu τ = rMu σ) (h2 : rMn τ = rMn σ) (h3 : rEr τ = rEr σ) (rp : Int32) (k : Nat) : lawI τ rp k = lawI σ rp k := by
  unfold lawI lawN givI holdI
  rw [hd_eq h0 h1 h2 h3, h3, h0]
theorem kok_eq {σ τ : ST} (hF : sF τ = sF σ) (hB : rB τ = rB σ) (k : Nat) : kok τ k = kok σ k := by
  unfold kok kbad
  rw [hF, hB]
def KI (σ : ST) (kI : Nat → Int32) : Prop := ∀ k, k < 2 ^ sF σ → kI k = b2 (kok σ k)
def LO (σ : ST) (lo : Nat → Int32) : Prop := ∀ k, k < 2 ^ sF σ → lo k = lawI σ (sR σ) k
def IR (σ : ST) (ir : Nat → Int32) : Prop := ∀ l, l < sN σ → ir l = b2 (bit (sR σ) (nI l))
theorem KI.keep {σ τ : ST} {kI : Nat → Int32} (hF : sF τ = sF σ) (hB : rB τ = rB σ) (h : KI σ kI) : KI τ kI := fun k hk => by rw [kok_eq hF hB]; exact h k (by rw [← hF]; exact hk)
theorem LO.keep {σ τ : ST} {lo : Nat → Int32} (hF : sF τ = sF σ) (hR : sR τ = sR σ) (h0 : sN τ = sN σ) (h1 : rMu τ = rMu σ) (h2 : rMn τ = rMn σ) (h3 : rEr τ = rEr σ) (h : LO σ lo) : LO τ lo := fun k hk => by rw [law_eq h0 h1 h2 h3, hR]; exact h k (by rw [← hF]; exact hk)
theorem IR.keep {σ τ : ST} {ir : Nat → Int32} (h0 : sN τ = sN σ) (hR : sR τ = sR σ) (h : IR σ ir) : IR τ ir := fun l hl => by rw [hR]; exact h l (by rw [← h0]; exact hl)
def same7 (τ σ : ST) : Prop := sF τ = sF σ ∧ sN τ = sN σ ∧ sR τ = sR σ ∧ rB τ = rB σ ∧ rMu τ = rMu σ ∧ rMn τ = rMn σ ∧ rEr τ = rEr σ
theorem same7.K {σ τ : ST} (h : same7 τ σ) {kI : Nat → Int32} : KI σ kI → KI τ kI := KI.keep h.1 h.2.2.2.1
theorem same7.L {σ τ : ST} (h : same7 τ σ) {lo : Nat → Int32} : LO σ lo → LO τ lo := LO.keep h.1 h.2.2.1 h.2.1 h.2.2.2.2.1 h.2.2.2.2.2.1 h.2.2.2.2.2.2
theorem same7.I {σ τ : ST} (h : same7 τ σ) {ir : Nat → Int32} : IR σ ir → IR τ ir := IR.keep h.2.1 h.2.2.1
theorem s7r (σ : ST) : same7 σ σ := ⟨rfl, rfl, rfl, rfl, rfl, rfl, rfl⟩
theorem s7_moment (σ : ST) : same7 (nMoment σ) σ := by unfold nMoment; repeat' split
                                                       all_goals exact ⟨rfl, rfl, rfl, rfl, rfl, rfl, rfl⟩
theorem s7_tell (σ : ST) (x y z v : Int32) : same7 (nTell σ x y z v) σ := by unfold nTell; repeat' split
                                                                             all_goals exact ⟨rfl, rfl, rfl, rfl, rfl, rfl, rfl⟩
theorem s7_rule (σ : ST) (x y : Int32) : same7 (nRule σ x y) σ := by unfold nRule; repeat' split
                                                                     all_goals exact ⟨rfl, rfl, rfl, rfl, rfl, rfl, rfl⟩
theorem s7_make (σ : ST) (x : Int32) : same7 (nMake σ x) σ := by unfold nMake; repeat' split
                                                                 all_goals exact ⟨rfl, rfl, rfl, rfl, rfl, rfl, rfl⟩
theorem s7_goal (σ : ST) (x : Int32) : same7 (nGoal σ x) σ := by unfold nGoal; repeat' split
                                                                 all_goals exact ⟨rfl, rfl, rfl, rfl, rfl, rfl, rfl⟩
theorem L_barred {σ : ST} {x y : Int32} {is : Bool} {lo : Nat → Int32} (h : LO σ lo) : LO (nBarred σ x y is) lo := by
  apply LO.keep ?_ ?_ ?_ ?_ ?_ ?_ h
  all_goals (unfold nBarred; repeat' split)
  all_goals rfl
theorem I_barred {σ : ST} {x y : Int32} {is : Bool} {ir : Nat → Int32} (h : IR σ ir) : IR (nBarred σ x y is) ir := by
  apply IR.keep ?_ ?_ h
  all_goals (unfold nBarred; repeat' split)
  all_goals rfl
theorem K_line {σ : ST} {x y z : Int32} {kI : Nat → Int32} (h : KI σ kI) : KI (nLine σ x y z) kI := by
  apply KI.keep ?_ ?_ h
  all_goals (unfold nLine; repeat' split)
  all_goals rfl
theorem K_except {σ : ST} {x y : Int32} {kI : Nat → Int32} (h : KI σ kI) : KI (nExcept σ x y) kI := by
  apply KI.keep ?_ ?_ h
  all_goals (unfold nExcept; repeat' split)
  all_goals rfl
theorem I_except {σ : ST} {x y : Int32} {ir : Nat → Int32} (h : IR σ ir) : IR (nExcept σ x y) ir := by
  apply IR.keep ?_ ?_ h
  all_goals (unfold nExcept; repeat' split)
  all_goals rfl
theorem K_repeal {σ : ST} {x : Int32} {is : Bool} {kI : Nat → Int32} (h : KI σ kI) : KI (nRepeal σ x is) kI := by
  apply KI.keep ?_ ?_ h
  all_goals (unfold nRepeal; repeat' split)
  all_goals rfl
theorem I_facts {σ : ST} {x : Int32} {ir : Nat → Int32} (h : IR σ ir) : IR (nFacts σ x) ir := by
  unfold nFacts
  split
  · exact h
  · exact fun l hl => absurd hl (Nat.not_lt_zero _)
/-! the bounds, call by call -/
theorem Ok_nFacts {σ : ST} (h : Ok σ) (x : Int32) : Ok (nFacts σ x) := by
  unfold nFacts
  by_cases c : inI x 1 7 = false
  · rw [if_pos c]; exact h
  · rw [if_neg c]
    obtain ⟨q, hq, rfl⟩ := rng1 (x := x) (a := 1) (b := 7) (by omega) (nt c)
    rw [nI_clamp (by omega)]
    exact Ok_bg hq ⟨h.1.2.2.2.2.2.1, h.1.2.2.2.2.2.2⟩
theorem Ok_nBarred {σ : ST} (h : Ok σ) (x y : Int32) (is : Bool) : Ok (nBarred σ x y is) := by
  unfold nBarred
  repeat' split
  all_goals exact h
theorem Ok_nLine {σ : ST} (h : Ok σ) (x y z : Int32) : Ok (nLine σ x y z) := by
  unfold nLine
  by_cases c1 : inN x (2 ^ sF σ) = false
  · rw [if_pos c1]; exact h
  by_cases c2 : inN y (2 ^ sF σ) = false
  · rw [if_neg c1, if_pos c2]; exact h
  by_cases c3 : ¬ x &&& y = 0
  · rw [if_neg c1, if_neg c2, if_pos c3]; exact h
  by_cases c4 : inI z 0 4 = false
  · rw [if_neg c1, if_neg c2, if_neg c3, if_pos c4]; exact h
  by_cases c5 : 12 ≤ sN σ
  · rw [if_neg c1, if_neg c2, if_neg c3, if_neg c4, if_pos c5]; exact h
  rw [if_neg c1, if_neg c2, if_neg c3, if_neg c4, if_neg c5]
  exact Ok_ln h (nt c1) (nt c2) (nt c4) (by omega)
theorem Ok_nExcept {σ : ST} (h : Ok σ) (x y : Int32) : Ok (nExcept σ x y) := by
  have hn := h.n
  unfold nExcept
  by_cases c1 : inN x (sN σ) = false
  · rw [if_pos c1]; exact h
  by_cases c2 : inN y (sN σ) = false
  · rw [if_neg c1, if_pos c2]; exact h
  rw [if_neg c1, if_neg c2]
  obtain ⟨a, ha, rfl⟩ := inN_t (nt c1) (by omega)
  obtain ⟨b, hb9, rfl⟩ := inN_t (nt c2) (by omega)
  repeat' split
  · exact h
  · exact h
  · rw [nI_clamp (by omega), nI_clamp (by omega)]; exact Ok_ex h ha hb9
theorem Ok_nRepeal {σ : ST} (h : Ok σ) (x : Int32) (is : Bool) : Ok (nRepeal σ x is) := by
  have hn := h.n
  unfold nRepeal
  by_cases c1 : inN x (sN σ) = false
  · rw [if_pos c1]; exact h
  rw [if_neg c1]
  obtain ⟨a, ha, rfl⟩ := inN_t (nt c1) (by omega)
  split
  · exact h
  · rw [nI_clamp (by omega)]; exact Ok_rp h ha
theorem e0 (n : Nat) : ∃ a, a < 2 ^ n ∧ (0 : Int32) = nI a := ⟨0, Nat.two_pow_pos _, rfl⟩
theorem Ok_nMoment {σ : ST} (h : Ok σ) : Ok (nMoment σ) := by
  unfold nMoment
  by_cases c1 : 30 ≤ sM σ
  · rw [if_pos c1]; exact h
  rw [if_neg c1]
  obtain ⟨⟨a1, a2, a3, a4, a5, a6, a7⟩, b1, c, d, f⟩ := h
  refine ⟨⟨a1, a2, a3, show sM σ + 1 ≤ 30 by omega, a5, a6, a7⟩, b1, fun m hm => ?_, fun m hm => ?_, f⟩
  · have hm : m < 3 * (sM σ + 1) := hm
    show (∃ a, a < 2 ^ sF σ ∧ upd (upd (upd (rTs σ) (3 * sM σ + 0) 0) (3 * sM σ + 1) 0) (3 * sM σ + 2) 0 m = nI a) ∧ ∃ a, a < 2 ^ sF σ ∧ upd (upd (upd (rTn σ) (3 * sM σ + 0) 0) (3 * sM σ + 1) 0) (3 * sM σ + 2) 0 m = nI a
    rcases (show m < 3 * sM σ ∨ m = 3 * sM σ + 0 ∨ m = 3 * sM σ + 1 ∨ m = 3 * sM σ + 2 by omega) with q | q | q | q
    · rw [pk_un (by omega), pk_un (by omega), pk_un (by omega), pk_un (by omega), pk_un (by omega), pk_un (by omega)]; exact c m q
    · subst q
      rw [pk_un (by omega), pk_un (by omega), pk_us, pk_un (by omega), pk_un (by omega), pk_us]; exact ⟨e0 _, e0 _⟩
    · subst q
      rw [pk_un (by omega), pk_us, pk_un (by omega), pk_us]; exact ⟨e0 _, e0 _⟩
    · subst q
      rw [pk_us, pk_us]; exact ⟨e0 _, e0 _⟩
  · have hm : m < sM σ + 1 := hm
    show upd (rRd σ) (sM σ) (-1) m = -1 ∨ ∃ r, r < 5 ∧ upd (rRd σ) (sM σ) (-1) m = nI r
    by_cases q : m = sM σ
    · subst q; rw [pk_us]; exact Or.inl rfl
    · rw [pk_un q]; exact d m (by omega)
theorem Ok_teS {σ : ST} (h : Ok σ) {m0 w0 f : Nat} (_ : m0 < sM σ) (_ : w0 < 3) (hf : f < sF σ) (v : Int32) : Ok (teS σ (3 * m0 + w0) f v) := by
  have h2 : 2 ^ f < 2 ^ sF σ := Nat.pow_lt_pow_right (by decide) hf
  obtain ⟨a, b1, c, d⟩ := h
  refine ⟨a, b1, fun m hm => ?_, d⟩
  obtain ⟨⟨c1, c2, c3⟩, ⟨d1, d2, d3⟩⟩ := c m hm
  constructor
  · show ∃ a, a < 2 ^ sF σ ∧ upd (rTs σ) (3 * m0 + w0) (if v = 1 then rTs σ (3 * m0 + w0) ||| nI (2 ^ f) else rTs σ (3 * m0 + w0) &&& (nI (2 ^ f) ^^^ (-1))) m = nI a
    by_cases q : m = 3 * m0 + w0
    · subst q
      rw [pk_us, c3]
      split
      · rw [nI_or]; exact ⟨_, Nat.or_lt_two_pow c2 h2, rfl⟩
      · exact and_n _ c2
    · rw [pk_un q]; exact ⟨c1, c2, c3⟩
  · show ∃ a, a < 2 ^ sF σ ∧ upd (rTn σ) (3 * m0 + w0) (if v = 0 then rTn σ (3 * m0 + w0) ||| nI (2 ^ f) else rTn σ (3 * m0 + w0) &&& (nI (2 ^ f) ^^^ (-1))) m = nI a
    by_cases q : m = 3 * m0 + w0
    · subst q
      rw [pk_us, d3]
      split
      · rw [nI_or]; exact ⟨_, Nat.or_lt_two_pow d2 h2, rfl⟩
      · exact and_n _ d2
    · rw [pk_un q]; exact ⟨d1, d2, d3⟩
theorem Ok_nTell {σ : ST} (h : Ok σ) (x y z v : Int32) : Ok (nTell σ x y z v) := by
  have hm := h.m
  have hF := h.1.2.1
  unfold nTell
  by_cases c1 : inN x (sM σ) = false
  · rw [if_pos c1]; exact h
  by_cases c2 : inN z (sF σ) = false
  · rw [if_neg c1, if_pos c2]; exact h
  by_cases c3 : inN y 3 = false
  · rw [if_neg c1, if_neg c2, if_pos c3]; exact h
  by_cases c4 : inI v 0 2 = false
  · rw [if_neg c1, if_neg c2, if_neg c3, if_pos c4]; exact h
  rw [if_neg c1, if_neg c2, if_neg c3, if_neg c4]
  obtain ⟨a, ha, rfl⟩ := inN_t (nt c1) (by omega)
  obtain ⟨f, hf, rfl⟩ := inN_t (nt c2) (by omega)
  obtain ⟨w, hw, rfl⟩ := inN_t (nt c3) (by omega)
  rw [nI_clamp (by omega), nI_clamp (by omega), nI_clamp (by omega)]
  exact Ok_teS h ha hw hf v
theorem Ok_nRule {σ : ST} (h : Ok σ) (x y : Int32) : Ok (nRule σ x y) := by
  have hm := h.m
  unfold nRule
  by_cases c1 : inN x (sM σ) = false
  · rw [if_pos c1]; exact h
  by_cases c2 : rul1 y = false
  · rw [if_neg c1, if_pos c2]; exact h
  rw [if_neg c1, if_neg c2]
  obtain ⟨a, b1, c, d, f⟩ := h
  refine ⟨a, b1, c, fun m hm => ?_, f⟩
  show upd (rRd σ) x.toNatClampNeg y m = -1 ∨ ∃ r, r < 5 ∧ upd (rRd σ) x.toNatClampNeg y m = nI r
  by_cases q : m = x.toNatClampNeg
  · subst q
    rw [pk_us]
    have z := nt c2
    unfold rul1 at z
    rw [Bool.or_eq_true] at z
    rcases z with z | z
    · exact Or.inl (of_decide_eq_true z)
    · exact Or.inr (ok_r z)
  · rw [pk_un q]; exact d m hm
theorem nm_lt {σ : ST} (h : Ok σ) (rp : Int32) (q : Nat) : ∀ j, q + j ≤ sN σ → ∃ a, a < 2 ^ sF σ ∧ (nmR σ rp q j).1 = nI a
  | 0, _ => e0 _
  | j + 1, hj => by
    obtain ⟨a, ha, e⟩ := nm_lt h rp q j (by omega)
    obtain ⟨-, ⟨b1, b2, b3⟩, ⟨c1, c2, c3⟩, -⟩ := h.2.1 (q + j) (by omega)
    cases c : bit (nmR σ rp q j).2 (nI (q + j))
    · rw [nmR_n c]; exact ⟨a, ha, e⟩
    · rw [nmR_y c]
      refine ⟨a ||| (b1 ||| c1), Nat.or_lt_two_pow ha (Nat.or_lt_two_pow b2 c2), ?_⟩
      show (nmR σ rp q j).1 ||| (rMu σ (q + j) ||| rMn σ (q + j)) = _
      rw [e, b3, c3, nI_or, nI_or]
theorem nam_lt {σ : ST} (h : Ok σ) (k : Nat) : ∃ a, a < 2 ^ sF σ ∧ namI σ k = nI a := by
  unfold namI
  by_cases c : covB σ (sR σ) k = true
  · rw [if_pos c]
    have c2 : lawN σ (sR σ) k < sN σ := of_decide_eq_true c
    exact nm_lt h _ _ _ (by omega)
  · rw [if_neg c]; exact ⟨2 ^ sF σ - 1, by have := Nat.two_pow_pos (sF σ); omega, rfl⟩
theorem Ok_nMake {σ : ST} (h : Ok σ) (x : Int32) : Ok (nMake σ x) := by
  have hm := h.m
  unfold nMake
  by_cases c1 : inN x (sM σ) = false
  · rw [if_pos c1]; exact h
  by_cases c2 : mkB σ x.toNatClampNeg = false
  · rw [if_neg c1, if_pos c2]; exact h
  by_cases c3 : 12 ≤ sC σ
  · rw [if_neg c1, if_neg c2, if_pos c3]; exact h
  rw [if_neg c1, if_neg c2, if_neg c3]
  obtain ⟨q, hq, rfl⟩ := inN_t (nt c1) (by omega)
  have kq : (nI q).toNatClampNeg = q := nI_clamp (by omega)
  rw [kq]
  have hs := (so_n h hq).1
  have hn := nam_lt h (soI σ q).toNatClampNeg
  obtain ⟨⟨a1, a2, a3, a4, a5, a6, a7⟩, b1, c, d, f, g⟩ := h
  refine ⟨⟨a1, a2, a3, a4, show sC σ + 1 ≤ 12 by omega, a6, a7⟩, b1, c, d, fun j hj => ?_, g⟩
  have hj : j < sC σ + 1 := hj
  show (∃ a, a < 2 ^ sF σ ∧ upd (rCk σ) (sC σ) (soI σ q) j = nI a) ∧ ∃ a, a < 2 ^ sF σ ∧ upd (rCn σ) (sC σ) (namI σ (soI σ q).toNatClampNeg) j = nI a
  by_cases e : j = sC σ
  · subst e; rw [pk_us, pk_us]; exact ⟨hs, hn⟩
  · rw [pk_un e, pk_un e]; exact f j (by omega)
theorem Ok_nGoal {σ : ST} (h : Ok σ) (x : Int32) : Ok (nGoal σ x) := by
  unfold nGoal
  by_cases c : inI x 1 20 = false
  · rw [if_pos c]; exact h
  rw [if_neg c]
  obtain ⟨q, hq, rfl⟩ := rng1 (x := x) (a := 1) (b := 20) (by omega) (nt c)
  rw [nI_clamp (by omega)]
  obtain ⟨⟨a1, a2, a3, a4, a5, a6, a7⟩, b1⟩ := h
  exact ⟨⟨a1, a2, a3, a4, a5, hq.1, hq.2⟩, b1⟩
