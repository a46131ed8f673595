/-! what the court answers, call by call -/
theorem sw3 (w : Int32) : w = 0 ∨ w = 1 ∨ w = 2 ∨ (w.toInt < 0 ∨ 2 < w.toInt) := by
  rcases (show w.toInt = 0 ∨ w.toInt = 1 ∨ w.toInt = 2 ∨ (w.toInt < 0 ∨ 2 < w.toInt) by omega) with h | h | h | h
  · exact Or.inl (Int32.toInt_inj.mp (h.trans (by decide)))
  · exact Or.inr (Or.inl (Int32.toInt_inj.mp (h.trans (by decide))))
  · exact Or.inr (Or.inr (Or.inl (Int32.toInt_inj.mp (h.trans (by decide)))))
  · exact Or.inr (Or.inr (Or.inr h))
theorem sw4 (w : Int32) : w = 0 ∨ w = 1 ∨ w = 2 ∨ w = 3 ∨ (w.toInt < 0 ∨ 3 < w.toInt) := by
  rcases (show w.toInt = 3 ∨ ¬ w.toInt = 3 by omega) with h | h
  · exact Or.inr (Or.inr (Or.inr (Or.inl (Int32.toInt_inj.mp (h.trans (by decide))))))
  · rcases sw3 w with a | a | a | a
    · exact Or.inl a
    · exact Or.inr (Or.inl a)
    · exact Or.inr (Or.inr (Or.inl a))
    · exact Or.inr (Or.inr (Or.inr (Or.inr (by omega))))
theorem sw6 (w : Int32) : w = 0 ∨ w = 1 ∨ w = 2 ∨ w = 3 ∨ w = 4 ∨ w = 5 ∨ (w.toInt < 0 ∨ 5 < w.toInt) := by
  rcases sw4 w with a | a | a | a | a
  · exact Or.inl a
  · exact Or.inr (Or.inl a)
  · exact Or.inr (Or.inr (Or.inl a))
  · exact Or.inr (Or.inr (Or.inr (Or.inl a)))
  · rcases (show w.toInt = 4 ∨ w.toInt = 5 ∨ (w.toInt < 0 ∨ 5 < w.toInt) by omega) with h | h | h
    · exact Or.inr (Or.inr (Or.inr (Or.inr (Or.inl (Int32.toInt_inj.mp (h.trans (by decide)))))))
    · exact Or.inr (Or.inr (Or.inr (Or.inr (Or.inr (Or.inl (Int32.toInt_inj.mp (h.trans (by decide))))))))
    · exact Or.inr (Or.inr (Or.inr (Or.inr (Or.inr (Or.inr h)))))
theorem sw7 (w : Int32) : w = 0 ∨ w = 1 ∨ w = 2 ∨ w = 3 ∨ w = 4 ∨ w = 5 ∨ w = 6 ∨ (w.toInt < 0 ∨ 6 < w.toInt) := by
  rcases sw6 w with a | a | a | a | a | a | a
  · exact Or.inl a
  · exact Or.inr (Or.inl a)
  · exact Or.inr (Or.inr (Or.inl a))
  · exact Or.inr (Or.inr (Or.inr (Or.inl a)))
  · exact Or.inr (Or.inr (Or.inr (Or.inr (Or.inl a))))
  · exact Or.inr (Or.inr (Or.inr (Or.inr (Or.inr (Or.inl a)))))
  · rcases (show w.toInt = 6 ∨ (w.toInt < 0 ∨ 6 < w.toInt) by omega) with h | h
    · exact Or.inr (Or.inr (Or.inr (Or.inr (Or.inr (Or.inr (Or.inl (Int32.toInt_inj.mp (h.trans (by decide)))))))))
    · exact Or.inr (Or.inr (Or.inr (Or.inr (Or.inr (Or.inr (Or.inr h))))))
theorem sw_ne {w : Int32} {n : Int} (h : w.toInt < 0 ∨ n < w.toInt) {k : Int32} (h1 : 0 ≤ k.toInt) (h2 : k.toInt ≤ n) : ¬ w = k := fun e => by rw [e] at h; omega
def tkq (σ : ST) (rp rq : Int32) (k : Nat) : Bool := kok σ k && difB σ rp rq k
def tkN (σ : ST) (rp rq : Int32) : Nat := cnt (tkq σ rp rq) (2 ^ sF σ)
def ctq (σ : ST) (rp rq : Int32) (j : Nat) : Bool := difB σ rp rq (rCk σ j).toNatClampNeg
def ctN (σ : ST) (rp rq : Int32) : Nat := cnt (ctq σ rp rq) (sC σ)
def tvq (σ : ST) (rp rq : Int32) (m : Nat) : Bool := !decide (verI σ rp m = verI σ rq m)
def tvN (σ : ST) (rp rq : Int32) : Nat := cnt (tvq σ rp rq) (sM σ)
def cvq (σ : ST) (k : Nat) : Bool := kok σ k && covB σ (sR σ) k
def cvN (σ : ST) : Nat := cnt (cvq σ) (2 ^ sF σ)
def opq (σ : ST) (k : Nat) : Bool := kok σ k && !covB σ (sR σ) k
def opf (σ : ST) (i : Int32) (k : Nat) : Bool := opq σ k && decide (nI (cnt (opq σ) k) = i)
def trI (σ : ST) : Nat → Int32
  | 0 => 0
  | j + 1 => if rCr σ j = rulI σ (sR σ) (rCk σ j).toNatClampNeg then trI σ j else trI σ j ||| nI (2 ^ j)
theorem trI_y {σ : ST} {j : Nat} (h : rCr σ j = rulI σ (sR σ) (rCk σ j).toNatClampNeg) : trI σ j = trI σ (j + 1) := by rw [trI, if_pos h]
theorem trI_n {σ : ST} {j : Nat} (h : ¬ rCr σ j = rulI σ (sR σ) (rCk σ j).toNatClampNeg) : trI σ j ||| nI (2 ^ j) = trI σ (j + 1) := by rw [trI, if_neg h]
theorem cmb_le {σ : ST} (hok : Ok σ) (so ns : Int32) : cmb σ so ns ≤ 128 := Nat.le_trans (cnt_le _ _) hok.k
theorem cmr_le {σ : ST} (hok : Ok σ) (rp so ns r : Int32) : cmr σ rp so ns r ≤ 128 := Nat.le_trans (cnt_le _ _) hok.k
theorem tkN_le {σ : ST} (hok : Ok σ) (rp rq : Int32) : tkN σ rp rq ≤ 128 := Nat.le_trans (cnt_le _ _) hok.k
theorem Ok.ck {σ : ST} (h : Ok σ) {j : Nat} (hj : j < sC σ) : ∃ a, a < 2 ^ sF σ ∧ rCk σ j = nI a := (h.2.2.2.2.1 j hj).1
theorem clp {a n : Nat} (h : a < n) (hn : n ≤ 128) : (nI a).toNatClampNeg = a := nI_clamp (by omega)
/-! games -/
def gsN : Type := Nat × Nat × Nat
def grn (σ : ST) : Nat → Nat × Nat × Nat
  | 0 => (0, 0, 0)
  | j + 1 => gst (sG σ) (grn σ j) (verI σ (sR σ) j)
def grA (σ : ST) (m : Nat) (r : Int32) : Nat → Nat × Nat × Nat
  | 0 => (0, 0, 0)
  | j + 1 => gst (sG σ) (grA σ m r j) (if j = m then r else verI σ (sR σ) j)
theorem gst_le {tw : Nat} {s : Nat × Nat × Nat} {r : Int32} {n : Nat} (h : s.1 ≤ n ∧ s.2.1 ≤ n ∧ s.2.2 < 2) : (gst tw s r).1 ≤ n + 1 ∧ (gst tw s r).2.1 ≤ n + 1 ∧ (gst tw s r).2.2 < 2 := by
  obtain ⟨a, b, c⟩ := s
  simp only at h
  unfold gst
  simp only
  repeat' split
  all_goals simp only
  all_goals omega
theorem grn_le (σ : ST) : ∀ j, (grn σ j).1 ≤ j ∧ (grn σ j).2.1 ≤ j ∧ (grn σ j).2.2 < 2
  | 0 => by simp [grn]
  | j + 1 => gst_le (grn_le σ j)
theorem grA_le (σ : ST) (m : Nat) (r : Int32) : ∀ j, (grA σ m r j).1 ≤ j ∧ (grA σ m r j).2.1 ≤ j ∧ (grA σ m r j).2.2 < 2
  | 0 => by simp [grA]
  | j + 1 => gst_le (grA_le σ m r j)
theorem sameB_eq {tw pa pb ps qa qb qs : Nat} : sameB tw pa pb ps tw qa qb qs = decide ((pa, pb, ps) = (qa, qb, qs)) := by
  unfold sameB
  by_cases h : (pa, pb, ps) = (qa, qb, qs)
  · cases h; simp
  · rw [decide_eq_false h]
    apply nf
    intro z
    simp only [Bool.and_eq_true, decide_eq_true_eq] at z
    exact h (by rw [z.1.1.1, z.1.1.2, z.1.2])
/-! the answers -/
def oFacts (σ : ST) (n : Int32) : Int32 := if inI n 1 7 = false then -2 else nI (sF σ)
def nFacts (σ : ST) (n : Int32) : ST := if inI n 1 7 = false then σ else bgS σ n.toNatClampNeg
def oBarred (σ : ST) (a b : Int32) : Int32 := if inN a (sF σ) = false then -1 else if inN b (sF σ) = false then -1 else if a = b then -1 else b2 (bit (rB σ a.toNatClampNeg) b)
def nBarred (σ : ST) (a b : Int32) (is : Bool) : ST := if inN a (sF σ) = false then σ else if inN b (sF σ) = false then σ else if a = b then σ else barS σ a.toNatClampNeg b.toNatClampNeg is
def oLine (σ : ST) (so ns r : Int32) : Int32 := if inN so (2 ^ sF σ) = false then -2 else if inN ns (2 ^ sF σ) = false then -2 else if ¬ so &&& ns = 0 then -2 else if inI r 0 4 = false then -2 else if 12 ≤ sN σ then -4 else nI (sN σ)
def nLine (σ : ST) (so ns r : Int32) : ST := if inN so (2 ^ sF σ) = false then σ else if inN ns (2 ^ sF σ) = false then σ else if ¬ so &&& ns = 0 then σ else if inI r 0 4 = false then σ else if 12 ≤ sN σ then σ else lnS σ so ns r
def bcI (x : Int32) : Nat → Int32
  | 0 => 0
  | j + 1 => bcI x j + b2 (bit x (nI j))
def oExcept (σ : ST) (j i : Int32) : Int32 := if inN j (sN σ) = false then -1 else if inN i (sN σ) = false then -1 else if j ≤ i then -5 else if bit (rEr σ i.toNatClampNeg) j = true then -5 else bcI (rEr (exS σ j.toNatClampNeg i.toNatClampNeg) i.toNatClampNeg) 12
def nExcept (σ : ST) (j i : Int32) : ST := if inN j (sN σ) = false then σ else if inN i (sN σ) = false then σ else if j ≤ i then σ else if bit (rEr σ i.toNatClampNeg) j = true then σ else exS σ j.toNatClampNeg i.toNatClampNeg
def rpS (σ : ST) (rp : Int32) : ST := mkS (sF σ) (sN σ) (sM σ) (sC σ) (sG σ) rp (rB σ) (rMu σ) (rMn σ) (rRu σ) (rEr σ) (rTs σ) (rTn σ) (rRd σ) (rCk σ) (rCr σ) (rCn σ)
def oRepeal (σ : ST) (l : Int32) : Int32 := if inN l (sN σ) = false then -1 else b2 (bit (sR σ) l)
def nRepeal (σ : ST) (l : Int32) (is : Bool) : ST := if inN l (sN σ) = false then σ else if bit (sR σ) l = is then σ else rpS σ (sR σ ^^^ nI (2 ^ l.toNatClampNeg))
def oAbout (σ : ST) (l w : Int32) : Int32 := if inN l (sN σ) = false then -1 else if w = 0 then rMu σ l.toNatClampNeg else if w = 1 then rMn σ l.toNatClampNeg else if w = 2 then rRu σ l.toNatClampNeg else if w = 3 then b2 (bit (sR σ) l) else if w = 4 then rEr σ l.toNatClampNeg else if w = 5 then nmI σ (sR σ) l.toNatClampNeg else -2
def oHolds (σ : ST) (l k : Int32) : Int32 := if inN l (sN σ) = false then -1 else if kin σ k = false then -2 else b2 (bit (holdI σ (sR σ) k.toNatClampNeg) l)
def oLaw (σ : ST) (k w : Int32) : Int32 := if kin σ k = false then -2 else if inI w 0 1 = false then -2 else if w = 0 then lawI σ (sR σ) k.toNatClampNeg else rulI σ (sR σ) k.toNatClampNeg
def oOpen (σ : ST) (i : Int32) : Int32 := if fst (opf σ i) (2 ^ sF σ) < 2 ^ sF σ then nI (fst (opf σ i) (2 ^ sF σ)) else if i = -1 then nI (cnt (opq σ) (2 ^ sF σ)) else -6
def flS (σ : ST) (l : Int32) : Int32 := sR σ ^^^ nI (2 ^ l.toNatClampNeg)
def oIdle (σ : ST) (l : Int32) : Int32 := if inN l (sN σ) = false then -1 else b2 (decide (tkN σ (sR σ) (flS σ l) = 0))
def oMoment (σ : ST) : Int32 := if 30 ≤ sM σ then -4 else nI (sM σ)
def nMoment (σ : ST) : ST := if 30 ≤ sM σ then σ else moS σ
def oTell (σ : ST) (m w f v : Int32) : Int32 := if inN m (sM σ) = false then -1 else if inN f (sF σ) = false then -1 else if inN w 3 = false then -2 else if inI v 0 2 = false then -2 else teR σ (3 * m.toNatClampNeg + w.toNatClampNeg) f.toNatClampNeg
def nTell (σ : ST) (m w f v : Int32) : ST := if inN m (sM σ) = false then σ else if inN f (sF σ) = false then σ else if inN w 3 = false then σ else if inI v 0 2 = false then σ else teS σ (3 * m.toNatClampNeg + w.toNatClampNeg) f.toNatClampNeg v
def oKnown (σ : ST) (m w : Int32) : Int32 := if inN m (sM σ) = false then -1 else if w = 0 then soI σ m.toNatClampNeg else if w = 1 then nsI σ m.toNatClampNeg else if w = 2 then nI (2 ^ sF σ - 1) &&& ((soI σ m.toNatClampNeg ||| nsI σ m.toNatClampNeg) ^^^ (-1)) else if w = 3 then nI (cmb σ (soI σ m.toNatClampNeg) (nsI σ m.toNatClampNeg)) else -2
def oProof (σ : ST) (m r : Int32) : Int32 := if inN m (sM σ) = false then -1 else if inI r 0 4 = false then -2 else if cmr σ (sR σ) (soI σ m.toNatClampNeg) (nsI σ m.toNatClampNeg) r = 0 then 0 else if cmr σ (sR σ) (soI σ m.toNatClampNeg) (nsI σ m.toNatClampNeg) r = cmb σ (soI σ m.toNatClampNeg) (nsI σ m.toNatClampNeg) then 2 else 1
def oBinds (σ : ST) (m : Int32) : Int32 := if inN m (sM σ) = false then -1 else bnI σ (soI σ m.toNatClampNeg) (nsI σ m.toNatClampNeg)
def oVerdict (σ : ST) (m : Int32) : Int32 := if inN m (sM σ) = false then -1 else verI σ (sR σ) m.toNatClampNeg
def rdS (σ : ST) (m : Nat) (r : Int32) : ST := mkS (sF σ) (sN σ) (sM σ) (sC σ) (sG σ) (sR σ) (rB σ) (rMu σ) (rMn σ) (rRu σ) (rEr σ) (rTs σ) (rTn σ) (upd (rRd σ) m r) (rCk σ) (rCr σ) (rCn σ)
def rul1 (r : Int32) : Bool := decide (r = -1) || inI r 0 4
def oRule (σ : ST) (m r : Int32) : Int32 := if inN m (sM σ) = false then -1 else if rul1 r = false then -2 else verI σ (sR σ) m.toNatClampNeg
def nRule (σ : ST) (m r : Int32) : ST := if inN m (sM σ) = false then σ else if rul1 r = false then σ else rdS σ m.toNatClampNeg r
def mkB (σ : ST) (m : Nat) : Bool := decide (soI σ m ||| nsI σ m = nI (2 ^ sF σ - 1)) && kin σ (soI σ m)
def namI (σ : ST) (k : Nat) : Int32 := if covB σ (sR σ) k = true then nmI σ (sR σ) (lawN σ (sR σ) k) else nI (2 ^ sF σ - 1)
def oMake (σ : ST) (m : Int32) : Int32 := if inN m (sM σ) = false then -1 else if mkB σ m.toNatClampNeg = false then -3 else if 12 ≤ sC σ then -4 else nI (sC σ)
def nMake (σ : ST) (m : Int32) : ST := if inN m (sM σ) = false then σ else if mkB σ m.toNatClampNeg = false then σ else if 12 ≤ sC σ then σ else caS σ (soI σ m.toNatClampNeg) (verI σ (sR σ) m.toNatClampNeg) (namI σ (soI σ m.toNatClampNeg).toNatClampNeg)
def oOfCase (σ : ST) (k w : Int32) : Int32 := if inN k (sC σ) = false then -1 else if w = 0 then rCk σ k.toNatClampNeg else if w = 1 then rCr σ k.toNatClampNeg else if w = 2 then rCn σ k.toNatClampNeg else -2
def oTurned (σ : ST) : Int32 := trI σ (sC σ)
def oMend (σ : ST) (l w : Int32) : Int32 := if inN l (sN σ) = false then -1 else if inI w 0 2 = false then -2 else if w = 0 then nI (tkN σ (sR σ) (flS σ l)) else if w = 1 then nI (ctN σ (sR σ) (flS σ l)) else nI (tvN σ (sR σ) (flS σ l))
def goS (σ : ST) (g : Nat) : ST := mkS (sF σ) (sN σ) (sM σ) (sC σ) g (sR σ) (rB σ) (rMu σ) (rMn σ) (rRu σ) (rEr σ) (rTs σ) (rTn σ) (rRd σ) (rCk σ) (rCr σ) (rCn σ)
def oGoal (σ : ST) (n : Int32) : Int32 := if inI n 1 20 = false then -2 else nI (sG σ)
def nGoal (σ : ST) (n : Int32) : ST := if inI n 1 20 = false then σ else goS σ n.toNatClampNeg
def oScore (σ : ST) (n w : Int32) : Int32 := if inI n 0 (nI (sM σ)) = false then -2 else if inI w 0 3 = false then -2 else if w = 0 then nI (grn σ n.toNatClampNeg).1 else if w = 1 then nI (grn σ n.toNatClampNeg).2.1 else if w = 2 then nI (grn σ n.toNatClampNeg).2.2 else gwin (sG σ) (grn σ n.toNatClampNeg).1 (grn σ n.toNatClampNeg).2.1
def apq (σ : ST) (m : Nat) (r : Int32) (j : Nat) : Bool := !decide (grn σ (j + 1) = grA σ m r (j + 1))
def apN (σ : ST) (m : Nat) (r : Int32) : Nat := fst (apq σ m r) (sM σ)
def oAppeal (σ : ST) (m r : Int32) : Int32 := if inN m (sM σ) = false then -1 else if inI r 0 4 = false then -2 else if apN σ m.toNatClampNeg r < sM σ then nI (apN σ m.toNatClampNeg r) else -6
def oTold (σ : ST) (w : Int32) : Int32 := if w = 0 then nI (sF σ) else if w = 1 then nI (cmb σ 0 0) else if w = 2 then nI (sN σ) else if w = 3 then nI (sM σ) else if w = 4 then nI (sC σ) else if w = 5 then nI (sG σ) else if w = 6 then nI (cvN σ) else -2
theorem kin_t {σ : ST} {x : Int32} (h : kin σ x = true) (h2 : 2 ^ sF σ < 2 ^ 31) : ∃ k : Nat, k < 2 ^ sF σ ∧ x = nI k := by
  unfold kin at h
  rw [Bool.and_eq_true] at h
  exact inN_t h.1 h2
