/-! what the reference's writers need -/
theorem inI_3 (y : Int32) : inI y 0 2 = inN y 3 := inI_n y 3 (by decide)
theorem ir_ln {σ : ST} {ir : Nat → Int32} (hok : Ok σ) (hir : ∀ l, l < sN σ → ir l = b2 (bit (sR σ) (nI l))) (hn : sN σ < 12) : ∀ l, l < sN σ + 1 → upd ir (sN σ) 0 l = b2 (bit (sR σ) (nI l)) := by
  intro l hl
  by_cases h : l = sN σ
  · subst h; rw [pk_us, hok.2.2.2.2.2 _ (Nat.le_refl _) hn]; rfl
  · rw [pk_un h]; exact hir l (by omega)
theorem ir_rp {σ : ST} {ir : Nat → Int32} (hok : Ok σ) (hir : ∀ l, l < sN σ → ir l = b2 (bit (sR σ) (nI l))) {q : Nat} (hq : q < sN σ) {is : Bool} (h : ¬ bit (sR σ) (nI q) = is) : ∀ l, l < sN σ → upd ir q (b2 is) l = b2 (bit (sR σ ^^^ nI (2 ^ q)) (nI l)) := by
  apply ir_flip hok hir hq
  revert h
  cases bit (sR σ) (nI q) <;> cases is <;> simp
theorem ir_same {σ : ST} {ir : Nat → Int32} (hir : ∀ l, l < sN σ → ir l = b2 (bit (sR σ) (nI l))) {q : Nat} {is : Bool} (h : bit (sR σ) (nI q) = is) : ∀ l, l < sN σ → upd ir q (b2 is) l = b2 (bit (sR σ) (nI l)) := by
  intro l hl
  by_cases e : l = q
  · subst e; rw [pk_us, h]
  · rw [pk_un e]; exact hir l hl
theorem ir_two {n : Nat} {ir : Nat → Int32} {rp x : Int32} {q : Nat} (hir : ∀ l, l < n → ir l = b2 (bit rp (nI l))) : ∀ l, l < n → upd (upd ir q x) q (b2 (bit rp (nI q))) l = b2 (bit rp (nI l)) := by
  intro l hl
  by_cases e : l = q
  · subst e; rw [pk_us]
  · rw [pk_un e, pk_un e]; exact hir l hl
theorem cnt_b2' (a : Nat) (q : Nat → Bool) (n : Nat) : nI (a + cnt q n) + b2 (q n) = nI (a + cnt q (n + 1)) := by
  rw [← nI_add, Int32.add_assoc, cnt_b2, nI_add]
theorem md_eq {σ : ST} {rp rq w : Int32} (h : inI w 0 2 = true) (h0 : ¬ w = 0) : nI ((if w = 1 then ctN σ rp rq else 0) + (if w = 2 then tvN σ rp rq else 0)) = if w = 1 then nI (ctN σ rp rq) else nI (tvN σ rp rq) := by
  obtain ⟨q, hq, rfl⟩ := rng1 (x := w) (a := 0) (b := 2) (by omega) h
  rcases (show q = 0 ∨ q = 1 ∨ q = 2 by omega) with rfl | rfl | rfl
  · exact absurd rfl h0
  · rw [if_pos (show nI 1 = 1 by decide), if_neg (show ¬ nI 1 = 2 by decide), if_pos (show nI 1 = 1 by decide)]; rfl
  · rw [if_neg (show ¬ nI 2 = 1 by decide), if_pos (show nI 2 = 2 by decide), if_neg (show ¬ nI 2 = 1 by decide), Nat.zero_add]
theorem st_0 {tw : Nat} (h : 1 ≤ tw) (z : Nat → Int32) : stR tw (0, 0, 0) (upd (upd (upd (upd z 0 0) 1 0) 2 0) 3 (-6)) := by
  refine ⟨rfl, rfl, rfl, ?_⟩
  show (-6 : Int32) = gwin tw 0 0
  rw [gwin, if_neg (by omega), if_neg (by omega)]
theorem st_up {tw : Nat} {s : Nat × Nat × Nat} {z : Nat → Int32} (h : z 0 = nI s.1 ∧ z 1 = nI s.2.1 ∧ z 2 = nI s.2.2) : stR tw s (upd z 3 (gwin tw s.1 s.2.1)) :=
  ⟨(pk_un (by decide)).trans h.1, (pk_un (by decide)).trans h.2.1, (pk_un (by decide)).trans h.2.2, by rw [pk_us]⟩
theorem sc_ret {σ : ST} {q w0 : Nat} {z : Nat → Int32} (hz : stR (sG σ) (grn σ q) z) (hw : w0 ≤ 3) (c9 : inI (nI q) 0 (nI (sM σ)) = true) (c18 : inI (nI w0) 0 3 = true) (kq : (nI q).toNatClampNeg = q) : z w0 = oScore σ (nI q) (nI w0) := by
  rw [oScore, if_neg (by rw [c9]; decide), if_neg (by rw [c18]; decide), kq]
  rcases (show w0 = 0 ∨ w0 = 1 ∨ w0 = 2 ∨ w0 = 3 by omega) with rfl | rfl | rfl | rfl
  · rw [if_pos (show nI 0 = 0 by decide)]; exact hz.1
  · rw [if_neg (show ¬ nI 1 = 0 by decide), if_pos (show nI 1 = 1 by decide)]; exact hz.2.1
  · rw [if_neg (show ¬ nI 2 = 0 by decide), if_neg (show ¬ nI 2 = 1 by decide), if_pos (show nI 2 = 2 by decide)]; exact hz.2.2.1
  · rw [if_neg (show ¬ nI 3 = 0 by decide), if_neg (show ¬ nI 3 = 1 by decide), if_neg (show ¬ nI 3 = 2 by decide)]; exact hz.2.2.2
theorem zf_z : (fun _ => 0 : Nat → Int32) = rB σ1 := by
  funext j
  show (0 : Int32) = zf (fun _ => 0) 7 j
  unfold zf
  split <;> rfl
theorem md_a {σ : ST} {rp rq w : Int32} {i : Nat} (hz : w = 1 ∨ i = 0) (h : i = sC σ) : nI (cnt (ctq σ rp rq) i) = nI (if w = 1 then ctN σ rp rq else 0) := by
  by_cases e : w = 1
  · rw [if_pos e, h]; rfl
  · rw [if_neg e, hz.resolve_left e]; rfl
theorem md_b {σ : ST} {rp rq w : Int32} {i : Nat} (hz : w = 1 ∨ i = 0) (e : ¬ w = 1) : nI (cnt (ctq σ rp rq) i) = nI (if w = 1 then ctN σ rp rq else 0) := by
  rw [if_neg e, hz.resolve_left e]; rfl
theorem md_c {σ : ST} {rp rq w : Int32} {i a : Nat} (hz : w = 2 ∨ i = 0) (h : i = sM σ) : nI (a + cnt (tvq σ rp rq) i) = nI (a + if w = 2 then tvN σ rp rq else 0) := by
  by_cases e : w = 2
  · rw [if_pos e, h]; rfl
  · rw [if_neg e, hz.resolve_left e]; rfl
theorem md_d {σ : ST} {rp rq w : Int32} {i a : Nat} (hz : w = 2 ∨ i = 0) (e : ¬ w = 2) : nI (a + cnt (tvq σ rp rq) i) = nI (a + if w = 2 then tvN σ rp rq else 0) := by
  rw [if_neg e, hz.resolve_left e]; rfl
theorem md_o {σ : ST} {w : Int32} {q : Nat} (c5 : inN (nI q) (sN σ) = true) (c16 : inI w 0 2 = true) (c29 : ¬ w = 0) (kq : (nI q).toNatClampNeg = q) : oMend σ (nI q) w = if w = 1 then nI (ctN σ (sR σ) (sR σ ^^^ nI (2 ^ q))) else nI (tvN σ (sR σ) (sR σ ^^^ nI (2 ^ q))) := by
  rw [oMend, if_neg (by rw [c5]; decide), if_neg (by rw [c16]; decide), if_neg c29, flS, kq]
