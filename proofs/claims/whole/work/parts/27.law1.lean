theorem u_nFacts (σ : ST) (x : Int32) : sG (nFacts σ x) = sG σ ∧ rMu (nFacts σ x) = rMu σ ∧ rMn (nFacts σ x) = rMn σ ∧ rRu (nFacts σ x) = rRu σ ∧ rEr (nFacts σ x) = rEr σ ∧ rTs (nFacts σ x) = rTs σ ∧ rTn (nFacts σ x) = rTn σ ∧ rRd (nFacts σ x) = rRd σ ∧ rCk (nFacts σ x) = rCk σ ∧ rCr (nFacts σ x) = rCr σ ∧ rCn (nFacts σ x) = rCn σ := by
  unfold nFacts
  repeat' split
  all_goals exact ⟨rfl, rfl, rfl, rfl, rfl, rfl, rfl, rfl, rfl, rfl, rfl⟩
theorem u_nBarred (σ : ST) (x y : Int32) (is : Bool) : sF (nBarred σ x y is) = sF σ ∧ sN (nBarred σ x y is) = sN σ ∧ sM (nBarred σ x y is) = sM σ ∧ sC (nBarred σ x y is) = sC σ ∧ sG (nBarred σ x y is) = sG σ ∧ sR (nBarred σ x y is) = sR σ ∧ rMu (nBarred σ x y is) = rMu σ ∧ rMn (nBarred σ x y is) = rMn σ ∧ rRu (nBarred σ x y is) = rRu σ ∧ rEr (nBarred σ x y is) = rEr σ ∧ rTs (nBarred σ x y is) = rTs σ ∧ rTn (nBarred σ x y is) = rTn σ ∧ rRd (nBarred σ x y is) = rRd σ ∧ rCk (nBarred σ x y is) = rCk σ ∧ rCr (nBarred σ x y is) = rCr σ ∧ rCn (nBarred σ x y is) = rCn σ := by
  unfold nBarred
  repeat' split
  all_goals exact ⟨rfl, rfl, rfl, rfl, rfl, rfl, rfl, rfl, rfl, rfl, rfl, rfl, rfl, rfl, rfl, rfl⟩
theorem u_nLine (σ : ST) (x y z : Int32) : sF (nLine σ x y z) = sF σ ∧ sM (nLine σ x y z) = sM σ ∧ sC (nLine σ x y z) = sC σ ∧ sG (nLine σ x y z) = sG σ ∧ sR (nLine σ x y z) = sR σ ∧ rB (nLine σ x y z) = rB σ ∧ rTs (nLine σ x y z) = rTs σ ∧ rTn (nLine σ x y z) = rTn σ ∧ rRd (nLine σ x y z) = rRd σ ∧ rCk (nLine σ x y z) = rCk σ ∧ rCr (nLine σ x y z) = rCr σ ∧ rCn (nLine σ x y z) = rCn σ := by
  unfold nLine
  repeat' split
  all_goals exact ⟨rfl, rfl, rfl, rfl, rfl, rfl, rfl, rfl, rfl, rfl, rfl, rfl⟩
theorem u_nExcept (σ : ST) (x y : Int32) : sF (nExcept σ x y) = sF σ ∧ sN (nExcept σ x y) = sN σ ∧ sM (nExcept σ x y) = sM σ ∧ sC (nExcept σ x y) = sC σ ∧ sG (nExcept σ x y) = sG σ ∧ sR (nExcept σ x y) = sR σ ∧ rB (nExcept σ x y) = rB σ ∧ rMu (nExcept σ x y) = rMu σ ∧ rMn (nExcept σ x y) = rMn σ ∧ rRu (nExcept σ x y) = rRu σ ∧ rTs (nExcept σ x y) = rTs σ ∧ rTn (nExcept σ x y) = rTn σ ∧ rRd (nExcept σ x y) = rRd σ ∧ rCk (nExcept σ x y) = rCk σ ∧ rCr (nExcept σ x y) = rCr σ ∧ rCn (nExcept σ x y) = rCn σ := by
  unfold nExcept
  repeat' split
  all_goals exact ⟨rfl, rfl, rfl, rfl, rfl, rfl, rfl, rfl, rfl, rfl, rfl, rfl, rfl, rfl, rfl, rfl⟩
theorem u_nRepeal (σ : ST) (x : Int32) (is : Bool) : sF (nRepeal σ x is) = sF σ ∧ sN (nRepeal σ x is) = sN σ ∧ sM (nRepeal σ x is) = sM σ ∧ sC (nRepeal σ x is) = sC σ ∧ sG (nRepeal σ x is) = sG σ ∧ rB (nRepeal σ x is) = rB σ ∧ rMu (nRepeal σ x is) = rMu σ ∧ rMn (nRepeal σ x is) = rMn σ ∧ rRu (nRepeal σ x is) = rRu σ ∧ rEr (nRepeal σ x is) = rEr σ ∧ rTs (nRepeal σ x is) = rTs σ ∧ rTn (nRepeal σ x is) = rTn σ ∧ rRd (nRepeal σ x is) = rRd σ ∧ rCk (nRepeal σ x is) = rCk σ ∧ rCr (nRepeal σ x is) = rCr σ ∧ rCn (nRepeal σ x is) = rCn σ := by
  unfold nRepeal
  repeat' split
  all_goals exact ⟨rfl, rfl, rfl, rfl, rfl, rfl, rfl, rfl, rfl, rfl, rfl, rfl, rfl, rfl, rfl, rfl⟩
theorem u_nMoment (σ : ST)  : sF (nMoment σ) = sF σ ∧ sN (nMoment σ) = sN σ ∧ sC (nMoment σ) = sC σ ∧ sG (nMoment σ) = sG σ ∧ sR (nMoment σ) = sR σ ∧ rB (nMoment σ) = rB σ ∧ rMu (nMoment σ) = rMu σ ∧ rMn (nMoment σ) = rMn σ ∧ rRu (nMoment σ) = rRu σ ∧ rEr (nMoment σ) = rEr σ ∧ rCk (nMoment σ) = rCk σ ∧ rCr (nMoment σ) = rCr σ ∧ rCn (nMoment σ) = rCn σ := by
  unfold nMoment
  repeat' split
  all_goals exact ⟨rfl, rfl, rfl, rfl, rfl, rfl, rfl, rfl, rfl, rfl, rfl, rfl, rfl⟩
theorem u_nTell (σ : ST) (x y z v : Int32) : sF (nTell σ x y z v) = sF σ ∧ sN (nTell σ x y z v) = sN σ ∧ sM (nTell σ x y z v) = sM σ ∧ sC (nTell σ x y z v) = sC σ ∧ sG (nTell σ x y z v) = sG σ ∧ sR (nTell σ x y z v) = sR σ ∧ rB (nTell σ x y z v) = rB σ ∧ rMu (nTell σ x y z v) = rMu σ ∧ rMn (nTell σ x y z v) = rMn σ ∧ rRu (nTell σ x y z v) = rRu σ ∧ rEr (nTell σ x y z v) = rEr σ ∧ rRd (nTell σ x y z v) = rRd σ ∧ rCk (nTell σ x y z v) = rCk σ ∧ rCr (nTell σ x y z v) = rCr σ ∧ rCn (nTell σ x y z v) = rCn σ := by
  unfold nTell
  repeat' split
  all_goals exact ⟨rfl, rfl, rfl, rfl, rfl, rfl, rfl, rfl, rfl, rfl, rfl, rfl, rfl, rfl, rfl⟩
theorem u_nRule (σ : ST) (x y : Int32) : sF (nRule σ x y) = sF σ ∧ sN (nRule σ x y) = sN σ ∧ sM (nRule σ x y) = sM σ ∧ sC (nRule σ x y) = sC σ ∧ sG (nRule σ x y) = sG σ ∧ sR (nRule σ x y) = sR σ ∧ rB (nRule σ x y) = rB σ ∧ rMu (nRule σ x y) = rMu σ ∧ rMn (nRule σ x y) = rMn σ ∧ rRu (nRule σ x y) = rRu σ ∧ rEr (nRule σ x y) = rEr σ ∧ rTs (nRule σ x y) = rTs σ ∧ rTn (nRule σ x y) = rTn σ ∧ rCk (nRule σ x y) = rCk σ ∧ rCr (nRule σ x y) = rCr σ ∧ rCn (nRule σ x y) = rCn σ := by
  unfold nRule
  repeat' split
  all_goals exact ⟨rfl, rfl, rfl, rfl, rfl, rfl, rfl, rfl, rfl, rfl, rfl, rfl, rfl, rfl, rfl, rfl⟩
theorem u_nMake (σ : ST) (x : Int32) : sF (nMake σ x) = sF σ ∧ sN (nMake σ x) = sN σ ∧ sM (nMake σ x) = sM σ ∧ sG (nMake σ x) = sG σ ∧ sR (nMake σ x) = sR σ ∧ rB (nMake σ x) = rB σ ∧ rMu (nMake σ x) = rMu σ ∧ rMn (nMake σ x) = rMn σ ∧ rRu (nMake σ x) = rRu σ ∧ rEr (nMake σ x) = rEr σ ∧ rTs (nMake σ x) = rTs σ ∧ rTn (nMake σ x) = rTn σ ∧ rRd (nMake σ x) = rRd σ := by
  unfold nMake
  repeat' split
  all_goals exact ⟨rfl, rfl, rfl, rfl, rfl, rfl, rfl, rfl, rfl, rfl, rfl, rfl, rfl⟩
theorem u_nGoal (σ : ST) (x : Int32) : sF (nGoal σ x) = sF σ ∧ sN (nGoal σ x) = sN σ ∧ sM (nGoal σ x) = sM σ ∧ sC (nGoal σ x) = sC σ ∧ sR (nGoal σ x) = sR σ ∧ rB (nGoal σ x) = rB σ ∧ rMu (nGoal σ x) = rMu σ ∧ rMn (nGoal σ x) = rMn σ ∧ rRu (nGoal σ x) = rRu σ ∧ rEr (nGoal σ x) = rEr σ ∧ rTs (nGoal σ x) = rTs σ ∧ rTn (nGoal σ x) = rTn σ ∧ rRd (nGoal σ x) = rRd σ ∧ rCk (nGoal σ x) = rCk σ ∧ rCr (nGoal σ x) = rCr σ ∧ rCn (nGoal σ x) = rCn σ := by
  unfold nGoal
  repeat' split
  all_goals exact ⟨rfl, rfl, rfl, rfl, rfl, rfl, rfl, rfl, rfl, rfl, rfl, rfl, rfl, rfl, rfl, rfl⟩
