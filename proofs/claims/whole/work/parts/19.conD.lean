set_option maxHeartbeats 4000000 in
set_option maxRecDepth 100000 in
theorem c_J6_bitCount (l : Launch) (D : va_G) (cI cZ : ClassId) (x : Int32) : Met l yJ6_bitCount_0f7a4 wsJ6_bitCount_0f7a4 ({ frames := 0, cells := 0, slots := 0, locals := 0 }) (va_Pc [.int x] (XP D cI cZ [])) (vp_Si (fun r => r = bcJ x)) 0 0 (fun _ => False) := by
  refine Met.ofW (cc := cJ6_bitCount_0f7a4) (maxL := 1) (ret := (some .int)) (by decide) rfl ?_
  intro p e s m args below meth c s₁ B hml hv
  obtain ⟨rfl, hP, hK, hN⟩ := hv
  have hx := B.exec
  have hb := B.bytes
  have hr := B.returns
  have hts := atoms_spec (ws := wsJ6_bitCount_0f7a4) B.pre
  have hown : s.vm.findClass RJ6 = some m.cls := findClass_of_methodNamed B.named
  have hlocks := B.notSynchronized
  have hl := lv_entry ([.int x]) (n := 1) (Nat.le_of_ble_eq_true rfl)
  rw [lg_entry_eq]
  generalize (lg_sl ([.int x]) ++ List.replicate (1 - (lg_sl ([.int x])).length) Slot.unset).toArray = ls at hl ⊢
  have hl : lv_has ls 1 [(0, .int x)] := hl
  refine lv_iload_n hx hb dJ6_bitCount_0f7a4_0 rfl (lv_at hl 0 rfl) ?_
  refine lv_iload_n hx hb dJ6_bitCount_0f7a4_1 rfl (lv_at hl 0 rfl) ?_
  refine lv_iconst (v := 1) hx hb dJ6_bitCount_0f7a4_2 (by decide) ?_
  refine lv_iushr hx hb dJ6_bitCount_0f7a4_3 rfl ?_
  refine lv_ldcw (v := 1431655765) hx hb hown (hts (.constant RJ6 265 (1431655765)) (List.mem_of_getElem? (i := 1) (by decide +kernel))) dJ6_bitCount_0f7a4_4 ?_
  refine lv_iand hx hb dJ6_bitCount_0f7a4_7 ?_
  refine lv_isub hx hb dJ6_bitCount_0f7a4_8 ?_
  refine lv_asi (show x - (((x.toUInt32 >>> ((1 : Int32).toUInt32 &&& Int32.toUInt32 31)).toInt32) &&& 1431655765) = j1 x from rfl) ?_
  refine lv_istore_n (lv' := [(0, .int (j1 x))]) hx hb dJ6_bitCount_0f7a4_9 rfl hl (by decide) rfl (fun ls hl => ?_)
  refine lv_iload_n hx hb dJ6_bitCount_0f7a4_10 rfl (lv_at hl 0 rfl) ?_
  refine lv_ldcw (v := 858993459) hx hb hown (hts (.constant RJ6 266 (858993459)) (List.mem_of_getElem? (i := 2) (by decide +kernel))) dJ6_bitCount_0f7a4_11 ?_
  refine lv_iand hx hb dJ6_bitCount_0f7a4_14 ?_
  refine lv_iload_n hx hb dJ6_bitCount_0f7a4_15 rfl (lv_at hl 0 rfl) ?_
  refine lv_iconst (v := 2) hx hb dJ6_bitCount_0f7a4_16 (by decide) ?_
  refine lv_iushr hx hb dJ6_bitCount_0f7a4_17 rfl ?_
  refine lv_ldcw (v := 858993459) hx hb hown (hts (.constant RJ6 266 (858993459)) (List.mem_of_getElem? (i := 2) (by decide +kernel))) dJ6_bitCount_0f7a4_18 ?_
  refine lv_iand hx hb dJ6_bitCount_0f7a4_21 ?_
  refine lv_iadd hx hb dJ6_bitCount_0f7a4_22 ?_
  refine lv_asi (show ((j1 x) &&& 858993459) + ((((j1 x).toUInt32 >>> ((2 : Int32).toUInt32 &&& Int32.toUInt32 31)).toInt32) &&& 858993459) = j2 (j1 x) from rfl) ?_
  refine lv_istore_n (lv' := [(0, .int (j2 (j1 x)))]) hx hb dJ6_bitCount_0f7a4_23 rfl hl (by decide) rfl (fun ls hl => ?_)
  refine lv_iload_n hx hb dJ6_bitCount_0f7a4_24 rfl (lv_at hl 0 rfl) ?_
  refine lv_iload_n hx hb dJ6_bitCount_0f7a4_25 rfl (lv_at hl 0 rfl) ?_
  refine lv_iconst (v := 4) hx hb dJ6_bitCount_0f7a4_26 (by decide) ?_
  refine lv_iushr hx hb dJ6_bitCount_0f7a4_27 rfl ?_
  refine lv_iadd hx hb dJ6_bitCount_0f7a4_28 ?_
  refine lv_ldcw (v := 252645135) hx hb hown (hts (.constant RJ6 267 (252645135)) (List.mem_of_getElem? (i := 3) (by decide +kernel))) dJ6_bitCount_0f7a4_29 ?_
  refine lv_iand hx hb dJ6_bitCount_0f7a4_32 ?_
  refine lv_asi (show ((j2 (j1 x)) + (((j2 (j1 x)).toUInt32 >>> ((4 : Int32).toUInt32 &&& Int32.toUInt32 31)).toInt32)) &&& 252645135 = j3 (j2 (j1 x)) from rfl) ?_
  refine lv_istore_n (lv' := [(0, .int (j3 (j2 (j1 x))))]) hx hb dJ6_bitCount_0f7a4_33 rfl hl (by decide) rfl (fun ls hl => ?_)
  refine lv_iload_n hx hb dJ6_bitCount_0f7a4_34 rfl (lv_at hl 0 rfl) ?_
  refine lv_iload_n hx hb dJ6_bitCount_0f7a4_35 rfl (lv_at hl 0 rfl) ?_
  refine lv_bipush (v := 8) hx hb dJ6_bitCount_0f7a4_36 (by decide) ?_
  refine lv_iushr hx hb dJ6_bitCount_0f7a4_38 rfl ?_
  refine lv_iadd hx hb dJ6_bitCount_0f7a4_39 ?_
  refine lv_asi (show (j3 (j2 (j1 x))) + (((j3 (j2 (j1 x))).toUInt32 >>> ((8 : Int32).toUInt32 &&& Int32.toUInt32 31)).toInt32) = j4 (j3 (j2 (j1 x))) from rfl) ?_
  refine lv_istore_n (lv' := [(0, .int (j4 (j3 (j2 (j1 x)))))]) hx hb dJ6_bitCount_0f7a4_40 rfl hl (by decide) rfl (fun ls hl => ?_)
  refine lv_iload_n hx hb dJ6_bitCount_0f7a4_41 rfl (lv_at hl 0 rfl) ?_
  refine lv_iload_n hx hb dJ6_bitCount_0f7a4_42 rfl (lv_at hl 0 rfl) ?_
  refine lv_bipush (v := 16) hx hb dJ6_bitCount_0f7a4_43 (by decide) ?_
  refine lv_iushr hx hb dJ6_bitCount_0f7a4_45 rfl ?_
  refine lv_iadd hx hb dJ6_bitCount_0f7a4_46 ?_
  refine lv_asi (show (j4 (j3 (j2 (j1 x)))) + (((j4 (j3 (j2 (j1 x)))).toUInt32 >>> ((16 : Int32).toUInt32 &&& Int32.toUInt32 31)).toInt32) = j5 (j4 (j3 (j2 (j1 x)))) from rfl) ?_
  refine lv_istore_n (lv' := [(0, .int (j5 (j4 (j3 (j2 (j1 x))))))]) hx hb dJ6_bitCount_0f7a4_47 rfl hl (by decide) rfl (fun ls hl => ?_)
  refine lv_iload_n hx hb dJ6_bitCount_0f7a4_48 rfl (lv_at hl 0 rfl) ?_
  refine lv_bipush (v := 63) hx hb dJ6_bitCount_0f7a4_49 (by decide) ?_
  refine lv_iand hx hb dJ6_bitCount_0f7a4_51 ?_
  exact W.iret (v := (j5 (j4 (j3 (j2 (j1 x))))) &&& 63) hx hb hr (fun t ht hW => ⟨_, rfl, rfl, ht⟩) (fun _ h => absurd h List.not_mem_nil) dJ6_bitCount_0f7a4_52

set_option maxHeartbeats 4000000 in
set_option maxRecDepth 100000 in
theorem c_X5_facts (l : Launch) (D : va_G) (cI cZ : ClassId) (sz : Nat) (zX : Nat) (zB : Nat) (zL : Nat) (zF : Nat) (zM : Nat) (zC : Nat) (zG : Nat) (zJ : Nat) (zK : Nat) (zW : Nat) (zU : Nat) (zV : Nat) (zR : Nat) (zE : Nat) (zLo : Nat) (zS : Nat) (zT : Nat) (zD : Nat) (zQ : Nat) (zP : Nat) (zN : Nat) (σ : ST) (kI : Nat → Int32) (lo : Nat → Int32) (x : Int32) (hok : Ok σ) (hkI : ∀ k, k < 2 ^ sF σ → kI k = b2 (kok σ k)) (hlo : ∀ k, k < 2 ^ sF σ → lo k = lawI σ (sR σ) k) : Met l yX5_facts wsX5_facts ({ frames := 5, cells := 0, slots := 0, locals := 113 }) (va_Pc [.ref zX, .int x] (XW D cI cZ [(zX, .inr (5, [.ref zB, .ref zL, .ref zF, .ref zM, .ref zC, .ref zG, .ref zJ, .int (nI (sG σ))])), (zB, .inr (0, [.int (nI (sF σ)), .int (nI (2 ^ sF σ)), .ref zK, .ref zW, .int (nI (sN σ)), .int (sR σ), .int (orE (rEr σ) (sN σ)), .ref zU, .ref zV, .ref zR, .ref zE])), (zK, .inl (cZ, 128, .inl kI)), (zW, .inl (cI, 7, .inl (rB σ))), (zM, .inr (4, [.int (nI (sM σ)), .ref zS, .ref zT, .ref zD])), (zC, .inr (1, [.int (nI (sC σ)), .ref zQ, .ref zP, .ref zN])), (zL, .inr (3, [.ref zB, .ref zLo])), (zLo, .inl (cI, 128, .inl lo)), (zU, .inl (cI, 12, .inl (rMu σ))), (zV, .inl (cI, 12, .inl (rMn σ))), (zE, .inl (cI, 12, .inl (rEr σ)))] sz)) (va_Qi (fun (r : Int32) (u : (Nat → Int32) × (Nat → Int32)) => r = oFacts σ x ∧ (∀ k, k < 2 ^ sF (nFacts σ x) → u.1 k = b2 (kok (nFacts σ x) k)) ∧ ∀ k, k < 2 ^ sF (nFacts σ x) → u.2 k = lawI (nFacts σ x) (sR (nFacts σ x)) k) (fun u => XB D cI cZ (va_A [(zX, .inr (5, [.ref zB, .ref zL, .ref zF, .ref zM, .ref zC, .ref zG, .ref zJ, .int (nI (sG σ))])), (zB, .inr (0, [.int (nI (sF σ)), .int (nI (2 ^ sF σ)), .ref zK, .ref zW, .int (nI (sN σ)), .int (sR σ), .int (orE (rEr σ) (sN σ)), .ref zU, .ref zV, .ref zR, .ref zE])), (zK, .inl (cZ, 128, .inl kI)), (zW, .inl (cI, 7, .inl (rB σ))), (zM, .inr (4, [.int (nI (sM σ)), .ref zS, .ref zT, .ref zD])), (zC, .inr (1, [.int (nI (sC σ)), .ref zQ, .ref zP, .ref zN])), (zL, .inr (3, [.ref zB, .ref zLo])), (zLo, .inl (cI, 128, .inl lo)), (zU, .inl (cI, 12, .inl (rMu σ))), (zV, .inl (cI, 12, .inl (rMn σ))), (zE, .inl (cI, 12, .inl (rEr σ)))] sz) [(zX, .inr (5, [.ref zB, .ref zL, .ref zF, .ref zM, .ref zC, .ref zG, .ref zJ, .int (nI (sG (nFacts σ x)))])), (zB, .inr (0, [.int (nI (sF (nFacts σ x))), .int (nI (2 ^ sF (nFacts σ x))), .ref zK, .ref zW, .int (nI (sN (nFacts σ x))), .int (sR (nFacts σ x)), .int (orE (rEr (nFacts σ x)) (sN (nFacts σ x))), .ref zU, .ref zV, .ref zR, .ref zE])), (zK, .inl (cZ, 128, .inl u.1)), (zW, .inl (cI, 7, .inl (rB (nFacts σ x)))), (zM, .inr (4, [.int (nI (sM (nFacts σ x))), .ref zS, .ref zT, .ref zD])), (zC, .inr (1, [.int (nI (sC (nFacts σ x))), .ref zQ, .ref zP, .ref zN])), (zL, .inr (3, [.ref zB, .ref zLo])), (zLo, .inl (cI, 128, .inl u.2)), (zU, .inl (cI, 12, .inl (rMu (nFacts σ x)))), (zV, .inl (cI, 12, .inl (rMn (nFacts σ x)))), (zE, .inl (cI, 12, .inl (rEr (nFacts σ x))))]) (va_A [(zX, .inr (5, [.ref zB, .ref zL, .ref zF, .ref zM, .ref zC, .ref zG, .ref zJ, .int (nI (sG σ))])), (zB, .inr (0, [.int (nI (sF σ)), .int (nI (2 ^ sF σ)), .ref zK, .ref zW, .int (nI (sN σ)), .int (sR σ), .int (orE (rEr σ) (sN σ)), .ref zU, .ref zV, .ref zR, .ref zE])), (zK, .inl (cZ, 128, .inl kI)), (zW, .inl (cI, 7, .inl (rB σ))), (zM, .inr (4, [.int (nI (sM σ)), .ref zS, .ref zT, .ref zD])), (zC, .inr (1, [.int (nI (sC σ)), .ref zQ, .ref zP, .ref zN])), (zL, .inr (3, [.ref zB, .ref zLo])), (zLo, .inl (cI, 128, .inl lo)), (zU, .inl (cI, 12, .inl (rMu σ))), (zV, .inl (cI, 12, .inl (rMn σ))), (zE, .inl (cI, 12, .inl (rEr σ)))] sz)) 0 0 (va_A [(zX, .inr (5, [.ref zB, .ref zL, .ref zF, .ref zM, .ref zC, .ref zG, .ref zJ, .int (nI (sG σ))])), (zB, .inr (0, [.int (nI (sF σ)), .int (nI (2 ^ sF σ)), .ref zK, .ref zW, .int (nI (sN σ)), .int (sR σ), .int (orE (rEr σ) (sN σ)), .ref zU, .ref zV, .ref zR, .ref zE])), (zK, .inl (cZ, 128, .inl kI)), (zW, .inl (cI, 7, .inl (rB σ))), (zM, .inr (4, [.int (nI (sM σ)), .ref zS, .ref zT, .ref zD])), (zC, .inr (1, [.int (nI (sC σ)), .ref zQ, .ref zP, .ref zN])), (zL, .inr (3, [.ref zB, .ref zLo])), (zLo, .inl (cI, 128, .inl lo)), (zU, .inl (cI, 12, .inl (rMu σ))), (zV, .inl (cI, 12, .inl (rMn σ))), (zE, .inl (cI, 12, .inl (rEr σ)))] sz) := by
  refine Met.ofW (cc := cX5_facts) (maxL := 3) (ret := (some .int)) (by decide) rfl ?_
  intro p e s m args below meth c s₁ B hml hv
  obtain ⟨rfl, hsz, ⟨hP, hK, hN⟩, hD0⟩ := hv
  have hx := B.exec
  have hb := B.bytes
  have hr := B.returns
  have hts := atoms_spec (ws := wsX5_facts) B.pre
  have hown : s.vm.findClass RX5 = some m.cls := findClass_of_methodNamed B.named
  have hlocks := B.notSynchronized
  subst hsz
  have hD := hD0.self (sz := s.heap.size)
  generalize hAe : va_A [(zX, .inr (5, [.ref zB, .ref zL, .ref zF, .ref zM, .ref zC, .ref zG, .ref zJ, .int (nI (sG σ))])), (zB, .inr (0, [.int (nI (sF σ)), .int (nI (2 ^ sF σ)), .ref zK, .ref zW, .int (nI (sN σ)), .int (sR σ), .int (orE (rEr σ) (sN σ)), .ref zU, .ref zV, .ref zR, .ref zE])), (zK, .inl (cZ, 128, .inl kI)), (zW, .inl (cI, 7, .inl (rB σ))), (zM, .inr (4, [.int (nI (sM σ)), .ref zS, .ref zT, .ref zD])), (zC, .inr (1, [.int (nI (sC σ)), .ref zQ, .ref zP, .ref zN])), (zL, .inr (3, [.ref zB, .ref zLo])), (zLo, .inl (cI, 128, .inl lo)), (zU, .inl (cI, 12, .inl (rMu σ))), (zV, .inl (cI, 12, .inl (rMn σ))), (zE, .inl (cI, 12, .inl (rEr σ)))] s.heap.size = A at hD ⊢
  have hA : ∀ q : Nat, s.heap.size ≤ q → A q := fun q h => by rw [← hAe]; exact Or.inr h
  have hS : va_S A s.heap s.heap [] := va_S.rf
  have ho := hok.1
  have hk2 := hok.k
  have hf10 := hts (.fieldLink RX5 10 "BallCourt" "book" "LBallCourt$Book;") (List.mem_of_getElem? (i := 1) (by decide +kernel))
  have hiX5 : ∀ w ∈ wsX50, w ∈ wsX5_facts := fun w h => List.mem_cons_of_mem _ (List.mem_append_left _ (List.mem_append_left _ (List.mem_append_left _ (List.mem_append_left _ (List.mem_append_right _ h)))))
  have hiX0 : ∀ w ∈ wsX00, w ∈ wsX5_facts := fun w h => List.mem_cons_of_mem _ (List.mem_append_left _ (List.mem_append_left _ (List.mem_append_left _ (List.mem_append_right _ h))))
  have hl := lv_entry ([.ref zX, .int x]) (n := 3) (Nat.le_of_ble_eq_true rfl)
  rw [lg_entry_eq]
  generalize (lg_sl ([.ref zX, .int x]) ++ List.replicate (3 - (lg_sl ([.ref zX, .int x])).length) Slot.unset).toArray = ls at hl ⊢
  have hl : lv_has ls 3 [(0, .ref zX), (1, .int x)] := hl
  refine lv_iload_n hx hb dX5_facts_0 rfl (lv_at hl 1 rfl) ?_
  refine lv_iconst (v := 1) hx hb dX5_facts_1 (by decide) ?_
  refine lv_icmp_lt (tgt := 11) hx hb dX5_facts_2 (by decide) (fun c2 => ?_) (fun c2 => ?_)
  · skip
    have cG : inI x 1 7 = false := by simp only [inI, decide_eq_true c2]; rfl
    refine lv_bipush (v := (-2)) hx hb dX5_facts_11 (by decide) ?_
    have hP9 := hP
    have hD9 := hD
    have eN : nFacts σ x = σ := by rw [nFacts, if_pos cG]
    exact W.iret (v := (-2)) hx hb hr (fun t ht hW => ⟨⟨(-2), (kI, lo), rfl, (by rw [eN]; exact ⟨by rw [oFacts, if_pos cG], hkI, hlo⟩), ⟨⟨by rw [ht, eN]; exact hP9, va_K.moved hW.alike hK, NW.warm hW hN⟩, by rw [eN]; exact hD9⟩⟩, hS.F ht⟩) hS.2.2 dX5_facts_13
  · skip
    refine lv_iload_n hx hb dX5_facts_5 rfl (lv_at hl 1 rfl) ?_
    refine lv_bipush (v := 7) hx hb dX5_facts_6 (by decide) ?_
    refine lv_icmp_le (tgt := 14) hx hb dX5_facts_8 (by decide) (fun c8 => ?_) (fun c8 => ?_)
    · skip
      have c8 := Int32.not_lt.mpr c8
      have cG : inI x 1 7 = true := by simp only [inI, decide_eq_false c2, decide_eq_false c8]; rfl
      obtain ⟨q, hq, rfl⟩ := rng1 (a := 1) (b := 7) (by omega) cG
      have kq : (nI q).toNatClampNeg = q := nI_clamp (by omega)
      refine lv_aload_n hx hb dX5_facts_14 rfl (lv_at hl 0 rfl) ?_
      refine va_get (D := D) (ci := 5) (v := .ref zB) (C := RX5) (T := TX5) (N := 8) hx hb hts hiX5 hown hK hP 0 rfl rfl 0 (by decide) hf10 (fun _ h9 => h9) rfl dX5_facts_15 ?_
      refine va_getN (D := D) (ci := 0) (v := .int (nI (sF σ))) (C := RX0) (T := TX0) (N := 11) hx hb hts hiX0 hown hK hP 1 rfl rfl 0 (by decide) (NW.f hN 3 rfl _) (fun _ h9 => h9) rfl dX5_facts_18 ?_
      refine lv_istore_n (lv' := [(2, .int (nI (sF σ))), (0, .ref zX), (1, .int (nI q))]) hx hb dX5_facts_21 rfl hl (by decide) rfl (fun ls hl => ?_)
      refine lv_aload_n hx hb dX5_facts_22 rfl (lv_at hl 1 rfl) ?_
      refine lv_iload_n hx hb dX5_facts_23 rfl (lv_at hl 2 rfl) ?_
      refine xwVv (rest := []) (wr := []) ⟨hx, hb, hml, hown, hts⟩ (c_X5_beginAnew l D cI cZ s.heap.size zX zB zL zF zM zC zG zJ zK zW zU zV zR zE zLo zS zT zD zQ zP zN σ kI lo (nI (sF σ)) (nI (2 ^ sF σ)) (nI (sN σ)) (sR σ) (orE (rEr σ) (sN σ)) (nI (sM σ)) (nI (sC σ)) q hq (by omega)) (cwV 1 hts gX5_facts_X5_beginAnew rfl rfl rfl (by decide +kernel) ⟨Nat.le_of_ble_eq_true rfl, Nat.le_of_ble_eq_true rfl⟩) hP hD hS hA [0, 1, 2, 3, 4, 5, 6, 7, 8, 9, 10] [] rfl rfl (by decide) (by decide) (by decide) hK hN (ci := 5) (q0 := 0) rfl rfl rfl hl.1 rfl (Nat.le_of_ble_eq_true rfl) dX5_facts_24 ⟨Nat.zero_le _, Nat.zero_le _⟩ (fun u24 H locs e24 hP hD hS => ?_)
      obtain ⟨kI2, lo2⟩ := u24
      have hP : va_P D vwCl [(zX, .inr (5, [.ref zB, .ref zL, .ref zF, .ref zM, .ref zC, .ref zG, .ref zJ, .int (nI (sG (bgS σ q)))])), (zB, .inr (0, [.int (nI (sF (bgS σ q))), .int (nI (2 ^ sF (bgS σ q))), .ref zK, .ref zW, .int (nI (sN (bgS σ q))), .int (sR (bgS σ q)), .int (orE (rEr (bgS σ q)) (sN (bgS σ q))), .ref zU, .ref zV, .ref zR, .ref zE])), (zK, .inl (cZ, 128, .inl kI2)), (zW, .inl (cI, 7, .inl (rB (bgS σ q)))), (zM, .inr (4, [.int (nI (sM (bgS σ q))), .ref zS, .ref zT, .ref zD])), (zC, .inr (1, [.int (nI (sC (bgS σ q))), .ref zQ, .ref zP, .ref zN])), (zL, .inr (3, [.ref zB, .ref zLo])), (zLo, .inl (cI, 128, .inl lo2)), (zU, .inl (cI, 12, .inl (rMu (bgS σ q)))), (zV, .inl (cI, 12, .inl (rMn (bgS σ q)))), (zE, .inl (cI, 12, .inl (rEr (bgS σ q))))] H := hP
      have hD : va_D A [(zX, .inr (5, [.ref zB, .ref zL, .ref zF, .ref zM, .ref zC, .ref zG, .ref zJ, .int (nI (sG (bgS σ q)))])), (zB, .inr (0, [.int (nI (sF (bgS σ q))), .int (nI (2 ^ sF (bgS σ q))), .ref zK, .ref zW, .int (nI (sN (bgS σ q))), .int (sR (bgS σ q)), .int (orE (rEr (bgS σ q)) (sN (bgS σ q))), .ref zU, .ref zV, .ref zR, .ref zE])), (zK, .inl (cZ, 128, .inl kI2)), (zW, .inl (cI, 7, .inl (rB (bgS σ q)))), (zM, .inr (4, [.int (nI (sM (bgS σ q))), .ref zS, .ref zT, .ref zD])), (zC, .inr (1, [.int (nI (sC (bgS σ q))), .ref zQ, .ref zP, .ref zN])), (zL, .inr (3, [.ref zB, .ref zLo])), (zLo, .inl (cI, 128, .inl lo2)), (zU, .inl (cI, 12, .inl (rMu (bgS σ q)))), (zV, .inl (cI, 12, .inl (rMn (bgS σ q)))), (zE, .inl (cI, 12, .inl (rEr (bgS σ q))))] := hD
      refine lv_iload_n hx hb dX5_facts_27 rfl (lv_at hl 0 rfl) ?_
      have hP9 := hP
      have hD9 := hD
      have eN : nFacts σ (nI q) = bgS σ q := by rw [nFacts, if_neg (by rw [cG]; decide), kq]
      exact W.iret (v := nI (sF σ)) hx hb hr (fun t ht hW => ⟨⟨nI (sF σ), (kI2, lo2), rfl, (by rw [eN]; exact ⟨by rw [oFacts, if_neg (by rw [cG]; decide)], e24.1, e24.2⟩), ⟨⟨by rw [ht, eN]; exact hP9, va_K.moved hW.alike hK, NW.warm hW hN⟩, by rw [eN]; exact hD9⟩⟩, hS.F ht⟩) hS.2.2 dX5_facts_28
    · skip
      have c8 := Int32.not_le.mp c8
      have cG : inI x 1 7 = false := by simp only [inI, decide_eq_false c2, decide_eq_true c8]; rfl
      refine lv_bipush (v := (-2)) hx hb dX5_facts_11 (by decide) ?_
      have hP9 := hP
      have hD9 := hD
      have eN : nFacts σ x = σ := by rw [nFacts, if_pos cG]
      exact W.iret (v := (-2)) hx hb hr (fun t ht hW => ⟨⟨(-2), (kI, lo), rfl, (by rw [eN]; exact ⟨by rw [oFacts, if_pos cG], hkI, hlo⟩), ⟨⟨by rw [ht, eN]; exact hP9, va_K.moved hW.alike hK, NW.warm hW hN⟩, by rw [eN]; exact hD9⟩⟩, hS.F ht⟩) hS.2.2 dX5_facts_13

set_option maxHeartbeats 4000000 in
set_option maxRecDepth 100000 in
theorem c_X5_barred (l : Launch) (D : va_G) (cI cZ : ClassId) (sz : Nat) (zX : Nat) (zB : Nat) (zL : Nat) (zF : Nat) (zM : Nat) (zC : Nat) (zG : Nat) (zJ : Nat) (zK : Nat) (zW : Nat) (zU : Nat) (zV : Nat) (zR : Nat) (zE : Nat) (σ : ST) (kI : Nat → Int32) (x : Int32) (y : Int32) (is : Bool) (hok : Ok σ) (hkI : ∀ k, k < 2 ^ sF σ → kI k = b2 (kok σ k)) : Met l yX5_barred wsX5_barred ({ frames := 4, cells := 0, slots := 0, locals := 87 }) (va_Pc [.ref zX, .int x, .int y, .int (b2 is)] (XW D cI cZ [(zX, .inr (5, [.ref zB, .ref zL, .ref zF, .ref zM, .ref zC, .ref zG, .ref zJ, .int (nI (sG σ))])), (zB, .inr (0, [.int (nI (sF σ)), .int (nI (2 ^ sF σ)), .ref zK, .ref zW, .int (nI (sN σ)), .int (sR σ), .int (orE (rEr σ) (sN σ)), .ref zU, .ref zV, .ref zR, .ref zE])), (zK, .inl (cZ, 128, .inl kI)), (zW, .inl (cI, 7, .inl (rB σ)))] sz)) (va_Qi (fun (r : Int32) (u : Nat → Int32) => r = oBarred σ x y ∧ (∀ k, k < 2 ^ sF (nBarred σ x y is) → u k = b2 (kok (nBarred σ x y is) k))) (fun u => XB D cI cZ (va_A [(zX, .inr (5, [.ref zB, .ref zL, .ref zF, .ref zM, .ref zC, .ref zG, .ref zJ, .int (nI (sG σ))])), (zB, .inr (0, [.int (nI (sF σ)), .int (nI (2 ^ sF σ)), .ref zK, .ref zW, .int (nI (sN σ)), .int (sR σ), .int (orE (rEr σ) (sN σ)), .ref zU, .ref zV, .ref zR, .ref zE])), (zK, .inl (cZ, 128, .inl kI)), (zW, .inl (cI, 7, .inl (rB σ)))] sz) [(zX, .inr (5, [.ref zB, .ref zL, .ref zF, .ref zM, .ref zC, .ref zG, .ref zJ, .int (nI (sG (nBarred σ x y is)))])), (zB, .inr (0, [.int (nI (sF (nBarred σ x y is))), .int (nI (2 ^ sF (nBarred σ x y is))), .ref zK, .ref zW, .int (nI (sN (nBarred σ x y is))), .int (sR (nBarred σ x y is)), .int (orE (rEr (nBarred σ x y is)) (sN (nBarred σ x y is))), .ref zU, .ref zV, .ref zR, .ref zE])), (zK, .inl (cZ, 128, .inl u)), (zW, .inl (cI, 7, .inl (rB (nBarred σ x y is))))]) (va_A [(zX, .inr (5, [.ref zB, .ref zL, .ref zF, .ref zM, .ref zC, .ref zG, .ref zJ, .int (nI (sG σ))])), (zB, .inr (0, [.int (nI (sF σ)), .int (nI (2 ^ sF σ)), .ref zK, .ref zW, .int (nI (sN σ)), .int (sR σ), .int (orE (rEr σ) (sN σ)), .ref zU, .ref zV, .ref zR, .ref zE])), (zK, .inl (cZ, 128, .inl kI)), (zW, .inl (cI, 7, .inl (rB σ)))] sz)) 0 0 (va_A [(zX, .inr (5, [.ref zB, .ref zL, .ref zF, .ref zM, .ref zC, .ref zG, .ref zJ, .int (nI (sG σ))])), (zB, .inr (0, [.int (nI (sF σ)), .int (nI (2 ^ sF σ)), .ref zK, .ref zW, .int (nI (sN σ)), .int (sR σ), .int (orE (rEr σ) (sN σ)), .ref zU, .ref zV, .ref zR, .ref zE])), (zK, .inl (cZ, 128, .inl kI)), (zW, .inl (cI, 7, .inl (rB σ)))] sz) := by
  refine Met.ofW (cc := cX5_barred) (maxL := 5) (ret := (some .int)) (by decide) rfl ?_
  intro p e s m args below meth c s₁ B hml hv
  obtain ⟨rfl, hsz, ⟨hP, hK, hN⟩, hD0⟩ := hv
  have hx := B.exec
  have hb := B.bytes
  have hr := B.returns
  have hts := atoms_spec (ws := wsX5_barred) B.pre
  have hown : s.vm.findClass RX5 = some m.cls := findClass_of_methodNamed B.named
  have hlocks := B.notSynchronized
  subst hsz
  have hD := hD0.self (sz := s.heap.size)
  generalize hAe : va_A [(zX, .inr (5, [.ref zB, .ref zL, .ref zF, .ref zM, .ref zC, .ref zG, .ref zJ, .int (nI (sG σ))])), (zB, .inr (0, [.int (nI (sF σ)), .int (nI (2 ^ sF σ)), .ref zK, .ref zW, .int (nI (sN σ)), .int (sR σ), .int (orE (rEr σ) (sN σ)), .ref zU, .ref zV, .ref zR, .ref zE])), (zK, .inl (cZ, 128, .inl kI)), (zW, .inl (cI, 7, .inl (rB σ)))] s.heap.size = A at hD ⊢
  have hA : ∀ q : Nat, s.heap.size ≤ q → A q := fun q h => by rw [← hAe]; exact Or.inr h
  have hS : va_S A s.heap s.heap [] := va_S.rf
  have ho := hok.1
  have hk2 := hok.k
  have hf10 := hts (.fieldLink RX5 10 "BallCourt" "book" "LBallCourt$Book;") (List.mem_of_getElem? (i := 1) (by decide +kernel))
  have hiX5 : ∀ w ∈ wsX50, w ∈ wsX5_barred := fun w h => List.mem_cons_of_mem _ (List.mem_append_left _ (List.mem_append_right _ h))
  have hl := lv_entry ([.ref zX, .int x, .int y, .int (b2 is)]) (n := 5) (Nat.le_of_ble_eq_true rfl)
  rw [lg_entry_eq]
  generalize (lg_sl ([.ref zX, .int x, .int y, .int (b2 is)]) ++ List.replicate (5 - (lg_sl ([.ref zX, .int x, .int y, .int (b2 is)])).length) Slot.unset).toArray = ls at hl ⊢
  have hl : lv_has ls 5 [(0, .ref zX), (1, .int x), (2, .int y), (3, .int (b2 is))] := hl
  refine lv_aload_n hx hb dX5_barred_0 rfl (lv_at hl 0 rfl) ?_
  refine va_get (D := D) (ci := 5) (v := .ref zB) (C := RX5) (T := TX5) (N := 8) hx hb hts hiX5 hown hK hP 0 rfl rfl 0 (by decide) hf10 (fun _ h9 => h9) rfl dX5_barred_1 ?_
  refine lv_iload_n hx hb dX5_barred_4 rfl (lv_at hl 1 rfl) ?_
  refine xpV (rest := []) ⟨hx, hb, hml, hown, hts⟩ (c_X0_hasFact l D cI cZ zB zK zW zU zV zR zE σ x) (cwV 1 hts gX5_barred_X0_hasFact rfl rfl rfl (by decide +kernel) ⟨Nat.le_of_ble_eq_true rfl, Nat.le_of_ble_eq_true rfl⟩) hP [1] rfl hK hN (ci := 0) (q0 := 1) rfl rfl rfl hl.1 rfl (Nat.le_of_ble_eq_true rfl) dX5_barred_5 ⟨Nat.zero_le _, Nat.zero_le _⟩ (fun r5 e5 => ?_)
  subst e5
  refine lv_if_eq (tgt := 27) hx hb dX5_barred_8 (by decide) (fun c8 => ?_) (fun c8 => ?_)
  · skip
    have c8 := b2_0 c8
    refine lv_iconst (v := (-1)) hx hb dX5_barred_27 (by decide) ?_
    have hP9 := hP
    have hD9 := hD
    have eN : nBarred σ x y is = σ := by rw [nBarred, if_pos c8]
    have eO : oBarred σ x y = -1 := by rw [oBarred, if_pos c8]
    exact W.iret (v := (-1)) hx hb hr (fun t ht hW => ⟨⟨(-1), kI, rfl, (by rw [eN]; exact ⟨eO.symm, hkI⟩), ⟨⟨by rw [ht, eN]; exact hP9, va_K.moved hW.alike hK, NW.warm hW hN⟩, by rw [eN]; exact hD9⟩⟩, hS.F ht⟩) hS.2.2 dX5_barred_28
  · skip
    have c8 := b2_1 c8
    refine lv_aload_n hx hb dX5_barred_11 rfl (lv_at hl 0 rfl) ?_
    refine va_get (D := D) (ci := 5) (v := .ref zB) (C := RX5) (T := TX5) (N := 8) hx hb hts hiX5 hown hK hP 0 rfl rfl 0 (by decide) hf10 (fun _ h9 => h9) rfl dX5_barred_12 ?_
    refine lv_iload_n hx hb dX5_barred_15 rfl (lv_at hl 2 rfl) ?_
    refine xpV (rest := []) ⟨hx, hb, hml, hown, hts⟩ (c_X0_hasFact l D cI cZ zB zK zW zU zV zR zE σ y) (cwV 1 hts gX5_barred_X0_hasFact rfl rfl rfl (by decide +kernel) ⟨Nat.le_of_ble_eq_true rfl, Nat.le_of_ble_eq_true rfl⟩) hP [1] rfl hK hN (ci := 0) (q0 := 1) rfl rfl rfl hl.1 rfl (Nat.le_of_ble_eq_true rfl) dX5_barred_16 ⟨Nat.zero_le _, Nat.zero_le _⟩ (fun r16 e16 => ?_)
    subst e16
    refine lv_if_eq (tgt := 27) hx hb dX5_barred_19 (by decide) (fun c19 => ?_) (fun c19 => ?_)
    · skip
      have c19 := b2_0 c19
      refine lv_iconst (v := (-1)) hx hb dX5_barred_27 (by decide) ?_
      have hP9 := hP
      have hD9 := hD
      have eN : nBarred σ x y is = σ := by rw [nBarred, if_neg (by rw [c8]; decide), if_pos c19]
      have eO : oBarred σ x y = -1 := by rw [oBarred, if_neg (by rw [c8]; decide), if_pos c19]
      exact W.iret (v := (-1)) hx hb hr (fun t ht hW => ⟨⟨(-1), kI, rfl, (by rw [eN]; exact ⟨eO.symm, hkI⟩), ⟨⟨by rw [ht, eN]; exact hP9, va_K.moved hW.alike hK, NW.warm hW hN⟩, by rw [eN]; exact hD9⟩⟩, hS.F ht⟩) hS.2.2 dX5_barred_28
    · skip
      have c19 := b2_1 c19
      refine lv_iload_n hx hb dX5_barred_22 rfl (lv_at hl 1 rfl) ?_
      refine lv_iload_n hx hb dX5_barred_23 rfl (lv_at hl 2 rfl) ?_
      refine lv_icmp_ne (tgt := 29) hx hb dX5_barred_24 (by decide) (fun c24 => ?_) (fun c24 => ?_)
      · skip
        obtain ⟨a, ha, rfl⟩ := inN_t c8 (by omega)
        obtain ⟨b, hb2, rfl⟩ := inN_t c19 (by omega)
        have ka : (nI a).toNatClampNeg = a := nI_clamp (by omega)
        have kb : (nI b).toNatClampNeg = b := nI_clamp (by omega)
        refine lv_aload_n hx hb dX5_barred_29 rfl (lv_at hl 0 rfl) ?_
        refine va_get (D := D) (ci := 5) (v := .ref zB) (C := RX5) (T := TX5) (N := 8) hx hb hts hiX5 hown hK hP 0 rfl rfl 0 (by decide) hf10 (fun _ h9 => h9) rfl dX5_barred_30 ?_
        refine lv_iload_n hx hb dX5_barred_33 rfl (lv_at hl 1 rfl) ?_
        refine lv_iload_n hx hb dX5_barred_34 rfl (lv_at hl 2 rfl) ?_
        refine xpV (rest := []) ⟨hx, hb, hml, hown, hts⟩ (c_X0_areBarred l D cI cZ zB zK zW zU zV zR zE σ a b (by omega)) (cwV 2 hts gX5_barred_X0_areBarred rfl rfl rfl (by decide +kernel) ⟨Nat.le_of_ble_eq_true rfl, Nat.le_of_ble_eq_true rfl⟩) hP [1, 3] rfl hK hN (ci := 0) (q0 := 1) rfl rfl rfl hl.1 rfl (Nat.le_of_ble_eq_true rfl) dX5_barred_35 ⟨Nat.zero_le _, Nat.zero_le _⟩ (fun r35 e35 => ?_)
        subst e35
        refine lv_istore (lv' := [(4, .int (b2 (bit (rB σ a) (nI b)))), (0, .ref zX), (1, .int (nI a)), (2, .int (nI b)), (3, .int (b2 is))]) hx hb dX5_barred_38 hl (by decide) rfl (fun ls hl => ?_)
        refine lv_aload_n hx hb dX5_barred_40 rfl (lv_at hl 1 rfl) ?_
        refine va_get (D := D) (ci := 5) (v := .ref zB) (C := RX5) (T := TX5) (N := 8) hx hb hts hiX5 hown hK hP 0 rfl rfl 0 (by decide) hf10 (fun _ h9 => h9) rfl dX5_barred_41 ?_
        refine lv_iload_n hx hb dX5_barred_44 rfl (lv_at hl 2 rfl) ?_
        refine lv_iload_n hx hb dX5_barred_45 rfl (lv_at hl 3 rfl) ?_
        refine lv_iload_n hx hb dX5_barred_46 rfl (lv_at hl 4 rfl) ?_
        refine xwVv (rest := []) (wr := [(zX, .inr (5, [.ref zB, .ref zL, .ref zF, .ref zM, .ref zC, .ref zG, .ref zJ, .int (nI (sG σ))]))]) ⟨hx, hb, hml, hown, hts⟩ (c_X0_bar l D cI cZ s.heap.size zB zK zW zU zV zR zE σ kI a b is hok ha hb2) (cwV 3 hts gX5_barred_X0_bar rfl rfl rfl (by decide +kernel) ⟨Nat.le_of_ble_eq_true rfl, Nat.le_of_ble_eq_true rfl⟩) hP hD hS hA [1, 2, 3] [0] rfl rfl (by decide) (by decide) (by decide) hK hN (ci := 0) (q0 := 1) rfl rfl rfl hl.1 rfl (Nat.le_of_ble_eq_true rfl) dX5_barred_47 ⟨Nat.zero_le _, Nat.zero_le _⟩ (fun u47 H locs e47 hP hD hS => ?_)
        obtain ⟨kI2, rfl⟩ : ∃ z, z = u47 := ⟨_, rfl⟩
        have hP : va_P D vwCl [(zX, .inr (5, [.ref zB, .ref zL, .ref zF, .ref zM, .ref zC, .ref zG, .ref zJ, .int (nI (sG σ))])), (zB, .inr (0, [.int (nI (sF (barS σ a b is))), .int (nI (2 ^ sF (barS σ a b is))), .ref zK, .ref zW, .int (nI (sN (barS σ a b is))), .int (sR (barS σ a b is)), .int (orE (rEr (barS σ a b is)) (sN (barS σ a b is))), .ref zU, .ref zV, .ref zR, .ref zE])), (zK, .inl (cZ, 128, .inl kI2)), (zW, .inl (cI, 7, .inl (rB (barS σ a b is))))] H := hP
        have hD : va_D A [(zX, .inr (5, [.ref zB, .ref zL, .ref zF, .ref zM, .ref zC, .ref zG, .ref zJ, .int (nI (sG σ))])), (zB, .inr (0, [.int (nI (sF (barS σ a b is))), .int (nI (2 ^ sF (barS σ a b is))), .ref zK, .ref zW, .int (nI (sN (barS σ a b is))), .int (sR (barS σ a b is)), .int (orE (rEr (barS σ a b is)) (sN (barS σ a b is))), .ref zU, .ref zV, .ref zR, .ref zE])), (zK, .inl (cZ, 128, .inl kI2)), (zW, .inl (cI, 7, .inl (rB (barS σ a b is))))] := hD
        refine lv_iload hx hb dX5_barred_50 (lv_at hl 0 rfl) ?_
        refine xpS (rest := []) ⟨hx, hb, hml, hown, hts⟩ (c_X5_oneIf l D cI cZ (bit (rB σ a) (nI b))) (va_cwS 1 hts gX5_barred_X5_oneIf rfl rfl rfl (by decide +kernel) ⟨Nat.le_of_ble_eq_true rfl, Nat.le_of_ble_eq_true rfl⟩) hP [] rfl hK hN rfl hl.1 rfl (Nat.le_of_ble_eq_true rfl) dX5_barred_52 ⟨Nat.zero_le _, Nat.zero_le _⟩ (fun r52 e52 => ?_)
        subst e52
        have hP9 := hP
        have hD9 := hD
        have eN : nBarred σ (nI a) (nI b) is = barS σ a b is := by rw [nBarred, if_neg (by rw [c8]; decide), if_neg (by rw [c19]; decide), if_neg c24, ka, kb]
        exact W.iret (v := b2 (bit (rB σ a) (nI b))) hx hb hr (fun t ht hW => ⟨⟨b2 (bit (rB σ a) (nI b)), kI2, rfl, (by rw [eN]; exact ⟨by rw [oBarred, if_neg (by rw [c8]; decide), if_neg (by rw [c19]; decide), if_neg c24, ka], e47⟩), ⟨⟨by rw [ht, eN]; exact hP9, va_K.moved hW.alike hK, NW.warm hW hN⟩, by rw [eN]; exact hD9⟩⟩, hS.F ht⟩) hS.2.2 dX5_barred_55
      · skip
        refine lv_iconst (v := (-1)) hx hb dX5_barred_27 (by decide) ?_
        have hP9 := hP
        have hD9 := hD
        have eN : nBarred σ x y is = σ := by rw [nBarred, if_neg (by rw [c8]; decide), if_neg (by rw [c19]; decide), if_pos c24]
        have eO : oBarred σ x y = -1 := by rw [oBarred, if_neg (by rw [c8]; decide), if_neg (by rw [c19]; decide), if_pos c24]
        exact W.iret (v := (-1)) hx hb hr (fun t ht hW => ⟨⟨(-1), kI, rfl, (by rw [eN]; exact ⟨eO.symm, hkI⟩), ⟨⟨by rw [ht, eN]; exact hP9, va_K.moved hW.alike hK, NW.warm hW hN⟩, by rw [eN]; exact hD9⟩⟩, hS.F ht⟩) hS.2.2 dX5_barred_28

set_option maxHeartbeats 4000000 in
set_option maxRecDepth 100000 in
theorem c_X5_line (l : Launch) (D : va_G) (cI cZ : ClassId) (sz : Nat) (zX : Nat) (zB : Nat) (zL : Nat) (zF : Nat) (zM : Nat) (zC : Nat) (zG : Nat) (zJ : Nat) (zK : Nat) (zW : Nat) (zU : Nat) (zV : Nat) (zR : Nat) (zE : Nat) (zLo : Nat) (σ : ST) (lo : Nat → Int32) (x : Int32) (y : Int32) (z : Int32) (hok : Ok σ) (hlo : ∀ k, k < 2 ^ sF σ → lo k = lawI σ (sR σ) k) : Met l yX5_line wsX5_line ({ frames := 4, cells := 0, slots := 0, locals := 92 }) (va_Pc [.ref zX, .int x, .int y, .int z] (XW D cI cZ [(zX, .inr (5, [.ref zB, .ref zL, .ref zF, .ref zM, .ref zC, .ref zG, .ref zJ, .int (nI (sG σ))])), (zB, .inr (0, [.int (nI (sF σ)), .int (nI (2 ^ sF σ)), .ref zK, .ref zW, .int (nI (sN σ)), .int (sR σ), .int (orE (rEr σ) (sN σ)), .ref zU, .ref zV, .ref zR, .ref zE])), (zU, .inl (cI, 12, .inl (rMu σ))), (zV, .inl (cI, 12, .inl (rMn σ))), (zR, .inl (cI, 12, .inl (rRu σ))), (zE, .inl (cI, 12, .inl (rEr σ))), (zL, .inr (3, [.ref zB, .ref zLo])), (zLo, .inl (cI, 128, .inl lo))] sz)) (va_Qi (fun (r : Int32) (u : Nat → Int32) => r = oLine σ x y z ∧ ∀ k, k < 2 ^ sF (nLine σ x y z) → u k = lawI (nLine σ x y z) (sR (nLine σ x y z)) k) (fun u => XB D cI cZ (va_A [(zX, .inr (5, [.ref zB, .ref zL, .ref zF, .ref zM, .ref zC, .ref zG, .ref zJ, .int (nI (sG σ))])), (zB, .inr (0, [.int (nI (sF σ)), .int (nI (2 ^ sF σ)), .ref zK, .ref zW, .int (nI (sN σ)), .int (sR σ), .int (orE (rEr σ) (sN σ)), .ref zU, .ref zV, .ref zR, .ref zE])), (zU, .inl (cI, 12, .inl (rMu σ))), (zV, .inl (cI, 12, .inl (rMn σ))), (zR, .inl (cI, 12, .inl (rRu σ))), (zE, .inl (cI, 12, .inl (rEr σ))), (zL, .inr (3, [.ref zB, .ref zLo])), (zLo, .inl (cI, 128, .inl lo))] sz) [(zX, .inr (5, [.ref zB, .ref zL, .ref zF, .ref zM, .ref zC, .ref zG, .ref zJ, .int (nI (sG (nLine σ x y z)))])), (zB, .inr (0, [.int (nI (sF (nLine σ x y z))), .int (nI (2 ^ sF (nLine σ x y z))), .ref zK, .ref zW, .int (nI (sN (nLine σ x y z))), .int (sR (nLine σ x y z)), .int (orE (rEr (nLine σ x y z)) (sN (nLine σ x y z))), .ref zU, .ref zV, .ref zR, .ref zE])), (zU, .inl (cI, 12, .inl (rMu (nLine σ x y z)))), (zV, .inl (cI, 12, .inl (rMn (nLine σ x y z)))), (zR, .inl (cI, 12, .inl (rRu (nLine σ x y z)))), (zE, .inl (cI, 12, .inl (rEr (nLine σ x y z)))), (zL, .inr (3, [.ref zB, .ref zLo])), (zLo, .inl (cI, 128, .inl u))]) (va_A [(zX, .inr (5, [.ref zB, .ref zL, .ref zF, .ref zM, .ref zC, .ref zG, .ref zJ, .int (nI (sG σ))])), (zB, .inr (0, [.int (nI (sF σ)), .int (nI (2 ^ sF σ)), .ref zK, .ref zW, .int (nI (sN σ)), .int (sR σ), .int (orE (rEr σ) (sN σ)), .ref zU, .ref zV, .ref zR, .ref zE])), (zU, .inl (cI, 12, .inl (rMu σ))), (zV, .inl (cI, 12, .inl (rMn σ))), (zR, .inl (cI, 12, .inl (rRu σ))), (zE, .inl (cI, 12, .inl (rEr σ))), (zL, .inr (3, [.ref zB, .ref zLo])), (zLo, .inl (cI, 128, .inl lo))] sz)) 0 0 (va_A [(zX, .inr (5, [.ref zB, .ref zL, .ref zF, .ref zM, .ref zC, .ref zG, .ref zJ, .int (nI (sG σ))])), (zB, .inr (0, [.int (nI (sF σ)), .int (nI (2 ^ sF σ)), .ref zK, .ref zW, .int (nI (sN σ)), .int (sR σ), .int (orE (rEr σ) (sN σ)), .ref zU, .ref zV, .ref zR, .ref zE])), (zU, .inl (cI, 12, .inl (rMu σ))), (zV, .inl (cI, 12, .inl (rMn σ))), (zR, .inl (cI, 12, .inl (rRu σ))), (zE, .inl (cI, 12, .inl (rEr σ))), (zL, .inr (3, [.ref zB, .ref zLo])), (zLo, .inl (cI, 128, .inl lo))] sz) := by
  refine Met.ofW (cc := cX5_line) (maxL := 5) (ret := (some .int)) (by decide) rfl ?_
  intro p e s m args below meth c s₁ B hml hv
  obtain ⟨rfl, hsz, ⟨hP, hK, hN⟩, hD0⟩ := hv
  have hx := B.exec
  have hb := B.bytes
  have hr := B.returns
  have hts := atoms_spec (ws := wsX5_line) B.pre
  have hown : s.vm.findClass RX5 = some m.cls := findClass_of_methodNamed B.named
  have hlocks := B.notSynchronized
  subst hsz
  have hD := hD0.self (sz := s.heap.size)
  generalize hAe : va_A [(zX, .inr (5, [.ref zB, .ref zL, .ref zF, .ref zM, .ref zC, .ref zG, .ref zJ, .int (nI (sG σ))])), (zB, .inr (0, [.int (nI (sF σ)), .int (nI (2 ^ sF σ)), .ref zK, .ref zW, .int (nI (sN σ)), .int (sR σ), .int (orE (rEr σ) (sN σ)), .ref zU, .ref zV, .ref zR, .ref zE])), (zU, .inl (cI, 12, .inl (rMu σ))), (zV, .inl (cI, 12, .inl (rMn σ))), (zR, .inl (cI, 12, .inl (rRu σ))), (zE, .inl (cI, 12, .inl (rEr σ))), (zL, .inr (3, [.ref zB, .ref zLo])), (zLo, .inl (cI, 128, .inl lo))] s.heap.size = A at hD ⊢
  have hA : ∀ q : Nat, s.heap.size ≤ q → A q := fun q h => by rw [← hAe]; exact Or.inr h
  have hS : va_S A s.heap s.heap [] := va_S.rf
  have ho := hok.1
  have hk2 := hok.k
  have hf10 := hts (.fieldLink RX5 10 "BallCourt" "book" "LBallCourt$Book;") (List.mem_of_getElem? (i := 1) (by decide +kernel))
  have hiX5 : ∀ w ∈ wsX50, w ∈ wsX5_line := fun w h => List.mem_cons_of_mem _ (List.mem_append_left _ (List.mem_append_left _ (List.mem_append_right _ h)))
  have hiX0 : ∀ w ∈ wsX00, w ∈ wsX5_line := fun w h => List.mem_cons_of_mem _ (List.mem_append_left _ (List.mem_append_right _ h))
  have hf21 := hts (.fieldLink RX5 21 "BallCourt" "laws" "LBallCourt$Laws;") (List.mem_of_getElem? (i := 2) (by decide +kernel))
  have hl := lv_entry ([.ref zX, .int x, .int y, .int z]) (n := 5) (Nat.le_of_ble_eq_true rfl)
  rw [lg_entry_eq]
  generalize (lg_sl ([.ref zX, .int x, .int y, .int z]) ++ List.replicate (5 - (lg_sl ([.ref zX, .int x, .int y, .int z])).length) Slot.unset).toArray = ls at hl ⊢
  have hl : lv_has ls 5 [(0, .ref zX), (1, .int x), (2, .int y), (3, .int z)] := hl
  refine lv_aload_n hx hb dX5_line_0 rfl (lv_at hl 0 rfl) ?_
  refine va_get (D := D) (ci := 5) (v := .ref zB) (C := RX5) (T := TX5) (N := 8) hx hb hts hiX5 hown hK hP 0 rfl rfl 0 (by decide) hf10 (fun _ h9 => h9) rfl dX5_line_1 ?_
  refine lv_iload_n hx hb dX5_line_4 rfl (lv_at hl 1 rfl) ?_
  refine xpV (rest := []) ⟨hx, hb, hml, hown, hts⟩ (c_X0_areFacts l D cI cZ zB zK zW zU zV zR zE σ x) (cwV 1 hts gX5_line_X0_areFacts rfl rfl rfl (by decide +kernel) ⟨Nat.le_of_ble_eq_true rfl, Nat.le_of_ble_eq_true rfl⟩) hP [1] rfl hK hN (ci := 0) (q0 := 1) rfl rfl rfl hl.1 rfl (Nat.le_of_ble_eq_true rfl) dX5_line_5 ⟨Nat.zero_le _, Nat.zero_le _⟩ (fun r5 e5 => ?_)
  subst e5
  refine lv_if_eq (tgt := 35) hx hb dX5_line_8 (by decide) (fun c8 => ?_) (fun c8 => ?_)
  · skip
    have c8 := b2_0 c8
    refine lv_bipush (v := (-2)) hx hb dX5_line_35 (by decide) ?_
    have hP9 := hP
    have hD9 := hD
    have eN : nLine σ x y z = σ := by rw [nLine, if_pos c8]
    have eO : oLine σ x y z = -2 := by rw [oLine, if_pos c8]
    exact W.iret (v := (-2)) hx hb hr (fun t ht hW => ⟨⟨(-2), lo, rfl, (by rw [eN]; exact ⟨eO.symm, hlo⟩), ⟨⟨by rw [ht, eN]; exact hP9, va_K.moved hW.alike hK, NW.warm hW hN⟩, by rw [eN]; exact hD9⟩⟩, hS.F ht⟩) hS.2.2 dX5_line_37
  · skip
    have c8 := b2_1 c8
    refine lv_aload_n hx hb dX5_line_11 rfl (lv_at hl 0 rfl) ?_
    refine va_get (D := D) (ci := 5) (v := .ref zB) (C := RX5) (T := TX5) (N := 8) hx hb hts hiX5 hown hK hP 0 rfl rfl 0 (by decide) hf10 (fun _ h9 => h9) rfl dX5_line_12 ?_
    refine lv_iload_n hx hb dX5_line_15 rfl (lv_at hl 2 rfl) ?_
    refine xpV (rest := []) ⟨hx, hb, hml, hown, hts⟩ (c_X0_areFacts l D cI cZ zB zK zW zU zV zR zE σ y) (cwV 1 hts gX5_line_X0_areFacts rfl rfl rfl (by decide +kernel) ⟨Nat.le_of_ble_eq_true rfl, Nat.le_of_ble_eq_true rfl⟩) hP [1] rfl hK hN (ci := 0) (q0 := 1) rfl rfl rfl hl.1 rfl (Nat.le_of_ble_eq_true rfl) dX5_line_16 ⟨Nat.zero_le _, Nat.zero_le _⟩ (fun r16 e16 => ?_)
    subst e16
    refine lv_if_eq (tgt := 35) hx hb dX5_line_19 (by decide) (fun c19 => ?_) (fun c19 => ?_)
    · skip
      have c19 := b2_0 c19
      refine lv_bipush (v := (-2)) hx hb dX5_line_35 (by decide) ?_
      have hP9 := hP
      have hD9 := hD
      have eN : nLine σ x y z = σ := by rw [nLine, if_neg (by rw [c8]; decide), if_pos c19]
      have eO : oLine σ x y z = -2 := by rw [oLine, if_neg (by rw [c8]; decide), if_pos c19]
      exact W.iret (v := (-2)) hx hb hr (fun t ht hW => ⟨⟨(-2), lo, rfl, (by rw [eN]; exact ⟨eO.symm, hlo⟩), ⟨⟨by rw [ht, eN]; exact hP9, va_K.moved hW.alike hK, NW.warm hW hN⟩, by rw [eN]; exact hD9⟩⟩, hS.F ht⟩) hS.2.2 dX5_line_37
    · skip
      have c19 := b2_1 c19
      refine lv_iload_n hx hb dX5_line_22 rfl (lv_at hl 1 rfl) ?_
      refine lv_iload_n hx hb dX5_line_23 rfl (lv_at hl 2 rfl) ?_
      refine lv_iand hx hb dX5_line_24 ?_
      refine lv_if_ne (tgt := 35) hx hb dX5_line_25 (by decide) (fun c25 => ?_) (fun c25 => ?_)
      · skip
        refine lv_bipush (v := (-2)) hx hb dX5_line_35 (by decide) ?_
        have hP9 := hP
        have hD9 := hD
        have eN : nLine σ x y z = σ := by rw [nLine, if_neg (by rw [c8]; decide), if_neg (by rw [c19]; decide), if_pos c25]
        have eO : oLine σ x y z = -2 := by rw [oLine, if_neg (by rw [c8]; decide), if_neg (by rw [c19]; decide), if_pos c25]
        exact W.iret (v := (-2)) hx hb hr (fun t ht hW => ⟨⟨(-2), lo, rfl, (by rw [eN]; exact ⟨eO.symm, hlo⟩), ⟨⟨by rw [ht, eN]; exact hP9, va_K.moved hW.alike hK, NW.warm hW hN⟩, by rw [eN]; exact hD9⟩⟩, hS.F ht⟩) hS.2.2 dX5_line_37
      · skip
        refine lv_iload_n hx hb dX5_line_28 rfl (lv_at hl 3 rfl) ?_
        refine xpS (rest := []) ⟨hx, hb, hml, hown, hts⟩ (c_X5_isRuling l D cI cZ z) (va_cwS 1 hts gX5_line_X5_isRuling rfl rfl rfl (by decide +kernel) ⟨Nat.le_of_ble_eq_true rfl, Nat.le_of_ble_eq_true rfl⟩) hP [] rfl hK hN rfl hl.1 rfl (Nat.le_of_ble_eq_true rfl) dX5_line_29 ⟨Nat.zero_le _, Nat.zero_le _⟩ (fun r29 e29 => ?_)
        subst e29
        refine lv_if_ne (tgt := 38) hx hb dX5_line_32 (by decide) (fun c32 => ?_) (fun c32 => ?_)
        · skip
          have c32 := b2_1 c32
          refine lv_aload_n hx hb dX5_line_38 rfl (lv_at hl 0 rfl) ?_
          refine va_get (D := D) (ci := 5) (v := .ref zB) (C := RX5) (T := TX5) (N := 8) hx hb hts hiX5 hown hK hP 0 rfl rfl 0 (by decide) hf10 (fun _ h9 => h9) rfl dX5_line_39 ?_
          refine va_getN (D := D) (ci := 0) (v := .int (nI (sN σ))) (C := RX0) (T := TX0) (N := 11) hx hb hts hiX0 hown hK hP 1 rfl rfl 4 (by decide) (NW.f hN 4 rfl _) (fun _ h9 => h9) rfl dX5_line_42 ?_
          refine lv_bipush (v := nI 12) hx hb dX5_line_45 (by decide) ?_
          refine lv_icmp_lt (tgt := 53) hx hb dX5_line_47 (by decide) (fun c47 => ?_) (fun c47 => ?_)
          · skip
            have c47 := (nI_ltI (by omega) (by omega)).mp c47
            refine lv_aload_n hx hb dX5_line_53 rfl (lv_at hl 0 rfl) ?_
            refine va_get (D := D) (ci := 5) (v := .ref zB) (C := RX5) (T := TX5) (N := 8) hx hb hts hiX5 hown hK hP 0 rfl rfl 0 (by decide) hf10 (fun _ h9 => h9) rfl dX5_line_54 ?_
            refine lv_iload_n hx hb dX5_line_57 rfl (lv_at hl 1 rfl) ?_
            refine lv_iload_n hx hb dX5_line_58 rfl (lv_at hl 2 rfl) ?_
            refine lv_iload_n hx hb dX5_line_59 rfl (lv_at hl 3 rfl) ?_
            refine xwV (rest := []) (wr := [(zX, .inr (5, [.ref zB, .ref zL, .ref zF, .ref zM, .ref zC, .ref zG, .ref zJ, .int (nI (sG σ))])), (zL, .inr (3, [.ref zB, .ref zLo])), (zLo, .inl (cI, 128, .inl lo))]) ⟨hx, hb, hml, hown, hts⟩ (c_X0_addLine l D cI cZ s.heap.size zB zK zW zU zV zR zE σ x y z c47) (cwV 3 hts gX5_line_X0_addLine rfl rfl rfl (by decide +kernel) ⟨Nat.le_of_ble_eq_true rfl, Nat.le_of_ble_eq_true rfl⟩) hP hD hS hA [1, 2, 3, 4, 5] [0, 6, 7] rfl rfl (by decide) (by decide) (by decide) hK hN (ci := 0) (q0 := 1) rfl rfl rfl hl.1 rfl (Nat.le_of_ble_eq_true rfl) dX5_line_60 ⟨Nat.zero_le _, Nat.zero_le _⟩ (fun r60 u60 H locs e60 hP hD hS => ?_)
            have hP : va_P D vwCl [(zX, .inr (5, [.ref zB, .ref zL, .ref zF, .ref zM, .ref zC, .ref zG, .ref zJ, .int (nI (sG σ))])), (zL, .inr (3, [.ref zB, .ref zLo])), (zLo, .inl (cI, 128, .inl lo)), (zB, .inr (0, [.int (nI (sF (lnS σ x y z))), .int (nI (2 ^ sF (lnS σ x y z))), .ref zK, .ref zW, .int (nI (sN (lnS σ x y z))), .int (sR (lnS σ x y z)), .int (orE (rEr (lnS σ x y z)) (sN (lnS σ x y z))), .ref zU, .ref zV, .ref zR, .ref zE])), (zU, .inl (cI, 12, .inl (rMu (lnS σ x y z)))), (zV, .inl (cI, 12, .inl (rMn (lnS σ x y z)))), (zR, .inl (cI, 12, .inl (rRu (lnS σ x y z)))), (zE, .inl (cI, 12, .inl (rEr (lnS σ x y z))))] H := hP
            have hD : va_D A [(zX, .inr (5, [.ref zB, .ref zL, .ref zF, .ref zM, .ref zC, .ref zG, .ref zJ, .int (nI (sG σ))])), (zL, .inr (3, [.ref zB, .ref zLo])), (zLo, .inl (cI, 128, .inl lo)), (zB, .inr (0, [.int (nI (sF (lnS σ x y z))), .int (nI (2 ^ sF (lnS σ x y z))), .ref zK, .ref zW, .int (nI (sN (lnS σ x y z))), .int (sR (lnS σ x y z)), .int (orE (rEr (lnS σ x y z)) (sN (lnS σ x y z))), .ref zU, .ref zV, .ref zR, .ref zE])), (zU, .inl (cI, 12, .inl (rMu (lnS σ x y z)))), (zV, .inl (cI, 12, .inl (rMn (lnS σ x y z)))), (zR, .inl (cI, 12, .inl (rRu (lnS σ x y z)))), (zE, .inl (cI, 12, .inl (rEr (lnS σ x y z))))] := hD
            refine lv_istore (lv' := [(4, .int r60), (0, .ref zX), (1, .int x), (2, .int y), (3, .int z)]) hx hb dX5_line_63 hl (by decide) rfl (fun ls hl => ?_)
            refine lv_aload_n hx hb dX5_line_65 rfl (lv_at hl 1 rfl) ?_
            refine va_get (D := D) (ci := 5) (v := .ref zL) (C := RX5) (T := TX5) (N := 8) hx hb hts hiX5 hown hK hP 0 rfl rfl 1 (by decide) hf21 (fun _ h9 => h9) rfl dX5_line_66 ?_
            refine lv_aload_n hx hb dX5_line_69 rfl (lv_at hl 1 rfl) ?_
            refine va_get (D := D) (ci := 5) (v := .ref zB) (C := RX5) (T := TX5) (N := 8) hx hb hts hiX5 hown hK hP 0 rfl rfl 0 (by decide) hf10 (fun _ h9 => h9) rfl dX5_line_70 ?_
            refine va_getN (D := D) (ci := 0) (v := .int (sR (lnS σ x y z))) (C := RX0) (T := TX0) (N := 11) hx hb hts hiX0 hown hK hP 3 rfl rfl 5 (by decide) (NW.f hN 2 rfl _) (fun _ h9 => h9) rfl dX5_line_73 ?_
            refine xwVv (rest := []) (wr := [(zX, .inr (5, [.ref zB, .ref zL, .ref zF, .ref zM, .ref zC, .ref zG, .ref zJ, .int (nI (sG σ))])), (zR, .inl (cI, 12, .inl (rRu (lnS σ x y z))))]) ⟨hx, hb, hml, hown, hts⟩ (c_X3_work l D cI cZ H.size zB zL zK zW zU zV zR zE zLo (lnS σ x y z) lo (sR (lnS σ x y z)) (Ok_ln hok c8 c19 c32 c47)) (cwV 1 hts gX5_line_X3_work rfl rfl rfl (by decide +kernel) ⟨Nat.le_of_ble_eq_true rfl, Nat.le_of_ble_eq_true rfl⟩) hP hD hS hA [1, 2, 3, 4, 5, 7] [0, 6] rfl rfl (by decide) (by decide) (by decide) hK hN (ci := 3) (q0 := 1) rfl rfl rfl hl.1 rfl (Nat.le_of_ble_eq_true rfl) dX5_line_76 ⟨Nat.zero_le _, Nat.zero_le _⟩ (fun u76 H locs e76 hP hD hS => ?_)
            obtain ⟨lo2, rfl⟩ : ∃ z, z = u76 := ⟨_, rfl⟩
            have hP : va_P D vwCl [(zX, .inr (5, [.ref zB, .ref zL, .ref zF, .ref zM, .ref zC, .ref zG, .ref zJ, .int (nI (sG σ))])), (zR, .inl (cI, 12, .inl (rRu (lnS σ x y z)))), (zL, .inr (3, [.ref zB, .ref zLo])), (zLo, .inl (cI, 128, .inl lo2)), (zB, .inr (0, [.int (nI (sF (lnS σ x y z))), .int (nI (2 ^ sF (lnS σ x y z))), .ref zK, .ref zW, .int (nI (sN (lnS σ x y z))), .int (sR (lnS σ x y z)), .int (orE (rEr (lnS σ x y z)) (sN (lnS σ x y z))), .ref zU, .ref zV, .ref zR, .ref zE])), (zU, .inl (cI, 12, .inl (rMu (lnS σ x y z)))), (zV, .inl (cI, 12, .inl (rMn (lnS σ x y z)))), (zE, .inl (cI, 12, .inl (rEr (lnS σ x y z))))] H := hP
            have hD : va_D A [(zX, .inr (5, [.ref zB, .ref zL, .ref zF, .ref zM, .ref zC, .ref zG, .ref zJ, .int (nI (sG σ))])), (zR, .inl (cI, 12, .inl (rRu (lnS σ x y z)))), (zL, .inr (3, [.ref zB, .ref zLo])), (zLo, .inl (cI, 128, .inl lo2)), (zB, .inr (0, [.int (nI (sF (lnS σ x y z))), .int (nI (2 ^ sF (lnS σ x y z))), .ref zK, .ref zW, .int (nI (sN (lnS σ x y z))), .int (sR (lnS σ x y z)), .int (orE (rEr (lnS σ x y z)) (sN (lnS σ x y z))), .ref zU, .ref zV, .ref zR, .ref zE])), (zU, .inl (cI, 12, .inl (rMu (lnS σ x y z)))), (zV, .inl (cI, 12, .inl (rMn (lnS σ x y z)))), (zE, .inl (cI, 12, .inl (rEr (lnS σ x y z))))] := hD
            refine lv_iload hx hb dX5_line_79 (lv_at hl 0 rfl) ?_
            have hP9 := hP.sub (ws' := [(zX, .inr (5, [.ref zB, .ref zL, .ref zF, .ref zM, .ref zC, .ref zG, .ref zJ, .int (nI (sG σ))])), (zB, .inr (0, [.int (nI (sF (lnS σ x y z))), .int (nI (2 ^ sF (lnS σ x y z))), .ref zK, .ref zW, .int (nI (sN (lnS σ x y z))), .int (sR (lnS σ x y z)), .int (orE (rEr (lnS σ x y z)) (sN (lnS σ x y z))), .ref zU, .ref zV, .ref zR, .ref zE])), (zU, .inl (cI, 12, .inl (rMu (lnS σ x y z)))), (zV, .inl (cI, 12, .inl (rMn (lnS σ x y z)))), (zR, .inl (cI, 12, .inl (rRu (lnS σ x y z)))), (zE, .inl (cI, 12, .inl (rEr (lnS σ x y z)))), (zL, .inr (3, [.ref zB, .ref zLo])), (zLo, .inl (cI, 128, .inl lo2))]) [0, 4, 5, 6, 1, 7, 2, 3] rfl
            have hD9 := hD.sub (ws' := [(zX, .inr (5, [.ref zB, .ref zL, .ref zF, .ref zM, .ref zC, .ref zG, .ref zJ, .int (nI (sG σ))])), (zB, .inr (0, [.int (nI (sF (lnS σ x y z))), .int (nI (2 ^ sF (lnS σ x y z))), .ref zK, .ref zW, .int (nI (sN (lnS σ x y z))), .int (sR (lnS σ x y z)), .int (orE (rEr (lnS σ x y z)) (sN (lnS σ x y z))), .ref zU, .ref zV, .ref zR, .ref zE])), (zU, .inl (cI, 12, .inl (rMu (lnS σ x y z)))), (zV, .inl (cI, 12, .inl (rMn (lnS σ x y z)))), (zR, .inl (cI, 12, .inl (rRu (lnS σ x y z)))), (zE, .inl (cI, 12, .inl (rEr (lnS σ x y z)))), (zL, .inr (3, [.ref zB, .ref zLo])), (zLo, .inl (cI, 128, .inl lo2))]) [0, 4, 5, 6, 1, 7, 2, 3] (by decide) rfl
            have eN : nLine σ x y z = lnS σ x y z := by rw [nLine, if_neg (by rw [c8]; decide), if_neg (by rw [c19]; decide), if_neg (fun z => z c25), if_neg (by rw [c32]; decide), if_neg (by omega)]
            exact W.iret (v := r60) hx hb hr (fun t ht hW => ⟨⟨r60, lo2, rfl, (by rw [eN]; exact ⟨by rw [e60, oLine, if_neg (by rw [c8]; decide), if_neg (by rw [c19]; decide), if_neg (fun z => z c25), if_neg (by rw [c32]; decide), if_neg (by omega)], e76⟩), ⟨⟨by rw [ht, eN]; exact hP9, va_K.moved hW.alike hK, NW.warm hW hN⟩, by rw [eN]; exact hD9⟩⟩, hS.F ht⟩) hS.2.2 dX5_line_81
          · skip
            have c47 : 12 ≤ sN σ := Nat.le_of_not_lt (fun z => c47 ((nI_ltI (by omega) (by omega)).mpr z))
            refine lv_bipush (v := (-4)) hx hb dX5_line_50 (by decide) ?_
            have hP9 := hP
            have hD9 := hD
            have eN : nLine σ x y z = σ := by rw [nLine, if_neg (by rw [c8]; decide), if_neg (by rw [c19]; decide), if_neg (fun z => z c25), if_neg (by rw [c32]; decide), if_pos c47]
            have eO : oLine σ x y z = -4 := by rw [oLine, if_neg (by rw [c8]; decide), if_neg (by rw [c19]; decide), if_neg (fun z => z c25), if_neg (by rw [c32]; decide), if_pos c47]
            exact W.iret (v := (-4)) hx hb hr (fun t ht hW => ⟨⟨(-4), lo, rfl, (by rw [eN]; exact ⟨eO.symm, hlo⟩), ⟨⟨by rw [ht, eN]; exact hP9, va_K.moved hW.alike hK, NW.warm hW hN⟩, by rw [eN]; exact hD9⟩⟩, hS.F ht⟩) hS.2.2 dX5_line_52
        · skip
          have c32 := b2_0 c32
          refine lv_bipush (v := (-2)) hx hb dX5_line_35 (by decide) ?_
          have hP9 := hP
          have hD9 := hD
          have eN : nLine σ x y z = σ := by rw [nLine, if_neg (by rw [c8]; decide), if_neg (by rw [c19]; decide), if_neg (fun z => z c25), if_pos c32]
          have eO : oLine σ x y z = -2 := by rw [oLine, if_neg (by rw [c8]; decide), if_neg (by rw [c19]; decide), if_neg (fun z => z c25), if_pos c32]
          exact W.iret (v := (-2)) hx hb hr (fun t ht hW => ⟨⟨(-2), lo, rfl, (by rw [eN]; exact ⟨eO.symm, hlo⟩), ⟨⟨by rw [ht, eN]; exact hP9, va_K.moved hW.alike hK, NW.warm hW hN⟩, by rw [eN]; exact hD9⟩⟩, hS.F ht⟩) hS.2.2 dX5_line_37

set_option maxHeartbeats 4000000 in
set_option maxRecDepth 100000 in
theorem c_X5_except (l : Launch) (D : va_G) (cI cZ : ClassId) (sz : Nat) (zX : Nat) (zB : Nat) (zL : Nat) (zF : Nat) (zM : Nat) (zC : Nat) (zG : Nat) (zJ : Nat) (zK : Nat) (zW : Nat) (zU : Nat) (zV : Nat) (zR : Nat) (zE : Nat) (zLo : Nat) (σ : ST) (lo : Nat → Int32) (x : Int32) (y : Int32) (hok : Ok σ) (hlo : ∀ k, k < 2 ^ sF σ → lo k = lawI σ (sR σ) k) : Met l yX5_except wsX5_except ({ frames := 4, cells := 0, slots := 0, locals := 92 }) (va_Pc [.ref zX, .int x, .int y] (XW D cI cZ [(zX, .inr (5, [.ref zB, .ref zL, .ref zF, .ref zM, .ref zC, .ref zG, .ref zJ, .int (nI (sG σ))])), (zB, .inr (0, [.int (nI (sF σ)), .int (nI (2 ^ sF σ)), .ref zK, .ref zW, .int (nI (sN σ)), .int (sR σ), .int (orE (rEr σ) (sN σ)), .ref zU, .ref zV, .ref zR, .ref zE])), (zU, .inl (cI, 12, .inl (rMu σ))), (zV, .inl (cI, 12, .inl (rMn σ))), (zE, .inl (cI, 12, .inl (rEr σ))), (zL, .inr (3, [.ref zB, .ref zLo])), (zLo, .inl (cI, 128, .inl lo))] sz)) (va_Qi (fun (r : Int32) (u : Nat → Int32) => r = oExcept σ x y ∧ ∀ k, k < 2 ^ sF (nExcept σ x y) → u k = lawI (nExcept σ x y) (sR (nExcept σ x y)) k) (fun u => XB D cI cZ (va_A [(zX, .inr (5, [.ref zB, .ref zL, .ref zF, .ref zM, .ref zC, .ref zG, .ref zJ, .int (nI (sG σ))])), (zB, .inr (0, [.int (nI (sF σ)), .int (nI (2 ^ sF σ)), .ref zK, .ref zW, .int (nI (sN σ)), .int (sR σ), .int (orE (rEr σ) (sN σ)), .ref zU, .ref zV, .ref zR, .ref zE])), (zU, .inl (cI, 12, .inl (rMu σ))), (zV, .inl (cI, 12, .inl (rMn σ))), (zE, .inl (cI, 12, .inl (rEr σ))), (zL, .inr (3, [.ref zB, .ref zLo])), (zLo, .inl (cI, 128, .inl lo))] sz) [(zX, .inr (5, [.ref zB, .ref zL, .ref zF, .ref zM, .ref zC, .ref zG, .ref zJ, .int (nI (sG (nExcept σ x y)))])), (zB, .inr (0, [.int (nI (sF (nExcept σ x y))), .int (nI (2 ^ sF (nExcept σ x y))), .ref zK, .ref zW, .int (nI (sN (nExcept σ x y))), .int (sR (nExcept σ x y)), .int (orE (rEr (nExcept σ x y)) (sN (nExcept σ x y))), .ref zU, .ref zV, .ref zR, .ref zE])), (zU, .inl (cI, 12, .inl (rMu (nExcept σ x y)))), (zV, .inl (cI, 12, .inl (rMn (nExcept σ x y)))), (zE, .inl (cI, 12, .inl (rEr (nExcept σ x y)))), (zL, .inr (3, [.ref zB, .ref zLo])), (zLo, .inl (cI, 128, .inl u))]) (va_A [(zX, .inr (5, [.ref zB, .ref zL, .ref zF, .ref zM, .ref zC, .ref zG, .ref zJ, .int (nI (sG σ))])), (zB, .inr (0, [.int (nI (sF σ)), .int (nI (2 ^ sF σ)), .ref zK, .ref zW, .int (nI (sN σ)), .int (sR σ), .int (orE (rEr σ) (sN σ)), .ref zU, .ref zV, .ref zR, .ref zE])), (zU, .inl (cI, 12, .inl (rMu σ))), (zV, .inl (cI, 12, .inl (rMn σ))), (zE, .inl (cI, 12, .inl (rEr σ))), (zL, .inr (3, [.ref zB, .ref zLo])), (zLo, .inl (cI, 128, .inl lo))] sz)) 0 0 (va_A [(zX, .inr (5, [.ref zB, .ref zL, .ref zF, .ref zM, .ref zC, .ref zG, .ref zJ, .int (nI (sG σ))])), (zB, .inr (0, [.int (nI (sF σ)), .int (nI (2 ^ sF σ)), .ref zK, .ref zW, .int (nI (sN σ)), .int (sR σ), .int (orE (rEr σ) (sN σ)), .ref zU, .ref zV, .ref zR, .ref zE])), (zU, .inl (cI, 12, .inl (rMu σ))), (zV, .inl (cI, 12, .inl (rMn σ))), (zE, .inl (cI, 12, .inl (rEr σ))), (zL, .inr (3, [.ref zB, .ref zLo])), (zLo, .inl (cI, 128, .inl lo))] sz) := by
  refine Met.ofW (cc := cX5_except) (maxL := 3) (ret := (some .int)) (by decide) rfl ?_
  intro p e s m args below meth c s₁ B hml hv
  obtain ⟨rfl, hsz, ⟨hP, hK, hN⟩, hD0⟩ := hv
  have hx := B.exec
  have hb := B.bytes
  have hr := B.returns
  have hts := atoms_spec (ws := wsX5_except) B.pre
  have hown : s.vm.findClass RX5 = some m.cls := findClass_of_methodNamed B.named
  have hlocks := B.notSynchronized
  subst hsz
  have hD := hD0.self (sz := s.heap.size)
  generalize hAe : va_A [(zX, .inr (5, [.ref zB, .ref zL, .ref zF, .ref zM, .ref zC, .ref zG, .ref zJ, .int (nI (sG σ))])), (zB, .inr (0, [.int (nI (sF σ)), .int (nI (2 ^ sF σ)), .ref zK, .ref zW, .int (nI (sN σ)), .int (sR σ), .int (orE (rEr σ) (sN σ)), .ref zU, .ref zV, .ref zR, .ref zE])), (zU, .inl (cI, 12, .inl (rMu σ))), (zV, .inl (cI, 12, .inl (rMn σ))), (zE, .inl (cI, 12, .inl (rEr σ))), (zL, .inr (3, [.ref zB, .ref zLo])), (zLo, .inl (cI, 128, .inl lo))] s.heap.size = A at hD ⊢
  have hA : ∀ q : Nat, s.heap.size ≤ q → A q := fun q h => by rw [← hAe]; exact Or.inr h
  have hS : va_S A s.heap s.heap [] := va_S.rf
  have ho := hok.1
  have hk2 := hok.k
  have hf10 := hts (.fieldLink RX5 10 "BallCourt" "book" "LBallCourt$Book;") (List.mem_of_getElem? (i := 1) (by decide +kernel))
  have hiX5 : ∀ w ∈ wsX50, w ∈ wsX5_except := fun w h => List.mem_cons_of_mem _ (List.mem_append_left _ (List.mem_append_left _ (List.mem_append_right _ h)))
  have hf21 := hts (.fieldLink RX5 21 "BallCourt" "laws" "LBallCourt$Laws;") (List.mem_of_getElem? (i := 2) (by decide +kernel))
  have hiX0 : ∀ w ∈ wsX00, w ∈ wsX5_except := fun w h => List.mem_cons_of_mem _ (List.mem_append_left _ (List.mem_append_right _ h))
  have hl := lv_entry ([.ref zX, .int x, .int y]) (n := 3) (Nat.le_of_ble_eq_true rfl)
  rw [lg_entry_eq]
  generalize (lg_sl ([.ref zX, .int x, .int y]) ++ List.replicate (3 - (lg_sl ([.ref zX, .int x, .int y])).length) Slot.unset).toArray = ls at hl ⊢
  have hl : lv_has ls 3 [(0, .ref zX), (1, .int x), (2, .int y)] := hl
  refine lv_aload_n hx hb dX5_except_0 rfl (lv_at hl 0 rfl) ?_
  refine va_get (D := D) (ci := 5) (v := .ref zB) (C := RX5) (T := TX5) (N := 8) hx hb hts hiX5 hown hK hP 0 rfl rfl 0 (by decide) hf10 (fun _ h9 => h9) rfl dX5_except_1 ?_
  refine lv_iload_n hx hb dX5_except_4 rfl (lv_at hl 1 rfl) ?_
  refine xpV (rest := []) ⟨hx, hb, hml, hown, hts⟩ (c_X0_hasLine l D cI cZ zB zK zW zU zV zR zE σ x) (cwV 1 hts gX5_except_X0_hasLine rfl rfl rfl (by decide +kernel) ⟨Nat.le_of_ble_eq_true rfl, Nat.le_of_ble_eq_true rfl⟩) hP [1] rfl hK hN (ci := 0) (q0 := 1) rfl rfl rfl hl.1 rfl (Nat.le_of_ble_eq_true rfl) dX5_except_5 ⟨Nat.zero_le _, Nat.zero_le _⟩ (fun r5 e5 => ?_)
  subst e5
  refine lv_if_eq (tgt := 22) hx hb dX5_except_8 (by decide) (fun c8 => ?_) (fun c8 => ?_)
  · skip
    have c8 := b2_0 c8
    refine lv_iconst (v := (-1)) hx hb dX5_except_22 (by decide) ?_
    have hP9 := hP
    have hD9 := hD
    have eN : nExcept σ x y = σ := by rw [nExcept, if_pos c8]
    have eO : oExcept σ x y = -1 := by rw [oExcept, if_pos c8]
    exact W.iret (v := (-1)) hx hb hr (fun t ht hW => ⟨⟨(-1), lo, rfl, (by rw [eN]; exact ⟨eO.symm, hlo⟩), ⟨⟨by rw [ht, eN]; exact hP9, va_K.moved hW.alike hK, NW.warm hW hN⟩, by rw [eN]; exact hD9⟩⟩, hS.F ht⟩) hS.2.2 dX5_except_23
  · skip
    have c8 := b2_1 c8
    refine lv_aload_n hx hb dX5_except_11 rfl (lv_at hl 0 rfl) ?_
    refine va_get (D := D) (ci := 5) (v := .ref zB) (C := RX5) (T := TX5) (N := 8) hx hb hts hiX5 hown hK hP 0 rfl rfl 0 (by decide) hf10 (fun _ h9 => h9) rfl dX5_except_12 ?_
    refine lv_iload_n hx hb dX5_except_15 rfl (lv_at hl 2 rfl) ?_
    refine xpV (rest := []) ⟨hx, hb, hml, hown, hts⟩ (c_X0_hasLine l D cI cZ zB zK zW zU zV zR zE σ y) (cwV 1 hts gX5_except_X0_hasLine rfl rfl rfl (by decide +kernel) ⟨Nat.le_of_ble_eq_true rfl, Nat.le_of_ble_eq_true rfl⟩) hP [1] rfl hK hN (ci := 0) (q0 := 1) rfl rfl rfl hl.1 rfl (Nat.le_of_ble_eq_true rfl) dX5_except_16 ⟨Nat.zero_le _, Nat.zero_le _⟩ (fun r16 e16 => ?_)
    subst e16
    refine lv_if_ne (tgt := 24) hx hb dX5_except_19 (by decide) (fun c19 => ?_) (fun c19 => ?_)
    · skip
      have c19 := b2_1 c19
      obtain ⟨j, hj, rfl⟩ := inN_t c8 (by omega)
      obtain ⟨i, hi, rfl⟩ := inN_t c19 (by omega)
      have kj : (nI j).toNatClampNeg = j := nI_clamp (by omega)
      have ki : (nI i).toNatClampNeg = i := nI_clamp (by omega)
      refine lv_iload_n hx hb dX5_except_24 rfl (lv_at hl 1 rfl) ?_
      refine lv_iload_n hx hb dX5_except_25 rfl (lv_at hl 2 rfl) ?_
      refine lv_icmp_le (tgt := 41) hx hb dX5_except_26 (by decide) (fun c26 => ?_) (fun c26 => ?_)
      · skip
        refine lv_bipush (v := (-5)) hx hb dX5_except_41 (by decide) ?_
        have hP9 := hP
        have hD9 := hD
        have eN : nExcept σ (nI j) (nI i) = σ := by rw [nExcept, if_neg (by rw [c8]; decide), if_neg (by rw [c19]; decide), if_pos c26]
        have eO : oExcept σ (nI j) (nI i) = -5 := by rw [oExcept, if_neg (by rw [c8]; decide), if_neg (by rw [c19]; decide), if_pos c26]
        exact W.iret (v := (-5)) hx hb hr (fun t ht hW => ⟨⟨(-5), lo, rfl, (by rw [eN]; exact ⟨eO.symm, hlo⟩), ⟨⟨by rw [ht, eN]; exact hP9, va_K.moved hW.alike hK, NW.warm hW hN⟩, by rw [eN]; exact hD9⟩⟩, hS.F ht⟩) hS.2.2 dX5_except_43
      · skip
        refine lv_aload_n hx hb dX5_except_29 rfl (lv_at hl 0 rfl) ?_
        refine va_get (D := D) (ci := 5) (v := .ref zB) (C := RX5) (T := TX5) (N := 8) hx hb hts hiX5 hown hK hP 0 rfl rfl 0 (by decide) hf10 (fun _ h9 => h9) rfl dX5_except_30 ?_
        refine lv_iload_n hx hb dX5_except_33 rfl (lv_at hl 1 rfl) ?_
        refine lv_iload_n hx hb dX5_except_34 rfl (lv_at hl 2 rfl) ?_
        refine xpV (rest := []) ⟨hx, hb, hml, hown, hts⟩ (c_X0_excepts l D cI cZ zB zK zW zU zV zR zE σ j i (by omega)) (cwV 2 hts gX5_except_X0_excepts rfl rfl rfl (by decide +kernel) ⟨Nat.le_of_ble_eq_true rfl, Nat.le_of_ble_eq_true rfl⟩) hP [1, 4] rfl hK hN (ci := 0) (q0 := 1) rfl rfl rfl hl.1 rfl (Nat.le_of_ble_eq_true rfl) dX5_except_35 ⟨Nat.zero_le _, Nat.zero_le _⟩ (fun r35 e35 => ?_)
        subst e35
        refine lv_if_eq (tgt := 44) hx hb dX5_except_38 (by decide) (fun c38 => ?_) (fun c38 => ?_)
        · skip
          have c38 := b2_0 c38
          refine lv_aload_n hx hb dX5_except_44 rfl (lv_at hl 0 rfl) ?_
          refine va_get (D := D) (ci := 5) (v := .ref zB) (C := RX5) (T := TX5) (N := 8) hx hb hts hiX5 hown hK hP 0 rfl rfl 0 (by decide) hf10 (fun _ h9 => h9) rfl dX5_except_45 ?_
          refine lv_iload_n hx hb dX5_except_48 rfl (lv_at hl 1 rfl) ?_
          refine lv_iload_n hx hb dX5_except_49 rfl (lv_at hl 2 rfl) ?_
          refine xwVv (rest := []) (wr := [(zX, .inr (5, [.ref zB, .ref zL, .ref zF, .ref zM, .ref zC, .ref zG, .ref zJ, .int (nI (sG σ))])), (zU, .inl (cI, 12, .inl (rMu σ))), (zV, .inl (cI, 12, .inl (rMn σ))), (zL, .inr (3, [.ref zB, .ref zLo])), (zLo, .inl (cI, 128, .inl lo))]) ⟨hx, hb, hml, hown, hts⟩ (c_X0_addException l D cI cZ s.heap.size zB zK zW zU zV zR zE σ j i hok (by omega) hi) (cwV 2 hts gX5_except_X0_addException rfl rfl rfl (by decide +kernel) ⟨Nat.le_of_ble_eq_true rfl, Nat.le_of_ble_eq_true rfl⟩) hP hD hS hA [1, 4] [0, 2, 3, 5, 6] rfl rfl (by decide) (by decide) (by decide) hK hN (ci := 0) (q0 := 1) rfl rfl rfl hl.1 rfl (Nat.le_of_ble_eq_true rfl) dX5_except_50 ⟨Nat.zero_le _, Nat.zero_le _⟩ (fun u50 H locs e50 hP hD hS => ?_)
          have hP : va_P D vwCl [(zX, .inr (5, [.ref zB, .ref zL, .ref zF, .ref zM, .ref zC, .ref zG, .ref zJ, .int (nI (sG σ))])), (zU, .inl (cI, 12, .inl (rMu σ))), (zV, .inl (cI, 12, .inl (rMn σ))), (zL, .inr (3, [.ref zB, .ref zLo])), (zLo, .inl (cI, 128, .inl lo)), (zB, .inr (0, [.int (nI (sF (exS σ j i))), .int (nI (2 ^ sF (exS σ j i))), .ref zK, .ref zW, .int (nI (sN (exS σ j i))), .int (sR (exS σ j i)), .int (orE (rEr (exS σ j i)) (sN (exS σ j i))), .ref zU, .ref zV, .ref zR, .ref zE])), (zE, .inl (cI, 12, .inl (rEr (exS σ j i))))] H := hP
          have hD : va_D A [(zX, .inr (5, [.ref zB, .ref zL, .ref zF, .ref zM, .ref zC, .ref zG, .ref zJ, .int (nI (sG σ))])), (zU, .inl (cI, 12, .inl (rMu σ))), (zV, .inl (cI, 12, .inl (rMn σ))), (zL, .inr (3, [.ref zB, .ref zLo])), (zLo, .inl (cI, 128, .inl lo)), (zB, .inr (0, [.int (nI (sF (exS σ j i))), .int (nI (2 ^ sF (exS σ j i))), .ref zK, .ref zW, .int (nI (sN (exS σ j i))), .int (sR (exS σ j i)), .int (orE (rEr (exS σ j i)) (sN (exS σ j i))), .ref zU, .ref zV, .ref zR, .ref zE])), (zE, .inl (cI, 12, .inl (rEr (exS σ j i))))] := hD
          refine lv_aload_n hx hb dX5_except_53 rfl (lv_at hl 0 rfl) ?_
          refine va_get (D := D) (ci := 5) (v := .ref zL) (C := RX5) (T := TX5) (N := 8) hx hb hts hiX5 hown hK hP 0 rfl rfl 1 (by decide) hf21 (fun _ h9 => h9) rfl dX5_except_54 ?_
          refine lv_aload_n hx hb dX5_except_57 rfl (lv_at hl 0 rfl) ?_
          refine va_get (D := D) (ci := 5) (v := .ref zB) (C := RX5) (T := TX5) (N := 8) hx hb hts hiX5 hown hK hP 0 rfl rfl 0 (by decide) hf10 (fun _ h9 => h9) rfl dX5_except_58 ?_
          refine va_getN (D := D) (ci := 0) (v := .int (sR (exS σ j i))) (C := RX0) (T := TX0) (N := 11) hx hb hts hiX0 hown hK hP 5 rfl rfl 5 (by decide) (NW.f hN 2 rfl _) (fun _ h9 => h9) rfl dX5_except_61 ?_
          refine xwVv (rest := []) (wr := [(zX, .inr (5, [.ref zB, .ref zL, .ref zF, .ref zM, .ref zC, .ref zG, .ref zJ, .int (nI (sG σ))]))]) ⟨hx, hb, hml, hown, hts⟩ (c_X3_work l D cI cZ H.size zB zL zK zW zU zV zR zE zLo (exS σ j i) lo (sR (exS σ j i)) (Ok_ex hok hj hi)) (cwV 1 hts gX5_except_X3_work rfl rfl rfl (by decide +kernel) ⟨Nat.le_of_ble_eq_true rfl, Nat.le_of_ble_eq_true rfl⟩) hP hD hS hA [3, 4, 5, 1, 2, 6] [0] rfl rfl (by decide) (by decide) (by decide) hK hN (ci := 3) (q0 := 3) rfl rfl rfl hl.1 rfl (Nat.le_of_ble_eq_true rfl) dX5_except_64 ⟨Nat.zero_le _, Nat.zero_le _⟩ (fun u64 H locs e64 hP hD hS => ?_)
          obtain ⟨lo2, rfl⟩ : ∃ z, z = u64 := ⟨_, rfl⟩
          have hP : va_P D vwCl [(zX, .inr (5, [.ref zB, .ref zL, .ref zF, .ref zM, .ref zC, .ref zG, .ref zJ, .int (nI (sG σ))])), (zL, .inr (3, [.ref zB, .ref zLo])), (zLo, .inl (cI, 128, .inl lo2)), (zB, .inr (0, [.int (nI (sF (exS σ j i))), .int (nI (2 ^ sF (exS σ j i))), .ref zK, .ref zW, .int (nI (sN (exS σ j i))), .int (sR (exS σ j i)), .int (orE (rEr (exS σ j i)) (sN (exS σ j i))), .ref zU, .ref zV, .ref zR, .ref zE])), (zU, .inl (cI, 12, .inl (rMu (exS σ j i)))), (zV, .inl (cI, 12, .inl (rMn (exS σ j i)))), (zE, .inl (cI, 12, .inl (rEr (exS σ j i))))] H := hP
          have hD : va_D A [(zX, .inr (5, [.ref zB, .ref zL, .ref zF, .ref zM, .ref zC, .ref zG, .ref zJ, .int (nI (sG σ))])), (zL, .inr (3, [.ref zB, .ref zLo])), (zLo, .inl (cI, 128, .inl lo2)), (zB, .inr (0, [.int (nI (sF (exS σ j i))), .int (nI (2 ^ sF (exS σ j i))), .ref zK, .ref zW, .int (nI (sN (exS σ j i))), .int (sR (exS σ j i)), .int (orE (rEr (exS σ j i)) (sN (exS σ j i))), .ref zU, .ref zV, .ref zR, .ref zE])), (zU, .inl (cI, 12, .inl (rMu (exS σ j i)))), (zV, .inl (cI, 12, .inl (rMn (exS σ j i)))), (zE, .inl (cI, 12, .inl (rEr (exS σ j i))))] := hD
          refine lv_aload_n hx hb dX5_except_67 rfl (lv_at hl 0 rfl) ?_
          refine va_get (D := D) (ci := 5) (v := .ref zB) (C := RX5) (T := TX5) (N := 8) hx hb hts hiX5 hown hK hP 0 rfl rfl 0 (by decide) hf10 (fun _ h9 => h9) rfl dX5_except_68 ?_
          refine va_getN (D := D) (ci := 0) (v := .ref zE) (C := RX0) (T := TX0) (N := 11) hx hb hts hiX0 hown hK hP 3 rfl rfl 10 (by decide) (NW.f hN 5 rfl _) (fun _ h9 => h9) rfl dX5_except_71 ?_
          refine lv_iload_n hx hb dX5_except_74 rfl (lv_at hl 2 rfl) ?_
          refine xald (k := i) hx hb hK hP 6 rfl (by omega) (by decide) dX5_except_75 ?_
          refine xpS (rest := []) ⟨hx, hb, hml, hown, hts⟩ (c_J6_bitCount l D cI cZ ((rEr (exS σ j i)) i)) (va_cwS 1 hts gX5_except_J6_bitCount_0f7a4 rfl rfl rfl (by decide +kernel) ⟨Nat.le_of_ble_eq_true rfl, Nat.le_of_ble_eq_true rfl⟩) hP [] rfl hK hN rfl hl.1 rfl (Nat.le_of_ble_eq_true rfl) dX5_except_76 ⟨Nat.zero_le _, Nat.zero_le _⟩ (fun r76 e76 => ?_)
          subst e76
          have hP9 := hP.sub (ws' := [(zX, .inr (5, [.ref zB, .ref zL, .ref zF, .ref zM, .ref zC, .ref zG, .ref zJ, .int (nI (sG σ))])), (zB, .inr (0, [.int (nI (sF (exS σ j i))), .int (nI (2 ^ sF (exS σ j i))), .ref zK, .ref zW, .int (nI (sN (exS σ j i))), .int (sR (exS σ j i)), .int (orE (rEr (exS σ j i)) (sN (exS σ j i))), .ref zU, .ref zV, .ref zR, .ref zE])), (zU, .inl (cI, 12, .inl (rMu (exS σ j i)))), (zV, .inl (cI, 12, .inl (rMn (exS σ j i)))), (zE, .inl (cI, 12, .inl (rEr (exS σ j i)))), (zL, .inr (3, [.ref zB, .ref zLo])), (zLo, .inl (cI, 128, .inl lo2))]) [0, 3, 4, 5, 6, 1, 2] rfl
          have hD9 := hD.sub (ws' := [(zX, .inr (5, [.ref zB, .ref zL, .ref zF, .ref zM, .ref zC, .ref zG, .ref zJ, .int (nI (sG σ))])), (zB, .inr (0, [.int (nI (sF (exS σ j i))), .int (nI (2 ^ sF (exS σ j i))), .ref zK, .ref zW, .int (nI (sN (exS σ j i))), .int (sR (exS σ j i)), .int (orE (rEr (exS σ j i)) (sN (exS σ j i))), .ref zU, .ref zV, .ref zR, .ref zE])), (zU, .inl (cI, 12, .inl (rMu (exS σ j i)))), (zV, .inl (cI, 12, .inl (rMn (exS σ j i)))), (zE, .inl (cI, 12, .inl (rEr (exS σ j i)))), (zL, .inr (3, [.ref zB, .ref zLo])), (zLo, .inl (cI, 128, .inl lo2))]) [0, 3, 4, 5, 6, 1, 2] (by decide) rfl
          have eN : nExcept σ (nI j) (nI i) = exS σ j i := by rw [nExcept, if_neg (by rw [c8]; decide), if_neg (by rw [c19]; decide), if_neg c26, ki, if_neg (by rw [c38]; decide), kj]
          exact W.iret (v := bcJ ((rEr (exS σ j i)) i)) hx hb hr (fun t ht hW => ⟨⟨bcJ ((rEr (exS σ j i)) i), lo2, rfl, (by rw [eN]; exact ⟨by rw [oExcept, if_neg (by rw [c8]; decide), if_neg (by rw [c19]; decide), if_neg c26, ki, if_neg (by rw [c38]; decide), kj]; exact bcJ_I (Ok_ex hok hj hi) hi, e64⟩), ⟨⟨by rw [ht, eN]; exact hP9, va_K.moved hW.alike hK, NW.warm hW hN⟩, by rw [eN]; exact hD9⟩⟩, hS.F ht⟩) hS.2.2 dX5_except_79
        · skip
          have c38 := b2_1 c38
          refine lv_bipush (v := (-5)) hx hb dX5_except_41 (by decide) ?_
          have hP9 := hP
          have hD9 := hD
          have eN : nExcept σ (nI j) (nI i) = σ := by rw [nExcept, if_neg (by rw [c8]; decide), if_neg (by rw [c19]; decide), if_neg c26, ki, if_pos c38]
          have eO : oExcept σ (nI j) (nI i) = -5 := by rw [oExcept, if_neg (by rw [c8]; decide), if_neg (by rw [c19]; decide), if_neg c26, ki, if_pos c38]
          exact W.iret (v := (-5)) hx hb hr (fun t ht hW => ⟨⟨(-5), lo, rfl, (by rw [eN]; exact ⟨eO.symm, hlo⟩), ⟨⟨by rw [ht, eN]; exact hP9, va_K.moved hW.alike hK, NW.warm hW hN⟩, by rw [eN]; exact hD9⟩⟩, hS.F ht⟩) hS.2.2 dX5_except_43
    · skip
      have c19 := b2_0 c19
      refine lv_iconst (v := (-1)) hx hb dX5_except_22 (by decide) ?_
      have hP9 := hP
      have hD9 := hD
      have eN : nExcept σ x y = σ := by rw [nExcept, if_neg (by rw [c8]; decide), if_pos c19]
      have eO : oExcept σ x y = -1 := by rw [oExcept, if_neg (by rw [c8]; decide), if_pos c19]
      exact W.iret (v := (-1)) hx hb hr (fun t ht hW => ⟨⟨(-1), lo, rfl, (by rw [eN]; exact ⟨eO.symm, hlo⟩), ⟨⟨by rw [ht, eN]; exact hP9, va_K.moved hW.alike hK, NW.warm hW hN⟩, by rw [eN]; exact hD9⟩⟩, hS.F ht⟩) hS.2.2 dX5_except_23

set_option maxHeartbeats 4000000 in
set_option maxRecDepth 100000 in
theorem c_X5_repeal (l : Launch) (D : va_G) (cI cZ : ClassId) (sz : Nat) (zX : Nat) (zB : Nat) (zL : Nat) (zF : Nat) (zM : Nat) (zC : Nat) (zG : Nat) (zJ : Nat) (zK : Nat) (zW : Nat) (zU : Nat) (zV : Nat) (zR : Nat) (zE : Nat) (zLo : Nat) (σ : ST) (lo : Nat → Int32) (x : Int32) (is : Bool) (hok : Ok σ) (hlo : ∀ k, k < 2 ^ sF σ → lo k = lawI σ (sR σ) k) : Met l yX5_repeal wsX5_repeal ({ frames := 4, cells := 0, slots := 0, locals := 92 }) (va_Pc [.ref zX, .int x, .int (b2 is)] (XW D cI cZ [(zX, .inr (5, [.ref zB, .ref zL, .ref zF, .ref zM, .ref zC, .ref zG, .ref zJ, .int (nI (sG σ))])), (zB, .inr (0, [.int (nI (sF σ)), .int (nI (2 ^ sF σ)), .ref zK, .ref zW, .int (nI (sN σ)), .int (sR σ), .int (orE (rEr σ) (sN σ)), .ref zU, .ref zV, .ref zR, .ref zE])), (zU, .inl (cI, 12, .inl (rMu σ))), (zV, .inl (cI, 12, .inl (rMn σ))), (zE, .inl (cI, 12, .inl (rEr σ))), (zL, .inr (3, [.ref zB, .ref zLo])), (zLo, .inl (cI, 128, .inl lo))] sz)) (va_Qi (fun (r : Int32) (u : Nat → Int32) => r = oRepeal σ x ∧ ∀ k, k < 2 ^ sF (nRepeal σ x is) → u k = lawI (nRepeal σ x is) (sR (nRepeal σ x is)) k) (fun u => XB D cI cZ (va_A [(zX, .inr (5, [.ref zB, .ref zL, .ref zF, .ref zM, .ref zC, .ref zG, .ref zJ, .int (nI (sG σ))])), (zB, .inr (0, [.int (nI (sF σ)), .int (nI (2 ^ sF σ)), .ref zK, .ref zW, .int (nI (sN σ)), .int (sR σ), .int (orE (rEr σ) (sN σ)), .ref zU, .ref zV, .ref zR, .ref zE])), (zU, .inl (cI, 12, .inl (rMu σ))), (zV, .inl (cI, 12, .inl (rMn σ))), (zE, .inl (cI, 12, .inl (rEr σ))), (zL, .inr (3, [.ref zB, .ref zLo])), (zLo, .inl (cI, 128, .inl lo))] sz) [(zX, .inr (5, [.ref zB, .ref zL, .ref zF, .ref zM, .ref zC, .ref zG, .ref zJ, .int (nI (sG (nRepeal σ x is)))])), (zB, .inr (0, [.int (nI (sF (nRepeal σ x is))), .int (nI (2 ^ sF (nRepeal σ x is))), .ref zK, .ref zW, .int (nI (sN (nRepeal σ x is))), .int (sR (nRepeal σ x is)), .int (orE (rEr (nRepeal σ x is)) (sN (nRepeal σ x is))), .ref zU, .ref zV, .ref zR, .ref zE])), (zU, .inl (cI, 12, .inl (rMu (nRepeal σ x is)))), (zV, .inl (cI, 12, .inl (rMn (nRepeal σ x is)))), (zE, .inl (cI, 12, .inl (rEr (nRepeal σ x is)))), (zL, .inr (3, [.ref zB, .ref zLo])), (zLo, .inl (cI, 128, .inl u))]) (va_A [(zX, .inr (5, [.ref zB, .ref zL, .ref zF, .ref zM, .ref zC, .ref zG, .ref zJ, .int (nI (sG σ))])), (zB, .inr (0, [.int (nI (sF σ)), .int (nI (2 ^ sF σ)), .ref zK, .ref zW, .int (nI (sN σ)), .int (sR σ), .int (orE (rEr σ) (sN σ)), .ref zU, .ref zV, .ref zR, .ref zE])), (zU, .inl (cI, 12, .inl (rMu σ))), (zV, .inl (cI, 12, .inl (rMn σ))), (zE, .inl (cI, 12, .inl (rEr σ))), (zL, .inr (3, [.ref zB, .ref zLo])), (zLo, .inl (cI, 128, .inl lo))] sz)) 0 0 (va_A [(zX, .inr (5, [.ref zB, .ref zL, .ref zF, .ref zM, .ref zC, .ref zG, .ref zJ, .int (nI (sG σ))])), (zB, .inr (0, [.int (nI (sF σ)), .int (nI (2 ^ sF σ)), .ref zK, .ref zW, .int (nI (sN σ)), .int (sR σ), .int (orE (rEr σ) (sN σ)), .ref zU, .ref zV, .ref zR, .ref zE])), (zU, .inl (cI, 12, .inl (rMu σ))), (zV, .inl (cI, 12, .inl (rMn σ))), (zE, .inl (cI, 12, .inl (rEr σ))), (zL, .inr (3, [.ref zB, .ref zLo])), (zLo, .inl (cI, 128, .inl lo))] sz) := by
  refine Met.ofW (cc := cX5_repeal) (maxL := 4) (ret := (some .int)) (by decide) rfl ?_
  intro p e s m args below meth c s₁ B hml hv
  obtain ⟨rfl, hsz, ⟨hP, hK, hN⟩, hD0⟩ := hv
  have hx := B.exec
  have hb := B.bytes
  have hr := B.returns
  have hts := atoms_spec (ws := wsX5_repeal) B.pre
  have hown : s.vm.findClass RX5 = some m.cls := findClass_of_methodNamed B.named
  have hlocks := B.notSynchronized
  subst hsz
  have hD := hD0.self (sz := s.heap.size)
  generalize hAe : va_A [(zX, .inr (5, [.ref zB, .ref zL, .ref zF, .ref zM, .ref zC, .ref zG, .ref zJ, .int (nI (sG σ))])), (zB, .inr (0, [.int (nI (sF σ)), .int (nI (2 ^ sF σ)), .ref zK, .ref zW, .int (nI (sN σ)), .int (sR σ), .int (orE (rEr σ) (sN σ)), .ref zU, .ref zV, .ref zR, .ref zE])), (zU, .inl (cI, 12, .inl (rMu σ))), (zV, .inl (cI, 12, .inl (rMn σ))), (zE, .inl (cI, 12, .inl (rEr σ))), (zL, .inr (3, [.ref zB, .ref zLo])), (zLo, .inl (cI, 128, .inl lo))] s.heap.size = A at hD ⊢
  have hA : ∀ q : Nat, s.heap.size ≤ q → A q := fun q h => by rw [← hAe]; exact Or.inr h
  have hS : va_S A s.heap s.heap [] := va_S.rf
  have ho := hok.1
  have hk2 := hok.k
  have hf10 := hts (.fieldLink RX5 10 "BallCourt" "book" "LBallCourt$Book;") (List.mem_of_getElem? (i := 1) (by decide +kernel))
  have hiX5 : ∀ w ∈ wsX50, w ∈ wsX5_repeal := fun w h => List.mem_cons_of_mem _ (List.mem_append_left _ (List.mem_append_left _ (List.mem_append_right _ h)))
  have hiX0 : ∀ w ∈ wsX00, w ∈ wsX5_repeal := fun w h => List.mem_cons_of_mem _ (List.mem_append_left _ (List.mem_append_right _ h))
  have hf21 := hts (.fieldLink RX5 21 "BallCourt" "laws" "LBallCourt$Laws;") (List.mem_of_getElem? (i := 2) (by decide +kernel))
  have hl := lv_entry ([.ref zX, .int x, .int (b2 is)]) (n := 4) (Nat.le_of_ble_eq_true rfl)
  rw [lg_entry_eq]
  generalize (lg_sl ([.ref zX, .int x, .int (b2 is)]) ++ List.replicate (4 - (lg_sl ([.ref zX, .int x, .int (b2 is)])).length) Slot.unset).toArray = ls at hl ⊢
  have hl : lv_has ls 4 [(0, .ref zX), (1, .int x), (2, .int (b2 is))] := hl
  refine lv_aload_n hx hb dX5_repeal_0 rfl (lv_at hl 0 rfl) ?_
  refine va_get (D := D) (ci := 5) (v := .ref zB) (C := RX5) (T := TX5) (N := 8) hx hb hts hiX5 hown hK hP 0 rfl rfl 0 (by decide) hf10 (fun _ h9 => h9) rfl dX5_repeal_1 ?_
  refine lv_iload_n hx hb dX5_repeal_4 rfl (lv_at hl 1 rfl) ?_
  refine xpV (rest := []) ⟨hx, hb, hml, hown, hts⟩ (c_X0_hasLine l D cI cZ zB zK zW zU zV zR zE σ x) (cwV 1 hts gX5_repeal_X0_hasLine rfl rfl rfl (by decide +kernel) ⟨Nat.le_of_ble_eq_true rfl, Nat.le_of_ble_eq_true rfl⟩) hP [1] rfl hK hN (ci := 0) (q0 := 1) rfl rfl rfl hl.1 rfl (Nat.le_of_ble_eq_true rfl) dX5_repeal_5 ⟨Nat.zero_le _, Nat.zero_le _⟩ (fun r5 e5 => ?_)
  subst e5
  refine lv_if_ne (tgt := 13) hx hb dX5_repeal_8 (by decide) (fun c8 => ?_) (fun c8 => ?_)
  · skip
    have c8 := b2_1 c8
    obtain ⟨q, hq, rfl⟩ := inN_t c8 (by omega)
    have kq := clp hq (show sN σ ≤ 128 by omega)
    refine lv_aload_n hx hb dX5_repeal_13 rfl (lv_at hl 0 rfl) ?_
    refine va_get (D := D) (ci := 5) (v := .ref zB) (C := RX5) (T := TX5) (N := 8) hx hb hts hiX5 hown hK hP 0 rfl rfl 0 (by decide) hf10 (fun _ h9 => h9) rfl dX5_repeal_14 ?_
    refine lv_iload_n hx hb dX5_repeal_17 rfl (lv_at hl 1 rfl) ?_
    refine xpV (rest := []) ⟨hx, hb, hml, hown, hts⟩ (c_X0_isRepealed l D cI cZ zB zK zW zU zV zR zE σ q) (cwV 1 hts gX5_repeal_X0_isRepealed rfl rfl rfl (by decide +kernel) ⟨Nat.le_of_ble_eq_true rfl, Nat.le_of_ble_eq_true rfl⟩) hP [1] rfl hK hN (ci := 0) (q0 := 1) rfl rfl rfl hl.1 rfl (Nat.le_of_ble_eq_true rfl) dX5_repeal_18 ⟨Nat.zero_le _, Nat.zero_le _⟩ (fun r18 e18 => ?_)
    subst e18
    refine lv_istore_n (lv' := [(3, .int (b2 (bit (sR σ) (nI q)))), (0, .ref zX), (1, .int (nI q)), (2, .int (b2 is))]) hx hb dX5_repeal_21 rfl hl (by decide) rfl (fun ls hl => ?_)
    refine lv_iload_n hx hb dX5_repeal_22 rfl (lv_at hl 0 rfl) ?_
    refine lv_iload_n hx hb dX5_repeal_23 rfl (lv_at hl 3 rfl) ?_
    refine lv_icmp_eq (tgt := 56) hx hb dX5_repeal_24 (by decide) (fun c24 => ?_) (fun c24 => ?_)
    · skip
      have c24 := b2_inj.mp c24
      refine lv_iload_n hx hb dX5_repeal_56 rfl (lv_at hl 0 rfl) ?_
      refine xpS (rest := []) ⟨hx, hb, hml, hown, hts⟩ (c_X5_oneIf l D cI cZ (bit (sR σ) (nI q))) (va_cwS 1 hts gX5_repeal_X5_oneIf rfl rfl rfl (by decide +kernel) ⟨Nat.le_of_ble_eq_true rfl, Nat.le_of_ble_eq_true rfl⟩) hP [] rfl hK hN rfl hl.1 rfl (Nat.le_of_ble_eq_true rfl) dX5_repeal_57 ⟨Nat.zero_le _, Nat.zero_le _⟩ (fun r57 e57 => ?_)
      subst e57
      have hP9 := hP
      have hD9 := hD
      have eN : nRepeal σ (nI q) is = σ := by rw [nRepeal, if_neg (by rw [c8]; decide), if_pos c24]
      exact W.iret (v := b2 (bit (sR σ) (nI q))) hx hb hr (fun t ht hW => ⟨⟨b2 (bit (sR σ) (nI q)), lo, rfl, (by rw [eN]; exact ⟨by rw [oRepeal, if_neg (by rw [c8]; decide)], hlo⟩), ⟨⟨by rw [ht, eN]; exact hP9, va_K.moved hW.alike hK, NW.warm hW hN⟩, by rw [eN]; exact hD9⟩⟩, hS.F ht⟩) hS.2.2 dX5_repeal_60
    · skip
      have c24 : ¬ bit (sR σ) (nI q) = is := fun z => c24 (b2_inj.mpr z)
      refine lv_aload_n hx hb dX5_repeal_27 rfl (lv_at hl 1 rfl) ?_
      refine va_get (D := D) (ci := 5) (v := .ref zB) (C := RX5) (T := TX5) (N := 8) hx hb hts hiX5 hown hK hP 0 rfl rfl 0 (by decide) hf10 (fun _ h9 => h9) rfl dX5_repeal_28 ?_
      refine lv_aload_n hx hb dX5_repeal_31 rfl (lv_at hl 1 rfl) ?_
      refine va_get (D := D) (ci := 5) (v := .ref zB) (C := RX5) (T := TX5) (N := 8) hx hb hts hiX5 hown hK hP 0 rfl rfl 0 (by decide) hf10 (fun _ h9 => h9) rfl dX5_repeal_32 ?_
      refine lv_iload_n hx hb dX5_repeal_35 rfl (lv_at hl 2 rfl) ?_
      refine xpV (rest := [.ref zB]) ⟨hx, hb, hml, hown, hts⟩ (c_X0_repealedIfMended l D cI cZ zB zK zW zU zV zR zE σ q (by omega)) (cwV 1 hts gX5_repeal_X0_repealedIfMended rfl rfl rfl (by decide +kernel) ⟨Nat.le_of_ble_eq_true rfl, Nat.le_of_ble_eq_true rfl⟩) hP [1] rfl hK hN (ci := 0) (q0 := 1) rfl rfl rfl hl.1 rfl (Nat.le_of_ble_eq_true rfl) dX5_repeal_36 ⟨Nat.zero_le _, Nat.zero_le _⟩ (fun r36 e36 => ?_)
      subst e36
      refine va_putN (D := D) (ci := 0) (v := .int (sR σ ^^^ nI (2 ^ q))) (ty := .int) (C := RX0) (T := TX0) (N := 11) hx hb hts hiX0 tyX0 tyX0_ok nmX0 hown hK hP hD hS 1 rfl rfl 5 (by decide) (NW.f hN 2 rfl _) (fun _ h9 => h9) rfl (by decide +kernel) rfl rfl (Nat.le_of_ble_eq_true rfl) dX5_repeal_39 (fun H locs hP hD hS => ?_)
      have hP : va_P D vwCl [(zX, .inr (5, [.ref zB, .ref zL, .ref zF, .ref zM, .ref zC, .ref zG, .ref zJ, .int (nI (sG σ))])), (zB, .inr (0, [.int (nI (sF σ)), .int (nI (2 ^ sF σ)), .ref zK, .ref zW, .int (nI (sN σ)), .int (sR σ ^^^ nI (2 ^ q)), .int (orE (rEr σ) (sN σ)), .ref zU, .ref zV, .ref zR, .ref zE])), (zU, .inl (cI, 12, .inl (rMu σ))), (zV, .inl (cI, 12, .inl (rMn σ))), (zE, .inl (cI, 12, .inl (rEr σ))), (zL, .inr (3, [.ref zB, .ref zLo])), (zLo, .inl (cI, 128, .inl lo))] H := hP
      have hD : va_D A [(zX, .inr (5, [.ref zB, .ref zL, .ref zF, .ref zM, .ref zC, .ref zG, .ref zJ, .int (nI (sG σ))])), (zB, .inr (0, [.int (nI (sF σ)), .int (nI (2 ^ sF σ)), .ref zK, .ref zW, .int (nI (sN σ)), .int (sR σ ^^^ nI (2 ^ q)), .int (orE (rEr σ) (sN σ)), .ref zU, .ref zV, .ref zR, .ref zE])), (zU, .inl (cI, 12, .inl (rMu σ))), (zV, .inl (cI, 12, .inl (rMn σ))), (zE, .inl (cI, 12, .inl (rEr σ))), (zL, .inr (3, [.ref zB, .ref zLo])), (zLo, .inl (cI, 128, .inl lo))] := hD
      refine lv_aload_n hx hb dX5_repeal_42 rfl (lv_at hl 1 rfl) ?_
      refine va_get (D := D) (ci := 5) (v := .ref zL) (C := RX5) (T := TX5) (N := 8) hx hb hts hiX5 hown hK hP 0 rfl rfl 1 (by decide) hf21 (fun _ h9 => h9) rfl dX5_repeal_43 ?_
      refine lv_aload_n hx hb dX5_repeal_46 rfl (lv_at hl 1 rfl) ?_
      refine va_get (D := D) (ci := 5) (v := .ref zB) (C := RX5) (T := TX5) (N := 8) hx hb hts hiX5 hown hK hP 0 rfl rfl 0 (by decide) hf10 (fun _ h9 => h9) rfl dX5_repeal_47 ?_
      refine va_getN (D := D) (ci := 0) (v := .int (sR σ ^^^ nI (2 ^ q))) (C := RX0) (T := TX0) (N := 11) hx hb hts hiX0 hown hK hP 1 rfl rfl 5 (by decide) (NW.f hN 2 rfl _) (fun _ h9 => h9) rfl dX5_repeal_50 ?_
      refine xwVv (rest := []) (wr := [(zX, .inr (5, [.ref zB, .ref zL, .ref zF, .ref zM, .ref zC, .ref zG, .ref zJ, .int (nI (sG σ))]))]) ⟨hx, hb, hml, hown, hts⟩ (c_X3_work l D cI cZ H.size zB zL zK zW zU zV zR zE zLo (rpS σ (sR σ ^^^ nI (2 ^ q))) lo (sR σ ^^^ nI (2 ^ q)) (Ok_rp hok hq)) (cwV 1 hts gX5_repeal_X3_work rfl rfl rfl (by decide +kernel) ⟨Nat.le_of_ble_eq_true rfl, Nat.le_of_ble_eq_true rfl⟩) hP hD hS hA [5, 6, 1, 2, 3, 4] [0] rfl rfl (by decide) (by decide) (by decide) hK hN (ci := 3) (q0 := 5) rfl rfl rfl hl.1 rfl (Nat.le_of_ble_eq_true rfl) dX5_repeal_53 ⟨Nat.zero_le _, Nat.zero_le _⟩ (fun u53 H locs e53 hP hD hS => ?_)
      obtain ⟨lo2, rfl⟩ : ∃ z, z = u53 := ⟨_, rfl⟩
      have hP : va_P D vwCl [(zX, .inr (5, [.ref zB, .ref zL, .ref zF, .ref zM, .ref zC, .ref zG, .ref zJ, .int (nI (sG σ))])), (zL, .inr (3, [.ref zB, .ref zLo])), (zLo, .inl (cI, 128, .inl lo2)), (zB, .inr (0, [.int (nI (sF (rpS σ (sR σ ^^^ nI (2 ^ q))))), .int (nI (2 ^ sF (rpS σ (sR σ ^^^ nI (2 ^ q))))), .ref zK, .ref zW, .int (nI (sN (rpS σ (sR σ ^^^ nI (2 ^ q))))), .int (sR (rpS σ (sR σ ^^^ nI (2 ^ q)))), .int (orE (rEr (rpS σ (sR σ ^^^ nI (2 ^ q)))) (sN (rpS σ (sR σ ^^^ nI (2 ^ q))))), .ref zU, .ref zV, .ref zR, .ref zE])), (zU, .inl (cI, 12, .inl (rMu (rpS σ (sR σ ^^^ nI (2 ^ q)))))), (zV, .inl (cI, 12, .inl (rMn (rpS σ (sR σ ^^^ nI (2 ^ q)))))), (zE, .inl (cI, 12, .inl (rEr (rpS σ (sR σ ^^^ nI (2 ^ q))))))] H := hP
      have hD : va_D A [(zX, .inr (5, [.ref zB, .ref zL, .ref zF, .ref zM, .ref zC, .ref zG, .ref zJ, .int (nI (sG σ))])), (zL, .inr (3, [.ref zB, .ref zLo])), (zLo, .inl (cI, 128, .inl lo2)), (zB, .inr (0, [.int (nI (sF (rpS σ (sR σ ^^^ nI (2 ^ q))))), .int (nI (2 ^ sF (rpS σ (sR σ ^^^ nI (2 ^ q))))), .ref zK, .ref zW, .int (nI (sN (rpS σ (sR σ ^^^ nI (2 ^ q))))), .int (sR (rpS σ (sR σ ^^^ nI (2 ^ q)))), .int (orE (rEr (rpS σ (sR σ ^^^ nI (2 ^ q)))) (sN (rpS σ (sR σ ^^^ nI (2 ^ q))))), .ref zU, .ref zV, .ref zR, .ref zE])), (zU, .inl (cI, 12, .inl (rMu (rpS σ (sR σ ^^^ nI (2 ^ q)))))), (zV, .inl (cI, 12, .inl (rMn (rpS σ (sR σ ^^^ nI (2 ^ q)))))), (zE, .inl (cI, 12, .inl (rEr (rpS σ (sR σ ^^^ nI (2 ^ q))))))] := hD
      refine lv_iload_n hx hb dX5_repeal_56 rfl (lv_at hl 0 rfl) ?_
      refine xpS (rest := []) ⟨hx, hb, hml, hown, hts⟩ (c_X5_oneIf l D cI cZ (bit (sR σ) (nI q))) (va_cwS 1 hts gX5_repeal_X5_oneIf rfl rfl rfl (by decide +kernel) ⟨Nat.le_of_ble_eq_true rfl, Nat.le_of_ble_eq_true rfl⟩) hP [] rfl hK hN rfl hl.1 rfl (Nat.le_of_ble_eq_true rfl) dX5_repeal_57 ⟨Nat.zero_le _, Nat.zero_le _⟩ (fun r57 e57 => ?_)
      subst e57
      have hP9 := hP.sub (ws' := [(zX, .inr (5, [.ref zB, .ref zL, .ref zF, .ref zM, .ref zC, .ref zG, .ref zJ, .int (nI (sG σ))])), (zB, .inr (0, [.int (nI (sF (rpS σ (sR σ ^^^ nI (2 ^ q))))), .int (nI (2 ^ sF (rpS σ (sR σ ^^^ nI (2 ^ q))))), .ref zK, .ref zW, .int (nI (sN (rpS σ (sR σ ^^^ nI (2 ^ q))))), .int (sR (rpS σ (sR σ ^^^ nI (2 ^ q)))), .int (orE (rEr (rpS σ (sR σ ^^^ nI (2 ^ q)))) (sN (rpS σ (sR σ ^^^ nI (2 ^ q))))), .ref zU, .ref zV, .ref zR, .ref zE])), (zU, .inl (cI, 12, .inl (rMu (rpS σ (sR σ ^^^ nI (2 ^ q)))))), (zV, .inl (cI, 12, .inl (rMn (rpS σ (sR σ ^^^ nI (2 ^ q)))))), (zE, .inl (cI, 12, .inl (rEr (rpS σ (sR σ ^^^ nI (2 ^ q)))))), (zL, .inr (3, [.ref zB, .ref zLo])), (zLo, .inl (cI, 128, .inl lo2))]) [0, 3, 4, 5, 6, 1, 2] rfl
      have hD9 := hD.sub (ws' := [(zX, .inr (5, [.ref zB, .ref zL, .ref zF, .ref zM, .ref zC, .ref zG, .ref zJ, .int (nI (sG σ))])), (zB, .inr (0, [.int (nI (sF (rpS σ (sR σ ^^^ nI (2 ^ q))))), .int (nI (2 ^ sF (rpS σ (sR σ ^^^ nI (2 ^ q))))), .ref zK, .ref zW, .int (nI (sN (rpS σ (sR σ ^^^ nI (2 ^ q))))), .int (sR (rpS σ (sR σ ^^^ nI (2 ^ q)))), .int (orE (rEr (rpS σ (sR σ ^^^ nI (2 ^ q)))) (sN (rpS σ (sR σ ^^^ nI (2 ^ q))))), .ref zU, .ref zV, .ref zR, .ref zE])), (zU, .inl (cI, 12, .inl (rMu (rpS σ (sR σ ^^^ nI (2 ^ q)))))), (zV, .inl (cI, 12, .inl (rMn (rpS σ (sR σ ^^^ nI (2 ^ q)))))), (zE, .inl (cI, 12, .inl (rEr (rpS σ (sR σ ^^^ nI (2 ^ q)))))), (zL, .inr (3, [.ref zB, .ref zLo])), (zLo, .inl (cI, 128, .inl lo2))]) [0, 3, 4, 5, 6, 1, 2] (by decide) rfl
      have eN : nRepeal σ (nI q) is = rpS σ (sR σ ^^^ nI (2 ^ q)) := by rw [nRepeal, if_neg (by rw [c8]; decide), if_neg c24, kq]
      exact W.iret (v := b2 (bit (sR σ) (nI q))) hx hb hr (fun t ht hW => ⟨⟨b2 (bit (sR σ) (nI q)), lo2, rfl, (by rw [eN]; exact ⟨by rw [oRepeal, if_neg (by rw [c8]; decide)], e53⟩), ⟨⟨by rw [ht, eN]; exact hP9, va_K.moved hW.alike hK, NW.warm hW hN⟩, by rw [eN]; exact hD9⟩⟩, hS.F ht⟩) hS.2.2 dX5_repeal_60
  · skip
    have c8 := b2_0 c8
    refine lv_iconst (v := (-1)) hx hb dX5_repeal_11 (by decide) ?_
    have hP9 := hP
    have hD9 := hD
    have eN : nRepeal σ x is = σ := by rw [nRepeal, if_pos c8]
    exact W.iret (v := (-1)) hx hb hr (fun t ht hW => ⟨⟨(-1), lo, rfl, (by rw [eN]; exact ⟨by rw [oRepeal, if_pos c8], hlo⟩), ⟨⟨by rw [ht, eN]; exact hP9, va_K.moved hW.alike hK, NW.warm hW hN⟩, by rw [eN]; exact hD9⟩⟩, hS.F ht⟩) hS.2.2 dX5_repeal_12

set_option maxHeartbeats 4000000 in
set_option maxRecDepth 100000 in
theorem c_X5_moment (l : Launch) (D : va_G) (cI cZ : ClassId) (sz : Nat) (zX : Nat) (zB : Nat) (zL : Nat) (zF : Nat) (zM : Nat) (zC : Nat) (zG : Nat) (zJ : Nat) (zS : Nat) (zT : Nat) (zD : Nat) (σ : ST) (hok : Ok σ) : Met l yX5_moment wsX5_moment ({ frames := 1, cells := 0, slots := 0, locals := 22 }) (va_Pc [.ref zX] (XW D cI cZ [(zX, .inr (5, [.ref zB, .ref zL, .ref zF, .ref zM, .ref zC, .ref zG, .ref zJ, .int (nI (sG σ))])), (zM, .inr (4, [.int (nI (sM σ)), .ref zS, .ref zT, .ref zD])), (zS, .inl (cI, 90, .inl (rTs σ))), (zT, .inl (cI, 90, .inl (rTn σ))), (zD, .inl (cI, 30, .inl (rRd σ)))] sz)) (va_Qi (fun (r : Int32) (u : Unit) => r = oMoment σ) (fun u => XB D cI cZ (va_A [(zX, .inr (5, [.ref zB, .ref zL, .ref zF, .ref zM, .ref zC, .ref zG, .ref zJ, .int (nI (sG σ))])), (zM, .inr (4, [.int (nI (sM σ)), .ref zS, .ref zT, .ref zD])), (zS, .inl (cI, 90, .inl (rTs σ))), (zT, .inl (cI, 90, .inl (rTn σ))), (zD, .inl (cI, 30, .inl (rRd σ)))] sz) [(zX, .inr (5, [.ref zB, .ref zL, .ref zF, .ref zM, .ref zC, .ref zG, .ref zJ, .int (nI (sG (nMoment σ)))])), (zM, .inr (4, [.int (nI (sM (nMoment σ))), .ref zS, .ref zT, .ref zD])), (zS, .inl (cI, 90, .inl (rTs (nMoment σ)))), (zT, .inl (cI, 90, .inl (rTn (nMoment σ)))), (zD, .inl (cI, 30, .inl (rRd (nMoment σ))))]) (va_A [(zX, .inr (5, [.ref zB, .ref zL, .ref zF, .ref zM, .ref zC, .ref zG, .ref zJ, .int (nI (sG σ))])), (zM, .inr (4, [.int (nI (sM σ)), .ref zS, .ref zT, .ref zD])), (zS, .inl (cI, 90, .inl (rTs σ))), (zT, .inl (cI, 90, .inl (rTn σ))), (zD, .inl (cI, 30, .inl (rRd σ)))] sz)) 0 0 (va_A [(zX, .inr (5, [.ref zB, .ref zL, .ref zF, .ref zM, .ref zC, .ref zG, .ref zJ, .int (nI (sG σ))])), (zM, .inr (4, [.int (nI (sM σ)), .ref zS, .ref zT, .ref zD])), (zS, .inl (cI, 90, .inl (rTs σ))), (zT, .inl (cI, 90, .inl (rTn σ))), (zD, .inl (cI, 30, .inl (rRd σ)))] sz) := by
  refine Met.ofW (cc := cX5_moment) (maxL := 1) (ret := (some .int)) (by decide) rfl ?_
  intro p e s m args below meth c s₁ B hml hv
  obtain ⟨rfl, hsz, ⟨hP, hK, hN⟩, hD0⟩ := hv
  have hx := B.exec
  have hb := B.bytes
  have hr := B.returns
  have hts := atoms_spec (ws := wsX5_moment) B.pre
  have hown : s.vm.findClass RX5 = some m.cls := findClass_of_methodNamed B.named
  have hlocks := B.notSynchronized
  subst hsz
  have hD := hD0.self (sz := s.heap.size)
  generalize hAe : va_A [(zX, .inr (5, [.ref zB, .ref zL, .ref zF, .ref zM, .ref zC, .ref zG, .ref zJ, .int (nI (sG σ))])), (zM, .inr (4, [.int (nI (sM σ)), .ref zS, .ref zT, .ref zD])), (zS, .inl (cI, 90, .inl (rTs σ))), (zT, .inl (cI, 90, .inl (rTn σ))), (zD, .inl (cI, 30, .inl (rRd σ)))] s.heap.size = A at hD ⊢
  have hA : ∀ q : Nat, s.heap.size ≤ q → A q := fun q h => by rw [← hAe]; exact Or.inr h
  have hS : va_S A s.heap s.heap [] := va_S.rf
  have ho := hok.1
  have hk2 := hok.k
  have hf31 := hts (.fieldLink RX5 31 "BallCourt" "played" "LBallCourt$Moments;") (List.mem_of_getElem? (i := 1) (by decide +kernel))
  have hiX5 : ∀ w ∈ wsX50, w ∈ wsX5_moment := fun w h => List.mem_cons_of_mem _ (List.mem_append_left _ (List.mem_append_right _ h))
  have hiX4 : ∀ w ∈ wsX40, w ∈ wsX5_moment := fun w h => List.mem_cons_of_mem _ (List.mem_append_right _ h)
  have hl := lv_entry ([.ref zX]) (n := 1) (Nat.le_of_ble_eq_true rfl)
  rw [lg_entry_eq]
  generalize (lg_sl ([.ref zX]) ++ List.replicate (1 - (lg_sl ([.ref zX])).length) Slot.unset).toArray = ls at hl ⊢
  have hl : lv_has ls 1 [(0, .ref zX)] := hl
  refine lv_aload_n hx hb dX5_moment_0 rfl (lv_at hl 0 rfl) ?_
  refine va_get (D := D) (ci := 5) (v := .ref zM) (C := RX5) (T := TX5) (N := 8) hx hb hts hiX5 hown hK hP 0 rfl rfl 3 (by decide) hf31 (fun _ h9 => h9) rfl dX5_moment_1 ?_
  refine va_getN (D := D) (ci := 4) (v := .int (nI (sM σ))) (C := RX4) (T := TX4) (N := 4) hx hb hts hiX4 hown hK hP 1 rfl rfl 0 (by decide) (NW.f hN 0 rfl _) (fun _ h9 => h9) rfl dX5_moment_4 ?_
  refine lv_bipush (v := nI 30) hx hb dX5_moment_7 (by decide) ?_
  refine lv_icmp_lt (tgt := 15) hx hb dX5_moment_9 (by decide) (fun c9 => ?_) (fun c9 => ?_)
  · skip
    have c9 := (nI_ltI (by omega) (by omega)).mp c9
    refine lv_aload_n hx hb dX5_moment_15 rfl (lv_at hl 0 rfl) ?_
    refine va_get (D := D) (ci := 5) (v := .ref zM) (C := RX5) (T := TX5) (N := 8) hx hb hts hiX5 hown hK hP 0 rfl rfl 3 (by decide) hf31 (fun _ h9 => h9) rfl dX5_moment_16 ?_
    refine xwV (rest := []) (wr := [(zX, .inr (5, [.ref zB, .ref zL, .ref zF, .ref zM, .ref zC, .ref zG, .ref zJ, .int (nI (sG σ))]))]) ⟨hx, hb, hml, hown, hts⟩ (c_X4_add l D cI cZ s.heap.size zM zS zT zD σ c9) (cwV 0 hts gX5_moment_X4_add rfl rfl rfl (by decide +kernel) ⟨Nat.le_of_ble_eq_true rfl, Nat.le_of_ble_eq_true rfl⟩) hP hD hS hA [1, 2, 3, 4] [0] rfl rfl (by decide) (by decide) (by decide) hK hN (ci := 4) (q0 := 1) rfl rfl rfl hl.1 rfl (Nat.le_of_ble_eq_true rfl) dX5_moment_19 ⟨Nat.zero_le _, Nat.zero_le _⟩ (fun r19 u19 H locs e19 hP hD hS => ?_)
    have hP : va_P D vwCl [(zX, .inr (5, [.ref zB, .ref zL, .ref zF, .ref zM, .ref zC, .ref zG, .ref zJ, .int (nI (sG σ))])), (zM, .inr (4, [.int (nI (sM (moS σ))), .ref zS, .ref zT, .ref zD])), (zS, .inl (cI, 90, .inl (rTs (moS σ)))), (zT, .inl (cI, 90, .inl (rTn (moS σ)))), (zD, .inl (cI, 30, .inl (rRd (moS σ))))] H := hP
    have hD : va_D A [(zX, .inr (5, [.ref zB, .ref zL, .ref zF, .ref zM, .ref zC, .ref zG, .ref zJ, .int (nI (sG σ))])), (zM, .inr (4, [.int (nI (sM (moS σ))), .ref zS, .ref zT, .ref zD])), (zS, .inl (cI, 90, .inl (rTs (moS σ)))), (zT, .inl (cI, 90, .inl (rTn (moS σ)))), (zD, .inl (cI, 30, .inl (rRd (moS σ))))] := hD
    have hP9 := hP
    have hD9 := hD
    have eN : nMoment σ = moS σ := by rw [nMoment, if_neg (by omega)]
    exact W.iret (v := r19) hx hb hr (fun t ht hW => ⟨⟨r19, (), rfl, (by rw [e19, oMoment, if_neg (by omega)]), ⟨⟨by rw [ht, eN]; exact hP9, va_K.moved hW.alike hK, NW.warm hW hN⟩, by rw [eN]; exact hD9⟩⟩, hS.F ht⟩) hS.2.2 dX5_moment_22
  · skip
    have c9 : 30 ≤ sM σ := Nat.le_of_not_lt (fun z => c9 ((nI_ltI (by omega) (by omega)).mpr z))
    refine lv_bipush (v := (-4)) hx hb dX5_moment_12 (by decide) ?_
    have hP9 := hP
    have hD9 := hD
    have eN : nMoment σ = σ := by rw [nMoment, if_pos c9]
    exact W.iret (v := (-4)) hx hb hr (fun t ht hW => ⟨⟨(-4), (), rfl, (by rw [oMoment, if_pos c9]), ⟨⟨by rw [ht, eN]; exact hP9, va_K.moved hW.alike hK, NW.warm hW hN⟩, by rw [eN]; exact hD9⟩⟩, hS.F ht⟩) hS.2.2 dX5_moment_14

set_option maxHeartbeats 4000000 in
set_option maxRecDepth 100000 in
theorem c_X5_tell (l : Launch) (D : va_G) (cI cZ : ClassId) (sz : Nat) (zX : Nat) (zB : Nat) (zL : Nat) (zF : Nat) (zM : Nat) (zC : Nat) (zG : Nat) (zJ : Nat) (zK : Nat) (zW : Nat) (zU : Nat) (zV : Nat) (zR : Nat) (zE : Nat) (zS : Nat) (zT : Nat) (zD : Nat) (σ : ST) (x : Int32) (y : Int32) (z : Int32) (v : Int32) (hok : Ok σ) : Met l yX5_tell wsX5_tell ({ frames := 2, cells := 0, slots := 0, locals := 47 }) (va_Pc [.ref zX, .int x, .int y, .int z, .int v] (XW D cI cZ [(zX, .inr (5, [.ref zB, .ref zL, .ref zF, .ref zM, .ref zC, .ref zG, .ref zJ, .int (nI (sG σ))])), (zM, .inr (4, [.int (nI (sM σ)), .ref zS, .ref zT, .ref zD])), (zS, .inl (cI, 90, .inl (rTs σ))), (zT, .inl (cI, 90, .inl (rTn σ))), (zB, .inr (0, [.int (nI (sF σ)), .int (nI (2 ^ sF σ)), .ref zK, .ref zW, .int (nI (sN σ)), .int (sR σ), .int (orE (rEr σ) (sN σ)), .ref zU, .ref zV, .ref zR, .ref zE]))] sz)) (va_Qi (fun (r : Int32) (u : Unit) => r = oTell σ x y z v) (fun u => XB D cI cZ (va_A [(zX, .inr (5, [.ref zB, .ref zL, .ref zF, .ref zM, .ref zC, .ref zG, .ref zJ, .int (nI (sG σ))])), (zM, .inr (4, [.int (nI (sM σ)), .ref zS, .ref zT, .ref zD])), (zS, .inl (cI, 90, .inl (rTs σ))), (zT, .inl (cI, 90, .inl (rTn σ))), (zB, .inr (0, [.int (nI (sF σ)), .int (nI (2 ^ sF σ)), .ref zK, .ref zW, .int (nI (sN σ)), .int (sR σ), .int (orE (rEr σ) (sN σ)), .ref zU, .ref zV, .ref zR, .ref zE]))] sz) [(zX, .inr (5, [.ref zB, .ref zL, .ref zF, .ref zM, .ref zC, .ref zG, .ref zJ, .int (nI (sG (nTell σ x y z v)))])), (zM, .inr (4, [.int (nI (sM (nTell σ x y z v))), .ref zS, .ref zT, .ref zD])), (zS, .inl (cI, 90, .inl (rTs (nTell σ x y z v)))), (zT, .inl (cI, 90, .inl (rTn (nTell σ x y z v)))), (zB, .inr (0, [.int (nI (sF (nTell σ x y z v))), .int (nI (2 ^ sF (nTell σ x y z v))), .ref zK, .ref zW, .int (nI (sN (nTell σ x y z v))), .int (sR (nTell σ x y z v)), .int (orE (rEr (nTell σ x y z v)) (sN (nTell σ x y z v))), .ref zU, .ref zV, .ref zR, .ref zE]))]) (va_A [(zX, .inr (5, [.ref zB, .ref zL, .ref zF, .ref zM, .ref zC, .ref zG, .ref zJ, .int (nI (sG σ))])), (zM, .inr (4, [.int (nI (sM σ)), .ref zS, .ref zT, .ref zD])), (zS, .inl (cI, 90, .inl (rTs σ))), (zT, .inl (cI, 90, .inl (rTn σ))), (zB, .inr (0, [.int (nI (sF σ)), .int (nI (2 ^ sF σ)), .ref zK, .ref zW, .int (nI (sN σ)), .int (sR σ), .int (orE (rEr σ) (sN σ)), .ref zU, .ref zV, .ref zR, .ref zE]))] sz)) 0 0 (va_A [(zX, .inr (5, [.ref zB, .ref zL, .ref zF, .ref zM, .ref zC, .ref zG, .ref zJ, .int (nI (sG σ))])), (zM, .inr (4, [.int (nI (sM σ)), .ref zS, .ref zT, .ref zD])), (zS, .inl (cI, 90, .inl (rTs σ))), (zT, .inl (cI, 90, .inl (rTn σ))), (zB, .inr (0, [.int (nI (sF σ)), .int (nI (2 ^ sF σ)), .ref zK, .ref zW, .int (nI (sN σ)), .int (sR σ), .int (orE (rEr σ) (sN σ)), .ref zU, .ref zV, .ref zR, .ref zE]))] sz) := by
  refine Met.ofW (cc := cX5_tell) (maxL := 5) (ret := (some .int)) (by decide) rfl ?_
  intro p e s m args below meth c s₁ B hml hv
  obtain ⟨rfl, hsz, ⟨hP, hK, hN⟩, hD0⟩ := hv
  have hx := B.exec
  have hb := B.bytes
  have hr := B.returns
  have hts := atoms_spec (ws := wsX5_tell) B.pre
  have hown : s.vm.findClass RX5 = some m.cls := findClass_of_methodNamed B.named
  have hlocks := B.notSynchronized
  subst hsz
  have hD := hD0.self (sz := s.heap.size)
  generalize hAe : va_A [(zX, .inr (5, [.ref zB, .ref zL, .ref zF, .ref zM, .ref zC, .ref zG, .ref zJ, .int (nI (sG σ))])), (zM, .inr (4, [.int (nI (sM σ)), .ref zS, .ref zT, .ref zD])), (zS, .inl (cI, 90, .inl (rTs σ))), (zT, .inl (cI, 90, .inl (rTn σ))), (zB, .inr (0, [.int (nI (sF σ)), .int (nI (2 ^ sF σ)), .ref zK, .ref zW, .int (nI (sN σ)), .int (sR σ), .int (orE (rEr σ) (sN σ)), .ref zU, .ref zV, .ref zR, .ref zE]))] s.heap.size = A at hD ⊢
  have hA : ∀ q : Nat, s.heap.size ≤ q → A q := fun q h => by rw [← hAe]; exact Or.inr h
  have hS : va_S A s.heap s.heap [] := va_S.rf
  have ho := hok.1
  have hk2 := hok.k
  have hf31 := hts (.fieldLink RX5 31 "BallCourt" "played" "LBallCourt$Moments;") (List.mem_of_getElem? (i := 1) (by decide +kernel))
  have hiX5 : ∀ w ∈ wsX50, w ∈ wsX5_tell := fun w h => List.mem_cons_of_mem _ (List.mem_append_left _ (List.mem_append_left _ (List.mem_append_right _ h)))
  have hf10 := hts (.fieldLink RX5 10 "BallCourt" "book" "LBallCourt$Book;") (List.mem_of_getElem? (i := 2) (by decide +kernel))
  have hl := lv_entry ([.ref zX, .int x, .int y, .int z, .int v]) (n := 5) (Nat.le_of_ble_eq_true rfl)
  rw [lg_entry_eq]
  generalize (lg_sl ([.ref zX, .int x, .int y, .int z, .int v]) ++ List.replicate (5 - (lg_sl ([.ref zX, .int x, .int y, .int z, .int v])).length) Slot.unset).toArray = ls at hl ⊢
  have hl : lv_has ls 5 [(0, .ref zX), (1, .int x), (2, .int y), (3, .int z), (4, .int v)] := hl
  refine lv_aload_n hx hb dX5_tell_0 rfl (lv_at hl 0 rfl) ?_
  refine va_get (D := D) (ci := 5) (v := .ref zM) (C := RX5) (T := TX5) (N := 8) hx hb hts hiX5 hown hK hP 0 rfl rfl 3 (by decide) hf31 (fun _ h9 => h9) rfl dX5_tell_1 ?_
  refine lv_iload_n hx hb dX5_tell_4 rfl (lv_at hl 1 rfl) ?_
  refine xpV (rest := []) ⟨hx, hb, hml, hown, hts⟩ (c_X4_has l D cI cZ zM zS zT zD σ x) (cwV 1 hts gX5_tell_X4_has rfl rfl rfl (by decide +kernel) ⟨Nat.le_of_ble_eq_true rfl, Nat.le_of_ble_eq_true rfl⟩) hP [1] rfl hK hN (ci := 4) (q0 := 1) rfl rfl rfl hl.1 rfl (Nat.le_of_ble_eq_true rfl) dX5_tell_5 ⟨Nat.zero_le _, Nat.zero_le _⟩ (fun r5 e5 => ?_)
  subst e5
  refine lv_if_eq (tgt := 22) hx hb dX5_tell_8 (by decide) (fun c8 => ?_) (fun c8 => ?_)
  · skip
    have c8 := b2_0 c8
    refine lv_iconst (v := (-1)) hx hb dX5_tell_22 (by decide) ?_
    have hP9 := hP
    have hD9 := hD
    have eN : nTell σ x y z v = σ := by rw [nTell, if_pos c8]
    have eO : oTell σ x y z v = -1 := by rw [oTell, if_pos c8]
    exact W.iret (v := (-1)) hx hb hr (fun t ht hW => ⟨⟨(-1), (), rfl, eO.symm, ⟨⟨by rw [ht, eN]; exact hP9, va_K.moved hW.alike hK, NW.warm hW hN⟩, by rw [eN]; exact hD9⟩⟩, hS.F ht⟩) hS.2.2 dX5_tell_23
  · skip
    have c8 := b2_1 c8
    refine lv_aload_n hx hb dX5_tell_11 rfl (lv_at hl 0 rfl) ?_
    refine va_get (D := D) (ci := 5) (v := .ref zB) (C := RX5) (T := TX5) (N := 8) hx hb hts hiX5 hown hK hP 0 rfl rfl 0 (by decide) hf10 (fun _ h9 => h9) rfl dX5_tell_12 ?_
    refine lv_iload_n hx hb dX5_tell_15 rfl (lv_at hl 3 rfl) ?_
    refine xpV (rest := []) ⟨hx, hb, hml, hown, hts⟩ (c_X0_hasFact l D cI cZ zB zK zW zU zV zR zE σ z) (cwV 1 hts gX5_tell_X0_hasFact rfl rfl rfl (by decide +kernel) ⟨Nat.le_of_ble_eq_true rfl, Nat.le_of_ble_eq_true rfl⟩) hP [4] rfl hK hN (ci := 0) (q0 := 4) rfl rfl rfl hl.1 rfl (Nat.le_of_ble_eq_true rfl) dX5_tell_16 ⟨Nat.zero_le _, Nat.zero_le _⟩ (fun r16 e16 => ?_)
    subst e16
    refine lv_if_ne (tgt := 24) hx hb dX5_tell_19 (by decide) (fun c19 => ?_) (fun c19 => ?_)
    · skip
      have c19 := b2_1 c19
      refine lv_iload_n hx hb dX5_tell_24 rfl (lv_at hl 2 rfl) ?_
      refine lv_if_lt (tgt := 44) hx hb dX5_tell_25 (by decide) (fun c25 => ?_) (fun c25 => ?_)
      · skip
        refine lv_bipush (v := (-2)) hx hb dX5_tell_44 (by decide) ?_
        have hP9 := hP
        have hD9 := hD
        have cW : inN y 3 = false := by simp only [inN, decide_eq_true c25]; rfl
        have eN : nTell σ x y z v = σ := by rw [nTell, if_neg (by rw [c8]; decide), if_neg (by rw [c19]; decide), if_pos cW]
        have eO : oTell σ x y z v = -2 := by rw [oTell, if_neg (by rw [c8]; decide), if_neg (by rw [c19]; decide), if_pos cW]
        exact W.iret (v := (-2)) hx hb hr (fun t ht hW => ⟨⟨(-2), (), rfl, eO.symm, ⟨⟨by rw [ht, eN]; exact hP9, va_K.moved hW.alike hK, NW.warm hW hN⟩, by rw [eN]; exact hD9⟩⟩, hS.F ht⟩) hS.2.2 dX5_tell_46
      · skip
        refine lv_iload_n hx hb dX5_tell_28 rfl (lv_at hl 2 rfl) ?_
        refine lv_iconst (v := nI 3) hx hb dX5_tell_29 (by decide) ?_
        refine lv_icmp_ge (tgt := 44) hx hb dX5_tell_30 (by decide) (fun c30 => ?_) (fun c30 => ?_)
        · skip
          refine lv_bipush (v := (-2)) hx hb dX5_tell_44 (by decide) ?_
          have hP9 := hP
          have hD9 := hD
          have cW : inN y 3 = false := by simp only [inN, decide_eq_false c25, decide_eq_true c30]; rfl
          have eN : nTell σ x y z v = σ := by rw [nTell, if_neg (by rw [c8]; decide), if_neg (by rw [c19]; decide), if_pos cW]
          have eO : oTell σ x y z v = -2 := by rw [oTell, if_neg (by rw [c8]; decide), if_neg (by rw [c19]; decide), if_pos cW]
          exact W.iret (v := (-2)) hx hb hr (fun t ht hW => ⟨⟨(-2), (), rfl, eO.symm, ⟨⟨by rw [ht, eN]; exact hP9, va_K.moved hW.alike hK, NW.warm hW hN⟩, by rw [eN]; exact hD9⟩⟩, hS.F ht⟩) hS.2.2 dX5_tell_46
        · skip
          refine lv_iload hx hb dX5_tell_33 (lv_at hl 4 rfl) ?_
          refine lv_if_lt (tgt := 44) hx hb dX5_tell_35 (by decide) (fun c35 => ?_) (fun c35 => ?_)
          · skip
            refine lv_bipush (v := (-2)) hx hb dX5_tell_44 (by decide) ?_
            have hP9 := hP
            have hD9 := hD
            have cW : inN y 3 = true := by simp only [inN, decide_eq_false c25, decide_eq_false c30]; rfl
            have cV : inI v 0 2 = false := by simp only [inI, decide_eq_true c35]; rfl
            have eN : nTell σ x y z v = σ := by rw [nTell, if_neg (by rw [c8]; decide), if_neg (by rw [c19]; decide), if_neg (by rw [cW]; decide), if_pos cV]
            have eO : oTell σ x y z v = -2 := by rw [oTell, if_neg (by rw [c8]; decide), if_neg (by rw [c19]; decide), if_neg (by rw [cW]; decide), if_pos cV]
            exact W.iret (v := (-2)) hx hb hr (fun t ht hW => ⟨⟨(-2), (), rfl, eO.symm, ⟨⟨by rw [ht, eN]; exact hP9, va_K.moved hW.alike hK, NW.warm hW hN⟩, by rw [eN]; exact hD9⟩⟩, hS.F ht⟩) hS.2.2 dX5_tell_46
          · skip
            refine lv_iload hx hb dX5_tell_38 (lv_at hl 4 rfl) ?_
            refine lv_iconst (v := 2) hx hb dX5_tell_40 (by decide) ?_
            refine lv_icmp_le (tgt := 47) hx hb dX5_tell_41 (by decide) (fun c41 => ?_) (fun c41 => ?_)
            · skip
              have c41 := Int32.not_lt.mpr c41
              have cW : inN y 3 = true := by simp only [inN, decide_eq_false c25, decide_eq_false c30]; rfl
              have cV : inI v 0 2 = true := by simp only [inI, decide_eq_false c35, decide_eq_false c41]; rfl
              obtain ⟨m0, hm, rfl⟩ := inN_t c8 (by omega)
              obtain ⟨w0, hw, rfl⟩ := inN_t cW (by omega)
              obtain ⟨f, hf, rfl⟩ := inN_t c19 (by omega)
              have km : (nI m0).toNatClampNeg = m0 := nI_clamp (by omega)
              have kw : (nI w0).toNatClampNeg = w0 := nI_clamp (by omega)
              have kf : (nI f).toNatClampNeg = f := nI_clamp (by omega)
              refine lv_aload_n hx hb dX5_tell_47 rfl (lv_at hl 0 rfl) ?_
              refine va_get (D := D) (ci := 5) (v := .ref zM) (C := RX5) (T := TX5) (N := 8) hx hb hts hiX5 hown hK hP 0 rfl rfl 3 (by decide) hf31 (fun _ h9 => h9) rfl dX5_tell_48 ?_
              refine lv_iload_n hx hb dX5_tell_51 rfl (lv_at hl 1 rfl) ?_
              refine lv_iload_n hx hb dX5_tell_52 rfl (lv_at hl 2 rfl) ?_
              refine lv_iload_n hx hb dX5_tell_53 rfl (lv_at hl 3 rfl) ?_
              refine lv_iload hx hb dX5_tell_54 (lv_at hl 4 rfl) ?_
              refine xwV (rest := []) (wr := [(zX, .inr (5, [.ref zB, .ref zL, .ref zF, .ref zM, .ref zC, .ref zG, .ref zJ, .int (nI (sG σ))])), (zB, .inr (0, [.int (nI (sF σ)), .int (nI (2 ^ sF σ)), .ref zK, .ref zW, .int (nI (sN σ)), .int (sR σ), .int (orE (rEr σ) (sN σ)), .ref zU, .ref zV, .ref zR, .ref zE]))]) ⟨hx, hb, hml, hown, hts⟩ (c_X4_hear l D cI cZ s.heap.size zM zS zT zD σ m0 w0 f v (by omega) hw (by omega)) (cwV 4 hts gX5_tell_X4_hear rfl rfl rfl (by decide +kernel) ⟨Nat.le_of_ble_eq_true rfl, Nat.le_of_ble_eq_true rfl⟩) hP hD hS hA [1, 2, 3] [0, 4] rfl rfl (by decide) (by decide) (by decide) hK hN (ci := 4) (q0 := 1) rfl rfl rfl hl.1 rfl (Nat.le_of_ble_eq_true rfl) dX5_tell_56 ⟨Nat.zero_le _, Nat.zero_le _⟩ (fun r56 u56 H locs e56 hP hD hS => ?_)
              have hP : va_P D vwCl [(zX, .inr (5, [.ref zB, .ref zL, .ref zF, .ref zM, .ref zC, .ref zG, .ref zJ, .int (nI (sG σ))])), (zB, .inr (0, [.int (nI (sF σ)), .int (nI (2 ^ sF σ)), .ref zK, .ref zW, .int (nI (sN σ)), .int (sR σ), .int (orE (rEr σ) (sN σ)), .ref zU, .ref zV, .ref zR, .ref zE])), (zM, .inr (4, [.int (nI (sM (teS σ (3 * m0 + w0) f v))), .ref zS, .ref zT, .ref zD])), (zS, .inl (cI, 90, .inl (rTs (teS σ (3 * m0 + w0) f v)))), (zT, .inl (cI, 90, .inl (rTn (teS σ (3 * m0 + w0) f v))))] H := hP
              have hD : va_D A [(zX, .inr (5, [.ref zB, .ref zL, .ref zF, .ref zM, .ref zC, .ref zG, .ref zJ, .int (nI (sG σ))])), (zB, .inr (0, [.int (nI (sF σ)), .int (nI (2 ^ sF σ)), .ref zK, .ref zW, .int (nI (sN σ)), .int (sR σ), .int (orE (rEr σ) (sN σ)), .ref zU, .ref zV, .ref zR, .ref zE])), (zM, .inr (4, [.int (nI (sM (teS σ (3 * m0 + w0) f v))), .ref zS, .ref zT, .ref zD])), (zS, .inl (cI, 90, .inl (rTs (teS σ (3 * m0 + w0) f v)))), (zT, .inl (cI, 90, .inl (rTn (teS σ (3 * m0 + w0) f v))))] := hD
              have hP9 := hP.sub (ws' := [(zX, .inr (5, [.ref zB, .ref zL, .ref zF, .ref zM, .ref zC, .ref zG, .ref zJ, .int (nI (sG σ))])), (zM, .inr (4, [.int (nI (sM (teS σ (3 * m0 + w0) f v))), .ref zS, .ref zT, .ref zD])), (zS, .inl (cI, 90, .inl (rTs (teS σ (3 * m0 + w0) f v)))), (zT, .inl (cI, 90, .inl (rTn (teS σ (3 * m0 + w0) f v)))), (zB, .inr (0, [.int (nI (sF σ)), .int (nI (2 ^ sF σ)), .ref zK, .ref zW, .int (nI (sN σ)), .int (sR σ), .int (orE (rEr σ) (sN σ)), .ref zU, .ref zV, .ref zR, .ref zE]))]) [0, 2, 3, 4, 1] rfl
              have hD9 := hD.sub (ws' := [(zX, .inr (5, [.ref zB, .ref zL, .ref zF, .ref zM, .ref zC, .ref zG, .ref zJ, .int (nI (sG σ))])), (zM, .inr (4, [.int (nI (sM (teS σ (3 * m0 + w0) f v))), .ref zS, .ref zT, .ref zD])), (zS, .inl (cI, 90, .inl (rTs (teS σ (3 * m0 + w0) f v)))), (zT, .inl (cI, 90, .inl (rTn (teS σ (3 * m0 + w0) f v)))), (zB, .inr (0, [.int (nI (sF σ)), .int (nI (2 ^ sF σ)), .ref zK, .ref zW, .int (nI (sN σ)), .int (sR σ), .int (orE (rEr σ) (sN σ)), .ref zU, .ref zV, .ref zR, .ref zE]))]) [0, 2, 3, 4, 1] (by decide) rfl
              have eN : nTell σ (nI m0) (nI w0) (nI f) v = teS σ (3 * m0 + w0) f v := by rw [nTell, if_neg (by rw [c8]; decide), if_neg (by rw [c19]; decide), if_neg (by rw [cW]; decide), if_neg (by rw [cV]; decide), km, kw, kf]
              exact W.iret (v := r56) hx hb hr (fun t ht hW => ⟨⟨r56, (), rfl, (by rw [e56, oTell, if_neg (by rw [c8]; decide), if_neg (by rw [c19]; decide), if_neg (by rw [cW]; decide), if_neg (by rw [cV]; decide), km, kw, kf]), ⟨⟨by rw [ht, eN]; exact hP9, va_K.moved hW.alike hK, NW.warm hW hN⟩, by rw [eN]; exact hD9⟩⟩, hS.F ht⟩) hS.2.2 dX5_tell_59
            · skip
              have c41 := Int32.not_le.mp c41
              refine lv_bipush (v := (-2)) hx hb dX5_tell_44 (by decide) ?_
              have hP9 := hP
              have hD9 := hD
              have cW : inN y 3 = true := by simp only [inN, decide_eq_false c25, decide_eq_false c30]; rfl
              have cV : inI v 0 2 = false := by simp only [inI, decide_eq_false c35, decide_eq_true c41]; rfl
              have eN : nTell σ x y z v = σ := by rw [nTell, if_neg (by rw [c8]; decide), if_neg (by rw [c19]; decide), if_neg (by rw [cW]; decide), if_pos cV]
              have eO : oTell σ x y z v = -2 := by rw [oTell, if_neg (by rw [c8]; decide), if_neg (by rw [c19]; decide), if_neg (by rw [cW]; decide), if_pos cV]
              exact W.iret (v := (-2)) hx hb hr (fun t ht hW => ⟨⟨(-2), (), rfl, eO.symm, ⟨⟨by rw [ht, eN]; exact hP9, va_K.moved hW.alike hK, NW.warm hW hN⟩, by rw [eN]; exact hD9⟩⟩, hS.F ht⟩) hS.2.2 dX5_tell_46
    · skip
      have c19 := b2_0 c19
      refine lv_iconst (v := (-1)) hx hb dX5_tell_22 (by decide) ?_
      have hP9 := hP
      have hD9 := hD
      have eN : nTell σ x y z v = σ := by rw [nTell, if_neg (by rw [c8]; decide), if_pos c19]
      have eO : oTell σ x y z v = -1 := by rw [oTell, if_neg (by rw [c8]; decide), if_pos c19]
      exact W.iret (v := (-1)) hx hb hr (fun t ht hW => ⟨⟨(-1), (), rfl, eO.symm, ⟨⟨by rw [ht, eN]; exact hP9, va_K.moved hW.alike hK, NW.warm hW hN⟩, by rw [eN]; exact hD9⟩⟩, hS.F ht⟩) hS.2.2 dX5_tell_23

set_option maxHeartbeats 4000000 in
set_option maxRecDepth 100000 in
theorem c_X5_rule (l : Launch) (D : va_G) (cI cZ : ClassId) (sz : Nat) (zX : Nat) (zB : Nat) (zL : Nat) (zF : Nat) (zM : Nat) (zC : Nat) (zG : Nat) (zJ : Nat) (zK : Nat) (zW : Nat) (zU : Nat) (zV : Nat) (zR : Nat) (zE : Nat) (zLo : Nat) (zS : Nat) (zT : Nat) (zD : Nat) (zQ : Nat) (zP : Nat) (zN : Nat) (σ : ST) (kI : Nat → Int32) (lo : Nat → Int32) (x : Int32) (y : Int32) (hok : Ok σ) (hkI : ∀ k, k < 2 ^ sF σ → kI k = b2 (kok σ k)) (hlo : ∀ k, k < 2 ^ sF σ → lo k = lawI σ (sR σ) k) : Met l yX5_rule wsX5_rule ({ frames := 4, cells := 0, slots := 0, locals := 92 }) (va_Pc [.ref zX, .int x, .int y] (XW D cI cZ [(zX, .inr (5, [.ref zB, .ref zL, .ref zF, .ref zM, .ref zC, .ref zG, .ref zJ, .int (nI (sG σ))])), (zM, .inr (4, [.int (nI (sM σ)), .ref zS, .ref zT, .ref zD])), (zS, .inl (cI, 90, .inl (rTs σ))), (zT, .inl (cI, 90, .inl (rTn σ))), (zD, .inl (cI, 30, .inl (rRd σ))), (zB, .inr (0, [.int (nI (sF σ)), .int (nI (2 ^ sF σ)), .ref zK, .ref zW, .int (nI (sN σ)), .int (sR σ), .int (orE (rEr σ) (sN σ)), .ref zU, .ref zV, .ref zR, .ref zE])), (zK, .inl (cZ, 128, .inl kI)), (zC, .inr (1, [.int (nI (sC σ)), .ref zQ, .ref zP, .ref zN])), (zQ, .inl (cI, 12, .inl (rCk σ))), (zP, .inl (cI, 12, .inl (rCr σ))), (zN, .inl (cI, 12, .inl (rCn σ))), (zL, .inr (3, [.ref zB, .ref zLo])), (zLo, .inl (cI, 128, .inl lo)), (zR, .inl (cI, 12, .inl (rRu σ)))] sz)) (va_Qi (fun (r : Int32) (u : Unit) => r = oRule σ x y) (fun u => XB D cI cZ (va_A [(zX, .inr (5, [.ref zB, .ref zL, .ref zF, .ref zM, .ref zC, .ref zG, .ref zJ, .int (nI (sG σ))])), (zM, .inr (4, [.int (nI (sM σ)), .ref zS, .ref zT, .ref zD])), (zS, .inl (cI, 90, .inl (rTs σ))), (zT, .inl (cI, 90, .inl (rTn σ))), (zD, .inl (cI, 30, .inl (rRd σ))), (zB, .inr (0, [.int (nI (sF σ)), .int (nI (2 ^ sF σ)), .ref zK, .ref zW, .int (nI (sN σ)), .int (sR σ), .int (orE (rEr σ) (sN σ)), .ref zU, .ref zV, .ref zR, .ref zE])), (zK, .inl (cZ, 128, .inl kI)), (zC, .inr (1, [.int (nI (sC σ)), .ref zQ, .ref zP, .ref zN])), (zQ, .inl (cI, 12, .inl (rCk σ))), (zP, .inl (cI, 12, .inl (rCr σ))), (zN, .inl (cI, 12, .inl (rCn σ))), (zL, .inr (3, [.ref zB, .ref zLo])), (zLo, .inl (cI, 128, .inl lo)), (zR, .inl (cI, 12, .inl (rRu σ)))] sz) [(zX, .inr (5, [.ref zB, .ref zL, .ref zF, .ref zM, .ref zC, .ref zG, .ref zJ, .int (nI (sG (nRule σ x y)))])), (zM, .inr (4, [.int (nI (sM (nRule σ x y))), .ref zS, .ref zT, .ref zD])), (zS, .inl (cI, 90, .inl (rTs (nRule σ x y)))), (zT, .inl (cI, 90, .inl (rTn (nRule σ x y)))), (zD, .inl (cI, 30, .inl (rRd (nRule σ x y)))), (zB, .inr (0, [.int (nI (sF (nRule σ x y))), .int (nI (2 ^ sF (nRule σ x y))), .ref zK, .ref zW, .int (nI (sN (nRule σ x y))), .int (sR (nRule σ x y)), .int (orE (rEr (nRule σ x y)) (sN (nRule σ x y))), .ref zU, .ref zV, .ref zR, .ref zE])), (zK, .inl (cZ, 128, .inl kI)), (zC, .inr (1, [.int (nI (sC (nRule σ x y))), .ref zQ, .ref zP, .ref zN])), (zQ, .inl (cI, 12, .inl (rCk (nRule σ x y)))), (zP, .inl (cI, 12, .inl (rCr (nRule σ x y)))), (zN, .inl (cI, 12, .inl (rCn (nRule σ x y)))), (zL, .inr (3, [.ref zB, .ref zLo])), (zLo, .inl (cI, 128, .inl lo)), (zR, .inl (cI, 12, .inl (rRu (nRule σ x y))))]) (va_A [(zX, .inr (5, [.ref zB, .ref zL, .ref zF, .ref zM, .ref zC, .ref zG, .ref zJ, .int (nI (sG σ))])), (zM, .inr (4, [.int (nI (sM σ)), .ref zS, .ref zT, .ref zD])), (zS, .inl (cI, 90, .inl (rTs σ))), (zT, .inl (cI, 90, .inl (rTn σ))), (zD, .inl (cI, 30, .inl (rRd σ))), (zB, .inr (0, [.int (nI (sF σ)), .int (nI (2 ^ sF σ)), .ref zK, .ref zW, .int (nI (sN σ)), .int (sR σ), .int (orE (rEr σ) (sN σ)), .ref zU, .ref zV, .ref zR, .ref zE])), (zK, .inl (cZ, 128, .inl kI)), (zC, .inr (1, [.int (nI (sC σ)), .ref zQ, .ref zP, .ref zN])), (zQ, .inl (cI, 12, .inl (rCk σ))), (zP, .inl (cI, 12, .inl (rCr σ))), (zN, .inl (cI, 12, .inl (rCn σ))), (zL, .inr (3, [.ref zB, .ref zLo])), (zLo, .inl (cI, 128, .inl lo)), (zR, .inl (cI, 12, .inl (rRu σ)))] sz)) 0 0 (va_A [(zX, .inr (5, [.ref zB, .ref zL, .ref zF, .ref zM, .ref zC, .ref zG, .ref zJ, .int (nI (sG σ))])), (zM, .inr (4, [.int (nI (sM σ)), .ref zS, .ref zT, .ref zD])), (zS, .inl (cI, 90, .inl (rTs σ))), (zT, .inl (cI, 90, .inl (rTn σ))), (zD, .inl (cI, 30, .inl (rRd σ))), (zB, .inr (0, [.int (nI (sF σ)), .int (nI (2 ^ sF σ)), .ref zK, .ref zW, .int (nI (sN σ)), .int (sR σ), .int (orE (rEr σ) (sN σ)), .ref zU, .ref zV, .ref zR, .ref zE])), (zK, .inl (cZ, 128, .inl kI)), (zC, .inr (1, [.int (nI (sC σ)), .ref zQ, .ref zP, .ref zN])), (zQ, .inl (cI, 12, .inl (rCk σ))), (zP, .inl (cI, 12, .inl (rCr σ))), (zN, .inl (cI, 12, .inl (rCn σ))), (zL, .inr (3, [.ref zB, .ref zLo])), (zLo, .inl (cI, 128, .inl lo)), (zR, .inl (cI, 12, .inl (rRu σ)))] sz) := by
  refine Met.ofW (cc := cX5_rule) (maxL := 4) (ret := (some .int)) (by decide) rfl ?_
  intro p e s m args below meth c s₁ B hml hv
  obtain ⟨rfl, hsz, ⟨hP, hK, hN⟩, hD0⟩ := hv
  have hx := B.exec
  have hb := B.bytes
  have hr := B.returns
  have hts := atoms_spec (ws := wsX5_rule) B.pre
  have hown : s.vm.findClass RX5 = some m.cls := findClass_of_methodNamed B.named
  have hlocks := B.notSynchronized
  subst hsz
  have hD := hD0.self (sz := s.heap.size)
  generalize hAe : va_A [(zX, .inr (5, [.ref zB, .ref zL, .ref zF, .ref zM, .ref zC, .ref zG, .ref zJ, .int (nI (sG σ))])), (zM, .inr (4, [.int (nI (sM σ)), .ref zS, .ref zT, .ref zD])), (zS, .inl (cI, 90, .inl (rTs σ))), (zT, .inl (cI, 90, .inl (rTn σ))), (zD, .inl (cI, 30, .inl (rRd σ))), (zB, .inr (0, [.int (nI (sF σ)), .int (nI (2 ^ sF σ)), .ref zK, .ref zW, .int (nI (sN σ)), .int (sR σ), .int (orE (rEr σ) (sN σ)), .ref zU, .ref zV, .ref zR, .ref zE])), (zK, .inl (cZ, 128, .inl kI)), (zC, .inr (1, [.int (nI (sC σ)), .ref zQ, .ref zP, .ref zN])), (zQ, .inl (cI, 12, .inl (rCk σ))), (zP, .inl (cI, 12, .inl (rCr σ))), (zN, .inl (cI, 12, .inl (rCn σ))), (zL, .inr (3, [.ref zB, .ref zLo])), (zLo, .inl (cI, 128, .inl lo)), (zR, .inl (cI, 12, .inl (rRu σ)))] s.heap.size = A at hD ⊢
  have hA : ∀ q : Nat, s.heap.size ≤ q → A q := fun q h => by rw [← hAe]; exact Or.inr h
  have hS : va_S A s.heap s.heap [] := va_S.rf
  have ho := hok.1
  have hk2 := hok.k
  have hf31 := hts (.fieldLink RX5 31 "BallCourt" "played" "LBallCourt$Moments;") (List.mem_of_getElem? (i := 1) (by decide +kernel))
  have hiX5 : ∀ w ∈ wsX50, w ∈ wsX5_rule := fun w h => List.mem_cons_of_mem _ (List.mem_append_left _ (List.mem_append_left _ (List.mem_append_left _ (List.mem_append_left _ (List.mem_append_right _ h)))))
  have hf21 := hts (.fieldLink RX5 21 "BallCourt" "laws" "LBallCourt$Laws;") (List.mem_of_getElem? (i := 2) (by decide +kernel))
  have hiX4 : ∀ w ∈ wsX40, w ∈ wsX5_rule := fun w h => List.mem_cons_of_mem _ (List.mem_append_left _ (List.mem_append_left _ (List.mem_append_left _ (List.mem_append_right _ h))))
  have hl := lv_entry ([.ref zX, .int x, .int y]) (n := 4) (Nat.le_of_ble_eq_true rfl)
  rw [lg_entry_eq]
  generalize (lg_sl ([.ref zX, .int x, .int y]) ++ List.replicate (4 - (lg_sl ([.ref zX, .int x, .int y])).length) Slot.unset).toArray = ls at hl ⊢
  have hl : lv_has ls 4 [(0, .ref zX), (1, .int x), (2, .int y)] := hl
  refine lv_aload_n hx hb dX5_rule_0 rfl (lv_at hl 0 rfl) ?_
  refine va_get (D := D) (ci := 5) (v := .ref zM) (C := RX5) (T := TX5) (N := 8) hx hb hts hiX5 hown hK hP 0 rfl rfl 3 (by decide) hf31 (fun _ h9 => h9) rfl dX5_rule_1 ?_
  refine lv_iload_n hx hb dX5_rule_4 rfl (lv_at hl 1 rfl) ?_
  refine xpV (rest := []) ⟨hx, hb, hml, hown, hts⟩ (c_X4_has l D cI cZ zM zS zT zD σ x) (cwV 1 hts gX5_rule_X4_has rfl rfl rfl (by decide +kernel) ⟨Nat.le_of_ble_eq_true rfl, Nat.le_of_ble_eq_true rfl⟩) hP [1] rfl hK hN (ci := 4) (q0 := 1) rfl rfl rfl hl.1 rfl (Nat.le_of_ble_eq_true rfl) dX5_rule_5 ⟨Nat.zero_le _, Nat.zero_le _⟩ (fun r5 e5 => ?_)
  subst e5
  refine lv_if_ne (tgt := 13) hx hb dX5_rule_8 (by decide) (fun c8 => ?_) (fun c8 => ?_)
  · skip
    have c8 := b2_1 c8
    obtain ⟨q, hq, rfl⟩ := inN_t c8 (by omega)
    have kq := clp hq (show sM σ ≤ 128 by omega)
    refine lv_iload_n hx hb dX5_rule_13 rfl (lv_at hl 2 rfl) ?_
    refine lv_iconst (v := (-1)) hx hb dX5_rule_14 (by decide) ?_
    refine lv_icmp_eq (tgt := 28) hx hb dX5_rule_15 (by decide) (fun c15 => ?_) (fun c15 => ?_)
    · skip
      have cR : rul1 y = true := by rw [rul1, decide_eq_true c15]; rfl
      refine lv_aload_n hx hb dX5_rule_28 rfl (lv_at hl 0 rfl) ?_
      refine lv_aload_n hx hb dX5_rule_29 rfl (lv_at hl 0 rfl) ?_
      refine va_get (D := D) (ci := 5) (v := .ref zL) (C := RX5) (T := TX5) (N := 8) hx hb hts hiX5 hown hK hP 0 rfl rfl 1 (by decide) hf21 (fun _ h9 => h9) rfl dX5_rule_30 ?_
      refine lv_iload_n hx hb dX5_rule_33 rfl (lv_at hl 1 rfl) ?_
      refine xpV (rest := []) ⟨hx, hb, hml, hown, hts⟩ (c_X5_verdictUnder l D cI cZ zX zB zL zF zM zC zG zJ zK zW zU zV zR zE zS zT zD zQ zP zN σ kI (sR σ) zL zLo lo q hok hq hkI hlo) (cwV 2 hts gX5_rule_X5_verdictUnder rfl rfl rfl (by decide +kernel) ⟨Nat.le_of_ble_eq_true rfl, Nat.le_of_ble_eq_true rfl⟩) hP [0, 1, 2, 3, 4, 5, 6, 7, 8, 9, 10, 11, 12, 13] rfl hK hN (ci := 5) (q0 := 0) rfl rfl rfl hl.1 rfl (Nat.le_of_ble_eq_true rfl) dX5_rule_34 ⟨Nat.zero_le _, Nat.zero_le _⟩ (fun r34 e34 => ?_)
      subst e34
      refine lv_istore_n (lv' := [(3, .int (verI σ (sR σ) q)), (0, .ref zX), (1, .int (nI q)), (2, .int y)]) hx hb dX5_rule_37 rfl hl (by decide) rfl (fun ls hl => ?_)
      refine lv_aload_n hx hb dX5_rule_38 rfl (lv_at hl 1 rfl) ?_
      refine va_get (D := D) (ci := 5) (v := .ref zM) (C := RX5) (T := TX5) (N := 8) hx hb hts hiX5 hown hK hP 0 rfl rfl 3 (by decide) hf31 (fun _ h9 => h9) rfl dX5_rule_39 ?_
      refine va_getN (D := D) (ci := 4) (v := .ref zD) (C := RX4) (T := TX4) (N := 4) hx hb hts hiX4 hown hK hP 1 rfl rfl 3 (by decide) (NW.f hN 11 rfl _) (fun _ h9 => h9) rfl dX5_rule_42 ?_
      refine lv_iload_n hx hb dX5_rule_45 rfl (lv_at hl 2 rfl) ?_
      refine lv_iload_n hx hb dX5_rule_46 rfl (lv_at hl 3 rfl) ?_
      refine xast (k := q) hx hb hK hP hD hS 4 rfl (by omega) (by decide) dX5_rule_47 (fun H locs hP hD hS => ?_)
      have hP : va_P D vwCl [(zX, .inr (5, [.ref zB, .ref zL, .ref zF, .ref zM, .ref zC, .ref zG, .ref zJ, .int (nI (sG σ))])), (zM, .inr (4, [.int (nI (sM σ)), .ref zS, .ref zT, .ref zD])), (zS, .inl (cI, 90, .inl (rTs σ))), (zT, .inl (cI, 90, .inl (rTn σ))), (zD, .inl (cI, 30, .inl (upd (rRd σ) q y))), (zB, .inr (0, [.int (nI (sF σ)), .int (nI (2 ^ sF σ)), .ref zK, .ref zW, .int (nI (sN σ)), .int (sR σ), .int (orE (rEr σ) (sN σ)), .ref zU, .ref zV, .ref zR, .ref zE])), (zK, .inl (cZ, 128, .inl kI)), (zC, .inr (1, [.int (nI (sC σ)), .ref zQ, .ref zP, .ref zN])), (zQ, .inl (cI, 12, .inl (rCk σ))), (zP, .inl (cI, 12, .inl (rCr σ))), (zN, .inl (cI, 12, .inl (rCn σ))), (zL, .inr (3, [.ref zB, .ref zLo])), (zLo, .inl (cI, 128, .inl lo)), (zR, .inl (cI, 12, .inl (rRu σ)))] H := hP
      have hD : va_D A [(zX, .inr (5, [.ref zB, .ref zL, .ref zF, .ref zM, .ref zC, .ref zG, .ref zJ, .int (nI (sG σ))])), (zM, .inr (4, [.int (nI (sM σ)), .ref zS, .ref zT, .ref zD])), (zS, .inl (cI, 90, .inl (rTs σ))), (zT, .inl (cI, 90, .inl (rTn σ))), (zD, .inl (cI, 30, .inl (upd (rRd σ) q y))), (zB, .inr (0, [.int (nI (sF σ)), .int (nI (2 ^ sF σ)), .ref zK, .ref zW, .int (nI (sN σ)), .int (sR σ), .int (orE (rEr σ) (sN σ)), .ref zU, .ref zV, .ref zR, .ref zE])), (zK, .inl (cZ, 128, .inl kI)), (zC, .inr (1, [.int (nI (sC σ)), .ref zQ, .ref zP, .ref zN])), (zQ, .inl (cI, 12, .inl (rCk σ))), (zP, .inl (cI, 12, .inl (rCr σ))), (zN, .inl (cI, 12, .inl (rCn σ))), (zL, .inr (3, [.ref zB, .ref zLo])), (zLo, .inl (cI, 128, .inl lo)), (zR, .inl (cI, 12, .inl (rRu σ)))] := hD
      refine lv_iload_n hx hb dX5_rule_48 rfl (lv_at hl 0 rfl) ?_
      have hP9 := hP
      have hD9 := hD
      have eN : nRule σ (nI q) y = rdS σ q y := by rw [nRule, if_neg (by rw [c8]; decide), if_neg (by rw [cR]; decide), kq]
      exact W.iret (v := verI σ (sR σ) q) hx hb hr (fun t ht hW => ⟨⟨verI σ (sR σ) q, (), rfl, (by rw [oRule, if_neg (by rw [c8]; decide), if_neg (by rw [cR]; decide), kq]), ⟨⟨by rw [ht, eN]; exact hP9, va_K.moved hW.alike hK, NW.warm hW hN⟩, by rw [eN]; exact hD9⟩⟩, hS.F ht⟩) hS.2.2 dX5_rule_49
    · skip
      refine lv_iload_n hx hb dX5_rule_18 rfl (lv_at hl 2 rfl) ?_
      refine xpS (rest := []) ⟨hx, hb, hml, hown, hts⟩ (c_X5_isRuling l D cI cZ y) (va_cwS 1 hts gX5_rule_X5_isRuling rfl rfl rfl (by decide +kernel) ⟨Nat.le_of_ble_eq_true rfl, Nat.le_of_ble_eq_true rfl⟩) hP [] rfl hK hN rfl hl.1 rfl (Nat.le_of_ble_eq_true rfl) dX5_rule_19 ⟨Nat.zero_le _, Nat.zero_le _⟩ (fun r19 e19 => ?_)
      subst e19
      refine lv_if_ne (tgt := 28) hx hb dX5_rule_22 (by decide) (fun c22 => ?_) (fun c22 => ?_)
      · skip
        have c22 := b2_1 c22
        have cR : rul1 y = true := by rw [rul1, c22]; exact Bool.or_true _
        refine lv_aload_n hx hb dX5_rule_28 rfl (lv_at hl 0 rfl) ?_
        refine lv_aload_n hx hb dX5_rule_29 rfl (lv_at hl 0 rfl) ?_
        refine va_get (D := D) (ci := 5) (v := .ref zL) (C := RX5) (T := TX5) (N := 8) hx hb hts hiX5 hown hK hP 0 rfl rfl 1 (by decide) hf21 (fun _ h9 => h9) rfl dX5_rule_30 ?_
        refine lv_iload_n hx hb dX5_rule_33 rfl (lv_at hl 1 rfl) ?_
        refine xpV (rest := []) ⟨hx, hb, hml, hown, hts⟩ (c_X5_verdictUnder l D cI cZ zX zB zL zF zM zC zG zJ zK zW zU zV zR zE zS zT zD zQ zP zN σ kI (sR σ) zL zLo lo q hok hq hkI hlo) (cwV 2 hts gX5_rule_X5_verdictUnder rfl rfl rfl (by decide +kernel) ⟨Nat.le_of_ble_eq_true rfl, Nat.le_of_ble_eq_true rfl⟩) hP [0, 1, 2, 3, 4, 5, 6, 7, 8, 9, 10, 11, 12, 13] rfl hK hN (ci := 5) (q0 := 0) rfl rfl rfl hl.1 rfl (Nat.le_of_ble_eq_true rfl) dX5_rule_34 ⟨Nat.zero_le _, Nat.zero_le _⟩ (fun r34 e34 => ?_)
        subst e34
        refine lv_istore_n (lv' := [(3, .int (verI σ (sR σ) q)), (0, .ref zX), (1, .int (nI q)), (2, .int y)]) hx hb dX5_rule_37 rfl hl (by decide) rfl (fun ls hl => ?_)
        refine lv_aload_n hx hb dX5_rule_38 rfl (lv_at hl 1 rfl) ?_
        refine va_get (D := D) (ci := 5) (v := .ref zM) (C := RX5) (T := TX5) (N := 8) hx hb hts hiX5 hown hK hP 0 rfl rfl 3 (by decide) hf31 (fun _ h9 => h9) rfl dX5_rule_39 ?_
        refine va_getN (D := D) (ci := 4) (v := .ref zD) (C := RX4) (T := TX4) (N := 4) hx hb hts hiX4 hown hK hP 1 rfl rfl 3 (by decide) (NW.f hN 11 rfl _) (fun _ h9 => h9) rfl dX5_rule_42 ?_
        refine lv_iload_n hx hb dX5_rule_45 rfl (lv_at hl 2 rfl) ?_
        refine lv_iload_n hx hb dX5_rule_46 rfl (lv_at hl 3 rfl) ?_
        refine xast (k := q) hx hb hK hP hD hS 4 rfl (by omega) (by decide) dX5_rule_47 (fun H locs hP hD hS => ?_)
        have hP : va_P D vwCl [(zX, .inr (5, [.ref zB, .ref zL, .ref zF, .ref zM, .ref zC, .ref zG, .ref zJ, .int (nI (sG σ))])), (zM, .inr (4, [.int (nI (sM σ)), .ref zS, .ref zT, .ref zD])), (zS, .inl (cI, 90, .inl (rTs σ))), (zT, .inl (cI, 90, .inl (rTn σ))), (zD, .inl (cI, 30, .inl (upd (rRd σ) q y))), (zB, .inr (0, [.int (nI (sF σ)), .int (nI (2 ^ sF σ)), .ref zK, .ref zW, .int (nI (sN σ)), .int (sR σ), .int (orE (rEr σ) (sN σ)), .ref zU, .ref zV, .ref zR, .ref zE])), (zK, .inl (cZ, 128, .inl kI)), (zC, .inr (1, [.int (nI (sC σ)), .ref zQ, .ref zP, .ref zN])), (zQ, .inl (cI, 12, .inl (rCk σ))), (zP, .inl (cI, 12, .inl (rCr σ))), (zN, .inl (cI, 12, .inl (rCn σ))), (zL, .inr (3, [.ref zB, .ref zLo])), (zLo, .inl (cI, 128, .inl lo)), (zR, .inl (cI, 12, .inl (rRu σ)))] H := hP
        have hD : va_D A [(zX, .inr (5, [.ref zB, .ref zL, .ref zF, .ref zM, .ref zC, .ref zG, .ref zJ, .int (nI (sG σ))])), (zM, .inr (4, [.int (nI (sM σ)), .ref zS, .ref zT, .ref zD])), (zS, .inl (cI, 90, .inl (rTs σ))), (zT, .inl (cI, 90, .inl (rTn σ))), (zD, .inl (cI, 30, .inl (upd (rRd σ) q y))), (zB, .inr (0, [.int (nI (sF σ)), .int (nI (2 ^ sF σ)), .ref zK, .ref zW, .int (nI (sN σ)), .int (sR σ), .int (orE (rEr σ) (sN σ)), .ref zU, .ref zV, .ref zR, .ref zE])), (zK, .inl (cZ, 128, .inl kI)), (zC, .inr (1, [.int (nI (sC σ)), .ref zQ, .ref zP, .ref zN])), (zQ, .inl (cI, 12, .inl (rCk σ))), (zP, .inl (cI, 12, .inl (rCr σ))), (zN, .inl (cI, 12, .inl (rCn σ))), (zL, .inr (3, [.ref zB, .ref zLo])), (zLo, .inl (cI, 128, .inl lo)), (zR, .inl (cI, 12, .inl (rRu σ)))] := hD
        refine lv_iload_n hx hb dX5_rule_48 rfl (lv_at hl 0 rfl) ?_
        have hP9 := hP
        have hD9 := hD
        have eN : nRule σ (nI q) y = rdS σ q y := by rw [nRule, if_neg (by rw [c8]; decide), if_neg (by rw [cR]; decide), kq]
        exact W.iret (v := verI σ (sR σ) q) hx hb hr (fun t ht hW => ⟨⟨verI σ (sR σ) q, (), rfl, (by rw [oRule, if_neg (by rw [c8]; decide), if_neg (by rw [cR]; decide), kq]), ⟨⟨by rw [ht, eN]; exact hP9, va_K.moved hW.alike hK, NW.warm hW hN⟩, by rw [eN]; exact hD9⟩⟩, hS.F ht⟩) hS.2.2 dX5_rule_49
      · skip
        have c22 := b2_0 c22
        refine lv_bipush (v := (-2)) hx hb dX5_rule_25 (by decide) ?_
        have hP9 := hP
        have hD9 := hD
        have cR : rul1 y = false := by rw [rul1, decide_eq_false c15, c22]; rfl
        have eN : nRule σ (nI q) y = σ := by rw [nRule, if_neg (by rw [c8]; decide), if_pos cR]
        have eO : oRule σ (nI q) y = -2 := by rw [oRule, if_neg (by rw [c8]; decide), if_pos cR]
        exact W.iret (v := (-2)) hx hb hr (fun t ht hW => ⟨⟨(-2), (), rfl, eO.symm, ⟨⟨by rw [ht, eN]; exact hP9, va_K.moved hW.alike hK, NW.warm hW hN⟩, by rw [eN]; exact hD9⟩⟩, hS.F ht⟩) hS.2.2 dX5_rule_27
  · skip
    have c8 := b2_0 c8
    refine lv_iconst (v := (-1)) hx hb dX5_rule_11 (by decide) ?_
    have hP9 := hP
    have hD9 := hD
    have eN : nRule σ x y = σ := by rw [nRule, if_pos c8]
    have eO : oRule σ x y = -1 := by rw [oRule, if_pos c8]
    exact W.iret (v := (-1)) hx hb hr (fun t ht hW => ⟨⟨(-1), (), rfl, eO.symm, ⟨⟨by rw [ht, eN]; exact hP9, va_K.moved hW.alike hK, NW.warm hW hN⟩, by rw [eN]; exact hD9⟩⟩, hS.F ht⟩) hS.2.2 dX5_rule_12

set_option maxHeartbeats 4000000 in
set_option maxRecDepth 100000 in
theorem c_X5_make (l : Launch) (D : va_G) (cI cZ : ClassId) (sz : Nat) (zX : Nat) (zB : Nat) (zL : Nat) (zF : Nat) (zM : Nat) (zC : Nat) (zG : Nat) (zJ : Nat) (zK : Nat) (zW : Nat) (zU : Nat) (zV : Nat) (zR : Nat) (zE : Nat) (zLo : Nat) (zS : Nat) (zT : Nat) (zD : Nat) (zQ : Nat) (zP : Nat) (zN : Nat) (σ : ST) (kI : Nat → Int32) (lo : Nat → Int32) (x : Int32) (hok : Ok σ) (hkI : ∀ k, k < 2 ^ sF σ → kI k = b2 (kok σ k)) (hlo : ∀ k, k < 2 ^ sF σ → lo k = lawI σ (sR σ) k) : Met l yX5_make wsX5_make ({ frames := 4, cells := 0, slots := 0, locals := 92 }) (va_Pc [.ref zX, .int x] (XW D cI cZ [(zX, .inr (5, [.ref zB, .ref zL, .ref zF, .ref zM, .ref zC, .ref zG, .ref zJ, .int (nI (sG σ))])), (zM, .inr (4, [.int (nI (sM σ)), .ref zS, .ref zT, .ref zD])), (zS, .inl (cI, 90, .inl (rTs σ))), (zT, .inl (cI, 90, .inl (rTn σ))), (zD, .inl (cI, 30, .inl (rRd σ))), (zB, .inr (0, [.int (nI (sF σ)), .int (nI (2 ^ sF σ)), .ref zK, .ref zW, .int (nI (sN σ)), .int (sR σ), .int (orE (rEr σ) (sN σ)), .ref zU, .ref zV, .ref zR, .ref zE])), (zK, .inl (cZ, 128, .inl kI)), (zC, .inr (1, [.int (nI (sC σ)), .ref zQ, .ref zP, .ref zN])), (zQ, .inl (cI, 12, .inl (rCk σ))), (zP, .inl (cI, 12, .inl (rCr σ))), (zN, .inl (cI, 12, .inl (rCn σ))), (zL, .inr (3, [.ref zB, .ref zLo])), (zLo, .inl (cI, 128, .inl lo)), (zR, .inl (cI, 12, .inl (rRu σ))), (zU, .inl (cI, 12, .inl (rMu σ))), (zV, .inl (cI, 12, .inl (rMn σ))), (zE, .inl (cI, 12, .inl (rEr σ)))] sz)) (va_Qi (fun (r : Int32) (u : Unit) => r = oMake σ x) (fun u => XB D cI cZ (va_A [(zX, .inr (5, [.ref zB, .ref zL, .ref zF, .ref zM, .ref zC, .ref zG, .ref zJ, .int (nI (sG σ))])), (zM, .inr (4, [.int (nI (sM σ)), .ref zS, .ref zT, .ref zD])), (zS, .inl (cI, 90, .inl (rTs σ))), (zT, .inl (cI, 90, .inl (rTn σ))), (zD, .inl (cI, 30, .inl (rRd σ))), (zB, .inr (0, [.int (nI (sF σ)), .int (nI (2 ^ sF σ)), .ref zK, .ref zW, .int (nI (sN σ)), .int (sR σ), .int (orE (rEr σ) (sN σ)), .ref zU, .ref zV, .ref zR, .ref zE])), (zK, .inl (cZ, 128, .inl kI)), (zC, .inr (1, [.int (nI (sC σ)), .ref zQ, .ref zP, .ref zN])), (zQ, .inl (cI, 12, .inl (rCk σ))), (zP, .inl (cI, 12, .inl (rCr σ))), (zN, .inl (cI, 12, .inl (rCn σ))), (zL, .inr (3, [.ref zB, .ref zLo])), (zLo, .inl (cI, 128, .inl lo)), (zR, .inl (cI, 12, .inl (rRu σ))), (zU, .inl (cI, 12, .inl (rMu σ))), (zV, .inl (cI, 12, .inl (rMn σ))), (zE, .inl (cI, 12, .inl (rEr σ)))] sz) [(zX, .inr (5, [.ref zB, .ref zL, .ref zF, .ref zM, .ref zC, .ref zG, .ref zJ, .int (nI (sG (nMake σ x)))])), (zM, .inr (4, [.int (nI (sM (nMake σ x))), .ref zS, .ref zT, .ref zD])), (zS, .inl (cI, 90, .inl (rTs (nMake σ x)))), (zT, .inl (cI, 90, .inl (rTn (nMake σ x)))), (zD, .inl (cI, 30, .inl (rRd (nMake σ x)))), (zB, .inr (0, [.int (nI (sF (nMake σ x))), .int (nI (2 ^ sF (nMake σ x))), .ref zK, .ref zW, .int (nI (sN (nMake σ x))), .int (sR (nMake σ x)), .int (orE (rEr (nMake σ x)) (sN (nMake σ x))), .ref zU, .ref zV, .ref zR, .ref zE])), (zK, .inl (cZ, 128, .inl kI)), (zC, .inr (1, [.int (nI (sC (nMake σ x))), .ref zQ, .ref zP, .ref zN])), (zQ, .inl (cI, 12, .inl (rCk (nMake σ x)))), (zP, .inl (cI, 12, .inl (rCr (nMake σ x)))), (zN, .inl (cI, 12, .inl (rCn (nMake σ x)))), (zL, .inr (3, [.ref zB, .ref zLo])), (zLo, .inl (cI, 128, .inl lo)), (zR, .inl (cI, 12, .inl (rRu (nMake σ x)))), (zU, .inl (cI, 12, .inl (rMu (nMake σ x)))), (zV, .inl (cI, 12, .inl (rMn (nMake σ x)))), (zE, .inl (cI, 12, .inl (rEr (nMake σ x))))]) (va_A [(zX, .inr (5, [.ref zB, .ref zL, .ref zF, .ref zM, .ref zC, .ref zG, .ref zJ, .int (nI (sG σ))])), (zM, .inr (4, [.int (nI (sM σ)), .ref zS, .ref zT, .ref zD])), (zS, .inl (cI, 90, .inl (rTs σ))), (zT, .inl (cI, 90, .inl (rTn σ))), (zD, .inl (cI, 30, .inl (rRd σ))), (zB, .inr (0, [.int (nI (sF σ)), .int (nI (2 ^ sF σ)), .ref zK, .ref zW, .int (nI (sN σ)), .int (sR σ), .int (orE (rEr σ) (sN σ)), .ref zU, .ref zV, .ref zR, .ref zE])), (zK, .inl (cZ, 128, .inl kI)), (zC, .inr (1, [.int (nI (sC σ)), .ref zQ, .ref zP, .ref zN])), (zQ, .inl (cI, 12, .inl (rCk σ))), (zP, .inl (cI, 12, .inl (rCr σ))), (zN, .inl (cI, 12, .inl (rCn σ))), (zL, .inr (3, [.ref zB, .ref zLo])), (zLo, .inl (cI, 128, .inl lo)), (zR, .inl (cI, 12, .inl (rRu σ))), (zU, .inl (cI, 12, .inl (rMu σ))), (zV, .inl (cI, 12, .inl (rMn σ))), (zE, .inl (cI, 12, .inl (rEr σ)))] sz)) 0 0 (va_A [(zX, .inr (5, [.ref zB, .ref zL, .ref zF, .ref zM, .ref zC, .ref zG, .ref zJ, .int (nI (sG σ))])), (zM, .inr (4, [.int (nI (sM σ)), .ref zS, .ref zT, .ref zD])), (zS, .inl (cI, 90, .inl (rTs σ))), (zT, .inl (cI, 90, .inl (rTn σ))), (zD, .inl (cI, 30, .inl (rRd σ))), (zB, .inr (0, [.int (nI (sF σ)), .int (nI (2 ^ sF σ)), .ref zK, .ref zW, .int (nI (sN σ)), .int (sR σ), .int (orE (rEr σ) (sN σ)), .ref zU, .ref zV, .ref zR, .ref zE])), (zK, .inl (cZ, 128, .inl kI)), (zC, .inr (1, [.int (nI (sC σ)), .ref zQ, .ref zP, .ref zN])), (zQ, .inl (cI, 12, .inl (rCk σ))), (zP, .inl (cI, 12, .inl (rCr σ))), (zN, .inl (cI, 12, .inl (rCn σ))), (zL, .inr (3, [.ref zB, .ref zLo])), (zLo, .inl (cI, 128, .inl lo)), (zR, .inl (cI, 12, .inl (rRu σ))), (zU, .inl (cI, 12, .inl (rMu σ))), (zV, .inl (cI, 12, .inl (rMn σ))), (zE, .inl (cI, 12, .inl (rEr σ)))] sz) := by
  refine Met.ofW (cc := cX5_make) (maxL := 5) (ret := (some .int)) (by decide) rfl ?_
  intro p e s m args below meth c s₁ B hml hv
  obtain ⟨rfl, hsz, ⟨hP, hK, hN⟩, hD0⟩ := hv
  have hx := B.exec
  have hb := B.bytes
  have hr := B.returns
  have hts := atoms_spec (ws := wsX5_make) B.pre
  have hown : s.vm.findClass RX5 = some m.cls := findClass_of_methodNamed B.named
  have hlocks := B.notSynchronized
  subst hsz
  have hD := hD0.self (sz := s.heap.size)
  generalize hAe : va_A [(zX, .inr (5, [.ref zB, .ref zL, .ref zF, .ref zM, .ref zC, .ref zG, .ref zJ, .int (nI (sG σ))])), (zM, .inr (4, [.int (nI (sM σ)), .ref zS, .ref zT, .ref zD])), (zS, .inl (cI, 90, .inl (rTs σ))), (zT, .inl (cI, 90, .inl (rTn σ))), (zD, .inl (cI, 30, .inl (rRd σ))), (zB, .inr (0, [.int (nI (sF σ)), .int (nI (2 ^ sF σ)), .ref zK, .ref zW, .int (nI (sN σ)), .int (sR σ), .int (orE (rEr σ) (sN σ)), .ref zU, .ref zV, .ref zR, .ref zE])), (zK, .inl (cZ, 128, .inl kI)), (zC, .inr (1, [.int (nI (sC σ)), .ref zQ, .ref zP, .ref zN])), (zQ, .inl (cI, 12, .inl (rCk σ))), (zP, .inl (cI, 12, .inl (rCr σ))), (zN, .inl (cI, 12, .inl (rCn σ))), (zL, .inr (3, [.ref zB, .ref zLo])), (zLo, .inl (cI, 128, .inl lo)), (zR, .inl (cI, 12, .inl (rRu σ))), (zU, .inl (cI, 12, .inl (rMu σ))), (zV, .inl (cI, 12, .inl (rMn σ))), (zE, .inl (cI, 12, .inl (rEr σ)))] s.heap.size = A at hD ⊢
  have hA : ∀ q : Nat, s.heap.size ≤ q → A q := fun q h => by rw [← hAe]; exact Or.inr h
  have hS : va_S A s.heap s.heap [] := va_S.rf
  have ho := hok.1
  have hk2 := hok.k
  have hf31 := hts (.fieldLink RX5 31 "BallCourt" "played" "LBallCourt$Moments;") (List.mem_of_getElem? (i := 1) (by decide +kernel))
  have hiX5 : ∀ w ∈ wsX50, w ∈ wsX5_make := fun w h => List.mem_cons_of_mem _ (List.mem_append_left _ (List.mem_append_left _ (List.mem_append_left _ (List.mem_append_left _ (List.mem_append_right _ h)))))
  have hf10 := hts (.fieldLink RX5 10 "BallCourt" "book" "LBallCourt$Book;") (List.mem_of_getElem? (i := 2) (by decide +kernel))
  have hf38 := hts (.fieldLink RX5 38 "BallCourt" "cases" "LBallCourt$Cases;") (List.mem_of_getElem? (i := 3) (by decide +kernel))
  have hiX1 : ∀ w ∈ wsX10, w ∈ wsX5_make := fun w h => List.mem_cons_of_mem _ (List.mem_append_left _ (List.mem_append_left _ (List.mem_append_left _ (List.mem_append_right _ h))))
  have hf21 := hts (.fieldLink RX5 21 "BallCourt" "laws" "LBallCourt$Laws;") (List.mem_of_getElem? (i := 4) (by decide +kernel))
  have hiX3 : ∀ w ∈ wsX30, w ∈ wsX5_make := fun w h => List.mem_cons_of_mem _ (List.mem_append_left _ (List.mem_append_left _ (List.mem_append_right _ h)))
  have hl := lv_entry ([.ref zX, .int x]) (n := 5) (Nat.le_of_ble_eq_true rfl)
  rw [lg_entry_eq]
  generalize (lg_sl ([.ref zX, .int x]) ++ List.replicate (5 - (lg_sl ([.ref zX, .int x])).length) Slot.unset).toArray = ls at hl ⊢
  have hl : lv_has ls 5 [(0, .ref zX), (1, .int x)] := hl
  refine lv_aload_n hx hb dX5_make_0 rfl (lv_at hl 0 rfl) ?_
  refine va_get (D := D) (ci := 5) (v := .ref zM) (C := RX5) (T := TX5) (N := 8) hx hb hts hiX5 hown hK hP 0 rfl rfl 3 (by decide) hf31 (fun _ h9 => h9) rfl dX5_make_1 ?_
  refine lv_iload_n hx hb dX5_make_4 rfl (lv_at hl 1 rfl) ?_
  refine xpV (rest := []) ⟨hx, hb, hml, hown, hts⟩ (c_X4_has l D cI cZ zM zS zT zD σ x) (cwV 1 hts gX5_make_X4_has rfl rfl rfl (by decide +kernel) ⟨Nat.le_of_ble_eq_true rfl, Nat.le_of_ble_eq_true rfl⟩) hP [1] rfl hK hN (ci := 4) (q0 := 1) rfl rfl rfl hl.1 rfl (Nat.le_of_ble_eq_true rfl) dX5_make_5 ⟨Nat.zero_le _, Nat.zero_le _⟩ (fun r5 e5 => ?_)
  subst e5
  refine lv_if_ne (tgt := 13) hx hb dX5_make_8 (by decide) (fun c8 => ?_) (fun c8 => ?_)
  · skip
    have c8 := b2_1 c8
    obtain ⟨q, hq, rfl⟩ := inN_t c8 (by omega)
    have kq := clp hq (show sM σ ≤ 128 by omega)
    refine lv_aload_n hx hb dX5_make_13 rfl (lv_at hl 0 rfl) ?_
    refine va_get (D := D) (ci := 5) (v := .ref zM) (C := RX5) (T := TX5) (N := 8) hx hb hts hiX5 hown hK hP 0 rfl rfl 3 (by decide) hf31 (fun _ h9 => h9) rfl dX5_make_14 ?_
    refine lv_iload_n hx hb dX5_make_17 rfl (lv_at hl 1 rfl) ?_
    refine xpV (rest := []) ⟨hx, hb, hml, hown, hts⟩ (c_X4_knownSo l D cI cZ zM zS zT zD σ q (by omega)) (cwV 1 hts gX5_make_X4_knownSo rfl rfl rfl (by decide +kernel) ⟨Nat.le_of_ble_eq_true rfl, Nat.le_of_ble_eq_true rfl⟩) hP [1, 2, 3] rfl hK hN (ci := 4) (q0 := 1) rfl rfl rfl hl.1 rfl (Nat.le_of_ble_eq_true rfl) dX5_make_18 ⟨Nat.zero_le _, Nat.zero_le _⟩ (fun r18 e18 => ?_)
    subst e18
    refine lv_istore_n (lv' := [(2, .int (soI σ q)), (0, .ref zX), (1, .int (nI q))]) hx hb dX5_make_21 rfl hl (by decide) rfl (fun ls hl => ?_)
    refine lv_aload_n hx hb dX5_make_22 rfl (lv_at hl 1 rfl) ?_
    refine va_get (D := D) (ci := 5) (v := .ref zM) (C := RX5) (T := TX5) (N := 8) hx hb hts hiX5 hown hK hP 0 rfl rfl 3 (by decide) hf31 (fun _ h9 => h9) rfl dX5_make_23 ?_
    refine lv_iload_n hx hb dX5_make_26 rfl (lv_at hl 2 rfl) ?_
    refine xpV (rest := []) ⟨hx, hb, hml, hown, hts⟩ (c_X4_knownNotSo l D cI cZ zM zS zT zD σ q (by omega)) (cwV 1 hts gX5_make_X4_knownNotSo rfl rfl rfl (by decide +kernel) ⟨Nat.le_of_ble_eq_true rfl, Nat.le_of_ble_eq_true rfl⟩) hP [1, 2, 3] rfl hK hN (ci := 4) (q0 := 1) rfl rfl rfl hl.1 rfl (Nat.le_of_ble_eq_true rfl) dX5_make_27 ⟨Nat.zero_le _, Nat.zero_le _⟩ (fun r27 e27 => ?_)
    subst e27
    refine lv_istore_n (lv' := [(3, .int (nsI σ q)), (2, .int (soI σ q)), (0, .ref zX), (1, .int (nI q))]) hx hb dX5_make_30 rfl hl (by decide) rfl (fun ls hl => ?_)
    refine lv_iload_n hx hb dX5_make_31 rfl (lv_at hl 1 rfl) ?_
    refine lv_iload_n hx hb dX5_make_32 rfl (lv_at hl 0 rfl) ?_
    refine lv_ior hx hb dX5_make_33 ?_
    refine lv_aload_n hx hb dX5_make_34 rfl (lv_at hl 2 rfl) ?_
    refine va_get (D := D) (ci := 5) (v := .ref zB) (C := RX5) (T := TX5) (N := 8) hx hb hts hiX5 hown hK hP 0 rfl rfl 0 (by decide) hf10 (fun _ h9 => h9) rfl dX5_make_35 ?_
    refine xpV (rest := [.int ((soI σ q) ||| (nsI σ q))]) ⟨hx, hb, hml, hown, hts⟩ (c_X0_allFacts l D cI cZ zB zK zW zU zV zR zE σ hok) (cwV 0 hts gX5_make_X0_allFacts rfl rfl rfl (by decide +kernel) ⟨Nat.le_of_ble_eq_true rfl, Nat.le_of_ble_eq_true rfl⟩) hP [5] rfl hK hN (ci := 0) (q0 := 5) rfl rfl rfl hl.1 rfl (Nat.le_of_ble_eq_true rfl) dX5_make_38 ⟨Nat.zero_le _, Nat.zero_le _⟩ (fun r38 e38 => ?_)
    subst e38
    refine lv_icmp_ne (tgt := 55) hx hb dX5_make_41 (by decide) (fun c41 => ?_) (fun c41 => ?_)
    · skip
      refine lv_bipush (v := (-3)) hx hb dX5_make_55 (by decide) ?_
      have hP9 := hP
      have hD9 := hD
      have cB : mkB σ q = false := by rw [mkB, decide_eq_false c41]; rfl
      have eN : nMake σ (nI q) = σ := by rw [nMake, if_neg (by rw [c8]; decide), kq, if_pos cB]
      have eO : oMake σ (nI q) = -3 := by rw [oMake, if_neg (by rw [c8]; decide), kq, if_pos cB]
      exact W.iret (v := (-3)) hx hb hr (fun t ht hW => ⟨⟨(-3), (), rfl, eO.symm, ⟨⟨by rw [ht, eN]; exact hP9, va_K.moved hW.alike hK, NW.warm hW hN⟩, by rw [eN]; exact hD9⟩⟩, hS.F ht⟩) hS.2.2 dX5_make_57
    · skip
      refine lv_aload_n hx hb dX5_make_44 rfl (lv_at hl 2 rfl) ?_
      refine va_get (D := D) (ci := 5) (v := .ref zB) (C := RX5) (T := TX5) (N := 8) hx hb hts hiX5 hown hK hP 0 rfl rfl 0 (by decide) hf10 (fun _ h9 => h9) rfl dX5_make_45 ?_
      refine lv_iload_n hx hb dX5_make_48 rfl (lv_at hl 1 rfl) ?_
      refine xpV (rest := []) ⟨hx, hb, hml, hown, hts⟩ (c_X0_hasKind l D cI cZ zB zK zW zU zV zR zE σ kI (soI σ q) hok hkI) (cwV 1 hts gX5_make_X0_hasKind rfl rfl rfl (by decide +kernel) ⟨Nat.le_of_ble_eq_true rfl, Nat.le_of_ble_eq_true rfl⟩) hP [5, 6] rfl hK hN (ci := 0) (q0 := 5) rfl rfl rfl hl.1 rfl (Nat.le_of_ble_eq_true rfl) dX5_make_49 ⟨Nat.zero_le _, Nat.zero_le _⟩ (fun r49 e49 => ?_)
      subst e49
      refine lv_if_ne (tgt := 58) hx hb dX5_make_52 (by decide) (fun c52 => ?_) (fun c52 => ?_)
      · skip
        have c52 := b2_1 c52
        have cB : mkB σ q = true := by rw [mkB, decide_eq_true c41, c52]; rfl
        obtain ⟨k, hk, ek⟩ := kin_t c52 (by omega)
        have kk : (soI σ q).toNatClampNeg = k := by rw [ek]; exact clp hk hk2
        have hl : lv_has ls 5 [(3, .int (nsI σ q)), (2, .int (nI k)), (0, .ref zX), (1, .int (nI q))] := by rw [← (show soI σ q = nI k from ek)]; exact hl
        refine lv_aload_n hx hb dX5_make_58 rfl (lv_at hl 2 rfl) ?_
        refine va_get (D := D) (ci := 5) (v := .ref zC) (C := RX5) (T := TX5) (N := 8) hx hb hts hiX5 hown hK hP 0 rfl rfl 4 (by decide) hf38 (fun _ h9 => h9) rfl dX5_make_59 ?_
        refine va_getN (D := D) (ci := 1) (v := .int (nI (sC σ))) (C := RX1) (T := TX1) (N := 4) hx hb hts hiX1 hown hK hP 7 rfl rfl 0 (by decide) (NW.f hN 1 rfl _) (fun _ h9 => h9) rfl dX5_make_62 ?_
        refine lv_bipush (v := nI 12) hx hb dX5_make_65 (by decide) ?_
        refine lv_icmp_lt (tgt := 73) hx hb dX5_make_67 (by decide) (fun c67 => ?_) (fun c67 => ?_)
        · skip
          have c67 := (nI_ltI (by omega) (by omega)).mp c67
          refine lv_aload_n hx hb dX5_make_73 rfl (lv_at hl 2 rfl) ?_
          refine va_get (D := D) (ci := 5) (v := .ref zL) (C := RX5) (T := TX5) (N := 8) hx hb hts hiX5 hown hK hP 0 rfl rfl 1 (by decide) hf21 (fun _ h9 => h9) rfl dX5_make_74 ?_
          refine lv_iload_n hx hb dX5_make_77 rfl (lv_at hl 1 rfl) ?_
          refine xpV (rest := []) ⟨hx, hb, hml, hown, hts⟩ (c_X3_covers l D cI cZ zB zL zLo σ lo (sR σ) k hok hk hlo) (cwV 1 hts gX5_make_X3_covers rfl rfl rfl (by decide +kernel) ⟨Nat.le_of_ble_eq_true rfl, Nat.le_of_ble_eq_true rfl⟩) hP [11, 12] rfl hK hN (ci := 3) (q0 := 11) rfl rfl rfl hl.1 rfl (Nat.le_of_ble_eq_true rfl) dX5_make_78 ⟨Nat.zero_le _, Nat.zero_le _⟩ (fun r78 e78 => ?_)
          subst e78
          refine wjoin (pcJ := 110) (lv := [(3, .int (nsI σ q)), (2, .int (nI k)), (0, .ref zX), (1, .int (nI q))]) (nL := 5) (st := [.int (namI σ k)]) (fun ls hl => ?_) (fun J110 => ?_)
          · skip
            refine lv_istore (lv' := [(4, .int (namI σ k)), (3, .int (nsI σ q)), (2, .int (nI k)), (0, .ref zX), (1, .int (nI q))]) hx hb dX5_make_110 hl (by decide) rfl (fun ls hl => ?_)
            refine lv_aload_n hx hb dX5_make_112 rfl (lv_at hl 3 rfl) ?_
            refine va_get (D := D) (ci := 5) (v := .ref zC) (C := RX5) (T := TX5) (N := 8) hx hb hts hiX5 hown hK hP 0 rfl rfl 4 (by decide) hf38 (fun _ h9 => h9) rfl dX5_make_113 ?_
            refine lv_iload_n hx hb dX5_make_116 rfl (lv_at hl 2 rfl) ?_
            refine lv_aload_n hx hb dX5_make_117 rfl (lv_at hl 3 rfl) ?_
            refine lv_aload_n hx hb dX5_make_118 rfl (lv_at hl 3 rfl) ?_
            refine va_get (D := D) (ci := 5) (v := .ref zL) (C := RX5) (T := TX5) (N := 8) hx hb hts hiX5 hown hK hP 0 rfl rfl 1 (by decide) hf21 (fun _ h9 => h9) rfl dX5_make_119 ?_
            refine lv_iload_n hx hb dX5_make_122 rfl (lv_at hl 4 rfl) ?_
            refine xpV (rest := [.int (nI k), .ref zC]) ⟨hx, hb, hml, hown, hts⟩ (c_X5_verdictUnder l D cI cZ zX zB zL zF zM zC zG zJ zK zW zU zV zR zE zS zT zD zQ zP zN σ kI (sR σ) zL zLo lo q hok hq hkI hlo) (cwV 2 hts gX5_make_X5_verdictUnder rfl rfl rfl (by decide +kernel) ⟨Nat.le_of_ble_eq_true rfl, Nat.le_of_ble_eq_true rfl⟩) hP [0, 1, 2, 3, 4, 5, 6, 7, 8, 9, 10, 11, 12, 13] rfl hK hN (ci := 5) (q0 := 0) rfl rfl rfl hl.1 rfl (Nat.le_of_ble_eq_true rfl) dX5_make_123 ⟨Nat.zero_le _, Nat.zero_le _⟩ (fun r123 e123 => ?_)
            subst e123
            refine lv_iload hx hb dX5_make_126 (lv_at hl 0 rfl) ?_
            refine xwV (rest := []) (wr := [(zX, .inr (5, [.ref zB, .ref zL, .ref zF, .ref zM, .ref zC, .ref zG, .ref zJ, .int (nI (sG σ))])), (zM, .inr (4, [.int (nI (sM σ)), .ref zS, .ref zT, .ref zD])), (zS, .inl (cI, 90, .inl (rTs σ))), (zT, .inl (cI, 90, .inl (rTn σ))), (zD, .inl (cI, 30, .inl (rRd σ))), (zB, .inr (0, [.int (nI (sF σ)), .int (nI (2 ^ sF σ)), .ref zK, .ref zW, .int (nI (sN σ)), .int (sR σ), .int (orE (rEr σ) (sN σ)), .ref zU, .ref zV, .ref zR, .ref zE])), (zK, .inl (cZ, 128, .inl kI)), (zL, .inr (3, [.ref zB, .ref zLo])), (zLo, .inl (cI, 128, .inl lo)), (zR, .inl (cI, 12, .inl (rRu σ))), (zU, .inl (cI, 12, .inl (rMu σ))), (zV, .inl (cI, 12, .inl (rMn σ))), (zE, .inl (cI, 12, .inl (rEr σ)))]) ⟨hx, hb, hml, hown, hts⟩ (c_X1_add l D cI cZ s.heap.size zC zQ zP zN σ (nI k) (verI σ (sR σ) q) (namI σ k) c67) (cwV 3 hts gX5_make_X1_add rfl rfl rfl (by decide +kernel) ⟨Nat.le_of_ble_eq_true rfl, Nat.le_of_ble_eq_true rfl⟩) hP hD hS hA [7, 8, 9, 10] [0, 1, 2, 3, 4, 5, 6, 11, 12, 13, 14, 15, 16] rfl rfl (by decide) (by decide) (by decide) hK hN (ci := 1) (q0 := 7) rfl rfl rfl hl.1 rfl (Nat.le_of_ble_eq_true rfl) dX5_make_128 ⟨Nat.zero_le _, Nat.zero_le _⟩ (fun r128 u128 H locs e128 hP hD hS => ?_)
            have hP : va_P D vwCl [(zX, .inr (5, [.ref zB, .ref zL, .ref zF, .ref zM, .ref zC, .ref zG, .ref zJ, .int (nI (sG σ))])), (zM, .inr (4, [.int (nI (sM σ)), .ref zS, .ref zT, .ref zD])), (zS, .inl (cI, 90, .inl (rTs σ))), (zT, .inl (cI, 90, .inl (rTn σ))), (zD, .inl (cI, 30, .inl (rRd σ))), (zB, .inr (0, [.int (nI (sF σ)), .int (nI (2 ^ sF σ)), .ref zK, .ref zW, .int (nI (sN σ)), .int (sR σ), .int (orE (rEr σ) (sN σ)), .ref zU, .ref zV, .ref zR, .ref zE])), (zK, .inl (cZ, 128, .inl kI)), (zL, .inr (3, [.ref zB, .ref zLo])), (zLo, .inl (cI, 128, .inl lo)), (zR, .inl (cI, 12, .inl (rRu σ))), (zU, .inl (cI, 12, .inl (rMu σ))), (zV, .inl (cI, 12, .inl (rMn σ))), (zE, .inl (cI, 12, .inl (rEr σ))), (zC, .inr (1, [.int (nI (sC (caS σ (nI k) (verI σ (sR σ) q) (namI σ k)))), .ref zQ, .ref zP, .ref zN])), (zQ, .inl (cI, 12, .inl (rCk (caS σ (nI k) (verI σ (sR σ) q) (namI σ k))))), (zP, .inl (cI, 12, .inl (rCr (caS σ (nI k) (verI σ (sR σ) q) (namI σ k))))), (zN, .inl (cI, 12, .inl (rCn (caS σ (nI k) (verI σ (sR σ) q) (namI σ k)))))] H := hP
            have hD : va_D A [(zX, .inr (5, [.ref zB, .ref zL, .ref zF, .ref zM, .ref zC, .ref zG, .ref zJ, .int (nI (sG σ))])), (zM, .inr (4, [.int (nI (sM σ)), .ref zS, .ref zT, .ref zD])), (zS, .inl (cI, 90, .inl (rTs σ))), (zT, .inl (cI, 90, .inl (rTn σ))), (zD, .inl (cI, 30, .inl (rRd σ))), (zB, .inr (0, [.int (nI (sF σ)), .int (nI (2 ^ sF σ)), .ref zK, .ref zW, .int (nI (sN σ)), .int (sR σ), .int (orE (rEr σ) (sN σ)), .ref zU, .ref zV, .ref zR, .ref zE])), (zK, .inl (cZ, 128, .inl kI)), (zL, .inr (3, [.ref zB, .ref zLo])), (zLo, .inl (cI, 128, .inl lo)), (zR, .inl (cI, 12, .inl (rRu σ))), (zU, .inl (cI, 12, .inl (rMu σ))), (zV, .inl (cI, 12, .inl (rMn σ))), (zE, .inl (cI, 12, .inl (rEr σ))), (zC, .inr (1, [.int (nI (sC (caS σ (nI k) (verI σ (sR σ) q) (namI σ k)))), .ref zQ, .ref zP, .ref zN])), (zQ, .inl (cI, 12, .inl (rCk (caS σ (nI k) (verI σ (sR σ) q) (namI σ k))))), (zP, .inl (cI, 12, .inl (rCr (caS σ (nI k) (verI σ (sR σ) q) (namI σ k))))), (zN, .inl (cI, 12, .inl (rCn (caS σ (nI k) (verI σ (sR σ) q) (namI σ k)))))] := hD
            have hP9 := hP.sub (ws' := [(zX, .inr (5, [.ref zB, .ref zL, .ref zF, .ref zM, .ref zC, .ref zG, .ref zJ, .int (nI (sG σ))])), (zM, .inr (4, [.int (nI (sM σ)), .ref zS, .ref zT, .ref zD])), (zS, .inl (cI, 90, .inl (rTs σ))), (zT, .inl (cI, 90, .inl (rTn σ))), (zD, .inl (cI, 30, .inl (rRd σ))), (zB, .inr (0, [.int (nI (sF σ)), .int (nI (2 ^ sF σ)), .ref zK, .ref zW, .int (nI (sN σ)), .int (sR σ), .int (orE (rEr σ) (sN σ)), .ref zU, .ref zV, .ref zR, .ref zE])), (zK, .inl (cZ, 128, .inl kI)), (zC, .inr (1, [.int (nI (sC (caS σ (nI k) (verI σ (sR σ) q) (namI σ k)))), .ref zQ, .ref zP, .ref zN])), (zQ, .inl (cI, 12, .inl (rCk (caS σ (nI k) (verI σ (sR σ) q) (namI σ k))))), (zP, .inl (cI, 12, .inl (rCr (caS σ (nI k) (verI σ (sR σ) q) (namI σ k))))), (zN, .inl (cI, 12, .inl (rCn (caS σ (nI k) (verI σ (sR σ) q) (namI σ k))))), (zL, .inr (3, [.ref zB, .ref zLo])), (zLo, .inl (cI, 128, .inl lo)), (zR, .inl (cI, 12, .inl (rRu σ))), (zU, .inl (cI, 12, .inl (rMu σ))), (zV, .inl (cI, 12, .inl (rMn σ))), (zE, .inl (cI, 12, .inl (rEr σ)))]) [0, 1, 2, 3, 4, 5, 6, 13, 14, 15, 16, 7, 8, 9, 10, 11, 12] rfl
            have hD9 := hD.sub (ws' := [(zX, .inr (5, [.ref zB, .ref zL, .ref zF, .ref zM, .ref zC, .ref zG, .ref zJ, .int (nI (sG σ))])), (zM, .inr (4, [.int (nI (sM σ)), .ref zS, .ref zT, .ref zD])), (zS, .inl (cI, 90, .inl (rTs σ))), (zT, .inl (cI, 90, .inl (rTn σ))), (zD, .inl (cI, 30, .inl (rRd σ))), (zB, .inr (0, [.int (nI (sF σ)), .int (nI (2 ^ sF σ)), .ref zK, .ref zW, .int (nI (sN σ)), .int (sR σ), .int (orE (rEr σ) (sN σ)), .ref zU, .ref zV, .ref zR, .ref zE])), (zK, .inl (cZ, 128, .inl kI)), (zC, .inr (1, [.int (nI (sC (caS σ (nI k) (verI σ (sR σ) q) (namI σ k)))), .ref zQ, .ref zP, .ref zN])), (zQ, .inl (cI, 12, .inl (rCk (caS σ (nI k) (verI σ (sR σ) q) (namI σ k))))), (zP, .inl (cI, 12, .inl (rCr (caS σ (nI k) (verI σ (sR σ) q) (namI σ k))))), (zN, .inl (cI, 12, .inl (rCn (caS σ (nI k) (verI σ (sR σ) q) (namI σ k))))), (zL, .inr (3, [.ref zB, .ref zLo])), (zLo, .inl (cI, 128, .inl lo)), (zR, .inl (cI, 12, .inl (rRu σ))), (zU, .inl (cI, 12, .inl (rMu σ))), (zV, .inl (cI, 12, .inl (rMn σ))), (zE, .inl (cI, 12, .inl (rEr σ)))]) [0, 1, 2, 3, 4, 5, 6, 13, 14, 15, 16, 7, 8, 9, 10, 11, 12] (by decide) rfl
            have eN : nMake σ (nI q) = caS σ (nI k) (verI σ (sR σ) q) (namI σ k) := by rw [nMake, if_neg (by rw [c8]; decide), kq, if_neg (by rw [cB]; decide), if_neg (by omega), kk, ek]
            exact W.iret (v := r128) hx hb hr (fun t ht hW => ⟨⟨r128, (), rfl, (by rw [e128, oMake, if_neg (by rw [c8]; decide), kq, if_neg (by rw [cB]; decide), if_neg (by omega)]), ⟨⟨by rw [ht, eN]; exact hP9, va_K.moved hW.alike hK, NW.warm hW hN⟩, by rw [eN]; exact hD9⟩⟩, hS.F ht⟩) hS.2.2 dX5_make_131
          · skip
            refine lv_if_eq (tgt := 103) hx hb dX5_make_81 (by decide) (fun c81 => ?_) (fun c81 => ?_)
            · skip
              have c81 := b2_0 c81
              have c81 : ¬ lawN σ (sR σ) k < sN σ := of_decide_eq_false c81
              refine lv_aload_n hx hb dX5_make_103 rfl (lv_at hl 2 rfl) ?_
              refine va_get (D := D) (ci := 5) (v := .ref zB) (C := RX5) (T := TX5) (N := 8) hx hb hts hiX5 hown hK hP 0 rfl rfl 0 (by decide) hf10 (fun _ h9 => h9) rfl dX5_make_104 ?_
              refine xpV (rest := []) ⟨hx, hb, hml, hown, hts⟩ (c_X0_allFacts l D cI cZ zB zK zW zU zV zR zE σ hok) (cwV 0 hts gX5_make_X0_allFacts rfl rfl rfl (by decide +kernel) ⟨Nat.le_of_ble_eq_true rfl, Nat.le_of_ble_eq_true rfl⟩) hP [5] rfl hK hN (ci := 0) (q0 := 5) rfl rfl rfl hl.1 rfl (Nat.le_of_ble_eq_true rfl) dX5_make_107 ⟨Nat.zero_le _, Nat.zero_le _⟩ (fun r107 e107 => ?_)
              subst e107
              refine lv_asi (show (nI (2 ^ sF σ - 1) : Int32) = namI σ k from (by rw [namI, covB, decide_eq_false c81]; rfl)) ?_
              exact J110 ls (lv_sub hl [0, 1, 2, 3] rfl)
            · skip
              have c81 := b2_1 c81
              have c81 : lawN σ (sR σ) k < sN σ := of_decide_eq_true c81
              refine lv_aload_n hx hb dX5_make_84 rfl (lv_at hl 2 rfl) ?_
              refine va_get (D := D) (ci := 5) (v := .ref zB) (C := RX5) (T := TX5) (N := 8) hx hb hts hiX5 hown hK hP 0 rfl rfl 0 (by decide) hf10 (fun _ h9 => h9) rfl dX5_make_85 ?_
              refine lv_aload_n hx hb dX5_make_88 rfl (lv_at hl 2 rfl) ?_
              refine va_get (D := D) (ci := 5) (v := .ref zL) (C := RX5) (T := TX5) (N := 8) hx hb hts hiX5 hown hK hP 0 rfl rfl 1 (by decide) hf21 (fun _ h9 => h9) rfl dX5_make_89 ?_
              refine va_getN (D := D) (ci := 3) (v := .ref zLo) (C := RX3) (T := TX3) (N := 2) hx hb hts hiX3 hown hK hP 11 rfl rfl 1 (by decide) (NW.f hN 9 rfl _) (fun _ h9 => h9) rfl dX5_make_92 ?_
              refine lv_iload_n hx hb dX5_make_95 rfl (lv_at hl 1 rfl) ?_
              refine xald (k := k) hx hb hK hP 12 rfl (by omega) (by decide) dX5_make_96 ?_
              refine lv_asi (show lo k = nI (lawN σ (sR σ) k) from by rw [hlo k hk, lawI, if_pos c81]) ?_
              refine xpV (rest := []) ⟨hx, hb, hml, hown, hts⟩ (c_X0_namedBy l D cI cZ zB zK zW zU zV zR zE σ (lawN σ (sR σ) k) hok c81) (cwV 1 hts gX5_make_X0_namedBy rfl rfl rfl (by decide +kernel) ⟨Nat.le_of_ble_eq_true rfl, Nat.le_of_ble_eq_true rfl⟩) hP [5, 14, 15, 16] rfl hK hN (ci := 0) (q0 := 5) rfl rfl rfl hl.1 rfl (Nat.le_of_ble_eq_true rfl) dX5_make_97 ⟨Nat.zero_le _, Nat.zero_le _⟩ (fun r97 e97 => ?_)
              subst e97
              refine lv_goto (tgt := 110) hx hb dX5_make_100 (by decide) ?_
              refine lv_asi (show (nmI σ (sR σ) (lawN σ (sR σ) k) : Int32) = namI σ k from (by rw [namI, covB, decide_eq_true c81]; rfl)) ?_
              exact J110 ls (lv_sub hl [0, 1, 2, 3] rfl)
        · skip
          have c67 : 12 ≤ sC σ := Nat.le_of_not_lt (fun z => c67 ((nI_ltI (by omega) (by omega)).mpr z))
          refine lv_bipush (v := (-4)) hx hb dX5_make_70 (by decide) ?_
          have hP9 := hP
          have hD9 := hD
          have eN : nMake σ (nI q) = σ := by rw [nMake, if_neg (by rw [c8]; decide), kq, if_neg (by rw [cB]; decide), if_pos c67]
          have eO : oMake σ (nI q) = -4 := by rw [oMake, if_neg (by rw [c8]; decide), kq, if_neg (by rw [cB]; decide), if_pos c67]
          exact W.iret (v := (-4)) hx hb hr (fun t ht hW => ⟨⟨(-4), (), rfl, eO.symm, ⟨⟨by rw [ht, eN]; exact hP9, va_K.moved hW.alike hK, NW.warm hW hN⟩, by rw [eN]; exact hD9⟩⟩, hS.F ht⟩) hS.2.2 dX5_make_72
      · skip
        have c52 := b2_0 c52
        refine lv_bipush (v := (-3)) hx hb dX5_make_55 (by decide) ?_
        have hP9 := hP
        have hD9 := hD
        have cB : mkB σ q = false := by rw [mkB, decide_eq_true c41, c52]; rfl
        have eN : nMake σ (nI q) = σ := by rw [nMake, if_neg (by rw [c8]; decide), kq, if_pos cB]
        have eO : oMake σ (nI q) = -3 := by rw [oMake, if_neg (by rw [c8]; decide), kq, if_pos cB]
        exact W.iret (v := (-3)) hx hb hr (fun t ht hW => ⟨⟨(-3), (), rfl, eO.symm, ⟨⟨by rw [ht, eN]; exact hP9, va_K.moved hW.alike hK, NW.warm hW hN⟩, by rw [eN]; exact hD9⟩⟩, hS.F ht⟩) hS.2.2 dX5_make_57
  · skip
    have c8 := b2_0 c8
    refine lv_iconst (v := (-1)) hx hb dX5_make_11 (by decide) ?_
    have hP9 := hP
    have hD9 := hD
    have eN : nMake σ x = σ := by rw [nMake, if_pos c8]
    have eO : oMake σ x = -1 := by rw [oMake, if_pos c8]
    exact W.iret (v := (-1)) hx hb hr (fun t ht hW => ⟨⟨(-1), (), rfl, eO.symm, ⟨⟨by rw [ht, eN]; exact hP9, va_K.moved hW.alike hK, NW.warm hW hN⟩, by rw [eN]; exact hD9⟩⟩, hS.F ht⟩) hS.2.2 dX5_make_12

set_option maxHeartbeats 4000000 in
set_option maxRecDepth 100000 in
theorem c_X5_goal (l : Launch) (D : va_G) (cI cZ : ClassId) (sz : Nat) (zX : Nat) (zB : Nat) (zL : Nat) (zF : Nat) (zM : Nat) (zC : Nat) (zG : Nat) (zJ : Nat) (σ : ST) (x : Int32) (hok : Ok σ) : Met l yX5_goal wsX5_goal ({ frames := 0, cells := 0, slots := 0, locals := 0 }) (va_Pc [.ref zX, .int x] (XW D cI cZ [(zX, .inr (5, [.ref zB, .ref zL, .ref zF, .ref zM, .ref zC, .ref zG, .ref zJ, .int (nI (sG σ))]))] sz)) (va_Qi (fun (r : Int32) (u : Unit) => r = oGoal σ x) (fun u => XB D cI cZ (va_A [(zX, .inr (5, [.ref zB, .ref zL, .ref zF, .ref zM, .ref zC, .ref zG, .ref zJ, .int (nI (sG σ))]))] sz) [(zX, .inr (5, [.ref zB, .ref zL, .ref zF, .ref zM, .ref zC, .ref zG, .ref zJ, .int (nI (sG (nGoal σ x)))]))]) (va_A [(zX, .inr (5, [.ref zB, .ref zL, .ref zF, .ref zM, .ref zC, .ref zG, .ref zJ, .int (nI (sG σ))]))] sz)) 0 0 (va_A [(zX, .inr (5, [.ref zB, .ref zL, .ref zF, .ref zM, .ref zC, .ref zG, .ref zJ, .int (nI (sG σ))]))] sz) := by
  refine Met.ofW (cc := cX5_goal) (maxL := 3) (ret := (some .int)) (by decide) rfl ?_
  intro p e s m args below meth c s₁ B hml hv
  obtain ⟨rfl, hsz, ⟨hP, hK, hN⟩, hD0⟩ := hv
  have hx := B.exec
  have hb := B.bytes
  have hr := B.returns
  have hts := atoms_spec (ws := wsX5_goal) B.pre
  have hown : s.vm.findClass RX5 = some m.cls := findClass_of_methodNamed B.named
  have hlocks := B.notSynchronized
  subst hsz
  have hD := hD0.self (sz := s.heap.size)
  generalize hAe : va_A [(zX, .inr (5, [.ref zB, .ref zL, .ref zF, .ref zM, .ref zC, .ref zG, .ref zJ, .int (nI (sG σ))]))] s.heap.size = A at hD ⊢
  have hA : ∀ q : Nat, s.heap.size ≤ q → A q := fun q h => by rw [← hAe]; exact Or.inr h
  have hS : va_S A s.heap s.heap [] := va_S.rf
  have ho := hok.1
  have hk2 := hok.k
  have hf52 := hts (.fieldLink RX5 52 "BallCourt" "hoopsToWin" "I") (List.mem_of_getElem? (i := 1) (by decide +kernel))
  have hiX5 : ∀ w ∈ wsX50, w ∈ wsX5_goal := fun w h => List.mem_cons_of_mem _ (List.mem_append_right _ h)
  have hl := lv_entry ([.ref zX, .int x]) (n := 3) (Nat.le_of_ble_eq_true rfl)
  rw [lg_entry_eq]
  generalize (lg_sl ([.ref zX, .int x]) ++ List.replicate (3 - (lg_sl ([.ref zX, .int x])).length) Slot.unset).toArray = ls at hl ⊢
  have hl : lv_has ls 3 [(0, .ref zX), (1, .int x)] := hl
  refine lv_iload_n hx hb dX5_goal_0 rfl (lv_at hl 1 rfl) ?_
  refine lv_iconst (v := 1) hx hb dX5_goal_1 (by decide) ?_
  refine lv_icmp_lt (tgt := 11) hx hb dX5_goal_2 (by decide) (fun c2 => ?_) (fun c2 => ?_)
  · skip
    have cG : inI x 1 20 = false := by simp only [inI, decide_eq_true c2]; rfl
    refine lv_bipush (v := (-2)) hx hb dX5_goal_11 (by decide) ?_
    have hP9 := hP
    have hD9 := hD
    have eN : nGoal σ x = σ := by rw [nGoal, if_pos cG]
    exact W.iret (v := (-2)) hx hb hr (fun t ht hW => ⟨⟨(-2), (), rfl, (by rw [oGoal, if_pos cG]), ⟨⟨by rw [ht, eN]; exact hP9, va_K.moved hW.alike hK, NW.warm hW hN⟩, by rw [eN]; exact hD9⟩⟩, hS.F ht⟩) hS.2.2 dX5_goal_13
  · skip
    refine lv_iload_n hx hb dX5_goal_5 rfl (lv_at hl 1 rfl) ?_
    refine lv_bipush (v := 20) hx hb dX5_goal_6 (by decide) ?_
    refine lv_icmp_le (tgt := 14) hx hb dX5_goal_8 (by decide) (fun c8 => ?_) (fun c8 => ?_)
    · skip
      have c8 := Int32.not_lt.mpr c8
      have cG : inI x 1 20 = true := by simp only [inI, decide_eq_false c2, decide_eq_false c8]; rfl
      obtain ⟨q, hq, rfl⟩ := rng1 (a := 1) (b := 20) (by omega) cG
      have kq : (nI q).toNatClampNeg = q := nI_clamp (by omega)
      refine lv_aload_n hx hb dX5_goal_14 rfl (lv_at hl 0 rfl) ?_
      refine va_get (D := D) (ci := 5) (v := .int (nI (sG σ))) (C := RX5) (T := TX5) (N := 8) hx hb hts hiX5 hown hK hP 0 rfl rfl 7 (by decide) hf52 (fun _ h9 => h9) rfl dX5_goal_15 ?_
      refine lv_istore_n (lv' := [(2, .int (nI (sG σ))), (0, .ref zX), (1, .int (nI q))]) hx hb dX5_goal_18 rfl hl (by decide) rfl (fun ls hl => ?_)
      refine lv_aload_n hx hb dX5_goal_19 rfl (lv_at hl 1 rfl) ?_
      refine lv_iload_n hx hb dX5_goal_20 rfl (lv_at hl 2 rfl) ?_
      refine va_put (D := D) (ci := 5) (v := .int (nI q)) (ty := .int) (C := RX5) (T := TX5) (N := 8) hx hb hts hiX5 tyX5 tyX5_ok nmX5 hown hK hP hD hS 0 rfl rfl 7 (by decide) hf52 (fun _ h9 => h9) rfl (by decide +kernel) rfl rfl (Nat.le_of_ble_eq_true rfl) dX5_goal_21 (fun H locs hP hD hS => ?_)
      have hP : va_P D vwCl [(zX, .inr (5, [.ref zB, .ref zL, .ref zF, .ref zM, .ref zC, .ref zG, .ref zJ, .int (nI q)]))] H := hP
      have hD : va_D A [(zX, .inr (5, [.ref zB, .ref zL, .ref zF, .ref zM, .ref zC, .ref zG, .ref zJ, .int (nI q)]))] := hD
      refine lv_iload_n hx hb dX5_goal_24 rfl (lv_at hl 0 rfl) ?_
      have hP9 := hP
      have hD9 := hD
      have eN : nGoal σ (nI q) = goS σ q := by rw [nGoal, if_neg (by rw [cG]; decide), kq]
      exact W.iret (v := nI (sG σ)) hx hb hr (fun t ht hW => ⟨⟨nI (sG σ), (), rfl, (by rw [oGoal, if_neg (by rw [cG]; decide)]), ⟨⟨by rw [ht, eN]; exact hP9, va_K.moved hW.alike hK, NW.warm hW hN⟩, by rw [eN]; exact hD9⟩⟩, hS.F ht⟩) hS.2.2 dX5_goal_25
    · skip
      have c8 := Int32.not_le.mp c8
      have cG : inI x 1 20 = false := by simp only [inI, decide_eq_false c2, decide_eq_true c8]; rfl
      refine lv_bipush (v := (-2)) hx hb dX5_goal_11 (by decide) ?_
      have hP9 := hP
      have hD9 := hD
      have eN : nGoal σ x = σ := by rw [nGoal, if_pos cG]
      exact W.iret (v := (-2)) hx hb hr (fun t ht hW => ⟨⟨(-2), (), rfl, (by rw [oGoal, if_pos cG]), ⟨⟨by rw [ht, eN]; exact hP9, va_K.moved hW.alike hK, NW.warm hW hN⟩, by rw [eN]; exact hD9⟩⟩, hS.F ht⟩) hS.2.2 dX5_goal_13

set_option maxHeartbeats 4000000 in
set_option maxRecDepth 100000 in
theorem c_X5_idle (l : Launch) (D : va_G) (cI cZ : ClassId) (sz : Nat) (zX : Nat) (zB : Nat) (zL : Nat) (zF : Nat) (zM : Nat) (zC : Nat) (zG : Nat) (zJ : Nat) (zK : Nat) (zW : Nat) (zU : Nat) (zV : Nat) (zR : Nat) (zE : Nat) (zLo : Nat) (zFo : Nat) (σ : ST) (kI : Nat → Int32) (lo : Nat → Int32) (lf : Nat → Int32) (x : Int32) (hok : Ok σ) (hkI : ∀ k, k < 2 ^ sF σ → kI k = b2 (kok σ k)) (hlo : ∀ k, k < 2 ^ sF σ → lo k = lawI σ (sR σ) k) : Met l yX5_idle wsX5_idle ({ frames := 4, cells := 0, slots := 0, locals := 92 }) (va_Pc [.ref zX, .int x] (XW D cI cZ [(zX, .inr (5, [.ref zB, .ref zL, .ref zF, .ref zM, .ref zC, .ref zG, .ref zJ, .int (nI (sG σ))])), (zB, .inr (0, [.int (nI (sF σ)), .int (nI (2 ^ sF σ)), .ref zK, .ref zW, .int (nI (sN σ)), .int (sR σ), .int (orE (rEr σ) (sN σ)), .ref zU, .ref zV, .ref zR, .ref zE])), (zK, .inl (cZ, 128, .inl kI)), (zL, .inr (3, [.ref zB, .ref zLo])), (zLo, .inl (cI, 128, .inl lo)), (zF, .inr (3, [.ref zB, .ref zFo])), (zFo, .inl (cI, 128, .inl lf)), (zU, .inl (cI, 12, .inl (rMu σ))), (zV, .inl (cI, 12, .inl (rMn σ))), (zE, .inl (cI, 12, .inl (rEr σ))), (zR, .inl (cI, 12, .inl (rRu σ)))] sz)) (va_Qi (fun (r : Int32) (u : Nat → Int32) => r = oIdle σ x) (fun u => XB D cI cZ (va_A [(zX, .inr (5, [.ref zB, .ref zL, .ref zF, .ref zM, .ref zC, .ref zG, .ref zJ, .int (nI (sG σ))])), (zB, .inr (0, [.int (nI (sF σ)), .int (nI (2 ^ sF σ)), .ref zK, .ref zW, .int (nI (sN σ)), .int (sR σ), .int (orE (rEr σ) (sN σ)), .ref zU, .ref zV, .ref zR, .ref zE])), (zK, .inl (cZ, 128, .inl kI)), (zL, .inr (3, [.ref zB, .ref zLo])), (zLo, .inl (cI, 128, .inl lo)), (zF, .inr (3, [.ref zB, .ref zFo])), (zFo, .inl (cI, 128, .inl lf)), (zU, .inl (cI, 12, .inl (rMu σ))), (zV, .inl (cI, 12, .inl (rMn σ))), (zE, .inl (cI, 12, .inl (rEr σ))), (zR, .inl (cI, 12, .inl (rRu σ)))] sz) [(zX, .inr (5, [.ref zB, .ref zL, .ref zF, .ref zM, .ref zC, .ref zG, .ref zJ, .int (nI (sG σ))])), (zB, .inr (0, [.int (nI (sF σ)), .int (nI (2 ^ sF σ)), .ref zK, .ref zW, .int (nI (sN σ)), .int (sR σ), .int (orE (rEr σ) (sN σ)), .ref zU, .ref zV, .ref zR, .ref zE])), (zK, .inl (cZ, 128, .inl kI)), (zL, .inr (3, [.ref zB, .ref zLo])), (zLo, .inl (cI, 128, .inl lo)), (zF, .inr (3, [.ref zB, .ref zFo])), (zFo, .inl (cI, 128, .inl u)), (zU, .inl (cI, 12, .inl (rMu σ))), (zV, .inl (cI, 12, .inl (rMn σ))), (zE, .inl (cI, 12, .inl (rEr σ))), (zR, .inl (cI, 12, .inl (rRu σ)))]) (va_A [(zX, .inr (5, [.ref zB, .ref zL, .ref zF, .ref zM, .ref zC, .ref zG, .ref zJ, .int (nI (sG σ))])), (zB, .inr (0, [.int (nI (sF σ)), .int (nI (2 ^ sF σ)), .ref zK, .ref zW, .int (nI (sN σ)), .int (sR σ), .int (orE (rEr σ) (sN σ)), .ref zU, .ref zV, .ref zR, .ref zE])), (zK, .inl (cZ, 128, .inl kI)), (zL, .inr (3, [.ref zB, .ref zLo])), (zLo, .inl (cI, 128, .inl lo)), (zF, .inr (3, [.ref zB, .ref zFo])), (zFo, .inl (cI, 128, .inl lf)), (zU, .inl (cI, 12, .inl (rMu σ))), (zV, .inl (cI, 12, .inl (rMn σ))), (zE, .inl (cI, 12, .inl (rEr σ))), (zR, .inl (cI, 12, .inl (rRu σ)))] sz)) 0 0 (va_A [(zX, .inr (5, [.ref zB, .ref zL, .ref zF, .ref zM, .ref zC, .ref zG, .ref zJ, .int (nI (sG σ))])), (zB, .inr (0, [.int (nI (sF σ)), .int (nI (2 ^ sF σ)), .ref zK, .ref zW, .int (nI (sN σ)), .int (sR σ), .int (orE (rEr σ) (sN σ)), .ref zU, .ref zV, .ref zR, .ref zE])), (zK, .inl (cZ, 128, .inl kI)), (zL, .inr (3, [.ref zB, .ref zLo])), (zLo, .inl (cI, 128, .inl lo)), (zF, .inr (3, [.ref zB, .ref zFo])), (zFo, .inl (cI, 128, .inl lf)), (zU, .inl (cI, 12, .inl (rMu σ))), (zV, .inl (cI, 12, .inl (rMn σ))), (zE, .inl (cI, 12, .inl (rEr σ))), (zR, .inl (cI, 12, .inl (rRu σ)))] sz) := by
  refine Met.ofW (cc := cX5_idle) (maxL := 2) (ret := (some .int)) (by decide) rfl ?_
  intro p e s m args below meth c s₁ B hml hv
  obtain ⟨rfl, hsz, ⟨hP, hK, hN⟩, hD0⟩ := hv
  have hx := B.exec
  have hb := B.bytes
  have hr := B.returns
  have hts := atoms_spec (ws := wsX5_idle) B.pre
  have hown : s.vm.findClass RX5 = some m.cls := findClass_of_methodNamed B.named
  have hlocks := B.notSynchronized
  subst hsz
  have hD := hD0.self (sz := s.heap.size)
  generalize hAe : va_A [(zX, .inr (5, [.ref zB, .ref zL, .ref zF, .ref zM, .ref zC, .ref zG, .ref zJ, .int (nI (sG σ))])), (zB, .inr (0, [.int (nI (sF σ)), .int (nI (2 ^ sF σ)), .ref zK, .ref zW, .int (nI (sN σ)), .int (sR σ), .int (orE (rEr σ) (sN σ)), .ref zU, .ref zV, .ref zR, .ref zE])), (zK, .inl (cZ, 128, .inl kI)), (zL, .inr (3, [.ref zB, .ref zLo])), (zLo, .inl (cI, 128, .inl lo)), (zF, .inr (3, [.ref zB, .ref zFo])), (zFo, .inl (cI, 128, .inl lf)), (zU, .inl (cI, 12, .inl (rMu σ))), (zV, .inl (cI, 12, .inl (rMn σ))), (zE, .inl (cI, 12, .inl (rEr σ))), (zR, .inl (cI, 12, .inl (rRu σ)))] s.heap.size = A at hD ⊢
  have hA : ∀ q : Nat, s.heap.size ≤ q → A q := fun q h => by rw [← hAe]; exact Or.inr h
  have hS : va_S A s.heap s.heap [] := va_S.rf
  have ho := hok.1
  have hk2 := hok.k
  have hf10 := hts (.fieldLink RX5 10 "BallCourt" "book" "LBallCourt$Book;") (List.mem_of_getElem? (i := 1) (by decide +kernel))
  have hiX5 : ∀ w ∈ wsX50, w ∈ wsX5_idle := fun w h => List.mem_cons_of_mem _ (List.mem_append_left _ (List.mem_append_left _ (List.mem_append_right _ h)))
  have hf25 := hts (.fieldLink RX5 25 "BallCourt" "lawsIfMended" "LBallCourt$Laws;") (List.mem_of_getElem? (i := 2) (by decide +kernel))
  have hl := lv_entry ([.ref zX, .int x]) (n := 2) (Nat.le_of_ble_eq_true rfl)
  rw [lg_entry_eq]
  generalize (lg_sl ([.ref zX, .int x]) ++ List.replicate (2 - (lg_sl ([.ref zX, .int x])).length) Slot.unset).toArray = ls at hl ⊢
  have hl : lv_has ls 2 [(0, .ref zX), (1, .int x)] := hl
  refine lv_aload_n hx hb dX5_idle_0 rfl (lv_at hl 0 rfl) ?_
  refine va_get (D := D) (ci := 5) (v := .ref zB) (C := RX5) (T := TX5) (N := 8) hx hb hts hiX5 hown hK hP 0 rfl rfl 0 (by decide) hf10 (fun _ h9 => h9) rfl dX5_idle_1 ?_
  refine lv_iload_n hx hb dX5_idle_4 rfl (lv_at hl 1 rfl) ?_
  refine xpV (rest := []) ⟨hx, hb, hml, hown, hts⟩ (c_X0_hasLine l D cI cZ zB zK zW zU zV zR zE σ x) (cwV 1 hts gX5_idle_X0_hasLine rfl rfl rfl (by decide +kernel) ⟨Nat.le_of_ble_eq_true rfl, Nat.le_of_ble_eq_true rfl⟩) hP [1] rfl hK hN (ci := 0) (q0 := 1) rfl rfl rfl hl.1 rfl (Nat.le_of_ble_eq_true rfl) dX5_idle_5 ⟨Nat.zero_le _, Nat.zero_le _⟩ (fun r5 e5 => ?_)
  subst e5
  refine lv_if_ne (tgt := 13) hx hb dX5_idle_8 (by decide) (fun c8 => ?_) (fun c8 => ?_)
  · skip
    have c8 := b2_1 c8
    obtain ⟨q, hq, rfl⟩ := inN_t c8 (by omega)
    have kq := clp hq (show sN σ ≤ 128 by omega)
    refine lv_aload_n hx hb dX5_idle_13 rfl (lv_at hl 0 rfl) ?_
    refine va_get (D := D) (ci := 5) (v := .ref zF) (C := RX5) (T := TX5) (N := 8) hx hb hts hiX5 hown hK hP 0 rfl rfl 2 (by decide) hf25 (fun _ h9 => h9) rfl dX5_idle_14 ?_
    refine lv_aload_n hx hb dX5_idle_17 rfl (lv_at hl 0 rfl) ?_
    refine va_get (D := D) (ci := 5) (v := .ref zB) (C := RX5) (T := TX5) (N := 8) hx hb hts hiX5 hown hK hP 0 rfl rfl 0 (by decide) hf10 (fun _ h9 => h9) rfl dX5_idle_18 ?_
    refine lv_iload_n hx hb dX5_idle_21 rfl (lv_at hl 1 rfl) ?_
    refine xpV (rest := [.ref zF]) ⟨hx, hb, hml, hown, hts⟩ (c_X0_repealedIfMended l D cI cZ zB zK zW zU zV zR zE σ q (by omega)) (cwV 1 hts gX5_idle_X0_repealedIfMended rfl rfl rfl (by decide +kernel) ⟨Nat.le_of_ble_eq_true rfl, Nat.le_of_ble_eq_true rfl⟩) hP [1] rfl hK hN (ci := 0) (q0 := 1) rfl rfl rfl hl.1 rfl (Nat.le_of_ble_eq_true rfl) dX5_idle_22 ⟨Nat.zero_le _, Nat.zero_le _⟩ (fun r22 e22 => ?_)
    subst e22
    refine xwVv (rest := []) (wr := [(zX, .inr (5, [.ref zB, .ref zL, .ref zF, .ref zM, .ref zC, .ref zG, .ref zJ, .int (nI (sG σ))])), (zK, .inl (cZ, 128, .inl kI)), (zL, .inr (3, [.ref zB, .ref zLo])), (zLo, .inl (cI, 128, .inl lo)), (zR, .inl (cI, 12, .inl (rRu σ)))]) ⟨hx, hb, hml, hown, hts⟩ (c_X3_work l D cI cZ s.heap.size zB zF zK zW zU zV zR zE zFo σ lf (sR σ ^^^ nI (2 ^ q)) hok) (cwV 1 hts gX5_idle_X3_work rfl rfl rfl (by decide +kernel) ⟨Nat.le_of_ble_eq_true rfl, Nat.le_of_ble_eq_true rfl⟩) hP hD hS hA [5, 6, 1, 7, 8, 9] [0, 2, 3, 4, 10] rfl rfl (by decide) (by decide) (by decide) hK hN (ci := 3) (q0 := 5) rfl rfl rfl hl.1 rfl (Nat.le_of_ble_eq_true rfl) dX5_idle_25 ⟨Nat.zero_le _, Nat.zero_le _⟩ (fun u25 H locs e25 hP hD hS => ?_)
    obtain ⟨lf2, rfl⟩ : ∃ z, z = u25 := ⟨_, rfl⟩
    have hP : va_P D vwCl [(zX, .inr (5, [.ref zB, .ref zL, .ref zF, .ref zM, .ref zC, .ref zG, .ref zJ, .int (nI (sG σ))])), (zK, .inl (cZ, 128, .inl kI)), (zL, .inr (3, [.ref zB, .ref zLo])), (zLo, .inl (cI, 128, .inl lo)), (zR, .inl (cI, 12, .inl (rRu σ))), (zF, .inr (3, [.ref zB, .ref zFo])), (zFo, .inl (cI, 128, .inl lf2)), (zB, .inr (0, [.int (nI (sF σ)), .int (nI (2 ^ sF σ)), .ref zK, .ref zW, .int (nI (sN σ)), .int (sR σ), .int (orE (rEr σ) (sN σ)), .ref zU, .ref zV, .ref zR, .ref zE])), (zU, .inl (cI, 12, .inl (rMu σ))), (zV, .inl (cI, 12, .inl (rMn σ))), (zE, .inl (cI, 12, .inl (rEr σ)))] H := hP
    have hD : va_D A [(zX, .inr (5, [.ref zB, .ref zL, .ref zF, .ref zM, .ref zC, .ref zG, .ref zJ, .int (nI (sG σ))])), (zK, .inl (cZ, 128, .inl kI)), (zL, .inr (3, [.ref zB, .ref zLo])), (zLo, .inl (cI, 128, .inl lo)), (zR, .inl (cI, 12, .inl (rRu σ))), (zF, .inr (3, [.ref zB, .ref zFo])), (zFo, .inl (cI, 128, .inl lf2)), (zB, .inr (0, [.int (nI (sF σ)), .int (nI (2 ^ sF σ)), .ref zK, .ref zW, .int (nI (sN σ)), .int (sR σ), .int (orE (rEr σ) (sN σ)), .ref zU, .ref zV, .ref zR, .ref zE])), (zU, .inl (cI, 12, .inl (rMu σ))), (zV, .inl (cI, 12, .inl (rMn σ))), (zE, .inl (cI, 12, .inl (rEr σ)))] := hD
    refine lv_aload_n hx hb dX5_idle_28 rfl (lv_at hl 0 rfl) ?_
    refine xpV (rest := []) ⟨hx, hb, hml, hown, hts⟩ (c_X5_turnedKinds l D cI cZ zX zB zL zF zM zC zG zJ zK zW zU zV zR zE zLo zFo σ kI lo lf2 (sR σ ^^^ nI (2 ^ q)) hok hkI hlo e25) (cwV 0 hts gX5_idle_X5_turnedKinds rfl rfl rfl (by decide +kernel) ⟨Nat.le_of_ble_eq_true rfl, Nat.le_of_ble_eq_true rfl⟩) hP [0, 7, 1, 2, 3, 5, 6, 4] rfl hK hN (ci := 5) (q0 := 0) rfl rfl rfl hl.1 rfl (Nat.le_of_ble_eq_true rfl) dX5_idle_29 ⟨Nat.zero_le _, Nat.zero_le _⟩ (fun r29 e29 => ?_)
    subst e29
    refine lv_if_ne (tgt := 39) hx hb dX5_idle_32 (by decide) (fun c32 => ?_) (fun c32 => ?_)
    · skip
      have c32 : ¬ tkN σ (sR σ) (sR σ ^^^ nI (2 ^ q)) = 0 := fun z => c32 (by rw [z]; rfl)
      refine lv_iconst (v := b2 false) hx hb dX5_idle_39 (by decide) ?_
      refine xpS (rest := []) ⟨hx, hb, hml, hown, hts⟩ (c_X5_oneIf l D cI cZ false) (va_cwS 1 hts gX5_idle_X5_oneIf rfl rfl rfl (by decide +kernel) ⟨Nat.le_of_ble_eq_true rfl, Nat.le_of_ble_eq_true rfl⟩) hP [] rfl hK hN rfl hl.1 rfl (Nat.le_of_ble_eq_true rfl) dX5_idle_40 ⟨Nat.zero_le _, Nat.zero_le _⟩ (fun r40 e40 => ?_)
      subst e40
      have hP9 := hP.sub (ws' := [(zX, .inr (5, [.ref zB, .ref zL, .ref zF, .ref zM, .ref zC, .ref zG, .ref zJ, .int (nI (sG σ))])), (zB, .inr (0, [.int (nI (sF σ)), .int (nI (2 ^ sF σ)), .ref zK, .ref zW, .int (nI (sN σ)), .int (sR σ), .int (orE (rEr σ) (sN σ)), .ref zU, .ref zV, .ref zR, .ref zE])), (zK, .inl (cZ, 128, .inl kI)), (zL, .inr (3, [.ref zB, .ref zLo])), (zLo, .inl (cI, 128, .inl lo)), (zF, .inr (3, [.ref zB, .ref zFo])), (zFo, .inl (cI, 128, .inl lf2)), (zU, .inl (cI, 12, .inl (rMu σ))), (zV, .inl (cI, 12, .inl (rMn σ))), (zE, .inl (cI, 12, .inl (rEr σ))), (zR, .inl (cI, 12, .inl (rRu σ)))]) [0, 7, 1, 2, 3, 5, 6, 8, 9, 10, 4] rfl
      have hD9 := hD.sub (ws' := [(zX, .inr (5, [.ref zB, .ref zL, .ref zF, .ref zM, .ref zC, .ref zG, .ref zJ, .int (nI (sG σ))])), (zB, .inr (0, [.int (nI (sF σ)), .int (nI (2 ^ sF σ)), .ref zK, .ref zW, .int (nI (sN σ)), .int (sR σ), .int (orE (rEr σ) (sN σ)), .ref zU, .ref zV, .ref zR, .ref zE])), (zK, .inl (cZ, 128, .inl kI)), (zL, .inr (3, [.ref zB, .ref zLo])), (zLo, .inl (cI, 128, .inl lo)), (zF, .inr (3, [.ref zB, .ref zFo])), (zFo, .inl (cI, 128, .inl lf2)), (zU, .inl (cI, 12, .inl (rMu σ))), (zV, .inl (cI, 12, .inl (rMn σ))), (zE, .inl (cI, 12, .inl (rEr σ))), (zR, .inl (cI, 12, .inl (rRu σ)))]) [0, 7, 1, 2, 3, 5, 6, 8, 9, 10, 4] (by decide) rfl
      exact W.iret (v := b2 false) hx hb hr (fun t ht hW => ⟨⟨b2 false, lf2, rfl, (by rw [oIdle, if_neg (by rw [c8]; decide), flS, kq, decide_eq_false c32]), ⟨⟨by rw [ht]; exact hP9, va_K.moved hW.alike hK, NW.warm hW hN⟩, hD9⟩⟩, hS.F ht⟩) hS.2.2 dX5_idle_43
    · skip
      have c32 : tkN σ (sR σ) (sR σ ^^^ nI (2 ^ q)) = 0 := (nI_eq (by have := tkN_le hok (sR σ) (sR σ ^^^ nI (2 ^ q)); omega) (by omega)).mp c32
      refine lv_iconst (v := b2 true) hx hb dX5_idle_35 (by decide) ?_
      refine lv_goto (tgt := 40) hx hb dX5_idle_36 (by decide) ?_
      refine xpS (rest := []) ⟨hx, hb, hml, hown, hts⟩ (c_X5_oneIf l D cI cZ true) (va_cwS 1 hts gX5_idle_X5_oneIf rfl rfl rfl (by decide +kernel) ⟨Nat.le_of_ble_eq_true rfl, Nat.le_of_ble_eq_true rfl⟩) hP [] rfl hK hN rfl hl.1 rfl (Nat.le_of_ble_eq_true rfl) dX5_idle_40 ⟨Nat.zero_le _, Nat.zero_le _⟩ (fun r40 e40 => ?_)
      subst e40
      have hP9 := hP.sub (ws' := [(zX, .inr (5, [.ref zB, .ref zL, .ref zF, .ref zM, .ref zC, .ref zG, .ref zJ, .int (nI (sG σ))])), (zB, .inr (0, [.int (nI (sF σ)), .int (nI (2 ^ sF σ)), .ref zK, .ref zW, .int (nI (sN σ)), .int (sR σ), .int (orE (rEr σ) (sN σ)), .ref zU, .ref zV, .ref zR, .ref zE])), (zK, .inl (cZ, 128, .inl kI)), (zL, .inr (3, [.ref zB, .ref zLo])), (zLo, .inl (cI, 128, .inl lo)), (zF, .inr (3, [.ref zB, .ref zFo])), (zFo, .inl (cI, 128, .inl lf2)), (zU, .inl (cI, 12, .inl (rMu σ))), (zV, .inl (cI, 12, .inl (rMn σ))), (zE, .inl (cI, 12, .inl (rEr σ))), (zR, .inl (cI, 12, .inl (rRu σ)))]) [0, 7, 1, 2, 3, 5, 6, 8, 9, 10, 4] rfl
      have hD9 := hD.sub (ws' := [(zX, .inr (5, [.ref zB, .ref zL, .ref zF, .ref zM, .ref zC, .ref zG, .ref zJ, .int (nI (sG σ))])), (zB, .inr (0, [.int (nI (sF σ)), .int (nI (2 ^ sF σ)), .ref zK, .ref zW, .int (nI (sN σ)), .int (sR σ), .int (orE (rEr σ) (sN σ)), .ref zU, .ref zV, .ref zR, .ref zE])), (zK, .inl (cZ, 128, .inl kI)), (zL, .inr (3, [.ref zB, .ref zLo])), (zLo, .inl (cI, 128, .inl lo)), (zF, .inr (3, [.ref zB, .ref zFo])), (zFo, .inl (cI, 128, .inl lf2)), (zU, .inl (cI, 12, .inl (rMu σ))), (zV, .inl (cI, 12, .inl (rMn σ))), (zE, .inl (cI, 12, .inl (rEr σ))), (zR, .inl (cI, 12, .inl (rRu σ)))]) [0, 7, 1, 2, 3, 5, 6, 8, 9, 10, 4] (by decide) rfl
      exact W.iret (v := b2 true) hx hb hr (fun t ht hW => ⟨⟨b2 true, lf2, rfl, (by rw [oIdle, if_neg (by rw [c8]; decide), flS, kq, decide_eq_true c32]), ⟨⟨by rw [ht]; exact hP9, va_K.moved hW.alike hK, NW.warm hW hN⟩, hD9⟩⟩, hS.F ht⟩) hS.2.2 dX5_idle_43
  · skip
    have c8 := b2_0 c8
    refine lv_iconst (v := (-1)) hx hb dX5_idle_11 (by decide) ?_
    have hP9 := hP
    have hD9 := hD
    exact W.iret (v := (-1)) hx hb hr (fun t ht hW => ⟨⟨(-1), lf, rfl, (by rw [oIdle, if_pos c8]), ⟨⟨by rw [ht]; exact hP9, va_K.moved hW.alike hK, NW.warm hW hN⟩, hD9⟩⟩, hS.F ht⟩) hS.2.2 dX5_idle_12

set_option maxHeartbeats 4000000 in
set_option maxRecDepth 100000 in
theorem c_X5_mend (l : Launch) (D : va_G) (cI cZ : ClassId) (sz : Nat) (zX : Nat) (zB : Nat) (zL : Nat) (zF : Nat) (zM : Nat) (zC : Nat) (zG : Nat) (zJ : Nat) (zK : Nat) (zW : Nat) (zU : Nat) (zV : Nat) (zR : Nat) (zE : Nat) (zLo : Nat) (zFo : Nat) (zS : Nat) (zT : Nat) (zD : Nat) (zQ : Nat) (zP : Nat) (zN : Nat) (σ : ST) (kI : Nat → Int32) (lo : Nat → Int32) (lf : Nat → Int32) (x : Int32) (w : Int32) (hok : Ok σ) (hkI : ∀ k, k < 2 ^ sF σ → kI k = b2 (kok σ k)) (hlo : ∀ k, k < 2 ^ sF σ → lo k = lawI σ (sR σ) k) : Met l yX5_mend wsX5_mend ({ frames := 5, cells := 0, slots := 0, locals := 114 }) (va_Pc [.ref zX, .int x, .int w] (XW D cI cZ [(zX, .inr (5, [.ref zB, .ref zL, .ref zF, .ref zM, .ref zC, .ref zG, .ref zJ, .int (nI (sG σ))])), (zM, .inr (4, [.int (nI (sM σ)), .ref zS, .ref zT, .ref zD])), (zS, .inl (cI, 90, .inl (rTs σ))), (zT, .inl (cI, 90, .inl (rTn σ))), (zD, .inl (cI, 30, .inl (rRd σ))), (zB, .inr (0, [.int (nI (sF σ)), .int (nI (2 ^ sF σ)), .ref zK, .ref zW, .int (nI (sN σ)), .int (sR σ), .int (orE (rEr σ) (sN σ)), .ref zU, .ref zV, .ref zR, .ref zE])), (zK, .inl (cZ, 128, .inl kI)), (zC, .inr (1, [.int (nI (sC σ)), .ref zQ, .ref zP, .ref zN])), (zQ, .inl (cI, 12, .inl (rCk σ))), (zP, .inl (cI, 12, .inl (rCr σ))), (zN, .inl (cI, 12, .inl (rCn σ))), (zL, .inr (3, [.ref zB, .ref zLo])), (zLo, .inl (cI, 128, .inl lo)), (zF, .inr (3, [.ref zB, .ref zFo])), (zFo, .inl (cI, 128, .inl lf)), (zR, .inl (cI, 12, .inl (rRu σ))), (zU, .inl (cI, 12, .inl (rMu σ))), (zV, .inl (cI, 12, .inl (rMn σ))), (zE, .inl (cI, 12, .inl (rEr σ)))] sz)) (va_Qi (fun (r : Int32) (u : Nat → Int32) => r = oMend σ x w) (fun u => XB D cI cZ (va_A [(zX, .inr (5, [.ref zB, .ref zL, .ref zF, .ref zM, .ref zC, .ref zG, .ref zJ, .int (nI (sG σ))])), (zM, .inr (4, [.int (nI (sM σ)), .ref zS, .ref zT, .ref zD])), (zS, .inl (cI, 90, .inl (rTs σ))), (zT, .inl (cI, 90, .inl (rTn σ))), (zD, .inl (cI, 30, .inl (rRd σ))), (zB, .inr (0, [.int (nI (sF σ)), .int (nI (2 ^ sF σ)), .ref zK, .ref zW, .int (nI (sN σ)), .int (sR σ), .int (orE (rEr σ) (sN σ)), .ref zU, .ref zV, .ref zR, .ref zE])), (zK, .inl (cZ, 128, .inl kI)), (zC, .inr (1, [.int (nI (sC σ)), .ref zQ, .ref zP, .ref zN])), (zQ, .inl (cI, 12, .inl (rCk σ))), (zP, .inl (cI, 12, .inl (rCr σ))), (zN, .inl (cI, 12, .inl (rCn σ))), (zL, .inr (3, [.ref zB, .ref zLo])), (zLo, .inl (cI, 128, .inl lo)), (zF, .inr (3, [.ref zB, .ref zFo])), (zFo, .inl (cI, 128, .inl lf)), (zR, .inl (cI, 12, .inl (rRu σ))), (zU, .inl (cI, 12, .inl (rMu σ))), (zV, .inl (cI, 12, .inl (rMn σ))), (zE, .inl (cI, 12, .inl (rEr σ)))] sz) [(zX, .inr (5, [.ref zB, .ref zL, .ref zF, .ref zM, .ref zC, .ref zG, .ref zJ, .int (nI (sG σ))])), (zM, .inr (4, [.int (nI (sM σ)), .ref zS, .ref zT, .ref zD])), (zS, .inl (cI, 90, .inl (rTs σ))), (zT, .inl (cI, 90, .inl (rTn σ))), (zD, .inl (cI, 30, .inl (rRd σ))), (zB, .inr (0, [.int (nI (sF σ)), .int (nI (2 ^ sF σ)), .ref zK, .ref zW, .int (nI (sN σ)), .int (sR σ), .int (orE (rEr σ) (sN σ)), .ref zU, .ref zV, .ref zR, .ref zE])), (zK, .inl (cZ, 128, .inl kI)), (zC, .inr (1, [.int (nI (sC σ)), .ref zQ, .ref zP, .ref zN])), (zQ, .inl (cI, 12, .inl (rCk σ))), (zP, .inl (cI, 12, .inl (rCr σ))), (zN, .inl (cI, 12, .inl (rCn σ))), (zL, .inr (3, [.ref zB, .ref zLo])), (zLo, .inl (cI, 128, .inl lo)), (zF, .inr (3, [.ref zB, .ref zFo])), (zFo, .inl (cI, 128, .inl u)), (zR, .inl (cI, 12, .inl (rRu σ))), (zU, .inl (cI, 12, .inl (rMu σ))), (zV, .inl (cI, 12, .inl (rMn σ))), (zE, .inl (cI, 12, .inl (rEr σ)))]) (va_A [(zX, .inr (5, [.ref zB, .ref zL, .ref zF, .ref zM, .ref zC, .ref zG, .ref zJ, .int (nI (sG σ))])), (zM, .inr (4, [.int (nI (sM σ)), .ref zS, .ref zT, .ref zD])), (zS, .inl (cI, 90, .inl (rTs σ))), (zT, .inl (cI, 90, .inl (rTn σ))), (zD, .inl (cI, 30, .inl (rRd σ))), (zB, .inr (0, [.int (nI (sF σ)), .int (nI (2 ^ sF σ)), .ref zK, .ref zW, .int (nI (sN σ)), .int (sR σ), .int (orE (rEr σ) (sN σ)), .ref zU, .ref zV, .ref zR, .ref zE])), (zK, .inl (cZ, 128, .inl kI)), (zC, .inr (1, [.int (nI (sC σ)), .ref zQ, .ref zP, .ref zN])), (zQ, .inl (cI, 12, .inl (rCk σ))), (zP, .inl (cI, 12, .inl (rCr σ))), (zN, .inl (cI, 12, .inl (rCn σ))), (zL, .inr (3, [.ref zB, .ref zLo])), (zLo, .inl (cI, 128, .inl lo)), (zF, .inr (3, [.ref zB, .ref zFo])), (zFo, .inl (cI, 128, .inl lf)), (zR, .inl (cI, 12, .inl (rRu σ))), (zU, .inl (cI, 12, .inl (rMu σ))), (zV, .inl (cI, 12, .inl (rMn σ))), (zE, .inl (cI, 12, .inl (rEr σ)))] sz)) 0 0 (va_A [(zX, .inr (5, [.ref zB, .ref zL, .ref zF, .ref zM, .ref zC, .ref zG, .ref zJ, .int (nI (sG σ))])), (zM, .inr (4, [.int (nI (sM σ)), .ref zS, .ref zT, .ref zD])), (zS, .inl (cI, 90, .inl (rTs σ))), (zT, .inl (cI, 90, .inl (rTn σ))), (zD, .inl (cI, 30, .inl (rRd σ))), (zB, .inr (0, [.int (nI (sF σ)), .int (nI (2 ^ sF σ)), .ref zK, .ref zW, .int (nI (sN σ)), .int (sR σ), .int (orE (rEr σ) (sN σ)), .ref zU, .ref zV, .ref zR, .ref zE])), (zK, .inl (cZ, 128, .inl kI)), (zC, .inr (1, [.int (nI (sC σ)), .ref zQ, .ref zP, .ref zN])), (zQ, .inl (cI, 12, .inl (rCk σ))), (zP, .inl (cI, 12, .inl (rCr σ))), (zN, .inl (cI, 12, .inl (rCn σ))), (zL, .inr (3, [.ref zB, .ref zLo])), (zLo, .inl (cI, 128, .inl lo)), (zF, .inr (3, [.ref zB, .ref zFo])), (zFo, .inl (cI, 128, .inl lf)), (zR, .inl (cI, 12, .inl (rRu σ))), (zU, .inl (cI, 12, .inl (rMu σ))), (zV, .inl (cI, 12, .inl (rMn σ))), (zE, .inl (cI, 12, .inl (rEr σ)))] sz) := by
  refine Met.ofW (cc := cX5_mend) (maxL := 3) (ret := (some .int)) (by decide) rfl ?_
  intro p e s m args below meth c s₁ B hml hv
  obtain ⟨rfl, hsz, ⟨hP, hK, hN⟩, hD0⟩ := hv
  have hx := B.exec
  have hb := B.bytes
  have hr := B.returns
  have hts := atoms_spec (ws := wsX5_mend) B.pre
  have hown : s.vm.findClass RX5 = some m.cls := findClass_of_methodNamed B.named
  have hlocks := B.notSynchronized
  subst hsz
  have hD := hD0.self (sz := s.heap.size)
  generalize hAe : va_A [(zX, .inr (5, [.ref zB, .ref zL, .ref zF, .ref zM, .ref zC, .ref zG, .ref zJ, .int (nI (sG σ))])), (zM, .inr (4, [.int (nI (sM σ)), .ref zS, .ref zT, .ref zD])), (zS, .inl (cI, 90, .inl (rTs σ))), (zT, .inl (cI, 90, .inl (rTn σ))), (zD, .inl (cI, 30, .inl (rRd σ))), (zB, .inr (0, [.int (nI (sF σ)), .int (nI (2 ^ sF σ)), .ref zK, .ref zW, .int (nI (sN σ)), .int (sR σ), .int (orE (rEr σ) (sN σ)), .ref zU, .ref zV, .ref zR, .ref zE])), (zK, .inl (cZ, 128, .inl kI)), (zC, .inr (1, [.int (nI (sC σ)), .ref zQ, .ref zP, .ref zN])), (zQ, .inl (cI, 12, .inl (rCk σ))), (zP, .inl (cI, 12, .inl (rCr σ))), (zN, .inl (cI, 12, .inl (rCn σ))), (zL, .inr (3, [.ref zB, .ref zLo])), (zLo, .inl (cI, 128, .inl lo)), (zF, .inr (3, [.ref zB, .ref zFo])), (zFo, .inl (cI, 128, .inl lf)), (zR, .inl (cI, 12, .inl (rRu σ))), (zU, .inl (cI, 12, .inl (rMu σ))), (zV, .inl (cI, 12, .inl (rMn σ))), (zE, .inl (cI, 12, .inl (rEr σ)))] s.heap.size = A at hD ⊢
  have hA : ∀ q : Nat, s.heap.size ≤ q → A q := fun q h => by rw [← hAe]; exact Or.inr h
  have hS : va_S A s.heap s.heap [] := va_S.rf
  have ho := hok.1
  have hk2 := hok.k
  have hf10 := hts (.fieldLink RX5 10 "BallCourt" "book" "LBallCourt$Book;") (List.mem_of_getElem? (i := 1) (by decide +kernel))
  have hiX5 : ∀ w ∈ wsX50, w ∈ wsX5_mend := fun w h => List.mem_cons_of_mem _ (List.mem_append_left _ (List.mem_append_left _ (List.mem_append_left _ (List.mem_append_left _ (List.mem_append_right _ h)))))
  have hf25 := hts (.fieldLink RX5 25 "BallCourt" "lawsIfMended" "LBallCourt$Laws;") (List.mem_of_getElem? (i := 2) (by decide +kernel))
  have hl := lv_entry ([.ref zX, .int x, .int w]) (n := 3) (Nat.le_of_ble_eq_true rfl)
  rw [lg_entry_eq]
  generalize (lg_sl ([.ref zX, .int x, .int w]) ++ List.replicate (3 - (lg_sl ([.ref zX, .int x, .int w])).length) Slot.unset).toArray = ls at hl ⊢
  have hl : lv_has ls 3 [(0, .ref zX), (1, .int x), (2, .int w)] := hl
  refine lv_aload_n hx hb dX5_mend_0 rfl (lv_at hl 0 rfl) ?_
  refine va_get (D := D) (ci := 5) (v := .ref zB) (C := RX5) (T := TX5) (N := 8) hx hb hts hiX5 hown hK hP 0 rfl rfl 0 (by decide) hf10 (fun _ h9 => h9) rfl dX5_mend_1 ?_
  refine lv_iload_n hx hb dX5_mend_4 rfl (lv_at hl 1 rfl) ?_
  refine xpV (rest := []) ⟨hx, hb, hml, hown, hts⟩ (c_X0_hasLine l D cI cZ zB zK zW zU zV zR zE σ x) (cwV 1 hts gX5_mend_X0_hasLine rfl rfl rfl (by decide +kernel) ⟨Nat.le_of_ble_eq_true rfl, Nat.le_of_ble_eq_true rfl⟩) hP [5] rfl hK hN (ci := 0) (q0 := 5) rfl rfl rfl hl.1 rfl (Nat.le_of_ble_eq_true rfl) dX5_mend_5 ⟨Nat.zero_le _, Nat.zero_le _⟩ (fun r5 e5 => ?_)
  subst e5
  refine lv_if_ne (tgt := 13) hx hb dX5_mend_8 (by decide) (fun c8 => ?_) (fun c8 => ?_)
  · skip
    have c8 := b2_1 c8
    obtain ⟨q, hq, rfl⟩ := inN_t c8 (by omega)
    have kq := clp hq (show sN σ ≤ 128 by omega)
    refine lv_iload_n hx hb dX5_mend_13 rfl (lv_at hl 2 rfl) ?_
    refine lv_if_lt (tgt := 22) hx hb dX5_mend_14 (by decide) (fun c14 => ?_) (fun c14 => ?_)
    · skip
      have cW : inI w 0 2 = false := by simp only [inI, decide_eq_true c14]; rfl
      refine lv_bipush (v := (-2)) hx hb dX5_mend_22 (by decide) ?_
      have hP9 := hP
      have hD9 := hD
      exact W.iret (v := (-2)) hx hb hr (fun t ht hW => ⟨⟨(-2), lf, rfl, (by rw [oMend, if_neg (by rw [c8]; decide), if_pos cW]), ⟨⟨by rw [ht]; exact hP9, va_K.moved hW.alike hK, NW.warm hW hN⟩, hD9⟩⟩, hS.F ht⟩) hS.2.2 dX5_mend_24
    · skip
      refine lv_iload_n hx hb dX5_mend_17 rfl (lv_at hl 2 rfl) ?_
      refine lv_iconst (v := 2) hx hb dX5_mend_18 (by decide) ?_
      refine lv_icmp_le (tgt := 25) hx hb dX5_mend_19 (by decide) (fun c19 => ?_) (fun c19 => ?_)
      · skip
        have c19 := Int32.not_lt.mpr c19
        have cW : inI w 0 2 = true := by simp only [inI, decide_eq_false c14, decide_eq_false c19]; rfl
        refine lv_aload_n hx hb dX5_mend_25 rfl (lv_at hl 0 rfl) ?_
        refine va_get (D := D) (ci := 5) (v := .ref zF) (C := RX5) (T := TX5) (N := 8) hx hb hts hiX5 hown hK hP 0 rfl rfl 2 (by decide) hf25 (fun _ h9 => h9) rfl dX5_mend_26 ?_
        refine lv_aload_n hx hb dX5_mend_29 rfl (lv_at hl 0 rfl) ?_
        refine va_get (D := D) (ci := 5) (v := .ref zB) (C := RX5) (T := TX5) (N := 8) hx hb hts hiX5 hown hK hP 0 rfl rfl 0 (by decide) hf10 (fun _ h9 => h9) rfl dX5_mend_30 ?_
        refine lv_iload_n hx hb dX5_mend_33 rfl (lv_at hl 1 rfl) ?_
        refine xpV (rest := [.ref zF]) ⟨hx, hb, hml, hown, hts⟩ (c_X0_repealedIfMended l D cI cZ zB zK zW zU zV zR zE σ q (by omega)) (cwV 1 hts gX5_mend_X0_repealedIfMended rfl rfl rfl (by decide +kernel) ⟨Nat.le_of_ble_eq_true rfl, Nat.le_of_ble_eq_true rfl⟩) hP [5] rfl hK hN (ci := 0) (q0 := 5) rfl rfl rfl hl.1 rfl (Nat.le_of_ble_eq_true rfl) dX5_mend_34 ⟨Nat.zero_le _, Nat.zero_le _⟩ (fun r34 e34 => ?_)
        subst e34
        refine xwVv (rest := []) (wr := [(zX, .inr (5, [.ref zB, .ref zL, .ref zF, .ref zM, .ref zC, .ref zG, .ref zJ, .int (nI (sG σ))])), (zM, .inr (4, [.int (nI (sM σ)), .ref zS, .ref zT, .ref zD])), (zS, .inl (cI, 90, .inl (rTs σ))), (zT, .inl (cI, 90, .inl (rTn σ))), (zD, .inl (cI, 30, .inl (rRd σ))), (zK, .inl (cZ, 128, .inl kI)), (zC, .inr (1, [.int (nI (sC σ)), .ref zQ, .ref zP, .ref zN])), (zQ, .inl (cI, 12, .inl (rCk σ))), (zP, .inl (cI, 12, .inl (rCr σ))), (zN, .inl (cI, 12, .inl (rCn σ))), (zL, .inr (3, [.ref zB, .ref zLo])), (zLo, .inl (cI, 128, .inl lo)), (zR, .inl (cI, 12, .inl (rRu σ)))]) ⟨hx, hb, hml, hown, hts⟩ (c_X3_work l D cI cZ s.heap.size zB zF zK zW zU zV zR zE zFo σ lf (sR σ ^^^ nI (2 ^ q)) hok) (cwV 1 hts gX5_mend_X3_work rfl rfl rfl (by decide +kernel) ⟨Nat.le_of_ble_eq_true rfl, Nat.le_of_ble_eq_true rfl⟩) hP hD hS hA [13, 14, 5, 16, 17, 18] [0, 1, 2, 3, 4, 6, 7, 8, 9, 10, 11, 12, 15] rfl rfl (by decide) (by decide) (by decide) hK hN (ci := 3) (q0 := 13) rfl rfl rfl hl.1 rfl (Nat.le_of_ble_eq_true rfl) dX5_mend_37 ⟨Nat.zero_le _, Nat.zero_le _⟩ (fun u37 H locs e37 hP hD hS => ?_)
        obtain ⟨lf2, rfl⟩ : ∃ z, z = u37 := ⟨_, rfl⟩
        have hP : va_P D vwCl [(zX, .inr (5, [.ref zB, .ref zL, .ref zF, .ref zM, .ref zC, .ref zG, .ref zJ, .int (nI (sG σ))])), (zM, .inr (4, [.int (nI (sM σ)), .ref zS, .ref zT, .ref zD])), (zS, .inl (cI, 90, .inl (rTs σ))), (zT, .inl (cI, 90, .inl (rTn σ))), (zD, .inl (cI, 30, .inl (rRd σ))), (zK, .inl (cZ, 128, .inl kI)), (zC, .inr (1, [.int (nI (sC σ)), .ref zQ, .ref zP, .ref zN])), (zQ, .inl (cI, 12, .inl (rCk σ))), (zP, .inl (cI, 12, .inl (rCr σ))), (zN, .inl (cI, 12, .inl (rCn σ))), (zL, .inr (3, [.ref zB, .ref zLo])), (zLo, .inl (cI, 128, .inl lo)), (zR, .inl (cI, 12, .inl (rRu σ))), (zF, .inr (3, [.ref zB, .ref zFo])), (zFo, .inl (cI, 128, .inl lf2)), (zB, .inr (0, [.int (nI (sF σ)), .int (nI (2 ^ sF σ)), .ref zK, .ref zW, .int (nI (sN σ)), .int (sR σ), .int (orE (rEr σ) (sN σ)), .ref zU, .ref zV, .ref zR, .ref zE])), (zU, .inl (cI, 12, .inl (rMu σ))), (zV, .inl (cI, 12, .inl (rMn σ))), (zE, .inl (cI, 12, .inl (rEr σ)))] H := hP
        have hD : va_D A [(zX, .inr (5, [.ref zB, .ref zL, .ref zF, .ref zM, .ref zC, .ref zG, .ref zJ, .int (nI (sG σ))])), (zM, .inr (4, [.int (nI (sM σ)), .ref zS, .ref zT, .ref zD])), (zS, .inl (cI, 90, .inl (rTs σ))), (zT, .inl (cI, 90, .inl (rTn σ))), (zD, .inl (cI, 30, .inl (rRd σ))), (zK, .inl (cZ, 128, .inl kI)), (zC, .inr (1, [.int (nI (sC σ)), .ref zQ, .ref zP, .ref zN])), (zQ, .inl (cI, 12, .inl (rCk σ))), (zP, .inl (cI, 12, .inl (rCr σ))), (zN, .inl (cI, 12, .inl (rCn σ))), (zL, .inr (3, [.ref zB, .ref zLo])), (zLo, .inl (cI, 128, .inl lo)), (zR, .inl (cI, 12, .inl (rRu σ))), (zF, .inr (3, [.ref zB, .ref zFo])), (zFo, .inl (cI, 128, .inl lf2)), (zB, .inr (0, [.int (nI (sF σ)), .int (nI (2 ^ sF σ)), .ref zK, .ref zW, .int (nI (sN σ)), .int (sR σ), .int (orE (rEr σ) (sN σ)), .ref zU, .ref zV, .ref zR, .ref zE])), (zU, .inl (cI, 12, .inl (rMu σ))), (zV, .inl (cI, 12, .inl (rMn σ))), (zE, .inl (cI, 12, .inl (rEr σ)))] := hD
        refine lv_iload_n hx hb dX5_mend_40 rfl (lv_at hl 2 rfl) ?_
        refine lv_if_ne (tgt := 49) hx hb dX5_mend_41 (by decide) (fun c41 => ?_) (fun c41 => ?_)
        · skip
          refine lv_iload_n hx hb dX5_mend_49 rfl (lv_at hl 2 rfl) ?_
          refine lv_iconst (v := 1) hx hb dX5_mend_50 (by decide) ?_
          refine lv_icmp_ne (tgt := 61) hx hb dX5_mend_51 (by decide) (fun c51 => ?_) (fun c51 => ?_)
          · skip
            refine lv_aload_n hx hb dX5_mend_61 rfl (lv_at hl 0 rfl) ?_
            refine xpV (rest := []) ⟨hx, hb, hml, hown, hts⟩ (c_X5_turnedVerdicts l D cI cZ zX zB zL zF zM zC zG zJ zK zW zU zV zR zE zLo zFo zS zT zD zQ zP zN σ kI lo lf2 (sR σ ^^^ nI (2 ^ q)) hok hkI hlo e37) (cwV 0 hts gX5_mend_X5_turnedVerdicts rfl rfl rfl (by decide +kernel) ⟨Nat.le_of_ble_eq_true rfl, Nat.le_of_ble_eq_true rfl⟩) hP [0, 1, 2, 3, 4, 15, 5, 6, 7, 8, 9, 10, 11, 13, 14, 12] rfl hK hN (ci := 5) (q0 := 0) rfl rfl rfl hl.1 rfl (Nat.le_of_ble_eq_true rfl) dX5_mend_62 ⟨Nat.zero_le _, Nat.zero_le _⟩ (fun r62 e62 => ?_)
            subst e62
            have hP9 := hP.sub (ws' := [(zX, .inr (5, [.ref zB, .ref zL, .ref zF, .ref zM, .ref zC, .ref zG, .ref zJ, .int (nI (sG σ))])), (zM, .inr (4, [.int (nI (sM σ)), .ref zS, .ref zT, .ref zD])), (zS, .inl (cI, 90, .inl (rTs σ))), (zT, .inl (cI, 90, .inl (rTn σ))), (zD, .inl (cI, 30, .inl (rRd σ))), (zB, .inr (0, [.int (nI (sF σ)), .int (nI (2 ^ sF σ)), .ref zK, .ref zW, .int (nI (sN σ)), .int (sR σ), .int (orE (rEr σ) (sN σ)), .ref zU, .ref zV, .ref zR, .ref zE])), (zK, .inl (cZ, 128, .inl kI)), (zC, .inr (1, [.int (nI (sC σ)), .ref zQ, .ref zP, .ref zN])), (zQ, .inl (cI, 12, .inl (rCk σ))), (zP, .inl (cI, 12, .inl (rCr σ))), (zN, .inl (cI, 12, .inl (rCn σ))), (zL, .inr (3, [.ref zB, .ref zLo])), (zLo, .inl (cI, 128, .inl lo)), (zF, .inr (3, [.ref zB, .ref zFo])), (zFo, .inl (cI, 128, .inl lf2)), (zR, .inl (cI, 12, .inl (rRu σ))), (zU, .inl (cI, 12, .inl (rMu σ))), (zV, .inl (cI, 12, .inl (rMn σ))), (zE, .inl (cI, 12, .inl (rEr σ)))]) [0, 1, 2, 3, 4, 15, 5, 6, 7, 8, 9, 10, 11, 13, 14, 12, 16, 17, 18] rfl
            have hD9 := hD.sub (ws' := [(zX, .inr (5, [.ref zB, .ref zL, .ref zF, .ref zM, .ref zC, .ref zG, .ref zJ, .int (nI (sG σ))])), (zM, .inr (4, [.int (nI (sM σ)), .ref zS, .ref zT, .ref zD])), (zS, .inl (cI, 90, .inl (rTs σ))), (zT, .inl (cI, 90, .inl (rTn σ))), (zD, .inl (cI, 30, .inl (rRd σ))), (zB, .inr (0, [.int (nI (sF σ)), .int (nI (2 ^ sF σ)), .ref zK, .ref zW, .int (nI (sN σ)), .int (sR σ), .int (orE (rEr σ) (sN σ)), .ref zU, .ref zV, .ref zR, .ref zE])), (zK, .inl (cZ, 128, .inl kI)), (zC, .inr (1, [.int (nI (sC σ)), .ref zQ, .ref zP, .ref zN])), (zQ, .inl (cI, 12, .inl (rCk σ))), (zP, .inl (cI, 12, .inl (rCr σ))), (zN, .inl (cI, 12, .inl (rCn σ))), (zL, .inr (3, [.ref zB, .ref zLo])), (zLo, .inl (cI, 128, .inl lo)), (zF, .inr (3, [.ref zB, .ref zFo])), (zFo, .inl (cI, 128, .inl lf2)), (zR, .inl (cI, 12, .inl (rRu σ))), (zU, .inl (cI, 12, .inl (rMu σ))), (zV, .inl (cI, 12, .inl (rMn σ))), (zE, .inl (cI, 12, .inl (rEr σ)))]) [0, 1, 2, 3, 4, 15, 5, 6, 7, 8, 9, 10, 11, 13, 14, 12, 16, 17, 18] (by decide) rfl
            exact W.iret (v := nI (tvN σ (sR σ) (sR σ ^^^ nI (2 ^ q)))) hx hb hr (fun t ht hW => ⟨⟨nI (tvN σ (sR σ) (sR σ ^^^ nI (2 ^ q))), lf2, rfl, (by rw [oMend, if_neg (by rw [c8]; decide), if_neg (by rw [cW]; decide), if_neg c41, if_neg c51, flS, kq]), ⟨⟨by rw [ht]; exact hP9, va_K.moved hW.alike hK, NW.warm hW hN⟩, hD9⟩⟩, hS.F ht⟩) hS.2.2 dX5_mend_65
          · skip
            refine lv_aload_n hx hb dX5_mend_54 rfl (lv_at hl 0 rfl) ?_
            refine xpV (rest := []) ⟨hx, hb, hml, hown, hts⟩ (c_X5_casesOfTurnedKinds l D cI cZ zX zB zL zF zM zC zG zJ zK zW zU zV zR zE zLo zFo zQ zP zN σ lo lf2 (sR σ ^^^ nI (2 ^ q)) hok hlo e37) (cwV 0 hts gX5_mend_X5_casesOfTurnedKinds rfl rfl rfl (by decide +kernel) ⟨Nat.le_of_ble_eq_true rfl, Nat.le_of_ble_eq_true rfl⟩) hP [0, 15, 6, 7, 10, 11, 13, 14, 12] rfl hK hN (ci := 5) (q0 := 0) rfl rfl rfl hl.1 rfl (Nat.le_of_ble_eq_true rfl) dX5_mend_55 ⟨Nat.zero_le _, Nat.zero_le _⟩ (fun r55 e55 => ?_)
            subst e55
            refine lv_goto (tgt := 65) hx hb dX5_mend_58 (by decide) ?_
            have hP9 := hP.sub (ws' := [(zX, .inr (5, [.ref zB, .ref zL, .ref zF, .ref zM, .ref zC, .ref zG, .ref zJ, .int (nI (sG σ))])), (zM, .inr (4, [.int (nI (sM σ)), .ref zS, .ref zT, .ref zD])), (zS, .inl (cI, 90, .inl (rTs σ))), (zT, .inl (cI, 90, .inl (rTn σ))), (zD, .inl (cI, 30, .inl (rRd σ))), (zB, .inr (0, [.int (nI (sF σ)), .int (nI (2 ^ sF σ)), .ref zK, .ref zW, .int (nI (sN σ)), .int (sR σ), .int (orE (rEr σ) (sN σ)), .ref zU, .ref zV, .ref zR, .ref zE])), (zK, .inl (cZ, 128, .inl kI)), (zC, .inr (1, [.int (nI (sC σ)), .ref zQ, .ref zP, .ref zN])), (zQ, .inl (cI, 12, .inl (rCk σ))), (zP, .inl (cI, 12, .inl (rCr σ))), (zN, .inl (cI, 12, .inl (rCn σ))), (zL, .inr (3, [.ref zB, .ref zLo])), (zLo, .inl (cI, 128, .inl lo)), (zF, .inr (3, [.ref zB, .ref zFo])), (zFo, .inl (cI, 128, .inl lf2)), (zR, .inl (cI, 12, .inl (rRu σ))), (zU, .inl (cI, 12, .inl (rMu σ))), (zV, .inl (cI, 12, .inl (rMn σ))), (zE, .inl (cI, 12, .inl (rEr σ)))]) [0, 1, 2, 3, 4, 15, 5, 6, 7, 8, 9, 10, 11, 13, 14, 12, 16, 17, 18] rfl
            have hD9 := hD.sub (ws' := [(zX, .inr (5, [.ref zB, .ref zL, .ref zF, .ref zM, .ref zC, .ref zG, .ref zJ, .int (nI (sG σ))])), (zM, .inr (4, [.int (nI (sM σ)), .ref zS, .ref zT, .ref zD])), (zS, .inl (cI, 90, .inl (rTs σ))), (zT, .inl (cI, 90, .inl (rTn σ))), (zD, .inl (cI, 30, .inl (rRd σ))), (zB, .inr (0, [.int (nI (sF σ)), .int (nI (2 ^ sF σ)), .ref zK, .ref zW, .int (nI (sN σ)), .int (sR σ), .int (orE (rEr σ) (sN σ)), .ref zU, .ref zV, .ref zR, .ref zE])), (zK, .inl (cZ, 128, .inl kI)), (zC, .inr (1, [.int (nI (sC σ)), .ref zQ, .ref zP, .ref zN])), (zQ, .inl (cI, 12, .inl (rCk σ))), (zP, .inl (cI, 12, .inl (rCr σ))), (zN, .inl (cI, 12, .inl (rCn σ))), (zL, .inr (3, [.ref zB, .ref zLo])), (zLo, .inl (cI, 128, .inl lo)), (zF, .inr (3, [.ref zB, .ref zFo])), (zFo, .inl (cI, 128, .inl lf2)), (zR, .inl (cI, 12, .inl (rRu σ))), (zU, .inl (cI, 12, .inl (rMu σ))), (zV, .inl (cI, 12, .inl (rMn σ))), (zE, .inl (cI, 12, .inl (rEr σ)))]) [0, 1, 2, 3, 4, 15, 5, 6, 7, 8, 9, 10, 11, 13, 14, 12, 16, 17, 18] (by decide) rfl
            exact W.iret (v := nI (ctN σ (sR σ) (sR σ ^^^ nI (2 ^ q)))) hx hb hr (fun t ht hW => ⟨⟨nI (ctN σ (sR σ) (sR σ ^^^ nI (2 ^ q))), lf2, rfl, (by rw [oMend, if_neg (by rw [c8]; decide), if_neg (by rw [cW]; decide), if_neg c41, if_pos c51, flS, kq]), ⟨⟨by rw [ht]; exact hP9, va_K.moved hW.alike hK, NW.warm hW hN⟩, hD9⟩⟩, hS.F ht⟩) hS.2.2 dX5_mend_65
        · skip
          refine lv_aload_n hx hb dX5_mend_44 rfl (lv_at hl 0 rfl) ?_
          refine xpV (rest := []) ⟨hx, hb, hml, hown, hts⟩ (c_X5_turnedKinds l D cI cZ zX zB zL zF zM zC zG zJ zK zW zU zV zR zE zLo zFo σ kI lo lf2 (sR σ ^^^ nI (2 ^ q)) hok hkI hlo e37) (cwV 0 hts gX5_mend_X5_turnedKinds rfl rfl rfl (by decide +kernel) ⟨Nat.le_of_ble_eq_true rfl, Nat.le_of_ble_eq_true rfl⟩) hP [0, 15, 5, 10, 11, 13, 14, 12] rfl hK hN (ci := 5) (q0 := 0) rfl rfl rfl hl.1 rfl (Nat.le_of_ble_eq_true rfl) dX5_mend_45 ⟨Nat.zero_le _, Nat.zero_le _⟩ (fun r45 e45 => ?_)
          subst e45
          have hP9 := hP.sub (ws' := [(zX, .inr (5, [.ref zB, .ref zL, .ref zF, .ref zM, .ref zC, .ref zG, .ref zJ, .int (nI (sG σ))])), (zM, .inr (4, [.int (nI (sM σ)), .ref zS, .ref zT, .ref zD])), (zS, .inl (cI, 90, .inl (rTs σ))), (zT, .inl (cI, 90, .inl (rTn σ))), (zD, .inl (cI, 30, .inl (rRd σ))), (zB, .inr (0, [.int (nI (sF σ)), .int (nI (2 ^ sF σ)), .ref zK, .ref zW, .int (nI (sN σ)), .int (sR σ), .int (orE (rEr σ) (sN σ)), .ref zU, .ref zV, .ref zR, .ref zE])), (zK, .inl (cZ, 128, .inl kI)), (zC, .inr (1, [.int (nI (sC σ)), .ref zQ, .ref zP, .ref zN])), (zQ, .inl (cI, 12, .inl (rCk σ))), (zP, .inl (cI, 12, .inl (rCr σ))), (zN, .inl (cI, 12, .inl (rCn σ))), (zL, .inr (3, [.ref zB, .ref zLo])), (zLo, .inl (cI, 128, .inl lo)), (zF, .inr (3, [.ref zB, .ref zFo])), (zFo, .inl (cI, 128, .inl lf2)), (zR, .inl (cI, 12, .inl (rRu σ))), (zU, .inl (cI, 12, .inl (rMu σ))), (zV, .inl (cI, 12, .inl (rMn σ))), (zE, .inl (cI, 12, .inl (rEr σ)))]) [0, 1, 2, 3, 4, 15, 5, 6, 7, 8, 9, 10, 11, 13, 14, 12, 16, 17, 18] rfl
          have hD9 := hD.sub (ws' := [(zX, .inr (5, [.ref zB, .ref zL, .ref zF, .ref zM, .ref zC, .ref zG, .ref zJ, .int (nI (sG σ))])), (zM, .inr (4, [.int (nI (sM σ)), .ref zS, .ref zT, .ref zD])), (zS, .inl (cI, 90, .inl (rTs σ))), (zT, .inl (cI, 90, .inl (rTn σ))), (zD, .inl (cI, 30, .inl (rRd σ))), (zB, .inr (0, [.int (nI (sF σ)), .int (nI (2 ^ sF σ)), .ref zK, .ref zW, .int (nI (sN σ)), .int (sR σ), .int (orE (rEr σ) (sN σ)), .ref zU, .ref zV, .ref zR, .ref zE])), (zK, .inl (cZ, 128, .inl kI)), (zC, .inr (1, [.int (nI (sC σ)), .ref zQ, .ref zP, .ref zN])), (zQ, .inl (cI, 12, .inl (rCk σ))), (zP, .inl (cI, 12, .inl (rCr σ))), (zN, .inl (cI, 12, .inl (rCn σ))), (zL, .inr (3, [.ref zB, .ref zLo])), (zLo, .inl (cI, 128, .inl lo)), (zF, .inr (3, [.ref zB, .ref zFo])), (zFo, .inl (cI, 128, .inl lf2)), (zR, .inl (cI, 12, .inl (rRu σ))), (zU, .inl (cI, 12, .inl (rMu σ))), (zV, .inl (cI, 12, .inl (rMn σ))), (zE, .inl (cI, 12, .inl (rEr σ)))]) [0, 1, 2, 3, 4, 15, 5, 6, 7, 8, 9, 10, 11, 13, 14, 12, 16, 17, 18] (by decide) rfl
          exact W.iret (v := nI (tkN σ (sR σ) (sR σ ^^^ nI (2 ^ q)))) hx hb hr (fun t ht hW => ⟨⟨nI (tkN σ (sR σ) (sR σ ^^^ nI (2 ^ q))), lf2, rfl, (by rw [oMend, if_neg (by rw [c8]; decide), if_neg (by rw [cW]; decide), if_pos c41, flS, kq]), ⟨⟨by rw [ht]; exact hP9, va_K.moved hW.alike hK, NW.warm hW hN⟩, hD9⟩⟩, hS.F ht⟩) hS.2.2 dX5_mend_48
      · skip
        have c19 := Int32.not_le.mp c19
        have cW : inI w 0 2 = false := by simp only [inI, decide_eq_false c14, decide_eq_true c19]; rfl
        refine lv_bipush (v := (-2)) hx hb dX5_mend_22 (by decide) ?_
        have hP9 := hP
        have hD9 := hD
        exact W.iret (v := (-2)) hx hb hr (fun t ht hW => ⟨⟨(-2), lf, rfl, (by rw [oMend, if_neg (by rw [c8]; decide), if_pos cW]), ⟨⟨by rw [ht]; exact hP9, va_K.moved hW.alike hK, NW.warm hW hN⟩, hD9⟩⟩, hS.F ht⟩) hS.2.2 dX5_mend_24
  · skip
    have c8 := b2_0 c8
    refine lv_iconst (v := (-1)) hx hb dX5_mend_11 (by decide) ?_
    have hP9 := hP
    have hD9 := hD
    exact W.iret (v := (-1)) hx hb hr (fun t ht hW => ⟨⟨(-1), lf, rfl, (by rw [oMend, if_pos c8]), ⟨⟨by rw [ht]; exact hP9, va_K.moved hW.alike hK, NW.warm hW hN⟩, hD9⟩⟩, hS.F ht⟩) hS.2.2 dX5_mend_12
