set_option maxHeartbeats 4000000 in
set_option maxRecDepth 100000 in
theorem c_X5_verdictUnder (l : Launch) (D : va_G) (cI cZ : ClassId) (zX : Nat) (zB : Nat) (zL : Nat) (zF : Nat) (zM : Nat) (zC : Nat) (zG : Nat) (zJ : Nat) (zK : Nat) (zW : Nat) (zU : Nat) (zV : Nat) (zR : Nat) (zE : Nat) (zS : Nat) (zT : Nat) (zD : Nat) (zQ : Nat) (zP : Nat) (zN : Nat) (σ : ST) (kI : Nat → Int32) (rp : Int32) (zU1 : Nat) (zU2 : Nat) (lu : Nat → Int32) (m0 : Nat) (hok : Ok σ) (hm : m0 < sM σ) (hkI : ∀ k, k < 2 ^ sF σ → kI k = b2 (kok σ k)) (hlu : ∀ k, k < 2 ^ sF σ → lu k = lawI σ rp k) : Met l yX5_verdictUnder wsX5_verdictUnder ({ frames := 3, cells := 0, slots := 0, locals := 67 }) (va_Pc [.ref zX, .ref zU1, .int (nI m0)] (XP D cI cZ [(zX, .inr (5, [.ref zB, .ref zL, .ref zF, .ref zM, .ref zC, .ref zG, .ref zJ, .int (nI (sG σ))])), (zM, .inr (4, [.int (nI (sM σ)), .ref zS, .ref zT, .ref zD])), (zS, .inl (cI, 90, .inl (rTs σ))), (zT, .inl (cI, 90, .inl (rTn σ))), (zD, .inl (cI, 30, .inl (rRd σ))), (zB, .inr (0, [.int (nI (sF σ)), .int (nI (2 ^ sF σ)), .ref zK, .ref zW, .int (nI (sN σ)), .int (sR σ), .int (orE (rEr σ) (sN σ)), .ref zU, .ref zV, .ref zR, .ref zE])), (zK, .inl (cZ, 128, .inl kI)), (zC, .inr (1, [.int (nI (sC σ)), .ref zQ, .ref zP, .ref zN])), (zQ, .inl (cI, 12, .inl (rCk σ))), (zP, .inl (cI, 12, .inl (rCr σ))), (zN, .inl (cI, 12, .inl (rCn σ))), (zU1, .inr (3, [.ref zB, .ref zU2])), (zU2, .inl (cI, 128, .inl lu)), (zR, .inl (cI, 12, .inl (rRu σ)))])) (vp_Si (fun r => r = verI σ rp m0)) 0 0 (fun _ => False) := by
  refine Met.ofW (cc := cX5_verdictUnder) (maxL := 6) (ret := (some .int)) (by decide) rfl ?_
  intro p e s m args below meth c s₁ B hml hv
  obtain ⟨rfl, hP, hK, hN⟩ := hv
  have hx := B.exec
  have hb := B.bytes
  have hr := B.returns
  have hts := atoms_spec (ws := wsX5_verdictUnder) B.pre
  have hown : s.vm.findClass RX5 = some m.cls := findClass_of_methodNamed B.named
  have hlocks := B.notSynchronized
  have ho := hok.1
  have hk2 := hok.k
  have hf31 := hts (.fieldLink RX5 31 "BallCourt" "played" "LBallCourt$Moments;") (List.mem_of_getElem? (i := 1) (by decide +kernel))
  have hiX5 : ∀ w ∈ wsX50, w ∈ wsX5_verdictUnder := fun w h => List.mem_cons_of_mem _ (List.mem_append_left _ (List.mem_append_left _ (List.mem_append_left _ (List.mem_append_left _ (List.mem_append_right _ h)))))
  have hiX4 : ∀ w ∈ wsX40, w ∈ wsX5_verdictUnder := fun w h => List.mem_cons_of_mem _ (List.mem_append_left _ (List.mem_append_left _ (List.mem_append_left _ (List.mem_append_right _ h))))
  have hf10 := hts (.fieldLink RX5 10 "BallCourt" "book" "LBallCourt$Book;") (List.mem_of_getElem? (i := 2) (by decide +kernel))
  have hf38 := hts (.fieldLink RX5 38 "BallCourt" "cases" "LBallCourt$Cases;") (List.mem_of_getElem? (i := 3) (by decide +kernel))
  have hiX1 : ∀ w ∈ wsX10, w ∈ wsX5_verdictUnder := fun w h => List.mem_cons_of_mem _ (List.mem_append_left _ (List.mem_append_left _ (List.mem_append_right _ h)))
  have hl := lv_entry ([.ref zX, .ref zU1, .int (nI m0)]) (n := 6) (Nat.le_of_ble_eq_true rfl)
  rw [lg_entry_eq]
  generalize (lg_sl ([.ref zX, .ref zU1, .int (nI m0)]) ++ List.replicate (6 - (lg_sl ([.ref zX, .ref zU1, .int (nI m0)])).length) Slot.unset).toArray = ls at hl ⊢
  have hl : lv_has ls 6 [(0, .ref zX), (1, .ref zU1), (2, .int (nI m0))] := hl
  refine lv_aload_n hx hb dX5_verdictUnder_0 rfl (lv_at hl 0 rfl) ?_
  refine va_get (D := D) (ci := 5) (v := .ref zM) (C := RX5) (T := TX5) (N := 8) hx hb hts hiX5 hown hK hP 0 rfl rfl 3 (by decide) hf31 (fun _ h9 => h9) rfl dX5_verdictUnder_1 ?_
  refine va_getN (D := D) (ci := 4) (v := .ref zD) (C := RX4) (T := TX4) (N := 4) hx hb hts hiX4 hown hK hP 1 rfl rfl 3 (by decide) (NW.f hN 11 rfl _) (fun _ h9 => h9) rfl dX5_verdictUnder_4 ?_
  refine lv_iload_n hx hb dX5_verdictUnder_7 rfl (lv_at hl 2 rfl) ?_
  refine xald (k := m0) hx hb hK hP 4 rfl (by omega) (by decide) dX5_verdictUnder_8 ?_
  refine lv_iconst (v := (-1)) hx hb dX5_verdictUnder_9 (by decide) ?_
  refine lv_icmp_eq (tgt := 23) hx hb dX5_verdictUnder_10 (by decide) (fun c10 => ?_) (fun c10 => ?_)
  · skip
    refine lv_aload_n hx hb dX5_verdictUnder_23 rfl (lv_at hl 0 rfl) ?_
    refine va_get (D := D) (ci := 5) (v := .ref zM) (C := RX5) (T := TX5) (N := 8) hx hb hts hiX5 hown hK hP 0 rfl rfl 3 (by decide) hf31 (fun _ h9 => h9) rfl dX5_verdictUnder_24 ?_
    refine lv_iload_n hx hb dX5_verdictUnder_27 rfl (lv_at hl 2 rfl) ?_
    refine xpV (rest := []) ⟨hx, hb, hml, hown, hts⟩ (c_X4_knownSo l D cI cZ zM zS zT zD σ m0 (by omega)) (cwV 1 hts gX5_verdictUnder_X4_knownSo rfl rfl rfl (by decide +kernel) ⟨Nat.le_of_ble_eq_true rfl, Nat.le_of_ble_eq_true rfl⟩) hP [1, 2, 3] rfl hK hN (ci := 4) (q0 := 1) rfl rfl rfl hl.1 rfl (Nat.le_of_ble_eq_true rfl) dX5_verdictUnder_28 ⟨Nat.zero_le _, Nat.zero_le _⟩ (fun r28 e28 => ?_)
    subst e28
    refine lv_istore_n (lv' := [(3, .int (soI σ m0)), (0, .ref zX), (1, .ref zU1), (2, .int (nI m0))]) hx hb dX5_verdictUnder_31 rfl hl (by decide) rfl (fun ls hl => ?_)
    refine lv_aload_n hx hb dX5_verdictUnder_32 rfl (lv_at hl 1 rfl) ?_
    refine va_get (D := D) (ci := 5) (v := .ref zM) (C := RX5) (T := TX5) (N := 8) hx hb hts hiX5 hown hK hP 0 rfl rfl 3 (by decide) hf31 (fun _ h9 => h9) rfl dX5_verdictUnder_33 ?_
    refine lv_iload_n hx hb dX5_verdictUnder_36 rfl (lv_at hl 3 rfl) ?_
    refine xpV (rest := []) ⟨hx, hb, hml, hown, hts⟩ (c_X4_knownNotSo l D cI cZ zM zS zT zD σ m0 (by omega)) (cwV 1 hts gX5_verdictUnder_X4_knownNotSo rfl rfl rfl (by decide +kernel) ⟨Nat.le_of_ble_eq_true rfl, Nat.le_of_ble_eq_true rfl⟩) hP [1, 2, 3] rfl hK hN (ci := 4) (q0 := 1) rfl rfl rfl hl.1 rfl (Nat.le_of_ble_eq_true rfl) dX5_verdictUnder_37 ⟨Nat.zero_le _, Nat.zero_le _⟩ (fun r37 e37 => ?_)
    subst e37
    refine lv_istore (lv' := [(4, .int (nsI σ m0)), (3, .int (soI σ m0)), (0, .ref zX), (1, .ref zU1), (2, .int (nI m0))]) hx hb dX5_verdictUnder_40 hl (by decide) rfl (fun ls hl => ?_)
    refine lv_aload_n hx hb dX5_verdictUnder_42 rfl (lv_at hl 2 rfl) ?_
    refine va_get (D := D) (ci := 5) (v := .ref zB) (C := RX5) (T := TX5) (N := 8) hx hb hts hiX5 hown hK hP 0 rfl rfl 0 (by decide) hf10 (fun _ h9 => h9) rfl dX5_verdictUnder_43 ?_
    refine lv_iload_n hx hb dX5_verdictUnder_46 rfl (lv_at hl 1 rfl) ?_
    refine lv_iload hx hb dX5_verdictUnder_47 (lv_at hl 0 rfl) ?_
    refine xpV (rest := []) ⟨hx, hb, hml, hown, hts⟩ (c_X0_countMayBe l D cI cZ zB zK zW zU zV zR zE σ kI (soI σ m0) (nsI σ m0) hok hkI) (cwV 2 hts gX5_verdictUnder_X0_countMayBe rfl rfl rfl (by decide +kernel) ⟨Nat.le_of_ble_eq_true rfl, Nat.le_of_ble_eq_true rfl⟩) hP [5, 6] rfl hK hN (ci := 0) (q0 := 5) rfl rfl rfl hl.1 rfl (Nat.le_of_ble_eq_true rfl) dX5_verdictUnder_49 ⟨Nat.zero_le _, Nat.zero_le _⟩ (fun r49 e49 => ?_)
    subst e49
    refine lv_if_ne (tgt := 57) hx hb dX5_verdictUnder_52 (by decide) (fun c52 => ?_) (fun c52 => ?_)
    · skip
      have c52 : ¬ cmb σ (soI σ m0) (nsI σ m0) = 0 := fun z => c52 (by rw [z]; rfl)
      refine lv_aload_n hx hb dX5_verdictUnder_57 rfl (lv_at hl 2 rfl) ?_
      refine va_get (D := D) (ci := 5) (v := .ref zC) (C := RX5) (T := TX5) (N := 8) hx hb hts hiX5 hown hK hP 0 rfl rfl 4 (by decide) hf38 (fun _ h9 => h9) rfl dX5_verdictUnder_58 ?_
      refine lv_iload_n hx hb dX5_verdictUnder_61 rfl (lv_at hl 1 rfl) ?_
      refine lv_iload hx hb dX5_verdictUnder_62 (lv_at hl 0 rfl) ?_
      refine xpV (rest := []) ⟨hx, hb, hml, hown, hts⟩ (c_X1_firstThatBinds l D cI cZ zC zQ zP zN σ (soI σ m0) (nsI σ m0) hok) (cwV 2 hts gX5_verdictUnder_X1_firstThatBinds rfl rfl rfl (by decide +kernel) ⟨Nat.le_of_ble_eq_true rfl, Nat.le_of_ble_eq_true rfl⟩) hP [7, 8, 10] rfl hK hN (ci := 1) (q0 := 7) rfl rfl rfl hl.1 rfl (Nat.le_of_ble_eq_true rfl) dX5_verdictUnder_64 ⟨Nat.zero_le _, Nat.zero_le _⟩ (fun r64 e64 => ?_)
      subst e64
      refine lv_istore (lv' := [(5, .int (bnI σ (soI σ m0) (nsI σ m0))), (4, .int (nsI σ m0)), (3, .int (soI σ m0)), (0, .ref zX), (1, .ref zU1), (2, .int (nI m0))]) hx hb dX5_verdictUnder_67 hl (by decide) rfl (fun ls hl => ?_)
      refine lv_iload hx hb dX5_verdictUnder_69 (lv_at hl 0 rfl) ?_
      refine lv_bipush (v := (-6)) hx hb dX5_verdictUnder_71 (by decide) ?_
      refine lv_icmp_eq (tgt := 87) hx hb dX5_verdictUnder_73 (by decide) (fun c73 => ?_) (fun c73 => ?_)
      · skip
        have c73 := (bnI_6 (by omega)).mp c73
        refine lv_aload_n hx hb dX5_verdictUnder_87 rfl (lv_at hl 4 rfl) ?_
        refine lv_iload_n hx hb dX5_verdictUnder_88 rfl (lv_at hl 2 rfl) ?_
        refine lv_iload hx hb dX5_verdictUnder_89 (lv_at hl 1 rfl) ?_
        refine xpV (rest := []) ⟨hx, hb, hml, hown, hts⟩ (c_X3_rulingForAll l D cI cZ zB zU1 zK zW zU zV zR zE zU2 σ kI lu rp (soI σ m0) (nsI σ m0) hok hkI hlu) (cwV 2 hts gX5_verdictUnder_X3_rulingForAll rfl rfl rfl (by decide +kernel) ⟨Nat.le_of_ble_eq_true rfl, Nat.le_of_ble_eq_true rfl⟩) hP [11, 12, 5, 6, 13] rfl hK hN (ci := 3) (q0 := 11) rfl rfl rfl hl.1 rfl (Nat.le_of_ble_eq_true rfl) dX5_verdictUnder_91 ⟨Nat.zero_le _, Nat.zero_le _⟩ (fun r91 e91 => ?_)
        subst e91
        exact W.iret (v := rfaI σ rp (soI σ m0) (nsI σ m0)) hx hb hr (fun t ht hW => ⟨_, rfl, by rw [verI, if_neg (fun z => z c10), if_neg c52, if_neg c73], ht⟩) (fun _ h => absurd h List.not_mem_nil) dX5_verdictUnder_94
      · skip
        have c73 : bnN σ (soI σ m0) (nsI σ m0) < sC σ := Classical.byContradiction (fun z => c73 ((bnI_6 (by omega)).mpr z))
        have hl : lv_has ls 6 [(5, .int (nI (bnN σ (soI σ m0) (nsI σ m0)))), (4, .int (nsI σ m0)), (3, .int (soI σ m0)), (0, .ref zX), (1, .ref zU1), (2, .int (nI m0))] := by rw [← (show bnI σ (soI σ m0) (nsI σ m0) = nI (bnN σ (soI σ m0) (nsI σ m0)) from (by rw [bnI, if_pos c73]))]; exact hl
        refine lv_aload_n hx hb dX5_verdictUnder_76 rfl (lv_at hl 3 rfl) ?_
        refine va_get (D := D) (ci := 5) (v := .ref zC) (C := RX5) (T := TX5) (N := 8) hx hb hts hiX5 hown hK hP 0 rfl rfl 4 (by decide) hf38 (fun _ h9 => h9) rfl dX5_verdictUnder_77 ?_
        refine va_getN (D := D) (ci := 1) (v := .ref zP) (C := RX1) (T := TX1) (N := 4) hx hb hts hiX1 hown hK hP 7 rfl rfl 2 (by decide) (NW.f hN 13 rfl _) (fun _ h9 => h9) rfl dX5_verdictUnder_80 ?_
        refine lv_iload hx hb dX5_verdictUnder_83 (lv_at hl 0 rfl) ?_
        refine xald (k := (bnN σ (soI σ m0) (nsI σ m0))) hx hb hK hP 9 rfl (by omega) (by decide) dX5_verdictUnder_85 ?_
        exact W.iret (v := rCr σ (bnN σ (soI σ m0) (nsI σ m0))) hx hb hr (fun t ht hW => ⟨_, rfl, by rw [verI, if_neg (fun z => z c10), if_neg c52, if_pos c73], ht⟩) (fun _ h => absurd h List.not_mem_nil) dX5_verdictUnder_86
    · skip
      have c52 : cmb σ (soI σ m0) (nsI σ m0) = 0 := (nI_eq (by have := cmb_le hok (soI σ m0) (nsI σ m0); omega) (by omega)).mp c52
      refine lv_iconst (v := 0) hx hb dX5_verdictUnder_55 (by decide) ?_
      exact W.iret (v := 0) hx hb hr (fun t ht hW => ⟨_, rfl, by rw [verI, if_neg (fun z => z c10), if_pos c52], ht⟩) (fun _ h => absurd h List.not_mem_nil) dX5_verdictUnder_56
  · skip
    refine lv_aload_n hx hb dX5_verdictUnder_13 rfl (lv_at hl 0 rfl) ?_
    refine va_get (D := D) (ci := 5) (v := .ref zM) (C := RX5) (T := TX5) (N := 8) hx hb hts hiX5 hown hK hP 0 rfl rfl 3 (by decide) hf31 (fun _ h9 => h9) rfl dX5_verdictUnder_14 ?_
    refine va_getN (D := D) (ci := 4) (v := .ref zD) (C := RX4) (T := TX4) (N := 4) hx hb hts hiX4 hown hK hP 1 rfl rfl 3 (by decide) (NW.f hN 11 rfl _) (fun _ h9 => h9) rfl dX5_verdictUnder_17 ?_
    refine lv_iload_n hx hb dX5_verdictUnder_20 rfl (lv_at hl 2 rfl) ?_
    refine xald (k := m0) hx hb hK hP 4 rfl (by omega) (by decide) dX5_verdictUnder_21 ?_
    exact W.iret (v := rRd σ m0) hx hb hr (fun t ht hW => ⟨_, rfl, by rw [verI, if_pos c10], ht⟩) (fun _ h => absurd h List.not_mem_nil) dX5_verdictUnder_22

set_option maxHeartbeats 4000000 in
set_option maxRecDepth 100000 in
theorem c_X5_coveredKinds (l : Launch) (D : va_G) (cI cZ : ClassId) (zX : Nat) (zB : Nat) (zL : Nat) (zF : Nat) (zM : Nat) (zC : Nat) (zG : Nat) (zJ : Nat) (zK : Nat) (zW : Nat) (zU : Nat) (zV : Nat) (zR : Nat) (zE : Nat) (zLo : Nat) (σ : ST) (kI : Nat → Int32) (lo : Nat → Int32) (hok : Ok σ) (hkI : ∀ k, k < 2 ^ sF σ → kI k = b2 (kok σ k)) (hlo : ∀ k, k < 2 ^ sF σ → lo k = lawI σ (sR σ) k) : Met l yX5_coveredKinds wsX5_coveredKinds ({ frames := 1, cells := 0, slots := 0, locals := 21 }) (va_Pc [.ref zX] (XP D cI cZ [(zX, .inr (5, [.ref zB, .ref zL, .ref zF, .ref zM, .ref zC, .ref zG, .ref zJ, .int (nI (sG σ))])), (zB, .inr (0, [.int (nI (sF σ)), .int (nI (2 ^ sF σ)), .ref zK, .ref zW, .int (nI (sN σ)), .int (sR σ), .int (orE (rEr σ) (sN σ)), .ref zU, .ref zV, .ref zR, .ref zE])), (zK, .inl (cZ, 128, .inl kI)), (zL, .inr (3, [.ref zB, .ref zLo])), (zLo, .inl (cI, 128, .inl lo))])) (vp_Si (fun r => r = nI (cvN σ))) 0 0 (fun _ => False) := by
  refine Met.ofW (cc := cX5_coveredKinds) (maxL := 3) (ret := (some .int)) (by decide) rfl ?_
  intro p e s m args below meth c s₁ B hml hv
  obtain ⟨rfl, hP, hK, hN⟩ := hv
  have hx := B.exec
  have hb := B.bytes
  have hr := B.returns
  have hts := atoms_spec (ws := wsX5_coveredKinds) B.pre
  have hown : s.vm.findClass RX5 = some m.cls := findClass_of_methodNamed B.named
  have hlocks := B.notSynchronized
  have ho := hok.1
  have hk2 := hok.k
  have hf10 := hts (.fieldLink RX5 10 "BallCourt" "book" "LBallCourt$Book;") (List.mem_of_getElem? (i := 1) (by decide +kernel))
  have hiX5 : ∀ w ∈ wsX50, w ∈ wsX5_coveredKinds := fun w h => List.mem_cons_of_mem _ (List.mem_append_left _ (List.mem_append_left _ (List.mem_append_right _ h)))
  have hiX0 : ∀ w ∈ wsX00, w ∈ wsX5_coveredKinds := fun w h => List.mem_cons_of_mem _ (List.mem_append_left _ (List.mem_append_right _ h))
  have hf21 := hts (.fieldLink RX5 21 "BallCourt" "laws" "LBallCourt$Laws;") (List.mem_of_getElem? (i := 2) (by decide +kernel))
  have hl := lv_entry ([.ref zX]) (n := 3) (Nat.le_of_ble_eq_true rfl)
  rw [lg_entry_eq]
  generalize (lg_sl ([.ref zX]) ++ List.replicate (3 - (lg_sl ([.ref zX])).length) Slot.unset).toArray = ls at hl ⊢
  have hl : lv_has ls 3 [(0, .ref zX)] := hl
  refine lv_iconst (v := nI 0) hx hb dX5_coveredKinds_0 (by decide) ?_
  refine lv_istore_n (lv' := [(1, .int (nI 0)), (0, .ref zX)]) hx hb dX5_coveredKinds_1 rfl hl (by decide) rfl (fun ls hl => ?_)
  refine lv_iconst (v := nI 0) hx hb dX5_coveredKinds_2 (by decide) ?_
  refine lv_istore_n (lv' := [(2, .int (nI 0)), (1, .int (nI 0)), (0, .ref zX)]) hx hb dX5_coveredKinds_3 rfl hl (by decide) rfl (fun ls hl => ?_)
  refine wloop (α := Nat) (fun v => 2 ^ sF σ - v) (fun v => [(0, .ref zX), (1, .int (nI (cnt (cvq σ) v))), (2, .int (nI v))]) (fun v => (v ≤ 2 ^ sF σ)) 3 (fun v hv ih4 ls hl => ?_) 0 (show 0 ≤ 2 ^ sF σ from Nat.zero_le _) ls (lv_sub hl [2, 1, 0] rfl)
  obtain ⟨k, rfl⟩ : ∃ z : Nat, z = v := ⟨_, rfl⟩
  have hk : k ≤ 2 ^ sF σ := hv
  have hl : lv_has ls 3 [(0, .ref zX), (1, .int (nI (cnt (cvq σ) k))), (2, .int (nI k))] := hl
  refine lv_iload_n hx hb dX5_coveredKinds_4 rfl (lv_at hl 2 rfl) ?_
  refine lv_aload_n hx hb dX5_coveredKinds_5 rfl (lv_at hl 0 rfl) ?_
  refine va_get (D := D) (ci := 5) (v := .ref zB) (C := RX5) (T := TX5) (N := 8) hx hb hts hiX5 hown hK hP 0 rfl rfl 0 (by decide) hf10 (fun _ h9 => h9) rfl dX5_coveredKinds_6 ?_
  refine va_getN (D := D) (ci := 0) (v := .int (nI (2 ^ sF σ))) (C := RX0) (T := TX0) (N := 11) hx hb hts hiX0 hown hK hP 1 rfl rfl 1 (by decide) (NW.f hN 10 rfl _) (fun _ h9 => h9) rfl dX5_coveredKinds_9 ?_
  refine lv_icmp_ge (tgt := 46) hx hb dX5_coveredKinds_12 (by decide) (fun c12 => ?_) (fun c12 => ?_)
  · skip
    have c12 := (nI_leI (by omega) (by omega)).mp c12
    refine lv_iload_n hx hb dX5_coveredKinds_46 rfl (lv_at hl 1 rfl) ?_
    exact W.iret (v := nI (cnt (cvq σ) k)) hx hb hr (fun t ht hW => ⟨_, rfl, by rw [show k = 2 ^ sF σ by omega]; rfl, ht⟩) (fun _ h => absurd h List.not_mem_nil) dX5_coveredKinds_47
  · skip
    have c12 := Nat.lt_of_not_le (fun z => c12 ((nI_leI (by omega) (by omega)).mpr z))
    refine lv_aload_n hx hb dX5_coveredKinds_15 rfl (lv_at hl 0 rfl) ?_
    refine va_get (D := D) (ci := 5) (v := .ref zB) (C := RX5) (T := TX5) (N := 8) hx hb hts hiX5 hown hK hP 0 rfl rfl 0 (by decide) hf10 (fun _ h9 => h9) rfl dX5_coveredKinds_16 ?_
    refine lv_iload_n hx hb dX5_coveredKinds_19 rfl (lv_at hl 2 rfl) ?_
    refine xpV (rest := []) ⟨hx, hb, hml, hown, hts⟩ (c_X0_hasKind l D cI cZ zB zK zW zU zV zR zE σ kI (nI k) hok hkI) (cwV 1 hts gX5_coveredKinds_X0_hasKind rfl rfl rfl (by decide +kernel) ⟨Nat.le_of_ble_eq_true rfl, Nat.le_of_ble_eq_true rfl⟩) hP [1, 2] rfl hK hN (ci := 0) (q0 := 1) rfl rfl rfl hl.1 rfl (Nat.le_of_ble_eq_true rfl) dX5_coveredKinds_20 ⟨Nat.zero_le _, Nat.zero_le _⟩ (fun r20 e20 => ?_)
    subst e20
    refine lv_asi (show b2 (kin σ (nI k)) = b2 (kok σ k) from congrArg b2 (kin_nI c12 (by omega))) ?_
    refine lv_if_eq (tgt := 40) hx hb dX5_coveredKinds_23 (by decide) (fun c23 => ?_) (fun c23 => ?_)
    · skip
      have c23 := b2_0 c23
      have hl : lv_has ls 3 [(0, .ref zX), (1, .int (nI (cnt (cvq σ) (k + 1)))), (2, .int (nI k))] := by rw [← (show nI (cnt (cvq σ) k) = nI (cnt (cvq σ) (k + 1)) from congrArg nI (cnt_n (by simp [cvq, c23])))]; exact hl
      refine lv_iinc (k := 2) (x := nI k) (v := nI (k + 1)) (lv' := [(2, .int (nI (k + 1))), (0, .ref zX), (1, .int (nI (cnt (cvq σ) (k + 1))))]) hx hb dX5_coveredKinds_40 hl rfl (show (nI k) + Int32.ofInt 1 = nI (k + 1) from nI_1 _) (by decide) rfl (fun ls hl => ?_)
      refine lv_goto (tgt := 4) hx hb dX5_coveredKinds_43 (by decide) ?_
      exact ih4 (k + 1) (show (k + 1) ≤ 2 ^ sF σ from (by omega)) (by show 2 ^ sF σ - (k + 1) < 2 ^ sF σ - k; omega) ls (lv_sub hl [1, 2, 0] rfl)
    · skip
      have c23 := b2_1 c23
      refine lv_aload_n hx hb dX5_coveredKinds_26 rfl (lv_at hl 0 rfl) ?_
      refine va_get (D := D) (ci := 5) (v := .ref zL) (C := RX5) (T := TX5) (N := 8) hx hb hts hiX5 hown hK hP 0 rfl rfl 1 (by decide) hf21 (fun _ h9 => h9) rfl dX5_coveredKinds_27 ?_
      refine lv_iload_n hx hb dX5_coveredKinds_30 rfl (lv_at hl 2 rfl) ?_
      refine xpV (rest := []) ⟨hx, hb, hml, hown, hts⟩ (c_X3_covers l D cI cZ zB zL zLo σ lo (sR σ) k hok c12 hlo) (cwV 1 hts gX5_coveredKinds_X3_covers rfl rfl rfl (by decide +kernel) ⟨Nat.le_of_ble_eq_true rfl, Nat.le_of_ble_eq_true rfl⟩) hP [3, 4] rfl hK hN (ci := 3) (q0 := 3) rfl rfl rfl hl.1 rfl (Nat.le_of_ble_eq_true rfl) dX5_coveredKinds_31 ⟨Nat.zero_le _, Nat.zero_le _⟩ (fun r31 e31 => ?_)
      subst e31
      refine lv_if_eq (tgt := 40) hx hb dX5_coveredKinds_34 (by decide) (fun c34 => ?_) (fun c34 => ?_)
      · skip
        have c34 := b2_0 c34
        have hl : lv_has ls 3 [(0, .ref zX), (1, .int (nI (cnt (cvq σ) (k + 1)))), (2, .int (nI k))] := by rw [← (show nI (cnt (cvq σ) k) = nI (cnt (cvq σ) (k + 1)) from congrArg nI (cnt_n (by simp [cvq, c34])))]; exact hl
        refine lv_iinc (k := 2) (x := nI k) (v := nI (k + 1)) (lv' := [(2, .int (nI (k + 1))), (0, .ref zX), (1, .int (nI (cnt (cvq σ) (k + 1))))]) hx hb dX5_coveredKinds_40 hl rfl (show (nI k) + Int32.ofInt 1 = nI (k + 1) from nI_1 _) (by decide) rfl (fun ls hl => ?_)
        refine lv_goto (tgt := 4) hx hb dX5_coveredKinds_43 (by decide) ?_
        exact ih4 (k + 1) (show (k + 1) ≤ 2 ^ sF σ from (by omega)) (by show 2 ^ sF σ - (k + 1) < 2 ^ sF σ - k; omega) ls (lv_sub hl [1, 2, 0] rfl)
      · skip
        have c34 := b2_1 c34
        refine lv_iinc (k := 1) (x := nI (cnt (cvq σ) k)) (v := nI (cnt (cvq σ) (k + 1))) (lv' := [(1, .int (nI (cnt (cvq σ) (k + 1)))), (0, .ref zX), (2, .int (nI k))]) hx hb dX5_coveredKinds_37 hl rfl (show (nI (cnt (cvq σ) k)) + Int32.ofInt 1 = nI (cnt (cvq σ) (k + 1)) from cnt_y (by simp [cvq, c23, c34])) (by decide) rfl (fun ls hl => ?_)
        refine lv_iinc (k := 2) (x := nI k) (v := nI (k + 1)) (lv' := [(2, .int (nI (k + 1))), (1, .int (nI (cnt (cvq σ) (k + 1)))), (0, .ref zX)]) hx hb dX5_coveredKinds_40 hl rfl (show (nI k) + Int32.ofInt 1 = nI (k + 1) from nI_1 _) (by decide) rfl (fun ls hl => ?_)
        refine lv_goto (tgt := 4) hx hb dX5_coveredKinds_43 (by decide) ?_
        exact ih4 (k + 1) (show (k + 1) ≤ 2 ^ sF σ from (by omega)) (by show 2 ^ sF σ - (k + 1) < 2 ^ sF σ - k; omega) ls (lv_sub hl [2, 1, 0] rfl)

set_option maxHeartbeats 4000000 in
set_option maxRecDepth 100000 in
theorem c_X5_turnedKinds (l : Launch) (D : va_G) (cI cZ : ClassId) (zX : Nat) (zB : Nat) (zL : Nat) (zF : Nat) (zM : Nat) (zC : Nat) (zG : Nat) (zJ : Nat) (zK : Nat) (zW : Nat) (zU : Nat) (zV : Nat) (zR : Nat) (zE : Nat) (zLo : Nat) (zFo : Nat) (σ : ST) (kI : Nat → Int32) (lo : Nat → Int32) (lf : Nat → Int32) (rq : Int32) (hok : Ok σ) (hkI : ∀ k, k < 2 ^ sF σ → kI k = b2 (kok σ k)) (hlo : ∀ k, k < 2 ^ sF σ → lo k = lawI σ (sR σ) k) (hlf : ∀ k, k < 2 ^ sF σ → lf k = lawI σ rq k) : Met l yX5_turnedKinds wsX5_turnedKinds ({ frames := 3, cells := 0, slots := 0, locals := 64 }) (va_Pc [.ref zX] (XP D cI cZ [(zX, .inr (5, [.ref zB, .ref zL, .ref zF, .ref zM, .ref zC, .ref zG, .ref zJ, .int (nI (sG σ))])), (zB, .inr (0, [.int (nI (sF σ)), .int (nI (2 ^ sF σ)), .ref zK, .ref zW, .int (nI (sN σ)), .int (sR σ), .int (orE (rEr σ) (sN σ)), .ref zU, .ref zV, .ref zR, .ref zE])), (zK, .inl (cZ, 128, .inl kI)), (zL, .inr (3, [.ref zB, .ref zLo])), (zLo, .inl (cI, 128, .inl lo)), (zF, .inr (3, [.ref zB, .ref zFo])), (zFo, .inl (cI, 128, .inl lf)), (zR, .inl (cI, 12, .inl (rRu σ)))])) (vp_Si (fun r => r = nI (tkN σ (sR σ) rq))) 0 0 (fun _ => False) := by
  refine Met.ofW (cc := cX5_turnedKinds) (maxL := 3) (ret := (some .int)) (by decide) rfl ?_
  intro p e s m args below meth c s₁ B hml hv
  obtain ⟨rfl, hP, hK, hN⟩ := hv
  have hx := B.exec
  have hb := B.bytes
  have hr := B.returns
  have hts := atoms_spec (ws := wsX5_turnedKinds) B.pre
  have hown : s.vm.findClass RX5 = some m.cls := findClass_of_methodNamed B.named
  have hlocks := B.notSynchronized
  have ho := hok.1
  have hk2 := hok.k
  have hf10 := hts (.fieldLink RX5 10 "BallCourt" "book" "LBallCourt$Book;") (List.mem_of_getElem? (i := 1) (by decide +kernel))
  have hiX5 : ∀ w ∈ wsX50, w ∈ wsX5_turnedKinds := fun w h => List.mem_cons_of_mem _ (List.mem_append_left _ (List.mem_append_left _ (List.mem_append_right _ h)))
  have hiX0 : ∀ w ∈ wsX00, w ∈ wsX5_turnedKinds := fun w h => List.mem_cons_of_mem _ (List.mem_append_left _ (List.mem_append_right _ h))
  have hf21 := hts (.fieldLink RX5 21 "BallCourt" "laws" "LBallCourt$Laws;") (List.mem_of_getElem? (i := 2) (by decide +kernel))
  have hf25 := hts (.fieldLink RX5 25 "BallCourt" "lawsIfMended" "LBallCourt$Laws;") (List.mem_of_getElem? (i := 3) (by decide +kernel))
  have hl := lv_entry ([.ref zX]) (n := 3) (Nat.le_of_ble_eq_true rfl)
  rw [lg_entry_eq]
  generalize (lg_sl ([.ref zX]) ++ List.replicate (3 - (lg_sl ([.ref zX])).length) Slot.unset).toArray = ls at hl ⊢
  have hl : lv_has ls 3 [(0, .ref zX)] := hl
  refine lv_iconst (v := nI 0) hx hb dX5_turnedKinds_0 (by decide) ?_
  refine lv_istore_n (lv' := [(1, .int (nI 0)), (0, .ref zX)]) hx hb dX5_turnedKinds_1 rfl hl (by decide) rfl (fun ls hl => ?_)
  refine lv_iconst (v := nI 0) hx hb dX5_turnedKinds_2 (by decide) ?_
  refine lv_istore_n (lv' := [(2, .int (nI 0)), (1, .int (nI 0)), (0, .ref zX)]) hx hb dX5_turnedKinds_3 rfl hl (by decide) rfl (fun ls hl => ?_)
  refine wloop (α := Nat) (fun v => 2 ^ sF σ - v) (fun v => [(0, .ref zX), (1, .int (nI (cnt (tkq σ (sR σ) rq) v))), (2, .int (nI v))]) (fun v => (v ≤ 2 ^ sF σ)) 3 (fun v hv ih4 ls hl => ?_) 0 (show 0 ≤ 2 ^ sF σ from Nat.zero_le _) ls (lv_sub hl [2, 1, 0] rfl)
  obtain ⟨k, rfl⟩ : ∃ z : Nat, z = v := ⟨_, rfl⟩
  have hk : k ≤ 2 ^ sF σ := hv
  have hl : lv_has ls 3 [(0, .ref zX), (1, .int (nI (cnt (tkq σ (sR σ) rq) k))), (2, .int (nI k))] := hl
  refine lv_iload_n hx hb dX5_turnedKinds_4 rfl (lv_at hl 2 rfl) ?_
  refine lv_aload_n hx hb dX5_turnedKinds_5 rfl (lv_at hl 0 rfl) ?_
  refine va_get (D := D) (ci := 5) (v := .ref zB) (C := RX5) (T := TX5) (N := 8) hx hb hts hiX5 hown hK hP 0 rfl rfl 0 (by decide) hf10 (fun _ h9 => h9) rfl dX5_turnedKinds_6 ?_
  refine va_getN (D := D) (ci := 0) (v := .int (nI (2 ^ sF σ))) (C := RX0) (T := TX0) (N := 11) hx hb hts hiX0 hown hK hP 1 rfl rfl 1 (by decide) (NW.f hN 10 rfl _) (fun _ h9 => h9) rfl dX5_turnedKinds_9 ?_
  refine lv_icmp_ge (tgt := 50) hx hb dX5_turnedKinds_12 (by decide) (fun c12 => ?_) (fun c12 => ?_)
  · skip
    have c12 := (nI_leI (by omega) (by omega)).mp c12
    refine lv_iload_n hx hb dX5_turnedKinds_50 rfl (lv_at hl 1 rfl) ?_
    exact W.iret (v := nI (cnt (tkq σ (sR σ) rq) k)) hx hb hr (fun t ht hW => ⟨_, rfl, by rw [show k = 2 ^ sF σ by omega]; rfl, ht⟩) (fun _ h => absurd h List.not_mem_nil) dX5_turnedKinds_51
  · skip
    have c12 := Nat.lt_of_not_le (fun z => c12 ((nI_leI (by omega) (by omega)).mpr z))
    refine lv_aload_n hx hb dX5_turnedKinds_15 rfl (lv_at hl 0 rfl) ?_
    refine va_get (D := D) (ci := 5) (v := .ref zB) (C := RX5) (T := TX5) (N := 8) hx hb hts hiX5 hown hK hP 0 rfl rfl 0 (by decide) hf10 (fun _ h9 => h9) rfl dX5_turnedKinds_16 ?_
    refine lv_iload_n hx hb dX5_turnedKinds_19 rfl (lv_at hl 2 rfl) ?_
    refine xpV (rest := []) ⟨hx, hb, hml, hown, hts⟩ (c_X0_hasKind l D cI cZ zB zK zW zU zV zR zE σ kI (nI k) hok hkI) (cwV 1 hts gX5_turnedKinds_X0_hasKind rfl rfl rfl (by decide +kernel) ⟨Nat.le_of_ble_eq_true rfl, Nat.le_of_ble_eq_true rfl⟩) hP [1, 2] rfl hK hN (ci := 0) (q0 := 1) rfl rfl rfl hl.1 rfl (Nat.le_of_ble_eq_true rfl) dX5_turnedKinds_20 ⟨Nat.zero_le _, Nat.zero_le _⟩ (fun r20 e20 => ?_)
    subst e20
    refine lv_asi (show b2 (kin σ (nI k)) = b2 (kok σ k) from congrArg b2 (kin_nI c12 (by omega))) ?_
    refine lv_if_eq (tgt := 44) hx hb dX5_turnedKinds_23 (by decide) (fun c23 => ?_) (fun c23 => ?_)
    · skip
      have c23 := b2_0 c23
      have hl : lv_has ls 3 [(0, .ref zX), (1, .int (nI (cnt (tkq σ (sR σ) rq) (k + 1)))), (2, .int (nI k))] := by rw [← (show nI (cnt (tkq σ (sR σ) rq) k) = nI (cnt (tkq σ (sR σ) rq) (k + 1)) from congrArg nI (cnt_n (by simp [tkq, c23])))]; exact hl
      refine lv_iinc (k := 2) (x := nI k) (v := nI (k + 1)) (lv' := [(2, .int (nI (k + 1))), (0, .ref zX), (1, .int (nI (cnt (tkq σ (sR σ) rq) (k + 1))))]) hx hb dX5_turnedKinds_44 hl rfl (show (nI k) + Int32.ofInt 1 = nI (k + 1) from nI_1 _) (by decide) rfl (fun ls hl => ?_)
      refine lv_goto (tgt := 4) hx hb dX5_turnedKinds_47 (by decide) ?_
      exact ih4 (k + 1) (show (k + 1) ≤ 2 ^ sF σ from (by omega)) (by show 2 ^ sF σ - (k + 1) < 2 ^ sF σ - k; omega) ls (lv_sub hl [1, 2, 0] rfl)
    · skip
      have c23 := b2_1 c23
      refine lv_aload_n hx hb dX5_turnedKinds_26 rfl (lv_at hl 0 rfl) ?_
      refine va_get (D := D) (ci := 5) (v := .ref zL) (C := RX5) (T := TX5) (N := 8) hx hb hts hiX5 hown hK hP 0 rfl rfl 1 (by decide) hf21 (fun _ h9 => h9) rfl dX5_turnedKinds_27 ?_
      refine lv_iload_n hx hb dX5_turnedKinds_30 rfl (lv_at hl 2 rfl) ?_
      refine lv_aload_n hx hb dX5_turnedKinds_31 rfl (lv_at hl 0 rfl) ?_
      refine va_get (D := D) (ci := 5) (v := .ref zF) (C := RX5) (T := TX5) (N := 8) hx hb hts hiX5 hown hK hP 0 rfl rfl 2 (by decide) hf25 (fun _ h9 => h9) rfl dX5_turnedKinds_32 ?_
      refine xpV (rest := []) ⟨hx, hb, hml, hown, hts⟩ (c_X3_differFor l D cI cZ zB zL zF zK zW zU zV zR zE zLo zFo σ lo lf (sR σ) k rq hok c12 hlo hlf) (cwV 2 hts gX5_turnedKinds_X3_differFor rfl rfl rfl (by decide +kernel) ⟨Nat.le_of_ble_eq_true rfl, Nat.le_of_ble_eq_true rfl⟩) hP [3, 4, 1, 7, 5, 6] rfl hK hN (ci := 3) (q0 := 3) rfl rfl rfl hl.1 rfl (Nat.le_of_ble_eq_true rfl) dX5_turnedKinds_35 ⟨Nat.zero_le _, Nat.zero_le _⟩ (fun r35 e35 => ?_)
      subst e35
      refine lv_if_eq (tgt := 44) hx hb dX5_turnedKinds_38 (by decide) (fun c38 => ?_) (fun c38 => ?_)
      · skip
        have c38 := b2_0 c38
        have hl : lv_has ls 3 [(0, .ref zX), (1, .int (nI (cnt (tkq σ (sR σ) rq) (k + 1)))), (2, .int (nI k))] := by rw [← (show nI (cnt (tkq σ (sR σ) rq) k) = nI (cnt (tkq σ (sR σ) rq) (k + 1)) from congrArg nI (cnt_n (by simp [tkq, c38])))]; exact hl
        refine lv_iinc (k := 2) (x := nI k) (v := nI (k + 1)) (lv' := [(2, .int (nI (k + 1))), (0, .ref zX), (1, .int (nI (cnt (tkq σ (sR σ) rq) (k + 1))))]) hx hb dX5_turnedKinds_44 hl rfl (show (nI k) + Int32.ofInt 1 = nI (k + 1) from nI_1 _) (by decide) rfl (fun ls hl => ?_)
        refine lv_goto (tgt := 4) hx hb dX5_turnedKinds_47 (by decide) ?_
        exact ih4 (k + 1) (show (k + 1) ≤ 2 ^ sF σ from (by omega)) (by show 2 ^ sF σ - (k + 1) < 2 ^ sF σ - k; omega) ls (lv_sub hl [1, 2, 0] rfl)
      · skip
        have c38 := b2_1 c38
        refine lv_iinc (k := 1) (x := nI (cnt (tkq σ (sR σ) rq) k)) (v := nI (cnt (tkq σ (sR σ) rq) (k + 1))) (lv' := [(1, .int (nI (cnt (tkq σ (sR σ) rq) (k + 1)))), (0, .ref zX), (2, .int (nI k))]) hx hb dX5_turnedKinds_41 hl rfl (show (nI (cnt (tkq σ (sR σ) rq) k)) + Int32.ofInt 1 = nI (cnt (tkq σ (sR σ) rq) (k + 1)) from cnt_y (by simp [tkq, c23, c38])) (by decide) rfl (fun ls hl => ?_)
        refine lv_iinc (k := 2) (x := nI k) (v := nI (k + 1)) (lv' := [(2, .int (nI (k + 1))), (1, .int (nI (cnt (tkq σ (sR σ) rq) (k + 1)))), (0, .ref zX)]) hx hb dX5_turnedKinds_44 hl rfl (show (nI k) + Int32.ofInt 1 = nI (k + 1) from nI_1 _) (by decide) rfl (fun ls hl => ?_)
        refine lv_goto (tgt := 4) hx hb dX5_turnedKinds_47 (by decide) ?_
        exact ih4 (k + 1) (show (k + 1) ≤ 2 ^ sF σ from (by omega)) (by show 2 ^ sF σ - (k + 1) < 2 ^ sF σ - k; omega) ls (lv_sub hl [2, 1, 0] rfl)

set_option maxHeartbeats 4000000 in
set_option maxRecDepth 100000 in
theorem c_X5_casesOfTurnedKinds (l : Launch) (D : va_G) (cI cZ : ClassId) (zX : Nat) (zB : Nat) (zL : Nat) (zF : Nat) (zM : Nat) (zC : Nat) (zG : Nat) (zJ : Nat) (zK : Nat) (zW : Nat) (zU : Nat) (zV : Nat) (zR : Nat) (zE : Nat) (zLo : Nat) (zFo : Nat) (zQ : Nat) (zP : Nat) (zN : Nat) (σ : ST) (lo : Nat → Int32) (lf : Nat → Int32) (rq : Int32) (hok : Ok σ) (hlo : ∀ k, k < 2 ^ sF σ → lo k = lawI σ (sR σ) k) (hlf : ∀ k, k < 2 ^ sF σ → lf k = lawI σ rq k) : Met l yX5_casesOfTurnedKinds wsX5_casesOfTurnedKinds ({ frames := 3, cells := 0, slots := 0, locals := 64 }) (va_Pc [.ref zX] (XP D cI cZ [(zX, .inr (5, [.ref zB, .ref zL, .ref zF, .ref zM, .ref zC, .ref zG, .ref zJ, .int (nI (sG σ))])), (zB, .inr (0, [.int (nI (sF σ)), .int (nI (2 ^ sF σ)), .ref zK, .ref zW, .int (nI (sN σ)), .int (sR σ), .int (orE (rEr σ) (sN σ)), .ref zU, .ref zV, .ref zR, .ref zE])), (zC, .inr (1, [.int (nI (sC σ)), .ref zQ, .ref zP, .ref zN])), (zQ, .inl (cI, 12, .inl (rCk σ))), (zL, .inr (3, [.ref zB, .ref zLo])), (zLo, .inl (cI, 128, .inl lo)), (zF, .inr (3, [.ref zB, .ref zFo])), (zFo, .inl (cI, 128, .inl lf)), (zR, .inl (cI, 12, .inl (rRu σ)))])) (vp_Si (fun r => r = nI (ctN σ (sR σ) rq))) 0 0 (fun _ => False) := by
  refine Met.ofW (cc := cX5_casesOfTurnedKinds) (maxL := 3) (ret := (some .int)) (by decide) rfl ?_
  intro p e s m args below meth c s₁ B hml hv
  obtain ⟨rfl, hP, hK, hN⟩ := hv
  have hx := B.exec
  have hb := B.bytes
  have hr := B.returns
  have hts := atoms_spec (ws := wsX5_casesOfTurnedKinds) B.pre
  have hown : s.vm.findClass RX5 = some m.cls := findClass_of_methodNamed B.named
  have hlocks := B.notSynchronized
  have ho := hok.1
  have hk2 := hok.k
  have hf38 := hts (.fieldLink RX5 38 "BallCourt" "cases" "LBallCourt$Cases;") (List.mem_of_getElem? (i := 1) (by decide +kernel))
  have hiX5 : ∀ w ∈ wsX50, w ∈ wsX5_casesOfTurnedKinds := fun w h => List.mem_cons_of_mem _ (List.mem_append_left _ (List.mem_append_left _ (List.mem_append_left _ (List.mem_append_right _ h))))
  have hiX1 : ∀ w ∈ wsX10, w ∈ wsX5_casesOfTurnedKinds := fun w h => List.mem_cons_of_mem _ (List.mem_append_left _ (List.mem_append_left _ (List.mem_append_right _ h)))
  have hf21 := hts (.fieldLink RX5 21 "BallCourt" "laws" "LBallCourt$Laws;") (List.mem_of_getElem? (i := 2) (by decide +kernel))
  have hf25 := hts (.fieldLink RX5 25 "BallCourt" "lawsIfMended" "LBallCourt$Laws;") (List.mem_of_getElem? (i := 3) (by decide +kernel))
  have hl := lv_entry ([.ref zX]) (n := 3) (Nat.le_of_ble_eq_true rfl)
  rw [lg_entry_eq]
  generalize (lg_sl ([.ref zX]) ++ List.replicate (3 - (lg_sl ([.ref zX])).length) Slot.unset).toArray = ls at hl ⊢
  have hl : lv_has ls 3 [(0, .ref zX)] := hl
  refine lv_iconst (v := nI 0) hx hb dX5_casesOfTurnedKinds_0 (by decide) ?_
  refine lv_istore_n (lv' := [(1, .int (nI 0)), (0, .ref zX)]) hx hb dX5_casesOfTurnedKinds_1 rfl hl (by decide) rfl (fun ls hl => ?_)
  refine lv_iconst (v := nI 0) hx hb dX5_casesOfTurnedKinds_2 (by decide) ?_
  refine lv_istore_n (lv' := [(2, .int (nI 0)), (1, .int (nI 0)), (0, .ref zX)]) hx hb dX5_casesOfTurnedKinds_3 rfl hl (by decide) rfl (fun ls hl => ?_)
  refine wloop (α := Nat) (fun v => sC σ - v) (fun v => [(0, .ref zX), (1, .int (nI (cnt (ctq σ (sR σ) rq) v))), (2, .int (nI v))]) (fun v => (v ≤ sC σ)) 3 (fun v hv ih4 ls hl => ?_) 0 (show 0 ≤ sC σ from Nat.zero_le _) ls (lv_sub hl [2, 1, 0] rfl)
  obtain ⟨k, rfl⟩ : ∃ z : Nat, z = v := ⟨_, rfl⟩
  have hk : k ≤ sC σ := hv
  have hl : lv_has ls 3 [(0, .ref zX), (1, .int (nI (cnt (ctq σ (sR σ) rq) k))), (2, .int (nI k))] := hl
  refine lv_iload_n hx hb dX5_casesOfTurnedKinds_4 rfl (lv_at hl 2 rfl) ?_
  refine lv_aload_n hx hb dX5_casesOfTurnedKinds_5 rfl (lv_at hl 0 rfl) ?_
  refine va_get (D := D) (ci := 5) (v := .ref zC) (C := RX5) (T := TX5) (N := 8) hx hb hts hiX5 hown hK hP 0 rfl rfl 4 (by decide) hf38 (fun _ h9 => h9) rfl dX5_casesOfTurnedKinds_6 ?_
  refine va_getN (D := D) (ci := 1) (v := .int (nI (sC σ))) (C := RX1) (T := TX1) (N := 4) hx hb hts hiX1 hown hK hP 2 rfl rfl 0 (by decide) (NW.f hN 1 rfl _) (fun _ h9 => h9) rfl dX5_casesOfTurnedKinds_9 ?_
  refine lv_icmp_ge (tgt := 47) hx hb dX5_casesOfTurnedKinds_12 (by decide) (fun c12 => ?_) (fun c12 => ?_)
  · skip
    have c12 := (nI_leI (by omega) (by omega)).mp c12
    refine lv_iload_n hx hb dX5_casesOfTurnedKinds_47 rfl (lv_at hl 1 rfl) ?_
    exact W.iret (v := nI (cnt (ctq σ (sR σ) rq) k)) hx hb hr (fun t ht hW => ⟨_, rfl, by rw [show k = sC σ by omega]; rfl, ht⟩) (fun _ h => absurd h List.not_mem_nil) dX5_casesOfTurnedKinds_48
  · skip
    have c12 := Nat.lt_of_not_le (fun z => c12 ((nI_leI (by omega) (by omega)).mpr z))
    refine lv_aload_n hx hb dX5_casesOfTurnedKinds_15 rfl (lv_at hl 0 rfl) ?_
    refine va_get (D := D) (ci := 5) (v := .ref zL) (C := RX5) (T := TX5) (N := 8) hx hb hts hiX5 hown hK hP 0 rfl rfl 1 (by decide) hf21 (fun _ h9 => h9) rfl dX5_casesOfTurnedKinds_16 ?_
    refine lv_aload_n hx hb dX5_casesOfTurnedKinds_19 rfl (lv_at hl 0 rfl) ?_
    refine va_get (D := D) (ci := 5) (v := .ref zC) (C := RX5) (T := TX5) (N := 8) hx hb hts hiX5 hown hK hP 0 rfl rfl 4 (by decide) hf38 (fun _ h9 => h9) rfl dX5_casesOfTurnedKinds_20 ?_
    refine va_getN (D := D) (ci := 1) (v := .ref zQ) (C := RX1) (T := TX1) (N := 4) hx hb hts hiX1 hown hK hP 2 rfl rfl 1 (by decide) (NW.f hN 12 rfl _) (fun _ h9 => h9) rfl dX5_casesOfTurnedKinds_23 ?_
    refine lv_iload_n hx hb dX5_casesOfTurnedKinds_26 rfl (lv_at hl 2 rfl) ?_
    obtain ⟨a, ha, ea⟩ := hok.ck c12
    have ka := clp ha hk2
    refine xald (k := k) hx hb hK hP 3 rfl (by omega) (by decide) dX5_casesOfTurnedKinds_27 ?_
    refine lv_asi (show rCk σ k = nI a from ea) ?_
    refine lv_aload_n hx hb dX5_casesOfTurnedKinds_28 rfl (lv_at hl 0 rfl) ?_
    refine va_get (D := D) (ci := 5) (v := .ref zF) (C := RX5) (T := TX5) (N := 8) hx hb hts hiX5 hown hK hP 0 rfl rfl 2 (by decide) hf25 (fun _ h9 => h9) rfl dX5_casesOfTurnedKinds_29 ?_
    refine xpV (rest := []) ⟨hx, hb, hml, hown, hts⟩ (c_X3_differFor l D cI cZ zB zL zF zK zW zU zV zR zE zLo zFo σ lo lf (sR σ) a rq hok ha hlo hlf) (cwV 2 hts gX5_casesOfTurnedKinds_X3_differFor rfl rfl rfl (by decide +kernel) ⟨Nat.le_of_ble_eq_true rfl, Nat.le_of_ble_eq_true rfl⟩) hP [4, 5, 1, 8, 6, 7] rfl hK hN (ci := 3) (q0 := 4) rfl rfl rfl hl.1 rfl (Nat.le_of_ble_eq_true rfl) dX5_casesOfTurnedKinds_32 ⟨Nat.zero_le _, Nat.zero_le _⟩ (fun r32 e32 => ?_)
    subst e32
    refine lv_if_eq (tgt := 41) hx hb dX5_casesOfTurnedKinds_35 (by decide) (fun c35 => ?_) (fun c35 => ?_)
    · skip
      have c35 := b2_0 c35
      have hl : lv_has ls 3 [(0, .ref zX), (1, .int (nI (cnt (ctq σ (sR σ) rq) (k + 1)))), (2, .int (nI k))] := by rw [← (show nI (cnt (ctq σ (sR σ) rq) k) = nI (cnt (ctq σ (sR σ) rq) (k + 1)) from congrArg nI (cnt_n (by rw [ctq, ea, ka]; exact c35)))]; exact hl
      refine lv_iinc (k := 2) (x := nI k) (v := nI (k + 1)) (lv' := [(2, .int (nI (k + 1))), (0, .ref zX), (1, .int (nI (cnt (ctq σ (sR σ) rq) (k + 1))))]) hx hb dX5_casesOfTurnedKinds_41 hl rfl (show (nI k) + Int32.ofInt 1 = nI (k + 1) from nI_1 _) (by decide) rfl (fun ls hl => ?_)
      refine lv_goto (tgt := 4) hx hb dX5_casesOfTurnedKinds_44 (by decide) ?_
      exact ih4 (k + 1) (show (k + 1) ≤ sC σ from (by omega)) (by show sC σ - (k + 1) < sC σ - k; omega) ls (lv_sub hl [1, 2, 0] rfl)
    · skip
      have c35 := b2_1 c35
      refine lv_iinc (k := 1) (x := nI (cnt (ctq σ (sR σ) rq) k)) (v := nI (cnt (ctq σ (sR σ) rq) (k + 1))) (lv' := [(1, .int (nI (cnt (ctq σ (sR σ) rq) (k + 1)))), (0, .ref zX), (2, .int (nI k))]) hx hb dX5_casesOfTurnedKinds_38 hl rfl (show (nI (cnt (ctq σ (sR σ) rq) k)) + Int32.ofInt 1 = nI (cnt (ctq σ (sR σ) rq) (k + 1)) from cnt_y (by rw [ctq, ea, ka]; exact c35)) (by decide) rfl (fun ls hl => ?_)
      refine lv_iinc (k := 2) (x := nI k) (v := nI (k + 1)) (lv' := [(2, .int (nI (k + 1))), (1, .int (nI (cnt (ctq σ (sR σ) rq) (k + 1)))), (0, .ref zX)]) hx hb dX5_casesOfTurnedKinds_41 hl rfl (show (nI k) + Int32.ofInt 1 = nI (k + 1) from nI_1 _) (by decide) rfl (fun ls hl => ?_)
      refine lv_goto (tgt := 4) hx hb dX5_casesOfTurnedKinds_44 (by decide) ?_
      exact ih4 (k + 1) (show (k + 1) ≤ sC σ from (by omega)) (by show sC σ - (k + 1) < sC σ - k; omega) ls (lv_sub hl [2, 1, 0] rfl)

set_option maxHeartbeats 4000000 in
set_option maxRecDepth 100000 in
theorem c_X5_turnedVerdicts (l : Launch) (D : va_G) (cI cZ : ClassId) (zX : Nat) (zB : Nat) (zL : Nat) (zF : Nat) (zM : Nat) (zC : Nat) (zG : Nat) (zJ : Nat) (zK : Nat) (zW : Nat) (zU : Nat) (zV : Nat) (zR : Nat) (zE : Nat) (zLo : Nat) (zFo : Nat) (zS : Nat) (zT : Nat) (zD : Nat) (zQ : Nat) (zP : Nat) (zN : Nat) (σ : ST) (kI : Nat → Int32) (lo : Nat → Int32) (lf : Nat → Int32) (rq : Int32) (hok : Ok σ) (hkI : ∀ k, k < 2 ^ sF σ → kI k = b2 (kok σ k)) (hlo : ∀ k, k < 2 ^ sF σ → lo k = lawI σ (sR σ) k) (hlf : ∀ k, k < 2 ^ sF σ → lf k = lawI σ rq k) : Met l yX5_turnedVerdicts wsX5_turnedVerdicts ({ frames := 4, cells := 0, slots := 0, locals := 92 }) (va_Pc [.ref zX] (XP D cI cZ [(zX, .inr (5, [.ref zB, .ref zL, .ref zF, .ref zM, .ref zC, .ref zG, .ref zJ, .int (nI (sG σ))])), (zM, .inr (4, [.int (nI (sM σ)), .ref zS, .ref zT, .ref zD])), (zS, .inl (cI, 90, .inl (rTs σ))), (zT, .inl (cI, 90, .inl (rTn σ))), (zD, .inl (cI, 30, .inl (rRd σ))), (zB, .inr (0, [.int (nI (sF σ)), .int (nI (2 ^ sF σ)), .ref zK, .ref zW, .int (nI (sN σ)), .int (sR σ), .int (orE (rEr σ) (sN σ)), .ref zU, .ref zV, .ref zR, .ref zE])), (zK, .inl (cZ, 128, .inl kI)), (zC, .inr (1, [.int (nI (sC σ)), .ref zQ, .ref zP, .ref zN])), (zQ, .inl (cI, 12, .inl (rCk σ))), (zP, .inl (cI, 12, .inl (rCr σ))), (zN, .inl (cI, 12, .inl (rCn σ))), (zL, .inr (3, [.ref zB, .ref zLo])), (zLo, .inl (cI, 128, .inl lo)), (zF, .inr (3, [.ref zB, .ref zFo])), (zFo, .inl (cI, 128, .inl lf)), (zR, .inl (cI, 12, .inl (rRu σ)))])) (vp_Si (fun r => r = nI (tvN σ (sR σ) rq))) 0 0 (fun _ => False) := by
  refine Met.ofW (cc := cX5_turnedVerdicts) (maxL := 3) (ret := (some .int)) (by decide) rfl ?_
  intro p e s m args below meth c s₁ B hml hv
  obtain ⟨rfl, hP, hK, hN⟩ := hv
  have hx := B.exec
  have hb := B.bytes
  have hr := B.returns
  have hts := atoms_spec (ws := wsX5_turnedVerdicts) B.pre
  have hown : s.vm.findClass RX5 = some m.cls := findClass_of_methodNamed B.named
  have hlocks := B.notSynchronized
  have ho := hok.1
  have hk2 := hok.k
  have hf31 := hts (.fieldLink RX5 31 "BallCourt" "played" "LBallCourt$Moments;") (List.mem_of_getElem? (i := 1) (by decide +kernel))
  have hiX5 : ∀ w ∈ wsX50, w ∈ wsX5_turnedVerdicts := fun w h => List.mem_cons_of_mem _ (List.mem_append_left _ (List.mem_append_left _ (List.mem_append_left _ (List.mem_append_left _ (List.mem_append_right _ h)))))
  have hiX4 : ∀ w ∈ wsX40, w ∈ wsX5_turnedVerdicts := fun w h => List.mem_cons_of_mem _ (List.mem_append_left _ (List.mem_append_left _ (List.mem_append_left _ (List.mem_append_right _ h))))
  have hf21 := hts (.fieldLink RX5 21 "BallCourt" "laws" "LBallCourt$Laws;") (List.mem_of_getElem? (i := 2) (by decide +kernel))
  have hf25 := hts (.fieldLink RX5 25 "BallCourt" "lawsIfMended" "LBallCourt$Laws;") (List.mem_of_getElem? (i := 3) (by decide +kernel))
  have hl := lv_entry ([.ref zX]) (n := 3) (Nat.le_of_ble_eq_true rfl)
  rw [lg_entry_eq]
  generalize (lg_sl ([.ref zX]) ++ List.replicate (3 - (lg_sl ([.ref zX])).length) Slot.unset).toArray = ls at hl ⊢
  have hl : lv_has ls 3 [(0, .ref zX)] := hl
  refine lv_iconst (v := nI 0) hx hb dX5_turnedVerdicts_0 (by decide) ?_
  refine lv_istore_n (lv' := [(1, .int (nI 0)), (0, .ref zX)]) hx hb dX5_turnedVerdicts_1 rfl hl (by decide) rfl (fun ls hl => ?_)
  refine lv_iconst (v := nI 0) hx hb dX5_turnedVerdicts_2 (by decide) ?_
  refine lv_istore_n (lv' := [(2, .int (nI 0)), (1, .int (nI 0)), (0, .ref zX)]) hx hb dX5_turnedVerdicts_3 rfl hl (by decide) rfl (fun ls hl => ?_)
  refine wloop (α := Nat) (fun v => sM σ - v) (fun v => [(0, .ref zX), (1, .int (nI (cnt (tvq σ (sR σ) rq) v))), (2, .int (nI v))]) (fun v => (v ≤ sM σ)) 3 (fun v hv ih4 ls hl => ?_) 0 (show 0 ≤ sM σ from Nat.zero_le _) ls (lv_sub hl [2, 1, 0] rfl)
  obtain ⟨k, rfl⟩ : ∃ z : Nat, z = v := ⟨_, rfl⟩
  have hk : k ≤ sM σ := hv
  have hl : lv_has ls 3 [(0, .ref zX), (1, .int (nI (cnt (tvq σ (sR σ) rq) k))), (2, .int (nI k))] := hl
  refine lv_iload_n hx hb dX5_turnedVerdicts_4 rfl (lv_at hl 2 rfl) ?_
  refine lv_aload_n hx hb dX5_turnedVerdicts_5 rfl (lv_at hl 0 rfl) ?_
  refine va_get (D := D) (ci := 5) (v := .ref zM) (C := RX5) (T := TX5) (N := 8) hx hb hts hiX5 hown hK hP 0 rfl rfl 3 (by decide) hf31 (fun _ h9 => h9) rfl dX5_turnedVerdicts_6 ?_
  refine va_getN (D := D) (ci := 4) (v := .int (nI (sM σ))) (C := RX4) (T := TX4) (N := 4) hx hb hts hiX4 hown hK hP 1 rfl rfl 0 (by decide) (NW.f hN 0 rfl _) (fun _ h9 => h9) rfl dX5_turnedVerdicts_9 ?_
  refine lv_icmp_ge (tgt := 45) hx hb dX5_turnedVerdicts_12 (by decide) (fun c12 => ?_) (fun c12 => ?_)
  · skip
    have c12 := (nI_leI (by omega) (by omega)).mp c12
    refine lv_iload_n hx hb dX5_turnedVerdicts_45 rfl (lv_at hl 1 rfl) ?_
    exact W.iret (v := nI (cnt (tvq σ (sR σ) rq) k)) hx hb hr (fun t ht hW => ⟨_, rfl, by rw [show k = sM σ by omega]; rfl, ht⟩) (fun _ h => absurd h List.not_mem_nil) dX5_turnedVerdicts_46
  · skip
    have c12 := Nat.lt_of_not_le (fun z => c12 ((nI_leI (by omega) (by omega)).mpr z))
    refine lv_aload_n hx hb dX5_turnedVerdicts_15 rfl (lv_at hl 0 rfl) ?_
    refine lv_aload_n hx hb dX5_turnedVerdicts_16 rfl (lv_at hl 0 rfl) ?_
    refine va_get (D := D) (ci := 5) (v := .ref zL) (C := RX5) (T := TX5) (N := 8) hx hb hts hiX5 hown hK hP 0 rfl rfl 1 (by decide) hf21 (fun _ h9 => h9) rfl dX5_turnedVerdicts_17 ?_
    refine lv_iload_n hx hb dX5_turnedVerdicts_20 rfl (lv_at hl 2 rfl) ?_
    refine xpV (rest := []) ⟨hx, hb, hml, hown, hts⟩ (c_X5_verdictUnder l D cI cZ zX zB zL zF zM zC zG zJ zK zW zU zV zR zE zS zT zD zQ zP zN σ kI (sR σ) zL zLo lo k hok c12 hkI hlo) (cwV 2 hts gX5_turnedVerdicts_X5_verdictUnder rfl rfl rfl (by decide +kernel) ⟨Nat.le_of_ble_eq_true rfl, Nat.le_of_ble_eq_true rfl⟩) hP [0, 1, 2, 3, 4, 5, 6, 7, 8, 9, 10, 11, 12, 15] rfl hK hN (ci := 5) (q0 := 0) rfl rfl rfl hl.1 rfl (Nat.le_of_ble_eq_true rfl) dX5_turnedVerdicts_21 ⟨Nat.zero_le _, Nat.zero_le _⟩ (fun r21 e21 => ?_)
    subst e21
    refine lv_aload_n hx hb dX5_turnedVerdicts_24 rfl (lv_at hl 0 rfl) ?_
    refine lv_aload_n hx hb dX5_turnedVerdicts_25 rfl (lv_at hl 0 rfl) ?_
    refine va_get (D := D) (ci := 5) (v := .ref zF) (C := RX5) (T := TX5) (N := 8) hx hb hts hiX5 hown hK hP 0 rfl rfl 2 (by decide) hf25 (fun _ h9 => h9) rfl dX5_turnedVerdicts_26 ?_
    refine lv_iload_n hx hb dX5_turnedVerdicts_29 rfl (lv_at hl 2 rfl) ?_
    refine xpV (rest := [.int (verI σ (sR σ) k)]) ⟨hx, hb, hml, hown, hts⟩ (c_X5_verdictUnder l D cI cZ zX zB zL zF zM zC zG zJ zK zW zU zV zR zE zS zT zD zQ zP zN σ kI rq zF zFo lf k hok c12 hkI hlf) (cwV 2 hts gX5_turnedVerdicts_X5_verdictUnder rfl rfl rfl (by decide +kernel) ⟨Nat.le_of_ble_eq_true rfl, Nat.le_of_ble_eq_true rfl⟩) hP [0, 1, 2, 3, 4, 5, 6, 7, 8, 9, 10, 13, 14, 15] rfl hK hN (ci := 5) (q0 := 0) rfl rfl rfl hl.1 rfl (Nat.le_of_ble_eq_true rfl) dX5_turnedVerdicts_30 ⟨Nat.zero_le _, Nat.zero_le _⟩ (fun r30 e30 => ?_)
    subst e30
    refine lv_icmp_eq (tgt := 39) hx hb dX5_turnedVerdicts_33 (by decide) (fun c33 => ?_) (fun c33 => ?_)
    · skip
      have hl : lv_has ls 3 [(0, .ref zX), (1, .int (nI (cnt (tvq σ (sR σ) rq) (k + 1)))), (2, .int (nI k))] := by rw [← (show nI (cnt (tvq σ (sR σ) rq) k) = nI (cnt (tvq σ (sR σ) rq) (k + 1)) from congrArg nI (cnt_n (by simp [tvq, c33])))]; exact hl
      refine lv_iinc (k := 2) (x := nI k) (v := nI (k + 1)) (lv' := [(2, .int (nI (k + 1))), (0, .ref zX), (1, .int (nI (cnt (tvq σ (sR σ) rq) (k + 1))))]) hx hb dX5_turnedVerdicts_39 hl rfl (show (nI k) + Int32.ofInt 1 = nI (k + 1) from nI_1 _) (by decide) rfl (fun ls hl => ?_)
      refine lv_goto (tgt := 4) hx hb dX5_turnedVerdicts_42 (by decide) ?_
      exact ih4 (k + 1) (show (k + 1) ≤ sM σ from (by omega)) (by show sM σ - (k + 1) < sM σ - k; omega) ls (lv_sub hl [1, 2, 0] rfl)
    · skip
      refine lv_iinc (k := 1) (x := nI (cnt (tvq σ (sR σ) rq) k)) (v := nI (cnt (tvq σ (sR σ) rq) (k + 1))) (lv' := [(1, .int (nI (cnt (tvq σ (sR σ) rq) (k + 1)))), (0, .ref zX), (2, .int (nI k))]) hx hb dX5_turnedVerdicts_36 hl rfl (show (nI (cnt (tvq σ (sR σ) rq) k)) + Int32.ofInt 1 = nI (cnt (tvq σ (sR σ) rq) (k + 1)) from cnt_y (by simp [tvq, c33])) (by decide) rfl (fun ls hl => ?_)
      refine lv_iinc (k := 2) (x := nI k) (v := nI (k + 1)) (lv' := [(2, .int (nI (k + 1))), (1, .int (nI (cnt (tvq σ (sR σ) rq) (k + 1)))), (0, .ref zX)]) hx hb dX5_turnedVerdicts_39 hl rfl (show (nI k) + Int32.ofInt 1 = nI (k + 1) from nI_1 _) (by decide) rfl (fun ls hl => ?_)
      refine lv_goto (tgt := 4) hx hb dX5_turnedVerdicts_42 (by decide) ?_
      exact ih4 (k + 1) (show (k + 1) ≤ sM σ from (by omega)) (by show sM σ - (k + 1) < sM σ - k; omega) ls (lv_sub hl [2, 1, 0] rfl)

set_option maxHeartbeats 4000000 in
set_option maxRecDepth 100000 in
theorem c_X5_beginAnew (l : Launch) (D : va_G) (cI cZ : ClassId) (sz : Nat) (zX : Nat) (zB : Nat) (zL : Nat) (zF : Nat) (zM : Nat) (zC : Nat) (zG : Nat) (zJ : Nat) (zK : Nat) (zW : Nat) (zU : Nat) (zV : Nat) (zR : Nat) (zE : Nat) (zLo : Nat) (zS : Nat) (zT : Nat) (zD : Nat) (zQ : Nat) (zP : Nat) (zN : Nat) (σ : ST) (kI : Nat → Int32) (lo : Nat → Int32) (i0 : Int32) (i1 : Int32) (i2 : Int32) (i3 : Int32) (i4 : Int32) (i5 : Int32) (i6 : Int32) (q : Nat) (hq : 1 ≤ q ∧ q ≤ 7) (hg : 1 ≤ sG σ ∧ sG σ ≤ 20) : Met l yX5_beginAnew wsX5_beginAnew ({ frames := 4, cells := 0, slots := 0, locals := 92 }) (va_Pc [.ref zX, .int (nI q)] (XW D cI cZ [(zX, .inr (5, [.ref zB, .ref zL, .ref zF, .ref zM, .ref zC, .ref zG, .ref zJ, .int (nI (sG σ))])), (zB, .inr (0, [.int i0, .int i1, .ref zK, .ref zW, .int i2, .int i3, .int i4, .ref zU, .ref zV, .ref zR, .ref zE])), (zK, .inl (cZ, 128, .inl kI)), (zW, .inl (cI, 7, .inl (rB σ))), (zM, .inr (4, [.int i5, .ref zS, .ref zT, .ref zD])), (zC, .inr (1, [.int i6, .ref zQ, .ref zP, .ref zN])), (zL, .inr (3, [.ref zB, .ref zLo])), (zLo, .inl (cI, 128, .inl lo)), (zU, .inl (cI, 12, .inl (rMu σ))), (zV, .inl (cI, 12, .inl (rMn σ))), (zE, .inl (cI, 12, .inl (rEr σ)))] sz)) (va_Qv (fun u : (Nat → Int32) × (Nat → Int32) => (∀ k, k < 2 ^ q → u.1 k = b2 (kok (bgS σ q) k)) ∧ ∀ k, k < 2 ^ q → u.2 k = lawI (bgS σ q) (sR (bgS σ q)) k) (fun u => XB D cI cZ (va_A [(zX, .inr (5, [.ref zB, .ref zL, .ref zF, .ref zM, .ref zC, .ref zG, .ref zJ, .int (nI (sG σ))])), (zB, .inr (0, [.int i0, .int i1, .ref zK, .ref zW, .int i2, .int i3, .int i4, .ref zU, .ref zV, .ref zR, .ref zE])), (zK, .inl (cZ, 128, .inl kI)), (zW, .inl (cI, 7, .inl (rB σ))), (zM, .inr (4, [.int i5, .ref zS, .ref zT, .ref zD])), (zC, .inr (1, [.int i6, .ref zQ, .ref zP, .ref zN])), (zL, .inr (3, [.ref zB, .ref zLo])), (zLo, .inl (cI, 128, .inl lo)), (zU, .inl (cI, 12, .inl (rMu σ))), (zV, .inl (cI, 12, .inl (rMn σ))), (zE, .inl (cI, 12, .inl (rEr σ)))] sz) [(zX, .inr (5, [.ref zB, .ref zL, .ref zF, .ref zM, .ref zC, .ref zG, .ref zJ, .int (nI (sG (bgS σ q)))])), (zB, .inr (0, [.int (nI (sF (bgS σ q))), .int (nI (2 ^ sF (bgS σ q))), .ref zK, .ref zW, .int (nI (sN (bgS σ q))), .int (sR (bgS σ q)), .int (orE (rEr (bgS σ q)) (sN (bgS σ q))), .ref zU, .ref zV, .ref zR, .ref zE])), (zK, .inl (cZ, 128, .inl u.1)), (zW, .inl (cI, 7, .inl (rB (bgS σ q)))), (zM, .inr (4, [.int (nI (sM (bgS σ q))), .ref zS, .ref zT, .ref zD])), (zC, .inr (1, [.int (nI (sC (bgS σ q))), .ref zQ, .ref zP, .ref zN])), (zL, .inr (3, [.ref zB, .ref zLo])), (zLo, .inl (cI, 128, .inl u.2)), (zU, .inl (cI, 12, .inl (rMu (bgS σ q)))), (zV, .inl (cI, 12, .inl (rMn (bgS σ q)))), (zE, .inl (cI, 12, .inl (rEr (bgS σ q))))]) (va_A [(zX, .inr (5, [.ref zB, .ref zL, .ref zF, .ref zM, .ref zC, .ref zG, .ref zJ, .int (nI (sG σ))])), (zB, .inr (0, [.int i0, .int i1, .ref zK, .ref zW, .int i2, .int i3, .int i4, .ref zU, .ref zV, .ref zR, .ref zE])), (zK, .inl (cZ, 128, .inl kI)), (zW, .inl (cI, 7, .inl (rB σ))), (zM, .inr (4, [.int i5, .ref zS, .ref zT, .ref zD])), (zC, .inr (1, [.int i6, .ref zQ, .ref zP, .ref zN])), (zL, .inr (3, [.ref zB, .ref zLo])), (zLo, .inl (cI, 128, .inl lo)), (zU, .inl (cI, 12, .inl (rMu σ))), (zV, .inl (cI, 12, .inl (rMn σ))), (zE, .inl (cI, 12, .inl (rEr σ)))] sz)) 0 0 (va_A [(zX, .inr (5, [.ref zB, .ref zL, .ref zF, .ref zM, .ref zC, .ref zG, .ref zJ, .int (nI (sG σ))])), (zB, .inr (0, [.int i0, .int i1, .ref zK, .ref zW, .int i2, .int i3, .int i4, .ref zU, .ref zV, .ref zR, .ref zE])), (zK, .inl (cZ, 128, .inl kI)), (zW, .inl (cI, 7, .inl (rB σ))), (zM, .inr (4, [.int i5, .ref zS, .ref zT, .ref zD])), (zC, .inr (1, [.int i6, .ref zQ, .ref zP, .ref zN])), (zL, .inr (3, [.ref zB, .ref zLo])), (zLo, .inl (cI, 128, .inl lo)), (zU, .inl (cI, 12, .inl (rMu σ))), (zV, .inl (cI, 12, .inl (rMn σ))), (zE, .inl (cI, 12, .inl (rEr σ)))] sz) := by
  refine Met.ofW (cc := cX5_beginAnew) (maxL := 2) (ret := none) (by decide) rfl ?_
  intro p e s m args below meth c s₁ B hml hv
  obtain ⟨rfl, hsz, ⟨hP, hK, hN⟩, hD0⟩ := hv
  have hx := B.exec
  have hb := B.bytes
  have hr := B.returns
  have hts := atoms_spec (ws := wsX5_beginAnew) B.pre
  have hown : s.vm.findClass RX5 = some m.cls := findClass_of_methodNamed B.named
  have hlocks := B.notSynchronized
  subst hsz
  have hD := hD0.self (sz := s.heap.size)
  generalize hAe : va_A [(zX, .inr (5, [.ref zB, .ref zL, .ref zF, .ref zM, .ref zC, .ref zG, .ref zJ, .int (nI (sG σ))])), (zB, .inr (0, [.int i0, .int i1, .ref zK, .ref zW, .int i2, .int i3, .int i4, .ref zU, .ref zV, .ref zR, .ref zE])), (zK, .inl (cZ, 128, .inl kI)), (zW, .inl (cI, 7, .inl (rB σ))), (zM, .inr (4, [.int i5, .ref zS, .ref zT, .ref zD])), (zC, .inr (1, [.int i6, .ref zQ, .ref zP, .ref zN])), (zL, .inr (3, [.ref zB, .ref zLo])), (zLo, .inl (cI, 128, .inl lo)), (zU, .inl (cI, 12, .inl (rMu σ))), (zV, .inl (cI, 12, .inl (rMn σ))), (zE, .inl (cI, 12, .inl (rEr σ)))] s.heap.size = A at hD ⊢
  have hA : ∀ q : Nat, s.heap.size ≤ q → A q := fun q h => by rw [← hAe]; exact Or.inr h
  have hS : va_S A s.heap s.heap [] := va_S.rf
  have hf10 := hts (.fieldLink RX5 10 "BallCourt" "book" "LBallCourt$Book;") (List.mem_of_getElem? (i := 1) (by decide +kernel))
  have hiX5 : ∀ w ∈ wsX50, w ∈ wsX5_beginAnew := fun w h => List.mem_cons_of_mem _ (List.mem_append_left _ (List.mem_append_left _ (List.mem_append_left _ (List.mem_append_left _ (List.mem_append_right _ h)))))
  have hf31 := hts (.fieldLink RX5 31 "BallCourt" "played" "LBallCourt$Moments;") (List.mem_of_getElem? (i := 2) (by decide +kernel))
  have hiX4 : ∀ w ∈ wsX40, w ∈ wsX5_beginAnew := fun w h => List.mem_cons_of_mem _ (List.mem_append_left _ (List.mem_append_left _ (List.mem_append_left _ (List.mem_append_right _ h))))
  have hf38 := hts (.fieldLink RX5 38 "BallCourt" "cases" "LBallCourt$Cases;") (List.mem_of_getElem? (i := 3) (by decide +kernel))
  have hiX1 : ∀ w ∈ wsX10, w ∈ wsX5_beginAnew := fun w h => List.mem_cons_of_mem _ (List.mem_append_left _ (List.mem_append_left _ (List.mem_append_right _ h)))
  have hf21 := hts (.fieldLink RX5 21 "BallCourt" "laws" "LBallCourt$Laws;") (List.mem_of_getElem? (i := 4) (by decide +kernel))
  have hiX0 : ∀ w ∈ wsX00, w ∈ wsX5_beginAnew := fun w h => List.mem_cons_of_mem _ (List.mem_append_left _ (List.mem_append_right _ h))
  have hl := lv_entry ([.ref zX, .int (nI q)]) (n := 2) (Nat.le_of_ble_eq_true rfl)
  rw [lg_entry_eq]
  generalize (lg_sl ([.ref zX, .int (nI q)]) ++ List.replicate (2 - (lg_sl ([.ref zX, .int (nI q)])).length) Slot.unset).toArray = ls at hl ⊢
  have hl : lv_has ls 2 [(0, .ref zX), (1, .int (nI q))] := hl
  refine lv_aload_n hx hb dX5_beginAnew_0 rfl (lv_at hl 0 rfl) ?_
  refine va_get (D := D) (ci := 5) (v := .ref zB) (C := RX5) (T := TX5) (N := 8) hx hb hts hiX5 hown hK hP 0 rfl rfl 0 (by decide) hf10 (fun _ h9 => h9) rfl dX5_beginAnew_1 ?_
  refine lv_iload_n hx hb dX5_beginAnew_4 rfl (lv_at hl 1 rfl) ?_
  refine xwVv (rest := []) (wr := [(zX, .inr (5, [.ref zB, .ref zL, .ref zF, .ref zM, .ref zC, .ref zG, .ref zJ, .int (nI (sG σ))])), (zM, .inr (4, [.int i5, .ref zS, .ref zT, .ref zD])), (zC, .inr (1, [.int i6, .ref zQ, .ref zP, .ref zN])), (zL, .inr (3, [.ref zB, .ref zLo])), (zLo, .inl (cI, 128, .inl lo)), (zU, .inl (cI, 12, .inl (rMu σ))), (zV, .inl (cI, 12, .inl (rMn σ))), (zE, .inl (cI, 12, .inl (rEr σ)))]) ⟨hx, hb, hml, hown, hts⟩ (c_X0_begin l D cI cZ s.heap.size zB zK zW zU zV zR zE σ kI i0 i1 i2 i3 i4 q hq hg) (cwV 1 hts gX5_beginAnew_X0_begin rfl rfl rfl (by decide +kernel) ⟨Nat.le_of_ble_eq_true rfl, Nat.le_of_ble_eq_true rfl⟩) hP hD hS hA [1, 2, 3] [0, 4, 5, 6, 7, 8, 9, 10] rfl rfl (by decide) (by decide) (by decide) hK hN (ci := 0) (q0 := 1) rfl rfl rfl hl.1 rfl (Nat.le_of_ble_eq_true rfl) dX5_beginAnew_5 ⟨Nat.zero_le _, Nat.zero_le _⟩ (fun u5 H locs e5 hP hD hS => ?_)
  obtain ⟨kI2, rfl⟩ : ∃ z, z = u5 := ⟨_, rfl⟩
  have hP : va_P D vwCl [(zX, .inr (5, [.ref zB, .ref zL, .ref zF, .ref zM, .ref zC, .ref zG, .ref zJ, .int (nI (sG σ))])), (zM, .inr (4, [.int i5, .ref zS, .ref zT, .ref zD])), (zC, .inr (1, [.int i6, .ref zQ, .ref zP, .ref zN])), (zL, .inr (3, [.ref zB, .ref zLo])), (zLo, .inl (cI, 128, .inl lo)), (zU, .inl (cI, 12, .inl (rMu σ))), (zV, .inl (cI, 12, .inl (rMn σ))), (zE, .inl (cI, 12, .inl (rEr σ))), (zB, .inr (0, [.int (nI (sF (bgS σ q))), .int (nI (2 ^ sF (bgS σ q))), .ref zK, .ref zW, .int (nI (sN (bgS σ q))), .int (sR (bgS σ q)), .int (orE (rEr (bgS σ q)) (sN (bgS σ q))), .ref zU, .ref zV, .ref zR, .ref zE])), (zK, .inl (cZ, 128, .inl kI2)), (zW, .inl (cI, 7, .inl (rB (bgS σ q))))] H := hP
  have hD : va_D A [(zX, .inr (5, [.ref zB, .ref zL, .ref zF, .ref zM, .ref zC, .ref zG, .ref zJ, .int (nI (sG σ))])), (zM, .inr (4, [.int i5, .ref zS, .ref zT, .ref zD])), (zC, .inr (1, [.int i6, .ref zQ, .ref zP, .ref zN])), (zL, .inr (3, [.ref zB, .ref zLo])), (zLo, .inl (cI, 128, .inl lo)), (zU, .inl (cI, 12, .inl (rMu σ))), (zV, .inl (cI, 12, .inl (rMn σ))), (zE, .inl (cI, 12, .inl (rEr σ))), (zB, .inr (0, [.int (nI (sF (bgS σ q))), .int (nI (2 ^ sF (bgS σ q))), .ref zK, .ref zW, .int (nI (sN (bgS σ q))), .int (sR (bgS σ q)), .int (orE (rEr (bgS σ q)) (sN (bgS σ q))), .ref zU, .ref zV, .ref zR, .ref zE])), (zK, .inl (cZ, 128, .inl kI2)), (zW, .inl (cI, 7, .inl (rB (bgS σ q))))] := hD
  refine lv_aload_n hx hb dX5_beginAnew_8 rfl (lv_at hl 0 rfl) ?_
  refine va_get (D := D) (ci := 5) (v := .ref zM) (C := RX5) (T := TX5) (N := 8) hx hb hts hiX5 hown hK hP 0 rfl rfl 3 (by decide) hf31 (fun _ h9 => h9) rfl dX5_beginAnew_9 ?_
  refine lv_iconst (v := nI 0) hx hb dX5_beginAnew_12 (by decide) ?_
  refine va_putN (D := D) (ci := 4) (v := .int (nI 0)) (ty := .int) (C := RX4) (T := TX4) (N := 4) hx hb hts hiX4 tyX4 tyX4_ok nmX4 hown hK hP hD hS 1 rfl rfl 0 (by decide) (NW.f hN 0 rfl _) (fun _ h9 => h9) rfl (by decide +kernel) rfl rfl (Nat.le_of_ble_eq_true rfl) dX5_beginAnew_13 (fun H locs hP hD hS => ?_)
  have hP : va_P D vwCl [(zX, .inr (5, [.ref zB, .ref zL, .ref zF, .ref zM, .ref zC, .ref zG, .ref zJ, .int (nI (sG σ))])), (zM, .inr (4, [.int (nI 0), .ref zS, .ref zT, .ref zD])), (zC, .inr (1, [.int i6, .ref zQ, .ref zP, .ref zN])), (zL, .inr (3, [.ref zB, .ref zLo])), (zLo, .inl (cI, 128, .inl lo)), (zU, .inl (cI, 12, .inl (rMu σ))), (zV, .inl (cI, 12, .inl (rMn σ))), (zE, .inl (cI, 12, .inl (rEr σ))), (zB, .inr (0, [.int (nI (sF (bgS σ q))), .int (nI (2 ^ sF (bgS σ q))), .ref zK, .ref zW, .int (nI (sN (bgS σ q))), .int (sR (bgS σ q)), .int (orE (rEr (bgS σ q)) (sN (bgS σ q))), .ref zU, .ref zV, .ref zR, .ref zE])), (zK, .inl (cZ, 128, .inl kI2)), (zW, .inl (cI, 7, .inl (rB (bgS σ q))))] H := hP
  have hD : va_D A [(zX, .inr (5, [.ref zB, .ref zL, .ref zF, .ref zM, .ref zC, .ref zG, .ref zJ, .int (nI (sG σ))])), (zM, .inr (4, [.int (nI 0), .ref zS, .ref zT, .ref zD])), (zC, .inr (1, [.int i6, .ref zQ, .ref zP, .ref zN])), (zL, .inr (3, [.ref zB, .ref zLo])), (zLo, .inl (cI, 128, .inl lo)), (zU, .inl (cI, 12, .inl (rMu σ))), (zV, .inl (cI, 12, .inl (rMn σ))), (zE, .inl (cI, 12, .inl (rEr σ))), (zB, .inr (0, [.int (nI (sF (bgS σ q))), .int (nI (2 ^ sF (bgS σ q))), .ref zK, .ref zW, .int (nI (sN (bgS σ q))), .int (sR (bgS σ q)), .int (orE (rEr (bgS σ q)) (sN (bgS σ q))), .ref zU, .ref zV, .ref zR, .ref zE])), (zK, .inl (cZ, 128, .inl kI2)), (zW, .inl (cI, 7, .inl (rB (bgS σ q))))] := hD
  refine lv_aload_n hx hb dX5_beginAnew_16 rfl (lv_at hl 0 rfl) ?_
  refine va_get (D := D) (ci := 5) (v := .ref zC) (C := RX5) (T := TX5) (N := 8) hx hb hts hiX5 hown hK hP 0 rfl rfl 4 (by decide) hf38 (fun _ h9 => h9) rfl dX5_beginAnew_17 ?_
  refine lv_iconst (v := nI 0) hx hb dX5_beginAnew_20 (by decide) ?_
  refine va_putN (D := D) (ci := 1) (v := .int (nI 0)) (ty := .int) (C := RX1) (T := TX1) (N := 4) hx hb hts hiX1 tyX1 tyX1_ok nmX1 hown hK hP hD hS 2 rfl rfl 0 (by decide) (NW.f hN 1 rfl _) (fun _ h9 => h9) rfl (by decide +kernel) rfl rfl (Nat.le_of_ble_eq_true rfl) dX5_beginAnew_21 (fun H locs hP hD hS => ?_)
  have hP : va_P D vwCl [(zX, .inr (5, [.ref zB, .ref zL, .ref zF, .ref zM, .ref zC, .ref zG, .ref zJ, .int (nI (sG σ))])), (zM, .inr (4, [.int (nI 0), .ref zS, .ref zT, .ref zD])), (zC, .inr (1, [.int (nI 0), .ref zQ, .ref zP, .ref zN])), (zL, .inr (3, [.ref zB, .ref zLo])), (zLo, .inl (cI, 128, .inl lo)), (zU, .inl (cI, 12, .inl (rMu σ))), (zV, .inl (cI, 12, .inl (rMn σ))), (zE, .inl (cI, 12, .inl (rEr σ))), (zB, .inr (0, [.int (nI (sF (bgS σ q))), .int (nI (2 ^ sF (bgS σ q))), .ref zK, .ref zW, .int (nI (sN (bgS σ q))), .int (sR (bgS σ q)), .int (orE (rEr (bgS σ q)) (sN (bgS σ q))), .ref zU, .ref zV, .ref zR, .ref zE])), (zK, .inl (cZ, 128, .inl kI2)), (zW, .inl (cI, 7, .inl (rB (bgS σ q))))] H := hP
  have hD : va_D A [(zX, .inr (5, [.ref zB, .ref zL, .ref zF, .ref zM, .ref zC, .ref zG, .ref zJ, .int (nI (sG σ))])), (zM, .inr (4, [.int (nI 0), .ref zS, .ref zT, .ref zD])), (zC, .inr (1, [.int (nI 0), .ref zQ, .ref zP, .ref zN])), (zL, .inr (3, [.ref zB, .ref zLo])), (zLo, .inl (cI, 128, .inl lo)), (zU, .inl (cI, 12, .inl (rMu σ))), (zV, .inl (cI, 12, .inl (rMn σ))), (zE, .inl (cI, 12, .inl (rEr σ))), (zB, .inr (0, [.int (nI (sF (bgS σ q))), .int (nI (2 ^ sF (bgS σ q))), .ref zK, .ref zW, .int (nI (sN (bgS σ q))), .int (sR (bgS σ q)), .int (orE (rEr (bgS σ q)) (sN (bgS σ q))), .ref zU, .ref zV, .ref zR, .ref zE])), (zK, .inl (cZ, 128, .inl kI2)), (zW, .inl (cI, 7, .inl (rB (bgS σ q))))] := hD
  refine lv_aload_n hx hb dX5_beginAnew_24 rfl (lv_at hl 0 rfl) ?_
  refine va_get (D := D) (ci := 5) (v := .ref zL) (C := RX5) (T := TX5) (N := 8) hx hb hts hiX5 hown hK hP 0 rfl rfl 1 (by decide) hf21 (fun _ h9 => h9) rfl dX5_beginAnew_25 ?_
  refine lv_aload_n hx hb dX5_beginAnew_28 rfl (lv_at hl 0 rfl) ?_
  refine va_get (D := D) (ci := 5) (v := .ref zB) (C := RX5) (T := TX5) (N := 8) hx hb hts hiX5 hown hK hP 0 rfl rfl 0 (by decide) hf10 (fun _ h9 => h9) rfl dX5_beginAnew_29 ?_
  refine va_getN (D := D) (ci := 0) (v := .int (sR (bgS σ q))) (C := RX0) (T := TX0) (N := 11) hx hb hts hiX0 hown hK hP 8 rfl rfl 5 (by decide) (NW.f hN 2 rfl _) (fun _ h9 => h9) rfl dX5_beginAnew_32 ?_
  refine xwVv (rest := []) (wr := [(zX, .inr (5, [.ref zB, .ref zL, .ref zF, .ref zM, .ref zC, .ref zG, .ref zJ, .int (nI (sG σ))])), (zM, .inr (4, [.int (nI 0), .ref zS, .ref zT, .ref zD])), (zC, .inr (1, [.int (nI 0), .ref zQ, .ref zP, .ref zN])), (zK, .inl (cZ, 128, .inl kI2)), (zW, .inl (cI, 7, .inl (rB (bgS σ q))))]) ⟨hx, hb, hml, hown, hts⟩ (c_X3_work l D cI cZ H.size zB zL zK zW zU zV zR zE zLo (bgS σ q) lo (sR (bgS σ q)) (Ok_bg hq hg)) (cwV 1 hts gX5_beginAnew_X3_work rfl rfl rfl (by decide +kernel) ⟨Nat.le_of_ble_eq_true rfl, Nat.le_of_ble_eq_true rfl⟩) hP hD hS hA [3, 4, 8, 5, 6, 7] [0, 1, 2, 9, 10] rfl rfl (by decide) (by decide) (by decide) hK hN (ci := 3) (q0 := 3) rfl rfl rfl hl.1 rfl (Nat.le_of_ble_eq_true rfl) dX5_beginAnew_35 ⟨Nat.zero_le _, Nat.zero_le _⟩ (fun u35 H locs e35 hP hD hS => ?_)
  obtain ⟨lo2, rfl⟩ : ∃ z, z = u35 := ⟨_, rfl⟩
  have hP : va_P D vwCl [(zX, .inr (5, [.ref zB, .ref zL, .ref zF, .ref zM, .ref zC, .ref zG, .ref zJ, .int (nI (sG σ))])), (zM, .inr (4, [.int (nI 0), .ref zS, .ref zT, .ref zD])), (zC, .inr (1, [.int (nI 0), .ref zQ, .ref zP, .ref zN])), (zK, .inl (cZ, 128, .inl kI2)), (zW, .inl (cI, 7, .inl (rB (bgS σ q)))), (zL, .inr (3, [.ref zB, .ref zLo])), (zLo, .inl (cI, 128, .inl lo2)), (zB, .inr (0, [.int (nI (sF (bgS σ q))), .int (nI (2 ^ sF (bgS σ q))), .ref zK, .ref zW, .int (nI (sN (bgS σ q))), .int (sR (bgS σ q)), .int (orE (rEr (bgS σ q)) (sN (bgS σ q))), .ref zU, .ref zV, .ref zR, .ref zE])), (zU, .inl (cI, 12, .inl (rMu (bgS σ q)))), (zV, .inl (cI, 12, .inl (rMn (bgS σ q)))), (zE, .inl (cI, 12, .inl (rEr (bgS σ q))))] H := hP
  have hD : va_D A [(zX, .inr (5, [.ref zB, .ref zL, .ref zF, .ref zM, .ref zC, .ref zG, .ref zJ, .int (nI (sG σ))])), (zM, .inr (4, [.int (nI 0), .ref zS, .ref zT, .ref zD])), (zC, .inr (1, [.int (nI 0), .ref zQ, .ref zP, .ref zN])), (zK, .inl (cZ, 128, .inl kI2)), (zW, .inl (cI, 7, .inl (rB (bgS σ q)))), (zL, .inr (3, [.ref zB, .ref zLo])), (zLo, .inl (cI, 128, .inl lo2)), (zB, .inr (0, [.int (nI (sF (bgS σ q))), .int (nI (2 ^ sF (bgS σ q))), .ref zK, .ref zW, .int (nI (sN (bgS σ q))), .int (sR (bgS σ q)), .int (orE (rEr (bgS σ q)) (sN (bgS σ q))), .ref zU, .ref zV, .ref zR, .ref zE])), (zU, .inl (cI, 12, .inl (rMu (bgS σ q)))), (zV, .inl (cI, 12, .inl (rMn (bgS σ q)))), (zE, .inl (cI, 12, .inl (rEr (bgS σ q))))] := hD
  have hP9 := hP.sub (ws' := [(zX, .inr (5, [.ref zB, .ref zL, .ref zF, .ref zM, .ref zC, .ref zG, .ref zJ, .int (nI (sG σ))])), (zB, .inr (0, [.int (nI (sF (bgS σ q))), .int (nI (2 ^ sF (bgS σ q))), .ref zK, .ref zW, .int (nI (sN (bgS σ q))), .int (sR (bgS σ q)), .int (orE (rEr (bgS σ q)) (sN (bgS σ q))), .ref zU, .ref zV, .ref zR, .ref zE])), (zK, .inl (cZ, 128, .inl kI2)), (zW, .inl (cI, 7, .inl (rB (bgS σ q)))), (zM, .inr (4, [.int (nI 0), .ref zS, .ref zT, .ref zD])), (zC, .inr (1, [.int (nI 0), .ref zQ, .ref zP, .ref zN])), (zL, .inr (3, [.ref zB, .ref zLo])), (zLo, .inl (cI, 128, .inl lo2)), (zU, .inl (cI, 12, .inl (rMu (bgS σ q)))), (zV, .inl (cI, 12, .inl (rMn (bgS σ q)))), (zE, .inl (cI, 12, .inl (rEr (bgS σ q))))]) [0, 7, 3, 4, 1, 2, 5, 6, 8, 9, 10] rfl
  have hD9 := hD.sub (ws' := [(zX, .inr (5, [.ref zB, .ref zL, .ref zF, .ref zM, .ref zC, .ref zG, .ref zJ, .int (nI (sG σ))])), (zB, .inr (0, [.int (nI (sF (bgS σ q))), .int (nI (2 ^ sF (bgS σ q))), .ref zK, .ref zW, .int (nI (sN (bgS σ q))), .int (sR (bgS σ q)), .int (orE (rEr (bgS σ q)) (sN (bgS σ q))), .ref zU, .ref zV, .ref zR, .ref zE])), (zK, .inl (cZ, 128, .inl kI2)), (zW, .inl (cI, 7, .inl (rB (bgS σ q)))), (zM, .inr (4, [.int (nI 0), .ref zS, .ref zT, .ref zD])), (zC, .inr (1, [.int (nI 0), .ref zQ, .ref zP, .ref zN])), (zL, .inr (3, [.ref zB, .ref zLo])), (zLo, .inl (cI, 128, .inl lo2)), (zU, .inl (cI, 12, .inl (rMu (bgS σ q)))), (zV, .inl (cI, 12, .inl (rMn (bgS σ q)))), (zE, .inl (cI, 12, .inl (rEr (bgS σ q))))]) [0, 7, 3, 4, 1, 2, 5, 6, 8, 9, 10] (by decide) rfl
  exact W.vret hx hb hr (fun t ht hW => ⟨⟨(kI2, lo2), rfl, ⟨e5, e35⟩, ⟨⟨by rw [ht]; exact hP9, va_K.moved hW.alike hK, NW.warm hW hN⟩, hD9⟩⟩, hS.F ht⟩) hS.2.2 dX5_beginAnew_38

set_option maxHeartbeats 4000000 in
set_option maxRecDepth 100000 in
theorem c_X5_about (l : Launch) (D : va_G) (cI cZ : ClassId) (zX : Nat) (zB : Nat) (zL : Nat) (zF : Nat) (zM : Nat) (zC : Nat) (zG : Nat) (zJ : Nat) (zK : Nat) (zW : Nat) (zU : Nat) (zV : Nat) (zR : Nat) (zE : Nat) (σ : ST) (x : Int32) (w : Int32) (hok : Ok σ) : Met l yX5_about wsX5_about ({ frames := 2, cells := 0, slots := 0, locals := 45 }) (va_Pc [.ref zX, .int x, .int w] (XP D cI cZ [(zX, .inr (5, [.ref zB, .ref zL, .ref zF, .ref zM, .ref zC, .ref zG, .ref zJ, .int (nI (sG σ))])), (zB, .inr (0, [.int (nI (sF σ)), .int (nI (2 ^ sF σ)), .ref zK, .ref zW, .int (nI (sN σ)), .int (sR σ), .int (orE (rEr σ) (sN σ)), .ref zU, .ref zV, .ref zR, .ref zE])), (zU, .inl (cI, 12, .inl (rMu σ))), (zV, .inl (cI, 12, .inl (rMn σ))), (zR, .inl (cI, 12, .inl (rRu σ))), (zE, .inl (cI, 12, .inl (rEr σ)))])) (vp_Si (fun r => r = oAbout σ x w)) 0 0 (fun _ => False) := by
  refine Met.ofW (cc := cX5_about) (maxL := 3) (ret := (some .int)) (by decide) rfl ?_
  intro p e s m args below meth c s₁ B hml hv
  obtain ⟨rfl, hP, hK, hN⟩ := hv
  have hx := B.exec
  have hb := B.bytes
  have hr := B.returns
  have hts := atoms_spec (ws := wsX5_about) B.pre
  have hown : s.vm.findClass RX5 = some m.cls := findClass_of_methodNamed B.named
  have hlocks := B.notSynchronized
  have ho := hok.1
  have hk2 := hok.k
  have hf10 := hts (.fieldLink RX5 10 "BallCourt" "book" "LBallCourt$Book;") (List.mem_of_getElem? (i := 1) (by decide +kernel))
  have hiX5 : ∀ w ∈ wsX50, w ∈ wsX5_about := fun w h => List.mem_cons_of_mem _ (List.mem_append_left _ (List.mem_append_right _ h))
  have hiX0 : ∀ w ∈ wsX00, w ∈ wsX5_about := fun w h => List.mem_cons_of_mem _ (List.mem_append_right _ h)
  have hl := lv_entry ([.ref zX, .int x, .int w]) (n := 3) (Nat.le_of_ble_eq_true rfl)
  rw [lg_entry_eq]
  generalize (lg_sl ([.ref zX, .int x, .int w]) ++ List.replicate (3 - (lg_sl ([.ref zX, .int x, .int w])).length) Slot.unset).toArray = ls at hl ⊢
  have hl : lv_has ls 3 [(0, .ref zX), (1, .int x), (2, .int w)] := hl
  refine lv_aload_n hx hb dX5_about_0 rfl (lv_at hl 0 rfl) ?_
  refine va_get (D := D) (ci := 5) (v := .ref zB) (C := RX5) (T := TX5) (N := 8) hx hb hts hiX5 hown hK hP 0 rfl rfl 0 (by decide) hf10 (fun _ h9 => h9) rfl dX5_about_1 ?_
  refine lv_iload_n hx hb dX5_about_4 rfl (lv_at hl 1 rfl) ?_
  refine xpV (rest := []) ⟨hx, hb, hml, hown, hts⟩ (c_X0_hasLine l D cI cZ zB zK zW zU zV zR zE σ x) (cwV 1 hts gX5_about_X0_hasLine rfl rfl rfl (by decide +kernel) ⟨Nat.le_of_ble_eq_true rfl, Nat.le_of_ble_eq_true rfl⟩) hP [1] rfl hK hN (ci := 0) (q0 := 1) rfl rfl rfl hl.1 rfl (Nat.le_of_ble_eq_true rfl) dX5_about_5 ⟨Nat.zero_le _, Nat.zero_le _⟩ (fun r5 e5 => ?_)
  subst e5
  refine lv_if_ne (tgt := 13) hx hb dX5_about_8 (by decide) (fun c8 => ?_) (fun c8 => ?_)
  · skip
    have c8 := b2_1 c8
    obtain ⟨q, hq, rfl⟩ := inN_t c8 (by omega)
    have kq := clp hq (show sN σ ≤ 128 by omega)
    refine lv_iload_n hx hb dX5_about_13 rfl (lv_at hl 2 rfl) ?_
    rcases sw6 w with c14 | c14 | c14 | c14 | c14 | c14 | c14
    · skip
      subst c14
      refine lv_tableIn (off := 38) (tgt := 52) hx hb dX5_about_14 (by decide) (by decide) (by decide) (by decide) ?_
      refine lv_aload_n hx hb dX5_about_52 rfl (lv_at hl 0 rfl) ?_
      refine va_get (D := D) (ci := 5) (v := .ref zB) (C := RX5) (T := TX5) (N := 8) hx hb hts hiX5 hown hK hP 0 rfl rfl 0 (by decide) hf10 (fun _ h9 => h9) rfl dX5_about_53 ?_
      refine va_getN (D := D) (ci := 0) (v := .ref zU) (C := RX0) (T := TX0) (N := 11) hx hb hts hiX0 hown hK hP 1 rfl rfl 7 (by decide) (NW.f hN 6 rfl _) (fun _ h9 => h9) rfl dX5_about_56 ?_
      refine lv_iload_n hx hb dX5_about_59 rfl (lv_at hl 1 rfl) ?_
      refine xald (k := q) hx hb hK hP 2 rfl (by omega) (by decide) dX5_about_60 ?_
      exact W.iret (v := rMu σ q) hx hb hr (fun t ht hW => ⟨_, rfl, by simp [oAbout, c8, kq], ht⟩) (fun _ h => absurd h List.not_mem_nil) dX5_about_61
    · skip
      subst c14
      refine lv_tableIn (off := 48) (tgt := 62) hx hb dX5_about_14 (by decide) (by decide) (by decide) (by decide) ?_
      refine lv_aload_n hx hb dX5_about_62 rfl (lv_at hl 0 rfl) ?_
      refine va_get (D := D) (ci := 5) (v := .ref zB) (C := RX5) (T := TX5) (N := 8) hx hb hts hiX5 hown hK hP 0 rfl rfl 0 (by decide) hf10 (fun _ h9 => h9) rfl dX5_about_63 ?_
      refine va_getN (D := D) (ci := 0) (v := .ref zV) (C := RX0) (T := TX0) (N := 11) hx hb hts hiX0 hown hK hP 1 rfl rfl 8 (by decide) (NW.f hN 7 rfl _) (fun _ h9 => h9) rfl dX5_about_66 ?_
      refine lv_iload_n hx hb dX5_about_69 rfl (lv_at hl 1 rfl) ?_
      refine xald (k := q) hx hb hK hP 3 rfl (by omega) (by decide) dX5_about_70 ?_
      exact W.iret (v := rMn σ q) hx hb hr (fun t ht hW => ⟨_, rfl, by simp [oAbout, c8, kq], ht⟩) (fun _ h => absurd h List.not_mem_nil) dX5_about_71
    · skip
      subst c14
      refine lv_tableIn (off := 58) (tgt := 72) hx hb dX5_about_14 (by decide) (by decide) (by decide) (by decide) ?_
      refine lv_aload_n hx hb dX5_about_72 rfl (lv_at hl 0 rfl) ?_
      refine va_get (D := D) (ci := 5) (v := .ref zB) (C := RX5) (T := TX5) (N := 8) hx hb hts hiX5 hown hK hP 0 rfl rfl 0 (by decide) hf10 (fun _ h9 => h9) rfl dX5_about_73 ?_
      refine va_getN (D := D) (ci := 0) (v := .ref zR) (C := RX0) (T := TX0) (N := 11) hx hb hts hiX0 hown hK hP 1 rfl rfl 9 (by decide) (NW.f hN 8 rfl _) (fun _ h9 => h9) rfl dX5_about_76 ?_
      refine lv_iload_n hx hb dX5_about_79 rfl (lv_at hl 1 rfl) ?_
      refine xald (k := q) hx hb hK hP 4 rfl (by omega) (by decide) dX5_about_80 ?_
      exact W.iret (v := rRu σ q) hx hb hr (fun t ht hW => ⟨_, rfl, by simp [oAbout, c8, kq], ht⟩) (fun _ h => absurd h List.not_mem_nil) dX5_about_81
    · skip
      subst c14
      refine lv_tableIn (off := 68) (tgt := 82) hx hb dX5_about_14 (by decide) (by decide) (by decide) (by decide) ?_
      refine lv_aload_n hx hb dX5_about_82 rfl (lv_at hl 0 rfl) ?_
      refine va_get (D := D) (ci := 5) (v := .ref zB) (C := RX5) (T := TX5) (N := 8) hx hb hts hiX5 hown hK hP 0 rfl rfl 0 (by decide) hf10 (fun _ h9 => h9) rfl dX5_about_83 ?_
      refine lv_iload_n hx hb dX5_about_86 rfl (lv_at hl 1 rfl) ?_
      refine xpV (rest := []) ⟨hx, hb, hml, hown, hts⟩ (c_X0_isRepealed l D cI cZ zB zK zW zU zV zR zE σ q) (cwV 1 hts gX5_about_X0_isRepealed rfl rfl rfl (by decide +kernel) ⟨Nat.le_of_ble_eq_true rfl, Nat.le_of_ble_eq_true rfl⟩) hP [1] rfl hK hN (ci := 0) (q0 := 1) rfl rfl rfl hl.1 rfl (Nat.le_of_ble_eq_true rfl) dX5_about_87 ⟨Nat.zero_le _, Nat.zero_le _⟩ (fun r87 e87 => ?_)
      subst e87
      refine xpS (rest := []) ⟨hx, hb, hml, hown, hts⟩ (c_X5_oneIf l D cI cZ (bit (sR σ) (nI q))) (va_cwS 1 hts gX5_about_X5_oneIf rfl rfl rfl (by decide +kernel) ⟨Nat.le_of_ble_eq_true rfl, Nat.le_of_ble_eq_true rfl⟩) hP [] rfl hK hN rfl hl.1 rfl (Nat.le_of_ble_eq_true rfl) dX5_about_90 ⟨Nat.zero_le _, Nat.zero_le _⟩ (fun r90 e90 => ?_)
      subst e90
      exact W.iret (v := b2 (bit (sR σ) (nI q))) hx hb hr (fun t ht hW => ⟨_, rfl, by simp [oAbout, c8, kq], ht⟩) (fun _ h => absurd h List.not_mem_nil) dX5_about_93
    · skip
      subst c14
      refine lv_tableIn (off := 80) (tgt := 94) hx hb dX5_about_14 (by decide) (by decide) (by decide) (by decide) ?_
      refine lv_aload_n hx hb dX5_about_94 rfl (lv_at hl 0 rfl) ?_
      refine va_get (D := D) (ci := 5) (v := .ref zB) (C := RX5) (T := TX5) (N := 8) hx hb hts hiX5 hown hK hP 0 rfl rfl 0 (by decide) hf10 (fun _ h9 => h9) rfl dX5_about_95 ?_
      refine va_getN (D := D) (ci := 0) (v := .ref zE) (C := RX0) (T := TX0) (N := 11) hx hb hts hiX0 hown hK hP 1 rfl rfl 10 (by decide) (NW.f hN 5 rfl _) (fun _ h9 => h9) rfl dX5_about_98 ?_
      refine lv_iload_n hx hb dX5_about_101 rfl (lv_at hl 1 rfl) ?_
      refine xald (k := q) hx hb hK hP 5 rfl (by omega) (by decide) dX5_about_102 ?_
      exact W.iret (v := rEr σ q) hx hb hr (fun t ht hW => ⟨_, rfl, by simp [oAbout, c8, kq], ht⟩) (fun _ h => absurd h List.not_mem_nil) dX5_about_103
    · skip
      subst c14
      refine lv_tableIn (off := 90) (tgt := 104) hx hb dX5_about_14 (by decide) (by decide) (by decide) (by decide) ?_
      refine lv_aload_n hx hb dX5_about_104 rfl (lv_at hl 0 rfl) ?_
      refine va_get (D := D) (ci := 5) (v := .ref zB) (C := RX5) (T := TX5) (N := 8) hx hb hts hiX5 hown hK hP 0 rfl rfl 0 (by decide) hf10 (fun _ h9 => h9) rfl dX5_about_105 ?_
      refine lv_iload_n hx hb dX5_about_108 rfl (lv_at hl 1 rfl) ?_
      refine xpV (rest := []) ⟨hx, hb, hml, hown, hts⟩ (c_X0_namedBy l D cI cZ zB zK zW zU zV zR zE σ q hok hq) (cwV 1 hts gX5_about_X0_namedBy rfl rfl rfl (by decide +kernel) ⟨Nat.le_of_ble_eq_true rfl, Nat.le_of_ble_eq_true rfl⟩) hP [1, 2, 3, 5] rfl hK hN (ci := 0) (q0 := 1) rfl rfl rfl hl.1 rfl (Nat.le_of_ble_eq_true rfl) dX5_about_109 ⟨Nat.zero_le _, Nat.zero_le _⟩ (fun r109 e109 => ?_)
      subst e109
      exact W.iret (v := nmI σ (sR σ) q) hx hb hr (fun t ht hW => ⟨_, rfl, by simp [oAbout, c8, kq], ht⟩) (fun _ h => absurd h List.not_mem_nil) dX5_about_112
    · skip
      refine lv_tableOut (tgt := 113) hx hb dX5_about_14 c14 (by decide) ?_
      have n0 := sw_ne c14 (k := 0) (by decide) (by decide)
      have n1 := sw_ne c14 (k := 1) (by decide) (by decide)
      have n2 := sw_ne c14 (k := 2) (by decide) (by decide)
      have n3 := sw_ne c14 (k := 3) (by decide) (by decide)
      have n4 := sw_ne c14 (k := 4) (by decide) (by decide)
      have n5 := sw_ne c14 (k := 5) (by decide) (by decide)
      refine lv_bipush (v := (-2)) hx hb dX5_about_113 (by decide) ?_
      exact W.iret (v := (-2)) hx hb hr (fun t ht hW => ⟨_, rfl, by simp [oAbout, c8, n0, n1, n2, n3, n4, n5], ht⟩) (fun _ h => absurd h List.not_mem_nil) dX5_about_115
  · skip
    have c8 := b2_0 c8
    refine lv_iconst (v := (-1)) hx hb dX5_about_11 (by decide) ?_
    exact W.iret (v := (-1)) hx hb hr (fun t ht hW => ⟨_, rfl, by simp [oAbout, c8], ht⟩) (fun _ h => absurd h List.not_mem_nil) dX5_about_12

set_option maxHeartbeats 4000000 in
set_option maxRecDepth 100000 in
theorem c_X5_holds (l : Launch) (D : va_G) (cI cZ : ClassId) (zX : Nat) (zB : Nat) (zL : Nat) (zF : Nat) (zM : Nat) (zC : Nat) (zG : Nat) (zJ : Nat) (zK : Nat) (zW : Nat) (zU : Nat) (zV : Nat) (zR : Nat) (zE : Nat) (σ : ST) (kI : Nat → Int32) (x : Int32) (y : Int32) (hok : Ok σ) (hkI : ∀ k, k < 2 ^ sF σ → kI k = b2 (kok σ k)) : Met l yX5_holds wsX5_holds ({ frames := 2, cells := 0, slots := 0, locals := 46 }) (va_Pc [.ref zX, .int x, .int y] (XP D cI cZ [(zX, .inr (5, [.ref zB, .ref zL, .ref zF, .ref zM, .ref zC, .ref zG, .ref zJ, .int (nI (sG σ))])), (zB, .inr (0, [.int (nI (sF σ)), .int (nI (2 ^ sF σ)), .ref zK, .ref zW, .int (nI (sN σ)), .int (sR σ), .int (orE (rEr σ) (sN σ)), .ref zU, .ref zV, .ref zR, .ref zE])), (zK, .inl (cZ, 128, .inl kI)), (zU, .inl (cI, 12, .inl (rMu σ))), (zV, .inl (cI, 12, .inl (rMn σ))), (zE, .inl (cI, 12, .inl (rEr σ)))])) (vp_Si (fun r => r = oHolds σ x y)) 0 0 (fun _ => False) := by
  refine Met.ofW (cc := cX5_holds) (maxL := 3) (ret := (some .int)) (by decide) rfl ?_
  intro p e s m args below meth c s₁ B hml hv
  obtain ⟨rfl, hP, hK, hN⟩ := hv
  have hx := B.exec
  have hb := B.bytes
  have hr := B.returns
  have hts := atoms_spec (ws := wsX5_holds) B.pre
  have hown : s.vm.findClass RX5 = some m.cls := findClass_of_methodNamed B.named
  have hlocks := B.notSynchronized
  have ho := hok.1
  have hk2 := hok.k
  have hf10 := hts (.fieldLink RX5 10 "BallCourt" "book" "LBallCourt$Book;") (List.mem_of_getElem? (i := 1) (by decide +kernel))
  have hiX5 : ∀ w ∈ wsX50, w ∈ wsX5_holds := fun w h => List.mem_cons_of_mem _ (List.mem_append_left _ (List.mem_append_right _ h))
  have hiX0 : ∀ w ∈ wsX00, w ∈ wsX5_holds := fun w h => List.mem_cons_of_mem _ (List.mem_append_right _ h)
  have hl := lv_entry ([.ref zX, .int x, .int y]) (n := 3) (Nat.le_of_ble_eq_true rfl)
  rw [lg_entry_eq]
  generalize (lg_sl ([.ref zX, .int x, .int y]) ++ List.replicate (3 - (lg_sl ([.ref zX, .int x, .int y])).length) Slot.unset).toArray = ls at hl ⊢
  have hl : lv_has ls 3 [(0, .ref zX), (1, .int x), (2, .int y)] := hl
  refine lv_aload_n hx hb dX5_holds_0 rfl (lv_at hl 0 rfl) ?_
  refine va_get (D := D) (ci := 5) (v := .ref zB) (C := RX5) (T := TX5) (N := 8) hx hb hts hiX5 hown hK hP 0 rfl rfl 0 (by decide) hf10 (fun _ h9 => h9) rfl dX5_holds_1 ?_
  refine lv_iload_n hx hb dX5_holds_4 rfl (lv_at hl 1 rfl) ?_
  refine xpV (rest := []) ⟨hx, hb, hml, hown, hts⟩ (c_X0_hasLine l D cI cZ zB zK zW zU zV zR zE σ x) (cwV 1 hts gX5_holds_X0_hasLine rfl rfl rfl (by decide +kernel) ⟨Nat.le_of_ble_eq_true rfl, Nat.le_of_ble_eq_true rfl⟩) hP [1] rfl hK hN (ci := 0) (q0 := 1) rfl rfl rfl hl.1 rfl (Nat.le_of_ble_eq_true rfl) dX5_holds_5 ⟨Nat.zero_le _, Nat.zero_le _⟩ (fun r5 e5 => ?_)
  subst e5
  refine lv_if_ne (tgt := 13) hx hb dX5_holds_8 (by decide) (fun c8 => ?_) (fun c8 => ?_)
  · skip
    have c8 := b2_1 c8
    obtain ⟨q, hq, rfl⟩ := inN_t c8 (by omega)
    have kq := clp hq (show sN σ ≤ 128 by omega)
    refine lv_aload_n hx hb dX5_holds_13 rfl (lv_at hl 0 rfl) ?_
    refine va_get (D := D) (ci := 5) (v := .ref zB) (C := RX5) (T := TX5) (N := 8) hx hb hts hiX5 hown hK hP 0 rfl rfl 0 (by decide) hf10 (fun _ h9 => h9) rfl dX5_holds_14 ?_
    refine lv_iload_n hx hb dX5_holds_17 rfl (lv_at hl 2 rfl) ?_
    refine xpV (rest := []) ⟨hx, hb, hml, hown, hts⟩ (c_X0_hasKind l D cI cZ zB zK zW zU zV zR zE σ kI y hok hkI) (cwV 1 hts gX5_holds_X0_hasKind rfl rfl rfl (by decide +kernel) ⟨Nat.le_of_ble_eq_true rfl, Nat.le_of_ble_eq_true rfl⟩) hP [1, 2] rfl hK hN (ci := 0) (q0 := 1) rfl rfl rfl hl.1 rfl (Nat.le_of_ble_eq_true rfl) dX5_holds_18 ⟨Nat.zero_le _, Nat.zero_le _⟩ (fun r18 e18 => ?_)
    subst e18
    refine lv_if_ne (tgt := 27) hx hb dX5_holds_21 (by decide) (fun c21 => ?_) (fun c21 => ?_)
    · skip
      have c21 := b2_1 c21
      obtain ⟨k, hk, rfl⟩ := kin_t c21 (by omega)
      have kk := clp hk hk2
      refine lv_aload_n hx hb dX5_holds_27 rfl (lv_at hl 0 rfl) ?_
      refine va_get (D := D) (ci := 5) (v := .ref zB) (C := RX5) (T := TX5) (N := 8) hx hb hts hiX5 hown hK hP 0 rfl rfl 0 (by decide) hf10 (fun _ h9 => h9) rfl dX5_holds_28 ?_
      refine lv_iload_n hx hb dX5_holds_31 rfl (lv_at hl 2 rfl) ?_
      refine lv_aload_n hx hb dX5_holds_32 rfl (lv_at hl 0 rfl) ?_
      refine va_get (D := D) (ci := 5) (v := .ref zB) (C := RX5) (T := TX5) (N := 8) hx hb hts hiX5 hown hK hP 0 rfl rfl 0 (by decide) hf10 (fun _ h9 => h9) rfl dX5_holds_33 ?_
      refine va_getN (D := D) (ci := 0) (v := .int (sR σ)) (C := RX0) (T := TX0) (N := 11) hx hb hts hiX0 hown hK hP 1 rfl rfl 5 (by decide) (NW.f hN 2 rfl _) (fun _ h9 => h9) rfl dX5_holds_36 ?_
      refine xpV (rest := []) ⟨hx, hb, hml, hown, hts⟩ (c_X0_holding l D cI cZ zB zK zW zU zV zR zE σ (sR σ) k hok) (cwV 2 hts gX5_holds_X0_holding rfl rfl rfl (by decide +kernel) ⟨Nat.le_of_ble_eq_true rfl, Nat.le_of_ble_eq_true rfl⟩) hP [1, 3, 4, 5] rfl hK hN (ci := 0) (q0 := 1) rfl rfl rfl hl.1 rfl (Nat.le_of_ble_eq_true rfl) dX5_holds_39 ⟨Nat.zero_le _, Nat.zero_le _⟩ (fun r39 e39 => ?_)
      subst e39
      refine lv_iload_n hx hb dX5_holds_42 rfl (lv_at hl 1 rfl) ?_
      refine xpS (rest := []) ⟨hx, hb, hml, hown, hts⟩ (c_X5_hasBit l D cI cZ (holdI σ (sR σ) k) (nI q)) (va_cwS 2 hts gX5_holds_X5_hasBit rfl rfl rfl (by decide +kernel) ⟨Nat.le_of_ble_eq_true rfl, Nat.le_of_ble_eq_true rfl⟩) hP [] rfl hK hN rfl hl.1 rfl (Nat.le_of_ble_eq_true rfl) dX5_holds_43 ⟨Nat.zero_le _, Nat.zero_le _⟩ (fun r43 e43 => ?_)
      subst e43
      refine xpS (rest := []) ⟨hx, hb, hml, hown, hts⟩ (c_X5_oneIf l D cI cZ (bit (holdI σ (sR σ) k) (nI q))) (va_cwS 1 hts gX5_holds_X5_oneIf rfl rfl rfl (by decide +kernel) ⟨Nat.le_of_ble_eq_true rfl, Nat.le_of_ble_eq_true rfl⟩) hP [] rfl hK hN rfl hl.1 rfl (Nat.le_of_ble_eq_true rfl) dX5_holds_46 ⟨Nat.zero_le _, Nat.zero_le _⟩ (fun r46 e46 => ?_)
      subst e46
      exact W.iret (v := b2 (bit (holdI σ (sR σ) k) (nI q))) hx hb hr (fun t ht hW => ⟨_, rfl, by simp [oHolds, c8, c21, kk], ht⟩) (fun _ h => absurd h List.not_mem_nil) dX5_holds_49
    · skip
      have c21 := b2_0 c21
      refine lv_bipush (v := (-2)) hx hb dX5_holds_24 (by decide) ?_
      exact W.iret (v := (-2)) hx hb hr (fun t ht hW => ⟨_, rfl, by simp [oHolds, c8, c21], ht⟩) (fun _ h => absurd h List.not_mem_nil) dX5_holds_26
  · skip
    have c8 := b2_0 c8
    refine lv_iconst (v := (-1)) hx hb dX5_holds_11 (by decide) ?_
    exact W.iret (v := (-1)) hx hb hr (fun t ht hW => ⟨_, rfl, by simp [oHolds, c8], ht⟩) (fun _ h => absurd h List.not_mem_nil) dX5_holds_12

set_option maxHeartbeats 4000000 in
set_option maxRecDepth 100000 in
theorem c_X5_law (l : Launch) (D : va_G) (cI cZ : ClassId) (zX : Nat) (zB : Nat) (zL : Nat) (zF : Nat) (zM : Nat) (zC : Nat) (zG : Nat) (zJ : Nat) (zK : Nat) (zW : Nat) (zU : Nat) (zV : Nat) (zR : Nat) (zE : Nat) (zLo : Nat) (σ : ST) (kI : Nat → Int32) (lo : Nat → Int32) (x : Int32) (w : Int32) (hok : Ok σ) (hkI : ∀ k, k < 2 ^ sF σ → kI k = b2 (kok σ k)) (hlo : ∀ k, k < 2 ^ sF σ → lo k = lawI σ (sR σ) k) : Met l yX5_law wsX5_law ({ frames := 2, cells := 0, slots := 0, locals := 42 }) (va_Pc [.ref zX, .int x, .int w] (XP D cI cZ [(zX, .inr (5, [.ref zB, .ref zL, .ref zF, .ref zM, .ref zC, .ref zG, .ref zJ, .int (nI (sG σ))])), (zB, .inr (0, [.int (nI (sF σ)), .int (nI (2 ^ sF σ)), .ref zK, .ref zW, .int (nI (sN σ)), .int (sR σ), .int (orE (rEr σ) (sN σ)), .ref zU, .ref zV, .ref zR, .ref zE])), (zK, .inl (cZ, 128, .inl kI)), (zL, .inr (3, [.ref zB, .ref zLo])), (zLo, .inl (cI, 128, .inl lo)), (zR, .inl (cI, 12, .inl (rRu σ)))])) (vp_Si (fun r => r = oLaw σ x w)) 0 0 (fun _ => False) := by
  refine Met.ofW (cc := cX5_law) (maxL := 3) (ret := (some .int)) (by decide) rfl ?_
  intro p e s m args below meth c s₁ B hml hv
  obtain ⟨rfl, hP, hK, hN⟩ := hv
  have hx := B.exec
  have hb := B.bytes
  have hr := B.returns
  have hts := atoms_spec (ws := wsX5_law) B.pre
  have hown : s.vm.findClass RX5 = some m.cls := findClass_of_methodNamed B.named
  have hlocks := B.notSynchronized
  have ho := hok.1
  have hk2 := hok.k
  have hf10 := hts (.fieldLink RX5 10 "BallCourt" "book" "LBallCourt$Book;") (List.mem_of_getElem? (i := 1) (by decide +kernel))
  have hiX5 : ∀ w ∈ wsX50, w ∈ wsX5_law := fun w h => List.mem_cons_of_mem _ (List.mem_append_left _ (List.mem_append_left _ (List.mem_append_right _ h)))
  have hf21 := hts (.fieldLink RX5 21 "BallCourt" "laws" "LBallCourt$Laws;") (List.mem_of_getElem? (i := 2) (by decide +kernel))
  have hiX3 : ∀ w ∈ wsX30, w ∈ wsX5_law := fun w h => List.mem_cons_of_mem _ (List.mem_append_left _ (List.mem_append_right _ h))
  have hl := lv_entry ([.ref zX, .int x, .int w]) (n := 3) (Nat.le_of_ble_eq_true rfl)
  rw [lg_entry_eq]
  generalize (lg_sl ([.ref zX, .int x, .int w]) ++ List.replicate (3 - (lg_sl ([.ref zX, .int x, .int w])).length) Slot.unset).toArray = ls at hl ⊢
  have hl : lv_has ls 3 [(0, .ref zX), (1, .int x), (2, .int w)] := hl
  refine lv_aload_n hx hb dX5_law_0 rfl (lv_at hl 0 rfl) ?_
  refine va_get (D := D) (ci := 5) (v := .ref zB) (C := RX5) (T := TX5) (N := 8) hx hb hts hiX5 hown hK hP 0 rfl rfl 0 (by decide) hf10 (fun _ h9 => h9) rfl dX5_law_1 ?_
  refine lv_iload_n hx hb dX5_law_4 rfl (lv_at hl 1 rfl) ?_
  refine xpV (rest := []) ⟨hx, hb, hml, hown, hts⟩ (c_X0_hasKind l D cI cZ zB zK zW zU zV zR zE σ kI x hok hkI) (cwV 1 hts gX5_law_X0_hasKind rfl rfl rfl (by decide +kernel) ⟨Nat.le_of_ble_eq_true rfl, Nat.le_of_ble_eq_true rfl⟩) hP [1, 2] rfl hK hN (ci := 0) (q0 := 1) rfl rfl rfl hl.1 rfl (Nat.le_of_ble_eq_true rfl) dX5_law_5 ⟨Nat.zero_le _, Nat.zero_le _⟩ (fun r5 e5 => ?_)
  subst e5
  refine lv_if_eq (tgt := 20) hx hb dX5_law_8 (by decide) (fun c8 => ?_) (fun c8 => ?_)
  · skip
    have c8 := b2_0 c8
    refine lv_bipush (v := (-2)) hx hb dX5_law_20 (by decide) ?_
    exact W.iret (v := (-2)) hx hb hr (fun t ht hW => ⟨_, rfl, by simp [oLaw, c8], ht⟩) (fun _ h => absurd h List.not_mem_nil) dX5_law_22
  · skip
    have c8 := b2_1 c8
    obtain ⟨k, hk, rfl⟩ := kin_t c8 (by omega)
    have kk := clp hk hk2
    refine lv_iload_n hx hb dX5_law_11 rfl (lv_at hl 2 rfl) ?_
    refine lv_if_lt (tgt := 20) hx hb dX5_law_12 (by decide) (fun c12 => ?_) (fun c12 => ?_)
    · skip
      refine lv_bipush (v := (-2)) hx hb dX5_law_20 (by decide) ?_
      exact W.iret (v := (-2)) hx hb hr (fun t ht hW => ⟨_, rfl, by simp [oLaw, c8, inI, c12], ht⟩) (fun _ h => absurd h List.not_mem_nil) dX5_law_22
    · skip
      refine lv_iload_n hx hb dX5_law_15 rfl (lv_at hl 2 rfl) ?_
      refine lv_iconst (v := 1) hx hb dX5_law_16 (by decide) ?_
      refine lv_icmp_le (tgt := 23) hx hb dX5_law_17 (by decide) (fun c17 => ?_) (fun c17 => ?_)
      · skip
        have c17 := Int32.not_lt.mpr c17
        refine lv_iload_n hx hb dX5_law_23 rfl (lv_at hl 2 rfl) ?_
        refine lv_if_ne (tgt := 39) hx hb dX5_law_24 (by decide) (fun c24 => ?_) (fun c24 => ?_)
        · skip
          refine lv_aload_n hx hb dX5_law_39 rfl (lv_at hl 0 rfl) ?_
          refine va_get (D := D) (ci := 5) (v := .ref zL) (C := RX5) (T := TX5) (N := 8) hx hb hts hiX5 hown hK hP 0 rfl rfl 1 (by decide) hf21 (fun _ h9 => h9) rfl dX5_law_40 ?_
          refine lv_iload_n hx hb dX5_law_43 rfl (lv_at hl 1 rfl) ?_
          refine xpV (rest := []) ⟨hx, hb, hml, hown, hts⟩ (c_X3_rulingFor l D cI cZ zB zL zK zW zU zV zR zE zLo σ lo (sR σ) k hok hk hlo) (cwV 1 hts gX5_law_X3_rulingFor rfl rfl rfl (by decide +kernel) ⟨Nat.le_of_ble_eq_true rfl, Nat.le_of_ble_eq_true rfl⟩) hP [3, 4, 1, 5] rfl hK hN (ci := 3) (q0 := 3) rfl rfl rfl hl.1 rfl (Nat.le_of_ble_eq_true rfl) dX5_law_44 ⟨Nat.zero_le _, Nat.zero_le _⟩ (fun r44 e44 => ?_)
          subst e44
          exact W.iret (v := rulI σ (sR σ) k) hx hb hr (fun t ht hW => ⟨_, rfl, by simp [oLaw, c8, inI, c12, c17, c24, kk], ht⟩) (fun _ h => absurd h List.not_mem_nil) dX5_law_47
        · skip
          refine lv_aload_n hx hb dX5_law_27 rfl (lv_at hl 0 rfl) ?_
          refine va_get (D := D) (ci := 5) (v := .ref zL) (C := RX5) (T := TX5) (N := 8) hx hb hts hiX5 hown hK hP 0 rfl rfl 1 (by decide) hf21 (fun _ h9 => h9) rfl dX5_law_28 ?_
          refine va_getN (D := D) (ci := 3) (v := .ref zLo) (C := RX3) (T := TX3) (N := 2) hx hb hts hiX3 hown hK hP 3 rfl rfl 1 (by decide) (NW.f hN 9 rfl _) (fun _ h9 => h9) rfl dX5_law_31 ?_
          refine lv_iload_n hx hb dX5_law_34 rfl (lv_at hl 1 rfl) ?_
          refine xald (k := k) hx hb hK hP 4 rfl (by omega) (by decide) dX5_law_35 ?_
          refine lv_goto (tgt := 47) hx hb dX5_law_36 (by decide) ?_
          exact W.iret (v := lo k) hx hb hr (fun t ht hW => ⟨_, rfl, by rw [hlo k hk]; simp [oLaw, c8, inI, c12, c17, c24, kk], ht⟩) (fun _ h => absurd h List.not_mem_nil) dX5_law_47
      · skip
        have c17 := Int32.not_le.mp c17
        refine lv_bipush (v := (-2)) hx hb dX5_law_20 (by decide) ?_
        exact W.iret (v := (-2)) hx hb hr (fun t ht hW => ⟨_, rfl, by simp [oLaw, c8, inI, c12, c17], ht⟩) (fun _ h => absurd h List.not_mem_nil) dX5_law_22

set_option maxHeartbeats 4000000 in
set_option maxRecDepth 100000 in
theorem c_X5_open (l : Launch) (D : va_G) (cI cZ : ClassId) (zX : Nat) (zB : Nat) (zL : Nat) (zF : Nat) (zM : Nat) (zC : Nat) (zG : Nat) (zJ : Nat) (zK : Nat) (zW : Nat) (zU : Nat) (zV : Nat) (zR : Nat) (zE : Nat) (zLo : Nat) (σ : ST) (kI : Nat → Int32) (lo : Nat → Int32) (i : Int32) (hok : Ok σ) (hkI : ∀ k, k < 2 ^ sF σ → kI k = b2 (kok σ k)) (hlo : ∀ k, k < 2 ^ sF σ → lo k = lawI σ (sR σ) k) : Met l yX5_open wsX5_open ({ frames := 1, cells := 0, slots := 0, locals := 21 }) (va_Pc [.ref zX, .int i] (XP D cI cZ [(zX, .inr (5, [.ref zB, .ref zL, .ref zF, .ref zM, .ref zC, .ref zG, .ref zJ, .int (nI (sG σ))])), (zB, .inr (0, [.int (nI (sF σ)), .int (nI (2 ^ sF σ)), .ref zK, .ref zW, .int (nI (sN σ)), .int (sR σ), .int (orE (rEr σ) (sN σ)), .ref zU, .ref zV, .ref zR, .ref zE])), (zK, .inl (cZ, 128, .inl kI)), (zL, .inr (3, [.ref zB, .ref zLo])), (zLo, .inl (cI, 128, .inl lo))])) (vp_Si (fun r => r = oOpen σ i)) 0 0 (fun _ => False) := by
  refine Met.ofW (cc := cX5_open) (maxL := 4) (ret := (some .int)) (by decide) rfl ?_
  intro p e s m args below meth c s₁ B hml hv
  obtain ⟨rfl, hP, hK, hN⟩ := hv
  have hx := B.exec
  have hb := B.bytes
  have hr := B.returns
  have hts := atoms_spec (ws := wsX5_open) B.pre
  have hown : s.vm.findClass RX5 = some m.cls := findClass_of_methodNamed B.named
  have hlocks := B.notSynchronized
  have ho := hok.1
  have hk2 := hok.k
  have hf10 := hts (.fieldLink RX5 10 "BallCourt" "book" "LBallCourt$Book;") (List.mem_of_getElem? (i := 1) (by decide +kernel))
  have hiX5 : ∀ w ∈ wsX50, w ∈ wsX5_open := fun w h => List.mem_cons_of_mem _ (List.mem_append_left _ (List.mem_append_left _ (List.mem_append_right _ h)))
  have hiX0 : ∀ w ∈ wsX00, w ∈ wsX5_open := fun w h => List.mem_cons_of_mem _ (List.mem_append_left _ (List.mem_append_right _ h))
  have hf21 := hts (.fieldLink RX5 21 "BallCourt" "laws" "LBallCourt$Laws;") (List.mem_of_getElem? (i := 2) (by decide +kernel))
  have hl := lv_entry ([.ref zX, .int i]) (n := 4) (Nat.le_of_ble_eq_true rfl)
  rw [lg_entry_eq]
  generalize (lg_sl ([.ref zX, .int i]) ++ List.replicate (4 - (lg_sl ([.ref zX, .int i])).length) Slot.unset).toArray = ls at hl ⊢
  have hl : lv_has ls 4 [(0, .ref zX), (1, .int i)] := hl
  refine lv_iconst (v := nI 0) hx hb dX5_open_0 (by decide) ?_
  refine lv_istore_n (lv' := [(2, .int (nI 0)), (0, .ref zX), (1, .int i)]) hx hb dX5_open_1 rfl hl (by decide) rfl (fun ls hl => ?_)
  refine lv_iconst (v := nI 0) hx hb dX5_open_2 (by decide) ?_
  refine lv_istore_n (lv' := [(3, .int (nI 0)), (2, .int (nI 0)), (0, .ref zX), (1, .int i)]) hx hb dX5_open_3 rfl hl (by decide) rfl (fun ls hl => ?_)
  refine wloop (α := Nat) (fun v => 2 ^ sF σ - v) (fun v => [(0, .ref zX), (1, .int i), (2, .int (nI (cnt (opq σ) v))), (3, .int (nI v))]) (fun v => (v ≤ 2 ^ sF σ) ∧ (∀ j, j < v → opf σ i j = false)) 4 (fun v hv ih4 ls hl => ?_) 0 ⟨(show 0 ≤ 2 ^ sF σ from Nat.zero_le _), (show ∀ j, j < 0 → opf σ i j = false from fun j hj => absurd hj (Nat.not_lt_zero _))⟩ ls (lv_sub hl [2, 3, 1, 0] rfl)
  obtain ⟨k, rfl⟩ : ∃ z : Nat, z = v := ⟨_, rfl⟩
  obtain ⟨hk, hn⟩ := hv
  have hk : k ≤ 2 ^ sF σ := hk
  have hn : ∀ j, j < k → opf σ i j = false := hn
  have hl : lv_has ls 4 [(0, .ref zX), (1, .int i), (2, .int (nI (cnt (opq σ) k))), (3, .int (nI k))] := hl
  refine lv_iload_n hx hb dX5_open_4 rfl (lv_at hl 3 rfl) ?_
  refine lv_aload_n hx hb dX5_open_5 rfl (lv_at hl 0 rfl) ?_
  refine va_get (D := D) (ci := 5) (v := .ref zB) (C := RX5) (T := TX5) (N := 8) hx hb hts hiX5 hown hK hP 0 rfl rfl 0 (by decide) hf10 (fun _ h9 => h9) rfl dX5_open_6 ?_
  refine va_getN (D := D) (ci := 0) (v := .int (nI (2 ^ sF σ))) (C := RX0) (T := TX0) (N := 11) hx hb hts hiX0 hown hK hP 1 rfl rfl 1 (by decide) (NW.f hN 10 rfl _) (fun _ h9 => h9) rfl dX5_open_9 ?_
  refine lv_icmp_ge (tgt := 53) hx hb dX5_open_12 (by decide) (fun c12 => ?_) (fun c12 => ?_)
  · skip
    have c12 := (nI_leI (by omega) (by omega)).mp c12
    refine lv_iload_n hx hb dX5_open_53 rfl (lv_at hl 1 rfl) ?_
    refine lv_iconst (v := (-1)) hx hb dX5_open_54 (by decide) ?_
    refine lv_icmp_ne (tgt := 62) hx hb dX5_open_55 (by decide) (fun c55 => ?_) (fun c55 => ?_)
    · skip
      refine lv_bipush (v := (-6)) hx hb dX5_open_62 (by decide) ?_
      exact W.iret (v := (-6)) hx hb hr (fun t ht hW => ⟨_, rfl, by rw [oOpen, fst_no (fun j hj => hn j (by omega)), if_neg (Nat.lt_irrefl _), if_neg c55], ht⟩) (fun _ h => absurd h List.not_mem_nil) dX5_open_64
    · skip
      refine lv_iload_n hx hb dX5_open_58 rfl (lv_at hl 2 rfl) ?_
      refine lv_goto (tgt := 64) hx hb dX5_open_59 (by decide) ?_
      exact W.iret (v := nI (cnt (opq σ) k)) hx hb hr (fun t ht hW => ⟨_, rfl, by rw [oOpen, fst_no (fun j hj => hn j (by omega)), if_neg (Nat.lt_irrefl _), if_pos c55, show k = 2 ^ sF σ by omega], ht⟩) (fun _ h => absurd h List.not_mem_nil) dX5_open_64
  · skip
    have c12 := Nat.lt_of_not_le (fun z => c12 ((nI_leI (by omega) (by omega)).mpr z))
    refine lv_aload_n hx hb dX5_open_15 rfl (lv_at hl 0 rfl) ?_
    refine va_get (D := D) (ci := 5) (v := .ref zB) (C := RX5) (T := TX5) (N := 8) hx hb hts hiX5 hown hK hP 0 rfl rfl 0 (by decide) hf10 (fun _ h9 => h9) rfl dX5_open_16 ?_
    refine lv_iload_n hx hb dX5_open_19 rfl (lv_at hl 3 rfl) ?_
    refine xpV (rest := []) ⟨hx, hb, hml, hown, hts⟩ (c_X0_hasKind l D cI cZ zB zK zW zU zV zR zE σ kI (nI k) hok hkI) (cwV 1 hts gX5_open_X0_hasKind rfl rfl rfl (by decide +kernel) ⟨Nat.le_of_ble_eq_true rfl, Nat.le_of_ble_eq_true rfl⟩) hP [1, 2] rfl hK hN (ci := 0) (q0 := 1) rfl rfl rfl hl.1 rfl (Nat.le_of_ble_eq_true rfl) dX5_open_20 ⟨Nat.zero_le _, Nat.zero_le _⟩ (fun r20 e20 => ?_)
    subst e20
    refine lv_asi (show b2 (kin σ (nI k)) = b2 (kok σ k) from congrArg b2 (kin_nI c12 (by omega))) ?_
    refine lv_if_eq (tgt := 47) hx hb dX5_open_23 (by decide) (fun c23 => ?_) (fun c23 => ?_)
    · skip
      have c23 := b2_0 c23
      have hl : lv_has ls 4 [(0, .ref zX), (1, .int i), (2, .int (nI (cnt (opq σ) (k + 1)))), (3, .int (nI k))] := by rw [← (show nI (cnt (opq σ) k) = nI (cnt (opq σ) (k + 1)) from congrArg nI (cnt_n (by simp [opq, c23])))]; exact hl
      refine lv_iinc (k := 3) (x := nI k) (v := nI (k + 1)) (lv' := [(3, .int (nI (k + 1))), (0, .ref zX), (1, .int i), (2, .int (nI (cnt (opq σ) (k + 1))))]) hx hb dX5_open_47 hl rfl (show (nI k) + Int32.ofInt 1 = nI (k + 1) from nI_1 _) (by decide) rfl (fun ls hl => ?_)
      refine lv_goto (tgt := 4) hx hb dX5_open_50 (by decide) ?_
      exact ih4 (k + 1) ⟨(show (k + 1) ≤ 2 ^ sF σ from (by omega)), (show ∀ j, j < (k + 1) → opf σ i j = false from lt_s hn (by simp [opf, opq, c23]))⟩ (by show 2 ^ sF σ - (k + 1) < 2 ^ sF σ - k; omega) ls (lv_sub hl [1, 2, 3, 0] rfl)
    · skip
      have c23 := b2_1 c23
      refine lv_aload_n hx hb dX5_open_26 rfl (lv_at hl 0 rfl) ?_
      refine va_get (D := D) (ci := 5) (v := .ref zL) (C := RX5) (T := TX5) (N := 8) hx hb hts hiX5 hown hK hP 0 rfl rfl 1 (by decide) hf21 (fun _ h9 => h9) rfl dX5_open_27 ?_
      refine lv_iload_n hx hb dX5_open_30 rfl (lv_at hl 3 rfl) ?_
      refine xpV (rest := []) ⟨hx, hb, hml, hown, hts⟩ (c_X3_covers l D cI cZ zB zL zLo σ lo (sR σ) k hok c12 hlo) (cwV 1 hts gX5_open_X3_covers rfl rfl rfl (by decide +kernel) ⟨Nat.le_of_ble_eq_true rfl, Nat.le_of_ble_eq_true rfl⟩) hP [3, 4] rfl hK hN (ci := 3) (q0 := 3) rfl rfl rfl hl.1 rfl (Nat.le_of_ble_eq_true rfl) dX5_open_31 ⟨Nat.zero_le _, Nat.zero_le _⟩ (fun r31 e31 => ?_)
      subst e31
      refine lv_if_ne (tgt := 47) hx hb dX5_open_34 (by decide) (fun c34 => ?_) (fun c34 => ?_)
      · skip
        have c34 := b2_1 c34
        have hl : lv_has ls 4 [(0, .ref zX), (1, .int i), (2, .int (nI (cnt (opq σ) (k + 1)))), (3, .int (nI k))] := by rw [← (show nI (cnt (opq σ) k) = nI (cnt (opq σ) (k + 1)) from congrArg nI (cnt_n (by simp [opq, c34])))]; exact hl
        refine lv_iinc (k := 3) (x := nI k) (v := nI (k + 1)) (lv' := [(3, .int (nI (k + 1))), (0, .ref zX), (1, .int i), (2, .int (nI (cnt (opq σ) (k + 1))))]) hx hb dX5_open_47 hl rfl (show (nI k) + Int32.ofInt 1 = nI (k + 1) from nI_1 _) (by decide) rfl (fun ls hl => ?_)
        refine lv_goto (tgt := 4) hx hb dX5_open_50 (by decide) ?_
        exact ih4 (k + 1) ⟨(show (k + 1) ≤ 2 ^ sF σ from (by omega)), (show ∀ j, j < (k + 1) → opf σ i j = false from lt_s hn (by simp [opf, opq, c23, c34]))⟩ (by show 2 ^ sF σ - (k + 1) < 2 ^ sF σ - k; omega) ls (lv_sub hl [1, 2, 3, 0] rfl)
      · skip
        have c34 := b2_0 c34
        refine lv_iload_n hx hb dX5_open_37 rfl (lv_at hl 2 rfl) ?_
        refine lv_iload_n hx hb dX5_open_38 rfl (lv_at hl 1 rfl) ?_
        refine lv_icmp_ne (tgt := 44) hx hb dX5_open_39 (by decide) (fun c39 => ?_) (fun c39 => ?_)
        · skip
          refine lv_iinc (k := 2) (x := nI (cnt (opq σ) k)) (v := nI (cnt (opq σ) (k + 1))) (lv' := [(2, .int (nI (cnt (opq σ) (k + 1)))), (0, .ref zX), (1, .int i), (3, .int (nI k))]) hx hb dX5_open_44 hl rfl (show (nI (cnt (opq σ) k)) + Int32.ofInt 1 = nI (cnt (opq σ) (k + 1)) from cnt_y (by simp [opq, c23, c34])) (by decide) rfl (fun ls hl => ?_)
          refine lv_iinc (k := 3) (x := nI k) (v := nI (k + 1)) (lv' := [(3, .int (nI (k + 1))), (2, .int (nI (cnt (opq σ) (k + 1)))), (0, .ref zX), (1, .int i)]) hx hb dX5_open_47 hl rfl (show (nI k) + Int32.ofInt 1 = nI (k + 1) from nI_1 _) (by decide) rfl (fun ls hl => ?_)
          refine lv_goto (tgt := 4) hx hb dX5_open_50 (by decide) ?_
          exact ih4 (k + 1) ⟨(show (k + 1) ≤ 2 ^ sF σ from (by omega)), (show ∀ j, j < (k + 1) → opf σ i j = false from lt_s hn (by simp [opf, opq, c23, c34, c39]))⟩ (by show 2 ^ sF σ - (k + 1) < 2 ^ sF σ - k; omega) ls (lv_sub hl [2, 3, 1, 0] rfl)
        · skip
          refine lv_iload_n hx hb dX5_open_42 rfl (lv_at hl 3 rfl) ?_
          exact W.iret (v := nI k) hx hb hr (fun t ht hW => ⟨_, rfl, by rw [oOpen, fst_at (i := k) (by simp [opf, opq, c23, c34, c39]) hn c12, if_pos c12], ht⟩) (fun _ h => absurd h List.not_mem_nil) dX5_open_43

set_option maxHeartbeats 4000000 in
set_option maxRecDepth 100000 in
theorem c_X5_known (l : Launch) (D : va_G) (cI cZ : ClassId) (zX : Nat) (zB : Nat) (zL : Nat) (zF : Nat) (zM : Nat) (zC : Nat) (zG : Nat) (zJ : Nat) (zK : Nat) (zW : Nat) (zU : Nat) (zV : Nat) (zR : Nat) (zE : Nat) (zS : Nat) (zT : Nat) (zD : Nat) (σ : ST) (kI : Nat → Int32) (x : Int32) (w : Int32) (hok : Ok σ) (hkI : ∀ k, k < 2 ^ sF σ → kI k = b2 (kok σ k)) : Met l yX5_known wsX5_known ({ frames := 2, cells := 0, slots := 0, locals := 47 }) (va_Pc [.ref zX, .int x, .int w] (XP D cI cZ [(zX, .inr (5, [.ref zB, .ref zL, .ref zF, .ref zM, .ref zC, .ref zG, .ref zJ, .int (nI (sG σ))])), (zM, .inr (4, [.int (nI (sM σ)), .ref zS, .ref zT, .ref zD])), (zS, .inl (cI, 90, .inl (rTs σ))), (zT, .inl (cI, 90, .inl (rTn σ))), (zB, .inr (0, [.int (nI (sF σ)), .int (nI (2 ^ sF σ)), .ref zK, .ref zW, .int (nI (sN σ)), .int (sR σ), .int (orE (rEr σ) (sN σ)), .ref zU, .ref zV, .ref zR, .ref zE])), (zK, .inl (cZ, 128, .inl kI))])) (vp_Si (fun r => r = oKnown σ x w)) 0 0 (fun _ => False) := by
  refine Met.ofW (cc := cX5_known) (maxL := 5) (ret := (some .int)) (by decide) rfl ?_
  intro p e s m args below meth c s₁ B hml hv
  obtain ⟨rfl, hP, hK, hN⟩ := hv
  have hx := B.exec
  have hb := B.bytes
  have hr := B.returns
  have hts := atoms_spec (ws := wsX5_known) B.pre
  have hown : s.vm.findClass RX5 = some m.cls := findClass_of_methodNamed B.named
  have hlocks := B.notSynchronized
  have ho := hok.1
  have hk2 := hok.k
  have hf31 := hts (.fieldLink RX5 31 "BallCourt" "played" "LBallCourt$Moments;") (List.mem_of_getElem? (i := 1) (by decide +kernel))
  have hiX5 : ∀ w ∈ wsX50, w ∈ wsX5_known := fun w h => List.mem_cons_of_mem _ (List.mem_append_left _ (List.mem_append_left _ (List.mem_append_right _ h)))
  have hf10 := hts (.fieldLink RX5 10 "BallCourt" "book" "LBallCourt$Book;") (List.mem_of_getElem? (i := 2) (by decide +kernel))
  have hl := lv_entry ([.ref zX, .int x, .int w]) (n := 5) (Nat.le_of_ble_eq_true rfl)
  rw [lg_entry_eq]
  generalize (lg_sl ([.ref zX, .int x, .int w]) ++ List.replicate (5 - (lg_sl ([.ref zX, .int x, .int w])).length) Slot.unset).toArray = ls at hl ⊢
  have hl : lv_has ls 5 [(0, .ref zX), (1, .int x), (2, .int w)] := hl
  refine lv_aload_n hx hb dX5_known_0 rfl (lv_at hl 0 rfl) ?_
  refine va_get (D := D) (ci := 5) (v := .ref zM) (C := RX5) (T := TX5) (N := 8) hx hb hts hiX5 hown hK hP 0 rfl rfl 3 (by decide) hf31 (fun _ h9 => h9) rfl dX5_known_1 ?_
  refine lv_iload_n hx hb dX5_known_4 rfl (lv_at hl 1 rfl) ?_
  refine xpV (rest := []) ⟨hx, hb, hml, hown, hts⟩ (c_X4_has l D cI cZ zM zS zT zD σ x) (cwV 1 hts gX5_known_X4_has rfl rfl rfl (by decide +kernel) ⟨Nat.le_of_ble_eq_true rfl, Nat.le_of_ble_eq_true rfl⟩) hP [1] rfl hK hN (ci := 4) (q0 := 1) rfl rfl rfl hl.1 rfl (Nat.le_of_ble_eq_true rfl) dX5_known_5 ⟨Nat.zero_le _, Nat.zero_le _⟩ (fun r5 e5 => ?_)
  subst e5
  refine lv_if_ne (tgt := 13) hx hb dX5_known_8 (by decide) (fun c8 => ?_) (fun c8 => ?_)
  · skip
    have c8 := b2_1 c8
    obtain ⟨q, hq, rfl⟩ := inN_t c8 (by omega)
    have kq := clp hq (show sM σ ≤ 128 by omega)
    refine lv_aload_n hx hb dX5_known_13 rfl (lv_at hl 0 rfl) ?_
    refine va_get (D := D) (ci := 5) (v := .ref zM) (C := RX5) (T := TX5) (N := 8) hx hb hts hiX5 hown hK hP 0 rfl rfl 3 (by decide) hf31 (fun _ h9 => h9) rfl dX5_known_14 ?_
    refine lv_iload_n hx hb dX5_known_17 rfl (lv_at hl 1 rfl) ?_
    refine xpV (rest := []) ⟨hx, hb, hml, hown, hts⟩ (c_X4_knownSo l D cI cZ zM zS zT zD σ q (by omega)) (cwV 1 hts gX5_known_X4_knownSo rfl rfl rfl (by decide +kernel) ⟨Nat.le_of_ble_eq_true rfl, Nat.le_of_ble_eq_true rfl⟩) hP [1, 2, 3] rfl hK hN (ci := 4) (q0 := 1) rfl rfl rfl hl.1 rfl (Nat.le_of_ble_eq_true rfl) dX5_known_18 ⟨Nat.zero_le _, Nat.zero_le _⟩ (fun r18 e18 => ?_)
    subst e18
    refine lv_istore_n (lv' := [(3, .int (soI σ q)), (0, .ref zX), (1, .int (nI q)), (2, .int w)]) hx hb dX5_known_21 rfl hl (by decide) rfl (fun ls hl => ?_)
    refine lv_aload_n hx hb dX5_known_22 rfl (lv_at hl 1 rfl) ?_
    refine va_get (D := D) (ci := 5) (v := .ref zM) (C := RX5) (T := TX5) (N := 8) hx hb hts hiX5 hown hK hP 0 rfl rfl 3 (by decide) hf31 (fun _ h9 => h9) rfl dX5_known_23 ?_
    refine lv_iload_n hx hb dX5_known_26 rfl (lv_at hl 2 rfl) ?_
    refine xpV (rest := []) ⟨hx, hb, hml, hown, hts⟩ (c_X4_knownNotSo l D cI cZ zM zS zT zD σ q (by omega)) (cwV 1 hts gX5_known_X4_knownNotSo rfl rfl rfl (by decide +kernel) ⟨Nat.le_of_ble_eq_true rfl, Nat.le_of_ble_eq_true rfl⟩) hP [1, 2, 3] rfl hK hN (ci := 4) (q0 := 1) rfl rfl rfl hl.1 rfl (Nat.le_of_ble_eq_true rfl) dX5_known_27 ⟨Nat.zero_le _, Nat.zero_le _⟩ (fun r27 e27 => ?_)
    subst e27
    refine lv_istore (lv' := [(4, .int (nsI σ q)), (3, .int (soI σ q)), (0, .ref zX), (1, .int (nI q)), (2, .int w)]) hx hb dX5_known_30 hl (by decide) rfl (fun ls hl => ?_)
    refine lv_iload_n hx hb dX5_known_32 rfl (lv_at hl 4 rfl) ?_
    rcases sw4 w with c33 | c33 | c33 | c33 | c33
    · skip
      subst c33
      refine lv_tableIn (off := 31) (tgt := 64) hx hb dX5_known_33 (by decide) (by decide) (by decide) (by decide) ?_
      refine lv_iload_n hx hb dX5_known_64 rfl (lv_at hl 1 rfl) ?_
      exact W.iret (v := soI σ q) hx hb hr (fun t ht hW => ⟨_, rfl, by simp [oKnown, c8, kq], ht⟩) (fun _ h => absurd h List.not_mem_nil) dX5_known_65
    · skip
      subst c33
      refine lv_tableIn (off := 33) (tgt := 66) hx hb dX5_known_33 (by decide) (by decide) (by decide) (by decide) ?_
      refine lv_iload hx hb dX5_known_66 (lv_at hl 0 rfl) ?_
      exact W.iret (v := nsI σ q) hx hb hr (fun t ht hW => ⟨_, rfl, by simp [oKnown, c8, kq], ht⟩) (fun _ h => absurd h List.not_mem_nil) dX5_known_68
    · skip
      subst c33
      refine lv_tableIn (off := 36) (tgt := 69) hx hb dX5_known_33 (by decide) (by decide) (by decide) (by decide) ?_
      refine lv_aload_n hx hb dX5_known_69 rfl (lv_at hl 2 rfl) ?_
      refine va_get (D := D) (ci := 5) (v := .ref zB) (C := RX5) (T := TX5) (N := 8) hx hb hts hiX5 hown hK hP 0 rfl rfl 0 (by decide) hf10 (fun _ h9 => h9) rfl dX5_known_70 ?_
      refine xpV (rest := []) ⟨hx, hb, hml, hown, hts⟩ (c_X0_allFacts l D cI cZ zB zK zW zU zV zR zE σ hok) (cwV 0 hts gX5_known_X0_allFacts rfl rfl rfl (by decide +kernel) ⟨Nat.le_of_ble_eq_true rfl, Nat.le_of_ble_eq_true rfl⟩) hP [4] rfl hK hN (ci := 0) (q0 := 4) rfl rfl rfl hl.1 rfl (Nat.le_of_ble_eq_true rfl) dX5_known_73 ⟨Nat.zero_le _, Nat.zero_le _⟩ (fun r73 e73 => ?_)
      subst e73
      refine lv_iload_n hx hb dX5_known_76 rfl (lv_at hl 1 rfl) ?_
      refine lv_iload hx hb dX5_known_77 (lv_at hl 0 rfl) ?_
      refine lv_ior hx hb dX5_known_79 ?_
      refine lv_iconst (v := (-1)) hx hb dX5_known_80 (by decide) ?_
      refine lv_ixor hx hb dX5_known_81 ?_
      refine lv_iand hx hb dX5_known_82 ?_
      exact W.iret (v := (nI (2 ^ sF σ - 1)) &&& (((soI σ q) ||| (nsI σ q)) ^^^ (-1))) hx hb hr (fun t ht hW => ⟨_, rfl, by simp [oKnown, c8, kq], ht⟩) (fun _ h => absurd h List.not_mem_nil) dX5_known_83
    · skip
      subst c33
      refine lv_tableIn (off := 51) (tgt := 84) hx hb dX5_known_33 (by decide) (by decide) (by decide) (by decide) ?_
      refine lv_aload_n hx hb dX5_known_84 rfl (lv_at hl 2 rfl) ?_
      refine va_get (D := D) (ci := 5) (v := .ref zB) (C := RX5) (T := TX5) (N := 8) hx hb hts hiX5 hown hK hP 0 rfl rfl 0 (by decide) hf10 (fun _ h9 => h9) rfl dX5_known_85 ?_
      refine lv_iload_n hx hb dX5_known_88 rfl (lv_at hl 1 rfl) ?_
      refine lv_iload hx hb dX5_known_89 (lv_at hl 0 rfl) ?_
      refine xpV (rest := []) ⟨hx, hb, hml, hown, hts⟩ (c_X0_countMayBe l D cI cZ zB zK zW zU zV zR zE σ kI (soI σ q) (nsI σ q) hok hkI) (cwV 2 hts gX5_known_X0_countMayBe rfl rfl rfl (by decide +kernel) ⟨Nat.le_of_ble_eq_true rfl, Nat.le_of_ble_eq_true rfl⟩) hP [4, 5] rfl hK hN (ci := 0) (q0 := 4) rfl rfl rfl hl.1 rfl (Nat.le_of_ble_eq_true rfl) dX5_known_91 ⟨Nat.zero_le _, Nat.zero_le _⟩ (fun r91 e91 => ?_)
      subst e91
      exact W.iret (v := nI (cmb σ (soI σ q) (nsI σ q))) hx hb hr (fun t ht hW => ⟨_, rfl, by simp [oKnown, c8, kq], ht⟩) (fun _ h => absurd h List.not_mem_nil) dX5_known_94
    · skip
      refine lv_tableOut (tgt := 95) hx hb dX5_known_33 c33 (by decide) ?_
      have n0 := sw_ne c33 (k := 0) (by decide) (by decide)
      have n1 := sw_ne c33 (k := 1) (by decide) (by decide)
      have n2 := sw_ne c33 (k := 2) (by decide) (by decide)
      have n3 := sw_ne c33 (k := 3) (by decide) (by decide)
      refine lv_bipush (v := (-2)) hx hb dX5_known_95 (by decide) ?_
      exact W.iret (v := (-2)) hx hb hr (fun t ht hW => ⟨_, rfl, by simp [oKnown, c8, n0, n1, n2, n3], ht⟩) (fun _ h => absurd h List.not_mem_nil) dX5_known_97
  · skip
    have c8 := b2_0 c8
    refine lv_iconst (v := (-1)) hx hb dX5_known_11 (by decide) ?_
    exact W.iret (v := (-1)) hx hb hr (fun t ht hW => ⟨_, rfl, by simp [oKnown, c8], ht⟩) (fun _ h => absurd h List.not_mem_nil) dX5_known_12

set_option maxHeartbeats 4000000 in
set_option maxRecDepth 100000 in
theorem c_X5_proof (l : Launch) (D : va_G) (cI cZ : ClassId) (zX : Nat) (zB : Nat) (zL : Nat) (zF : Nat) (zM : Nat) (zC : Nat) (zG : Nat) (zJ : Nat) (zK : Nat) (zW : Nat) (zU : Nat) (zV : Nat) (zR : Nat) (zE : Nat) (zLo : Nat) (zS : Nat) (zT : Nat) (zD : Nat) (σ : ST) (kI : Nat → Int32) (lo : Nat → Int32) (x : Int32) (r0 : Int32) (hok : Ok σ) (hkI : ∀ k, k < 2 ^ sF σ → kI k = b2 (kok σ k)) (hlo : ∀ k, k < 2 ^ sF σ → lo k = lawI σ (sR σ) k) : Met l yX5_proof wsX5_proof ({ frames := 3, cells := 0, slots := 0, locals := 67 }) (va_Pc [.ref zX, .int x, .int r0] (XP D cI cZ [(zX, .inr (5, [.ref zB, .ref zL, .ref zF, .ref zM, .ref zC, .ref zG, .ref zJ, .int (nI (sG σ))])), (zM, .inr (4, [.int (nI (sM σ)), .ref zS, .ref zT, .ref zD])), (zS, .inl (cI, 90, .inl (rTs σ))), (zT, .inl (cI, 90, .inl (rTn σ))), (zB, .inr (0, [.int (nI (sF σ)), .int (nI (2 ^ sF σ)), .ref zK, .ref zW, .int (nI (sN σ)), .int (sR σ), .int (orE (rEr σ) (sN σ)), .ref zU, .ref zV, .ref zR, .ref zE])), (zK, .inl (cZ, 128, .inl kI)), (zL, .inr (3, [.ref zB, .ref zLo])), (zLo, .inl (cI, 128, .inl lo)), (zR, .inl (cI, 12, .inl (rRu σ)))])) (vp_Si (fun r => r = oProof σ x r0)) 0 0 (fun _ => False) := by
  refine Met.ofW (cc := cX5_proof) (maxL := 6) (ret := (some .int)) (by decide) rfl ?_
  intro p e s m args below meth c s₁ B hml hv
  obtain ⟨rfl, hP, hK, hN⟩ := hv
  have hx := B.exec
  have hb := B.bytes
  have hr := B.returns
  have hts := atoms_spec (ws := wsX5_proof) B.pre
  have hown : s.vm.findClass RX5 = some m.cls := findClass_of_methodNamed B.named
  have hlocks := B.notSynchronized
  have ho := hok.1
  have hk2 := hok.k
  have hf31 := hts (.fieldLink RX5 31 "BallCourt" "played" "LBallCourt$Moments;") (List.mem_of_getElem? (i := 1) (by decide +kernel))
  have hiX5 : ∀ w ∈ wsX50, w ∈ wsX5_proof := fun w h => List.mem_cons_of_mem _ (List.mem_append_left _ (List.mem_append_left _ (List.mem_append_left _ (List.mem_append_right _ h))))
  have hf21 := hts (.fieldLink RX5 21 "BallCourt" "laws" "LBallCourt$Laws;") (List.mem_of_getElem? (i := 2) (by decide +kernel))
  have hf10 := hts (.fieldLink RX5 10 "BallCourt" "book" "LBallCourt$Book;") (List.mem_of_getElem? (i := 3) (by decide +kernel))
  have hl := lv_entry ([.ref zX, .int x, .int r0]) (n := 6) (Nat.le_of_ble_eq_true rfl)
  rw [lg_entry_eq]
  generalize (lg_sl ([.ref zX, .int x, .int r0]) ++ List.replicate (6 - (lg_sl ([.ref zX, .int x, .int r0])).length) Slot.unset).toArray = ls at hl ⊢
  have hl : lv_has ls 6 [(0, .ref zX), (1, .int x), (2, .int r0)] := hl
  refine lv_aload_n hx hb dX5_proof_0 rfl (lv_at hl 0 rfl) ?_
  refine va_get (D := D) (ci := 5) (v := .ref zM) (C := RX5) (T := TX5) (N := 8) hx hb hts hiX5 hown hK hP 0 rfl rfl 3 (by decide) hf31 (fun _ h9 => h9) rfl dX5_proof_1 ?_
  refine lv_iload_n hx hb dX5_proof_4 rfl (lv_at hl 1 rfl) ?_
  refine xpV (rest := []) ⟨hx, hb, hml, hown, hts⟩ (c_X4_has l D cI cZ zM zS zT zD σ x) (cwV 1 hts gX5_proof_X4_has rfl rfl rfl (by decide +kernel) ⟨Nat.le_of_ble_eq_true rfl, Nat.le_of_ble_eq_true rfl⟩) hP [1] rfl hK hN (ci := 4) (q0 := 1) rfl rfl rfl hl.1 rfl (Nat.le_of_ble_eq_true rfl) dX5_proof_5 ⟨Nat.zero_le _, Nat.zero_le _⟩ (fun r5 e5 => ?_)
  subst e5
  refine lv_if_ne (tgt := 13) hx hb dX5_proof_8 (by decide) (fun c8 => ?_) (fun c8 => ?_)
  · skip
    have c8 := b2_1 c8
    obtain ⟨q, hq, rfl⟩ := inN_t c8 (by omega)
    have kq := clp hq (show sM σ ≤ 128 by omega)
    refine lv_iload_n hx hb dX5_proof_13 rfl (lv_at hl 2 rfl) ?_
    refine xpS (rest := []) ⟨hx, hb, hml, hown, hts⟩ (c_X5_isRuling l D cI cZ r0) (va_cwS 1 hts gX5_proof_X5_isRuling rfl rfl rfl (by decide +kernel) ⟨Nat.le_of_ble_eq_true rfl, Nat.le_of_ble_eq_true rfl⟩) hP [] rfl hK hN rfl hl.1 rfl (Nat.le_of_ble_eq_true rfl) dX5_proof_14 ⟨Nat.zero_le _, Nat.zero_le _⟩ (fun r14 e14 => ?_)
    subst e14
    refine lv_if_ne (tgt := 23) hx hb dX5_proof_17 (by decide) (fun c17 => ?_) (fun c17 => ?_)
    · skip
      have c17 := b2_1 c17
      refine lv_aload_n hx hb dX5_proof_23 rfl (lv_at hl 0 rfl) ?_
      refine va_get (D := D) (ci := 5) (v := .ref zM) (C := RX5) (T := TX5) (N := 8) hx hb hts hiX5 hown hK hP 0 rfl rfl 3 (by decide) hf31 (fun _ h9 => h9) rfl dX5_proof_24 ?_
      refine lv_iload_n hx hb dX5_proof_27 rfl (lv_at hl 1 rfl) ?_
      refine xpV (rest := []) ⟨hx, hb, hml, hown, hts⟩ (c_X4_knownSo l D cI cZ zM zS zT zD σ q (by omega)) (cwV 1 hts gX5_proof_X4_knownSo rfl rfl rfl (by decide +kernel) ⟨Nat.le_of_ble_eq_true rfl, Nat.le_of_ble_eq_true rfl⟩) hP [1, 2, 3] rfl hK hN (ci := 4) (q0 := 1) rfl rfl rfl hl.1 rfl (Nat.le_of_ble_eq_true rfl) dX5_proof_28 ⟨Nat.zero_le _, Nat.zero_le _⟩ (fun r28 e28 => ?_)
      subst e28
      refine lv_istore_n (lv' := [(3, .int (soI σ q)), (0, .ref zX), (1, .int (nI q)), (2, .int r0)]) hx hb dX5_proof_31 rfl hl (by decide) rfl (fun ls hl => ?_)
      refine lv_aload_n hx hb dX5_proof_32 rfl (lv_at hl 1 rfl) ?_
      refine va_get (D := D) (ci := 5) (v := .ref zM) (C := RX5) (T := TX5) (N := 8) hx hb hts hiX5 hown hK hP 0 rfl rfl 3 (by decide) hf31 (fun _ h9 => h9) rfl dX5_proof_33 ?_
      refine lv_iload_n hx hb dX5_proof_36 rfl (lv_at hl 2 rfl) ?_
      refine xpV (rest := []) ⟨hx, hb, hml, hown, hts⟩ (c_X4_knownNotSo l D cI cZ zM zS zT zD σ q (by omega)) (cwV 1 hts gX5_proof_X4_knownNotSo rfl rfl rfl (by decide +kernel) ⟨Nat.le_of_ble_eq_true rfl, Nat.le_of_ble_eq_true rfl⟩) hP [1, 2, 3] rfl hK hN (ci := 4) (q0 := 1) rfl rfl rfl hl.1 rfl (Nat.le_of_ble_eq_true rfl) dX5_proof_37 ⟨Nat.zero_le _, Nat.zero_le _⟩ (fun r37 e37 => ?_)
      subst e37
      refine lv_istore (lv' := [(4, .int (nsI σ q)), (3, .int (soI σ q)), (0, .ref zX), (1, .int (nI q)), (2, .int r0)]) hx hb dX5_proof_40 hl (by decide) rfl (fun ls hl => ?_)
      refine lv_aload_n hx hb dX5_proof_42 rfl (lv_at hl 2 rfl) ?_
      refine va_get (D := D) (ci := 5) (v := .ref zL) (C := RX5) (T := TX5) (N := 8) hx hb hts hiX5 hown hK hP 0 rfl rfl 1 (by decide) hf21 (fun _ h9 => h9) rfl dX5_proof_43 ?_
      refine lv_iload_n hx hb dX5_proof_46 rfl (lv_at hl 1 rfl) ?_
      refine lv_iload hx hb dX5_proof_47 (lv_at hl 0 rfl) ?_
      refine lv_iload_n hx hb dX5_proof_49 rfl (lv_at hl 4 rfl) ?_
      refine xpV (rest := []) ⟨hx, hb, hml, hown, hts⟩ (c_X3_countMayBeRuled l D cI cZ zB zL zK zW zU zV zR zE zLo σ kI lo (sR σ) (soI σ q) (nsI σ q) r0 hok hkI hlo) (cwV 3 hts gX5_proof_X3_countMayBeRuled rfl rfl rfl (by decide +kernel) ⟨Nat.le_of_ble_eq_true rfl, Nat.le_of_ble_eq_true rfl⟩) hP [6, 7, 4, 5, 8] rfl hK hN (ci := 3) (q0 := 6) rfl rfl rfl hl.1 rfl (Nat.le_of_ble_eq_true rfl) dX5_proof_50 ⟨Nat.zero_le _, Nat.zero_le _⟩ (fun r50 e50 => ?_)
      subst e50
      refine lv_istore (lv' := [(5, .int (nI (cmr σ (sR σ) (soI σ q) (nsI σ q) r0))), (4, .int (nsI σ q)), (3, .int (soI σ q)), (0, .ref zX), (1, .int (nI q)), (2, .int r0)]) hx hb dX5_proof_53 hl (by decide) rfl (fun ls hl => ?_)
      refine lv_iload hx hb dX5_proof_55 (lv_at hl 0 rfl) ?_
      refine lv_if_ne (tgt := 62) hx hb dX5_proof_57 (by decide) (fun c57 => ?_) (fun c57 => ?_)
      · skip
        have c57 : ¬ cmr σ (sR σ) (soI σ q) (nsI σ q) r0 = 0 := fun z => c57 (by rw [z]; rfl)
        refine lv_iload hx hb dX5_proof_62 (lv_at hl 0 rfl) ?_
        refine lv_aload_n hx hb dX5_proof_64 rfl (lv_at hl 3 rfl) ?_
        refine va_get (D := D) (ci := 5) (v := .ref zB) (C := RX5) (T := TX5) (N := 8) hx hb hts hiX5 hown hK hP 0 rfl rfl 0 (by decide) hf10 (fun _ h9 => h9) rfl dX5_proof_65 ?_
        refine lv_iload_n hx hb dX5_proof_68 rfl (lv_at hl 2 rfl) ?_
        refine lv_iload hx hb dX5_proof_69 (lv_at hl 1 rfl) ?_
        refine xpV (rest := [.int (nI (cmr σ (sR σ) (soI σ q) (nsI σ q) r0))]) ⟨hx, hb, hml, hown, hts⟩ (c_X0_countMayBe l D cI cZ zB zK zW zU zV zR zE σ kI (soI σ q) (nsI σ q) hok hkI) (cwV 2 hts gX5_proof_X0_countMayBe rfl rfl rfl (by decide +kernel) ⟨Nat.le_of_ble_eq_true rfl, Nat.le_of_ble_eq_true rfl⟩) hP [4, 5] rfl hK hN (ci := 0) (q0 := 4) rfl rfl rfl hl.1 rfl (Nat.le_of_ble_eq_true rfl) dX5_proof_71 ⟨Nat.zero_le _, Nat.zero_le _⟩ (fun r71 e71 => ?_)
        subst e71
        refine lv_icmp_ne (tgt := 81) hx hb dX5_proof_74 (by decide) (fun c74 => ?_) (fun c74 => ?_)
        · skip
          have c74 : ¬ cmr σ (sR σ) (soI σ q) (nsI σ q) r0 = cmb σ (soI σ q) (nsI σ q) := fun z => c74 (by rw [z])
          refine lv_iconst (v := 1) hx hb dX5_proof_81 (by decide) ?_
          exact W.iret (v := 1) hx hb hr (fun t ht hW => ⟨_, rfl, by rw [oProof, if_neg (by rw [c8]; decide), if_neg (by rw [c17]; decide), kq, if_neg c57, if_neg c74], ht⟩) (fun _ h => absurd h List.not_mem_nil) dX5_proof_82
        · skip
          have c74 : cmr σ (sR σ) (soI σ q) (nsI σ q) r0 = cmb σ (soI σ q) (nsI σ q) := (nI_eq (by have := cmr_le hok (sR σ) (soI σ q) (nsI σ q) r0; omega) (by have := cmb_le hok (soI σ q) (nsI σ q); omega)).mp c74
          refine lv_iconst (v := 2) hx hb dX5_proof_77 (by decide) ?_
          refine lv_goto (tgt := 82) hx hb dX5_proof_78 (by decide) ?_
          exact W.iret (v := 2) hx hb hr (fun t ht hW => ⟨_, rfl, by rw [oProof, if_neg (by rw [c8]; decide), if_neg (by rw [c17]; decide), kq, if_neg c57, if_pos c74], ht⟩) (fun _ h => absurd h List.not_mem_nil) dX5_proof_82
      · skip
        have c57 : cmr σ (sR σ) (soI σ q) (nsI σ q) r0 = 0 := (nI_eq (by have := cmr_le hok (sR σ) (soI σ q) (nsI σ q) r0; omega) (by omega)).mp c57
        refine lv_iconst (v := 0) hx hb dX5_proof_60 (by decide) ?_
        exact W.iret (v := 0) hx hb hr (fun t ht hW => ⟨_, rfl, by rw [oProof, if_neg (by rw [c8]; decide), if_neg (by rw [c17]; decide), kq, if_pos c57], ht⟩) (fun _ h => absurd h List.not_mem_nil) dX5_proof_61
    · skip
      have c17 := b2_0 c17
      refine lv_bipush (v := (-2)) hx hb dX5_proof_20 (by decide) ?_
      exact W.iret (v := (-2)) hx hb hr (fun t ht hW => ⟨_, rfl, by simp [oProof, c8, c17], ht⟩) (fun _ h => absurd h List.not_mem_nil) dX5_proof_22
  · skip
    have c8 := b2_0 c8
    refine lv_iconst (v := (-1)) hx hb dX5_proof_11 (by decide) ?_
    exact W.iret (v := (-1)) hx hb hr (fun t ht hW => ⟨_, rfl, by simp [oProof, c8], ht⟩) (fun _ h => absurd h List.not_mem_nil) dX5_proof_12

set_option maxHeartbeats 4000000 in
set_option maxRecDepth 100000 in
theorem c_X5_binds (l : Launch) (D : va_G) (cI cZ : ClassId) (zX : Nat) (zB : Nat) (zL : Nat) (zF : Nat) (zM : Nat) (zC : Nat) (zG : Nat) (zJ : Nat) (zS : Nat) (zT : Nat) (zD : Nat) (zQ : Nat) (zP : Nat) (zN : Nat) (σ : ST) (x : Int32) (hok : Ok σ) : Met l yX5_binds wsX5_binds ({ frames := 2, cells := 0, slots := 0, locals := 44 }) (va_Pc [.ref zX, .int x] (XP D cI cZ [(zX, .inr (5, [.ref zB, .ref zL, .ref zF, .ref zM, .ref zC, .ref zG, .ref zJ, .int (nI (sG σ))])), (zM, .inr (4, [.int (nI (sM σ)), .ref zS, .ref zT, .ref zD])), (zS, .inl (cI, 90, .inl (rTs σ))), (zT, .inl (cI, 90, .inl (rTn σ))), (zC, .inr (1, [.int (nI (sC σ)), .ref zQ, .ref zP, .ref zN])), (zQ, .inl (cI, 12, .inl (rCk σ))), (zN, .inl (cI, 12, .inl (rCn σ)))])) (vp_Si (fun r => r = oBinds σ x)) 0 0 (fun _ => False) := by
  refine Met.ofW (cc := cX5_binds) (maxL := 2) (ret := (some .int)) (by decide) rfl ?_
  intro p e s m args below meth c s₁ B hml hv
  obtain ⟨rfl, hP, hK, hN⟩ := hv
  have hx := B.exec
  have hb := B.bytes
  have hr := B.returns
  have hts := atoms_spec (ws := wsX5_binds) B.pre
  have hown : s.vm.findClass RX5 = some m.cls := findClass_of_methodNamed B.named
  have hlocks := B.notSynchronized
  have ho := hok.1
  have hk2 := hok.k
  have hf31 := hts (.fieldLink RX5 31 "BallCourt" "played" "LBallCourt$Moments;") (List.mem_of_getElem? (i := 1) (by decide +kernel))
  have hiX5 : ∀ w ∈ wsX50, w ∈ wsX5_binds := fun w h => List.mem_cons_of_mem _ (List.mem_append_left _ (List.mem_append_left _ (List.mem_append_right _ h)))
  have hf38 := hts (.fieldLink RX5 38 "BallCourt" "cases" "LBallCourt$Cases;") (List.mem_of_getElem? (i := 2) (by decide +kernel))
  have hl := lv_entry ([.ref zX, .int x]) (n := 2) (Nat.le_of_ble_eq_true rfl)
  rw [lg_entry_eq]
  generalize (lg_sl ([.ref zX, .int x]) ++ List.replicate (2 - (lg_sl ([.ref zX, .int x])).length) Slot.unset).toArray = ls at hl ⊢
  have hl : lv_has ls 2 [(0, .ref zX), (1, .int x)] := hl
  refine lv_aload_n hx hb dX5_binds_0 rfl (lv_at hl 0 rfl) ?_
  refine va_get (D := D) (ci := 5) (v := .ref zM) (C := RX5) (T := TX5) (N := 8) hx hb hts hiX5 hown hK hP 0 rfl rfl 3 (by decide) hf31 (fun _ h9 => h9) rfl dX5_binds_1 ?_
  refine lv_iload_n hx hb dX5_binds_4 rfl (lv_at hl 1 rfl) ?_
  refine xpV (rest := []) ⟨hx, hb, hml, hown, hts⟩ (c_X4_has l D cI cZ zM zS zT zD σ x) (cwV 1 hts gX5_binds_X4_has rfl rfl rfl (by decide +kernel) ⟨Nat.le_of_ble_eq_true rfl, Nat.le_of_ble_eq_true rfl⟩) hP [1] rfl hK hN (ci := 4) (q0 := 1) rfl rfl rfl hl.1 rfl (Nat.le_of_ble_eq_true rfl) dX5_binds_5 ⟨Nat.zero_le _, Nat.zero_le _⟩ (fun r5 e5 => ?_)
  subst e5
  refine lv_if_ne (tgt := 13) hx hb dX5_binds_8 (by decide) (fun c8 => ?_) (fun c8 => ?_)
  · skip
    have c8 := b2_1 c8
    obtain ⟨q, hq, rfl⟩ := inN_t c8 (by omega)
    have kq := clp hq (show sM σ ≤ 128 by omega)
    refine lv_aload_n hx hb dX5_binds_13 rfl (lv_at hl 0 rfl) ?_
    refine va_get (D := D) (ci := 5) (v := .ref zC) (C := RX5) (T := TX5) (N := 8) hx hb hts hiX5 hown hK hP 0 rfl rfl 4 (by decide) hf38 (fun _ h9 => h9) rfl dX5_binds_14 ?_
    refine lv_aload_n hx hb dX5_binds_17 rfl (lv_at hl 0 rfl) ?_
    refine va_get (D := D) (ci := 5) (v := .ref zM) (C := RX5) (T := TX5) (N := 8) hx hb hts hiX5 hown hK hP 0 rfl rfl 3 (by decide) hf31 (fun _ h9 => h9) rfl dX5_binds_18 ?_
    refine lv_iload_n hx hb dX5_binds_21 rfl (lv_at hl 1 rfl) ?_
    refine xpV (rest := [.ref zC]) ⟨hx, hb, hml, hown, hts⟩ (c_X4_knownSo l D cI cZ zM zS zT zD σ q (by omega)) (cwV 1 hts gX5_binds_X4_knownSo rfl rfl rfl (by decide +kernel) ⟨Nat.le_of_ble_eq_true rfl, Nat.le_of_ble_eq_true rfl⟩) hP [1, 2, 3] rfl hK hN (ci := 4) (q0 := 1) rfl rfl rfl hl.1 rfl (Nat.le_of_ble_eq_true rfl) dX5_binds_22 ⟨Nat.zero_le _, Nat.zero_le _⟩ (fun r22 e22 => ?_)
    subst e22
    refine lv_aload_n hx hb dX5_binds_25 rfl (lv_at hl 0 rfl) ?_
    refine va_get (D := D) (ci := 5) (v := .ref zM) (C := RX5) (T := TX5) (N := 8) hx hb hts hiX5 hown hK hP 0 rfl rfl 3 (by decide) hf31 (fun _ h9 => h9) rfl dX5_binds_26 ?_
    refine lv_iload_n hx hb dX5_binds_29 rfl (lv_at hl 1 rfl) ?_
    refine xpV (rest := [.int (soI σ q), .ref zC]) ⟨hx, hb, hml, hown, hts⟩ (c_X4_knownNotSo l D cI cZ zM zS zT zD σ q (by omega)) (cwV 1 hts gX5_binds_X4_knownNotSo rfl rfl rfl (by decide +kernel) ⟨Nat.le_of_ble_eq_true rfl, Nat.le_of_ble_eq_true rfl⟩) hP [1, 2, 3] rfl hK hN (ci := 4) (q0 := 1) rfl rfl rfl hl.1 rfl (Nat.le_of_ble_eq_true rfl) dX5_binds_30 ⟨Nat.zero_le _, Nat.zero_le _⟩ (fun r30 e30 => ?_)
    subst e30
    refine xpV (rest := []) ⟨hx, hb, hml, hown, hts⟩ (c_X1_firstThatBinds l D cI cZ zC zQ zP zN σ (soI σ q) (nsI σ q) hok) (cwV 2 hts gX5_binds_X1_firstThatBinds rfl rfl rfl (by decide +kernel) ⟨Nat.le_of_ble_eq_true rfl, Nat.le_of_ble_eq_true rfl⟩) hP [4, 5, 6] rfl hK hN (ci := 1) (q0 := 4) rfl rfl rfl hl.1 rfl (Nat.le_of_ble_eq_true rfl) dX5_binds_33 ⟨Nat.zero_le _, Nat.zero_le _⟩ (fun r33 e33 => ?_)
    subst e33
    exact W.iret (v := bnI σ (soI σ q) (nsI σ q)) hx hb hr (fun t ht hW => ⟨_, rfl, by simp [oBinds, c8, kq], ht⟩) (fun _ h => absurd h List.not_mem_nil) dX5_binds_36
  · skip
    have c8 := b2_0 c8
    refine lv_iconst (v := (-1)) hx hb dX5_binds_11 (by decide) ?_
    exact W.iret (v := (-1)) hx hb hr (fun t ht hW => ⟨_, rfl, by simp [oBinds, c8], ht⟩) (fun _ h => absurd h List.not_mem_nil) dX5_binds_12

set_option maxHeartbeats 4000000 in
set_option maxRecDepth 100000 in
theorem c_X5_verdict (l : Launch) (D : va_G) (cI cZ : ClassId) (zX : Nat) (zB : Nat) (zL : Nat) (zF : Nat) (zM : Nat) (zC : Nat) (zG : Nat) (zJ : Nat) (zK : Nat) (zW : Nat) (zU : Nat) (zV : Nat) (zR : Nat) (zE : Nat) (zLo : Nat) (zS : Nat) (zT : Nat) (zD : Nat) (zQ : Nat) (zP : Nat) (zN : Nat) (σ : ST) (kI : Nat → Int32) (lo : Nat → Int32) (x : Int32) (hok : Ok σ) (hkI : ∀ k, k < 2 ^ sF σ → kI k = b2 (kok σ k)) (hlo : ∀ k, k < 2 ^ sF σ → lo k = lawI σ (sR σ) k) : Met l yX5_verdict wsX5_verdict ({ frames := 4, cells := 0, slots := 0, locals := 92 }) (va_Pc [.ref zX, .int x] (XP D cI cZ [(zX, .inr (5, [.ref zB, .ref zL, .ref zF, .ref zM, .ref zC, .ref zG, .ref zJ, .int (nI (sG σ))])), (zM, .inr (4, [.int (nI (sM σ)), .ref zS, .ref zT, .ref zD])), (zS, .inl (cI, 90, .inl (rTs σ))), (zT, .inl (cI, 90, .inl (rTn σ))), (zD, .inl (cI, 30, .inl (rRd σ))), (zB, .inr (0, [.int (nI (sF σ)), .int (nI (2 ^ sF σ)), .ref zK, .ref zW, .int (nI (sN σ)), .int (sR σ), .int (orE (rEr σ) (sN σ)), .ref zU, .ref zV, .ref zR, .ref zE])), (zK, .inl (cZ, 128, .inl kI)), (zC, .inr (1, [.int (nI (sC σ)), .ref zQ, .ref zP, .ref zN])), (zQ, .inl (cI, 12, .inl (rCk σ))), (zP, .inl (cI, 12, .inl (rCr σ))), (zN, .inl (cI, 12, .inl (rCn σ))), (zL, .inr (3, [.ref zB, .ref zLo])), (zLo, .inl (cI, 128, .inl lo)), (zR, .inl (cI, 12, .inl (rRu σ)))])) (vp_Si (fun r => r = oVerdict σ x)) 0 0 (fun _ => False) := by
  refine Met.ofW (cc := cX5_verdict) (maxL := 2) (ret := (some .int)) (by decide) rfl ?_
  intro p e s m args below meth c s₁ B hml hv
  obtain ⟨rfl, hP, hK, hN⟩ := hv
  have hx := B.exec
  have hb := B.bytes
  have hr := B.returns
  have hts := atoms_spec (ws := wsX5_verdict) B.pre
  have hown : s.vm.findClass RX5 = some m.cls := findClass_of_methodNamed B.named
  have hlocks := B.notSynchronized
  have ho := hok.1
  have hk2 := hok.k
  have hf31 := hts (.fieldLink RX5 31 "BallCourt" "played" "LBallCourt$Moments;") (List.mem_of_getElem? (i := 1) (by decide +kernel))
  have hiX5 : ∀ w ∈ wsX50, w ∈ wsX5_verdict := fun w h => List.mem_cons_of_mem _ (List.mem_append_left _ (List.mem_append_left _ (List.mem_append_left _ (List.mem_append_left _ (List.mem_append_right _ h)))))
  have hf21 := hts (.fieldLink RX5 21 "BallCourt" "laws" "LBallCourt$Laws;") (List.mem_of_getElem? (i := 2) (by decide +kernel))
  have hl := lv_entry ([.ref zX, .int x]) (n := 2) (Nat.le_of_ble_eq_true rfl)
  rw [lg_entry_eq]
  generalize (lg_sl ([.ref zX, .int x]) ++ List.replicate (2 - (lg_sl ([.ref zX, .int x])).length) Slot.unset).toArray = ls at hl ⊢
  have hl : lv_has ls 2 [(0, .ref zX), (1, .int x)] := hl
  refine lv_aload_n hx hb dX5_verdict_0 rfl (lv_at hl 0 rfl) ?_
  refine va_get (D := D) (ci := 5) (v := .ref zM) (C := RX5) (T := TX5) (N := 8) hx hb hts hiX5 hown hK hP 0 rfl rfl 3 (by decide) hf31 (fun _ h9 => h9) rfl dX5_verdict_1 ?_
  refine lv_iload_n hx hb dX5_verdict_4 rfl (lv_at hl 1 rfl) ?_
  refine xpV (rest := []) ⟨hx, hb, hml, hown, hts⟩ (c_X4_has l D cI cZ zM zS zT zD σ x) (cwV 1 hts gX5_verdict_X4_has rfl rfl rfl (by decide +kernel) ⟨Nat.le_of_ble_eq_true rfl, Nat.le_of_ble_eq_true rfl⟩) hP [1] rfl hK hN (ci := 4) (q0 := 1) rfl rfl rfl hl.1 rfl (Nat.le_of_ble_eq_true rfl) dX5_verdict_5 ⟨Nat.zero_le _, Nat.zero_le _⟩ (fun r5 e5 => ?_)
  subst e5
  refine lv_if_ne (tgt := 13) hx hb dX5_verdict_8 (by decide) (fun c8 => ?_) (fun c8 => ?_)
  · skip
    have c8 := b2_1 c8
    obtain ⟨q, hq, rfl⟩ := inN_t c8 (by omega)
    have kq := clp hq (show sM σ ≤ 128 by omega)
    refine lv_aload_n hx hb dX5_verdict_13 rfl (lv_at hl 0 rfl) ?_
    refine lv_aload_n hx hb dX5_verdict_14 rfl (lv_at hl 0 rfl) ?_
    refine va_get (D := D) (ci := 5) (v := .ref zL) (C := RX5) (T := TX5) (N := 8) hx hb hts hiX5 hown hK hP 0 rfl rfl 1 (by decide) hf21 (fun _ h9 => h9) rfl dX5_verdict_15 ?_
    refine lv_iload_n hx hb dX5_verdict_18 rfl (lv_at hl 1 rfl) ?_
    refine xpV (rest := []) ⟨hx, hb, hml, hown, hts⟩ (c_X5_verdictUnder l D cI cZ zX zB zL zF zM zC zG zJ zK zW zU zV zR zE zS zT zD zQ zP zN σ kI (sR σ) zL zLo lo q hok hq hkI hlo) (cwV 2 hts gX5_verdict_X5_verdictUnder rfl rfl rfl (by decide +kernel) ⟨Nat.le_of_ble_eq_true rfl, Nat.le_of_ble_eq_true rfl⟩) hP [0, 1, 2, 3, 4, 5, 6, 7, 8, 9, 10, 11, 12, 13] rfl hK hN (ci := 5) (q0 := 0) rfl rfl rfl hl.1 rfl (Nat.le_of_ble_eq_true rfl) dX5_verdict_19 ⟨Nat.zero_le _, Nat.zero_le _⟩ (fun r19 e19 => ?_)
    subst e19
    exact W.iret (v := verI σ (sR σ) q) hx hb hr (fun t ht hW => ⟨_, rfl, by simp [oVerdict, c8, kq], ht⟩) (fun _ h => absurd h List.not_mem_nil) dX5_verdict_22
  · skip
    have c8 := b2_0 c8
    refine lv_iconst (v := (-1)) hx hb dX5_verdict_11 (by decide) ?_
    exact W.iret (v := (-1)) hx hb hr (fun t ht hW => ⟨_, rfl, by simp [oVerdict, c8], ht⟩) (fun _ h => absurd h List.not_mem_nil) dX5_verdict_12

set_option maxHeartbeats 4000000 in
set_option maxRecDepth 100000 in
theorem c_X5_ofCase (l : Launch) (D : va_G) (cI cZ : ClassId) (zX : Nat) (zB : Nat) (zL : Nat) (zF : Nat) (zM : Nat) (zC : Nat) (zG : Nat) (zJ : Nat) (zQ : Nat) (zP : Nat) (zN : Nat) (σ : ST) (x : Int32) (w : Int32) (hok : Ok σ) : Met l yX5_ofCase wsX5_ofCase ({ frames := 1, cells := 0, slots := 0, locals := 21 }) (va_Pc [.ref zX, .int x, .int w] (XP D cI cZ [(zX, .inr (5, [.ref zB, .ref zL, .ref zF, .ref zM, .ref zC, .ref zG, .ref zJ, .int (nI (sG σ))])), (zC, .inr (1, [.int (nI (sC σ)), .ref zQ, .ref zP, .ref zN])), (zQ, .inl (cI, 12, .inl (rCk σ))), (zP, .inl (cI, 12, .inl (rCr σ))), (zN, .inl (cI, 12, .inl (rCn σ)))])) (vp_Si (fun r => r = oOfCase σ x w)) 0 0 (fun _ => False) := by
  refine Met.ofW (cc := cX5_ofCase) (maxL := 3) (ret := (some .int)) (by decide) rfl ?_
  intro p e s m args below meth c s₁ B hml hv
  obtain ⟨rfl, hP, hK, hN⟩ := hv
  have hx := B.exec
  have hb := B.bytes
  have hr := B.returns
  have hts := atoms_spec (ws := wsX5_ofCase) B.pre
  have hown : s.vm.findClass RX5 = some m.cls := findClass_of_methodNamed B.named
  have hlocks := B.notSynchronized
  have ho := hok.1
  have hk2 := hok.k
  have hf38 := hts (.fieldLink RX5 38 "BallCourt" "cases" "LBallCourt$Cases;") (List.mem_of_getElem? (i := 1) (by decide +kernel))
  have hiX5 : ∀ w ∈ wsX50, w ∈ wsX5_ofCase := fun w h => List.mem_cons_of_mem _ (List.mem_append_left _ (List.mem_append_right _ h))
  have hiX1 : ∀ w ∈ wsX10, w ∈ wsX5_ofCase := fun w h => List.mem_cons_of_mem _ (List.mem_append_right _ h)
  have hl := lv_entry ([.ref zX, .int x, .int w]) (n := 3) (Nat.le_of_ble_eq_true rfl)
  rw [lg_entry_eq]
  generalize (lg_sl ([.ref zX, .int x, .int w]) ++ List.replicate (3 - (lg_sl ([.ref zX, .int x, .int w])).length) Slot.unset).toArray = ls at hl ⊢
  have hl : lv_has ls 3 [(0, .ref zX), (1, .int x), (2, .int w)] := hl
  refine lv_aload_n hx hb dX5_ofCase_0 rfl (lv_at hl 0 rfl) ?_
  refine va_get (D := D) (ci := 5) (v := .ref zC) (C := RX5) (T := TX5) (N := 8) hx hb hts hiX5 hown hK hP 0 rfl rfl 4 (by decide) hf38 (fun _ h9 => h9) rfl dX5_ofCase_1 ?_
  refine lv_iload_n hx hb dX5_ofCase_4 rfl (lv_at hl 1 rfl) ?_
  refine xpV (rest := []) ⟨hx, hb, hml, hown, hts⟩ (c_X1_has l D cI cZ zC zQ zP zN σ x) (cwV 1 hts gX5_ofCase_X1_has rfl rfl rfl (by decide +kernel) ⟨Nat.le_of_ble_eq_true rfl, Nat.le_of_ble_eq_true rfl⟩) hP [1] rfl hK hN (ci := 1) (q0 := 1) rfl rfl rfl hl.1 rfl (Nat.le_of_ble_eq_true rfl) dX5_ofCase_5 ⟨Nat.zero_le _, Nat.zero_le _⟩ (fun r5 e5 => ?_)
  subst e5
  refine lv_if_ne (tgt := 13) hx hb dX5_ofCase_8 (by decide) (fun c8 => ?_) (fun c8 => ?_)
  · skip
    have c8 := b2_1 c8
    obtain ⟨q, hq, rfl⟩ := inN_t c8 (by omega)
    have kq := clp hq (show sC σ ≤ 128 by omega)
    refine lv_iload_n hx hb dX5_ofCase_13 rfl (lv_at hl 2 rfl) ?_
    rcases sw3 w with c14 | c14 | c14 | c14
    · skip
      subst c14
      refine lv_tableIn (off := 26) (tgt := 40) hx hb dX5_ofCase_14 (by decide) (by decide) (by decide) (by decide) ?_
      refine lv_aload_n hx hb dX5_ofCase_40 rfl (lv_at hl 0 rfl) ?_
      refine va_get (D := D) (ci := 5) (v := .ref zC) (C := RX5) (T := TX5) (N := 8) hx hb hts hiX5 hown hK hP 0 rfl rfl 4 (by decide) hf38 (fun _ h9 => h9) rfl dX5_ofCase_41 ?_
      refine va_getN (D := D) (ci := 1) (v := .ref zQ) (C := RX1) (T := TX1) (N := 4) hx hb hts hiX1 hown hK hP 1 rfl rfl 1 (by decide) (NW.f hN 12 rfl _) (fun _ h9 => h9) rfl dX5_ofCase_44 ?_
      refine lv_iload_n hx hb dX5_ofCase_47 rfl (lv_at hl 1 rfl) ?_
      refine xald (k := q) hx hb hK hP 2 rfl (by omega) (by decide) dX5_ofCase_48 ?_
      exact W.iret (v := rCk σ q) hx hb hr (fun t ht hW => ⟨_, rfl, by simp [oOfCase, c8, kq], ht⟩) (fun _ h => absurd h List.not_mem_nil) dX5_ofCase_49
    · skip
      subst c14
      refine lv_tableIn (off := 36) (tgt := 50) hx hb dX5_ofCase_14 (by decide) (by decide) (by decide) (by decide) ?_
      refine lv_aload_n hx hb dX5_ofCase_50 rfl (lv_at hl 0 rfl) ?_
      refine va_get (D := D) (ci := 5) (v := .ref zC) (C := RX5) (T := TX5) (N := 8) hx hb hts hiX5 hown hK hP 0 rfl rfl 4 (by decide) hf38 (fun _ h9 => h9) rfl dX5_ofCase_51 ?_
      refine va_getN (D := D) (ci := 1) (v := .ref zP) (C := RX1) (T := TX1) (N := 4) hx hb hts hiX1 hown hK hP 1 rfl rfl 2 (by decide) (NW.f hN 13 rfl _) (fun _ h9 => h9) rfl dX5_ofCase_54 ?_
      refine lv_iload_n hx hb dX5_ofCase_57 rfl (lv_at hl 1 rfl) ?_
      refine xald (k := q) hx hb hK hP 3 rfl (by omega) (by decide) dX5_ofCase_58 ?_
      exact W.iret (v := rCr σ q) hx hb hr (fun t ht hW => ⟨_, rfl, by simp [oOfCase, c8, kq], ht⟩) (fun _ h => absurd h List.not_mem_nil) dX5_ofCase_59
    · skip
      subst c14
      refine lv_tableIn (off := 46) (tgt := 60) hx hb dX5_ofCase_14 (by decide) (by decide) (by decide) (by decide) ?_
      refine lv_aload_n hx hb dX5_ofCase_60 rfl (lv_at hl 0 rfl) ?_
      refine va_get (D := D) (ci := 5) (v := .ref zC) (C := RX5) (T := TX5) (N := 8) hx hb hts hiX5 hown hK hP 0 rfl rfl 4 (by decide) hf38 (fun _ h9 => h9) rfl dX5_ofCase_61 ?_
      refine va_getN (D := D) (ci := 1) (v := .ref zN) (C := RX1) (T := TX1) (N := 4) hx hb hts hiX1 hown hK hP 1 rfl rfl 3 (by decide) (NW.f hN 14 rfl _) (fun _ h9 => h9) rfl dX5_ofCase_64 ?_
      refine lv_iload_n hx hb dX5_ofCase_67 rfl (lv_at hl 1 rfl) ?_
      refine xald (k := q) hx hb hK hP 4 rfl (by omega) (by decide) dX5_ofCase_68 ?_
      exact W.iret (v := rCn σ q) hx hb hr (fun t ht hW => ⟨_, rfl, by simp [oOfCase, c8, kq], ht⟩) (fun _ h => absurd h List.not_mem_nil) dX5_ofCase_69
    · skip
      refine lv_tableOut (tgt := 70) hx hb dX5_ofCase_14 c14 (by decide) ?_
      have n0 := sw_ne c14 (k := 0) (by decide) (by decide)
      have n1 := sw_ne c14 (k := 1) (by decide) (by decide)
      have n2 := sw_ne c14 (k := 2) (by decide) (by decide)
      refine lv_bipush (v := (-2)) hx hb dX5_ofCase_70 (by decide) ?_
      exact W.iret (v := (-2)) hx hb hr (fun t ht hW => ⟨_, rfl, by simp [oOfCase, c8, n0, n1, n2], ht⟩) (fun _ h => absurd h List.not_mem_nil) dX5_ofCase_72
  · skip
    have c8 := b2_0 c8
    refine lv_iconst (v := (-1)) hx hb dX5_ofCase_11 (by decide) ?_
    exact W.iret (v := (-1)) hx hb hr (fun t ht hW => ⟨_, rfl, by simp [oOfCase, c8], ht⟩) (fun _ h => absurd h List.not_mem_nil) dX5_ofCase_12

set_option maxHeartbeats 4000000 in
set_option maxRecDepth 100000 in
theorem c_X5_turned (l : Launch) (D : va_G) (cI cZ : ClassId) (zX : Nat) (zB : Nat) (zL : Nat) (zF : Nat) (zM : Nat) (zC : Nat) (zG : Nat) (zJ : Nat) (zK : Nat) (zW : Nat) (zU : Nat) (zV : Nat) (zR : Nat) (zE : Nat) (zLo : Nat) (zQ : Nat) (zP : Nat) (zN : Nat) (σ : ST) (lo : Nat → Int32) (hok : Ok σ) (hlo : ∀ k, k < 2 ^ sF σ → lo k = lawI σ (sR σ) k) : Met l yX5_turned wsX5_turned ({ frames := 2, cells := 0, slots := 0, locals := 42 }) (va_Pc [.ref zX] (XP D cI cZ [(zX, .inr (5, [.ref zB, .ref zL, .ref zF, .ref zM, .ref zC, .ref zG, .ref zJ, .int (nI (sG σ))])), (zC, .inr (1, [.int (nI (sC σ)), .ref zQ, .ref zP, .ref zN])), (zQ, .inl (cI, 12, .inl (rCk σ))), (zP, .inl (cI, 12, .inl (rCr σ))), (zB, .inr (0, [.int (nI (sF σ)), .int (nI (2 ^ sF σ)), .ref zK, .ref zW, .int (nI (sN σ)), .int (sR σ), .int (orE (rEr σ) (sN σ)), .ref zU, .ref zV, .ref zR, .ref zE])), (zL, .inr (3, [.ref zB, .ref zLo])), (zLo, .inl (cI, 128, .inl lo)), (zR, .inl (cI, 12, .inl (rRu σ)))])) (vp_Si (fun r => r = oTurned σ)) 0 0 (fun _ => False) := by
  refine Met.ofW (cc := cX5_turned) (maxL := 3) (ret := (some .int)) (by decide) rfl ?_
  intro p e s m args below meth c s₁ B hml hv
  obtain ⟨rfl, hP, hK, hN⟩ := hv
  have hx := B.exec
  have hb := B.bytes
  have hr := B.returns
  have hts := atoms_spec (ws := wsX5_turned) B.pre
  have hown : s.vm.findClass RX5 = some m.cls := findClass_of_methodNamed B.named
  have hlocks := B.notSynchronized
  have ho := hok.1
  have hk2 := hok.k
  have hf38 := hts (.fieldLink RX5 38 "BallCourt" "cases" "LBallCourt$Cases;") (List.mem_of_getElem? (i := 1) (by decide +kernel))
  have hiX5 : ∀ w ∈ wsX50, w ∈ wsX5_turned := fun w h => List.mem_cons_of_mem _ (List.mem_append_left _ (List.mem_append_left _ (List.mem_append_left _ (List.mem_append_right _ h))))
  have hiX1 : ∀ w ∈ wsX10, w ∈ wsX5_turned := fun w h => List.mem_cons_of_mem _ (List.mem_append_left _ (List.mem_append_left _ (List.mem_append_right _ h)))
  have hf21 := hts (.fieldLink RX5 21 "BallCourt" "laws" "LBallCourt$Laws;") (List.mem_of_getElem? (i := 2) (by decide +kernel))
  have hl := lv_entry ([.ref zX]) (n := 3) (Nat.le_of_ble_eq_true rfl)
  rw [lg_entry_eq]
  generalize (lg_sl ([.ref zX]) ++ List.replicate (3 - (lg_sl ([.ref zX])).length) Slot.unset).toArray = ls at hl ⊢
  have hl : lv_has ls 3 [(0, .ref zX)] := hl
  refine lv_iconst (v := 0) hx hb dX5_turned_0 (by decide) ?_
  refine lv_istore_n (lv' := [(1, .int 0), (0, .ref zX)]) hx hb dX5_turned_1 rfl hl (by decide) rfl (fun ls hl => ?_)
  refine lv_iconst (v := nI 0) hx hb dX5_turned_2 (by decide) ?_
  refine lv_istore_n (lv' := [(2, .int (nI 0)), (1, .int 0), (0, .ref zX)]) hx hb dX5_turned_3 rfl hl (by decide) rfl (fun ls hl => ?_)
  have hl : lv_has ls 3 [(2, .int (nI 0)), (1, .int (trI σ 0)), (0, .ref zX)] := by rw [← (show 0 = trI σ 0 from rfl)]; exact hl
  refine wloop (α := Nat) (fun v => sC σ - v) (fun v => [(0, .ref zX), (1, .int (trI σ v)), (2, .int (nI v))]) (fun v => (v ≤ sC σ)) 3 (fun v hv ih4 ls hl => ?_) 0 (show 0 ≤ sC σ from Nat.zero_le _) ls (lv_sub hl [2, 1, 0] rfl)
  obtain ⟨i, rfl⟩ : ∃ z : Nat, z = v := ⟨_, rfl⟩
  have hi : i ≤ sC σ := hv
  have hl : lv_has ls 3 [(0, .ref zX), (1, .int (trI σ i)), (2, .int (nI i))] := hl
  refine lv_iload_n hx hb dX5_turned_4 rfl (lv_at hl 2 rfl) ?_
  refine lv_aload_n hx hb dX5_turned_5 rfl (lv_at hl 0 rfl) ?_
  refine va_get (D := D) (ci := 5) (v := .ref zC) (C := RX5) (T := TX5) (N := 8) hx hb hts hiX5 hown hK hP 0 rfl rfl 4 (by decide) hf38 (fun _ h9 => h9) rfl dX5_turned_6 ?_
  refine va_getN (D := D) (ci := 1) (v := .int (nI (sC σ))) (C := RX1) (T := TX1) (N := 4) hx hb hts hiX1 hown hK hP 1 rfl rfl 0 (by decide) (NW.f hN 1 rfl _) (fun _ h9 => h9) rfl dX5_turned_9 ?_
  refine lv_icmp_ge (tgt := 55) hx hb dX5_turned_12 (by decide) (fun c12 => ?_) (fun c12 => ?_)
  · skip
    have c12 := (nI_leI (by omega) (by omega)).mp c12
    refine lv_iload_n hx hb dX5_turned_55 rfl (lv_at hl 1 rfl) ?_
    exact W.iret (v := trI σ i) hx hb hr (fun t ht hW => ⟨_, rfl, by rw [oTurned, show i = sC σ by omega], ht⟩) (fun _ h => absurd h List.not_mem_nil) dX5_turned_56
  · skip
    have c12 := Nat.lt_of_not_le (fun z => c12 ((nI_leI (by omega) (by omega)).mpr z))
    refine lv_aload_n hx hb dX5_turned_15 rfl (lv_at hl 0 rfl) ?_
    refine va_get (D := D) (ci := 5) (v := .ref zC) (C := RX5) (T := TX5) (N := 8) hx hb hts hiX5 hown hK hP 0 rfl rfl 4 (by decide) hf38 (fun _ h9 => h9) rfl dX5_turned_16 ?_
    refine va_getN (D := D) (ci := 1) (v := .ref zP) (C := RX1) (T := TX1) (N := 4) hx hb hts hiX1 hown hK hP 1 rfl rfl 2 (by decide) (NW.f hN 13 rfl _) (fun _ h9 => h9) rfl dX5_turned_19 ?_
    refine lv_iload_n hx hb dX5_turned_22 rfl (lv_at hl 2 rfl) ?_
    refine xald (k := i) hx hb hK hP 3 rfl (by omega) (by decide) dX5_turned_23 ?_
    refine lv_aload_n hx hb dX5_turned_24 rfl (lv_at hl 0 rfl) ?_
    refine va_get (D := D) (ci := 5) (v := .ref zL) (C := RX5) (T := TX5) (N := 8) hx hb hts hiX5 hown hK hP 0 rfl rfl 1 (by decide) hf21 (fun _ h9 => h9) rfl dX5_turned_25 ?_
    refine lv_aload_n hx hb dX5_turned_28 rfl (lv_at hl 0 rfl) ?_
    refine va_get (D := D) (ci := 5) (v := .ref zC) (C := RX5) (T := TX5) (N := 8) hx hb hts hiX5 hown hK hP 0 rfl rfl 4 (by decide) hf38 (fun _ h9 => h9) rfl dX5_turned_29 ?_
    refine va_getN (D := D) (ci := 1) (v := .ref zQ) (C := RX1) (T := TX1) (N := 4) hx hb hts hiX1 hown hK hP 1 rfl rfl 1 (by decide) (NW.f hN 12 rfl _) (fun _ h9 => h9) rfl dX5_turned_32 ?_
    refine lv_iload_n hx hb dX5_turned_35 rfl (lv_at hl 2 rfl) ?_
    obtain ⟨a, ha, ea⟩ := hok.ck c12
    have ka := clp ha hk2
    refine xald (k := i) hx hb hK hP 2 rfl (by omega) (by decide) dX5_turned_36 ?_
    refine lv_asi (show rCk σ i = nI a from ea) ?_
    refine xpV (rest := [.int (rCr σ i)]) ⟨hx, hb, hml, hown, hts⟩ (c_X3_rulingFor l D cI cZ zB zL zK zW zU zV zR zE zLo σ lo (sR σ) a hok ha hlo) (cwV 1 hts gX5_turned_X3_rulingFor rfl rfl rfl (by decide +kernel) ⟨Nat.le_of_ble_eq_true rfl, Nat.le_of_ble_eq_true rfl⟩) hP [5, 6, 4, 7] rfl hK hN (ci := 3) (q0 := 5) rfl rfl rfl hl.1 rfl (Nat.le_of_ble_eq_true rfl) dX5_turned_37 ⟨Nat.zero_le _, Nat.zero_le _⟩ (fun r37 e37 => ?_)
    subst e37
    refine lv_icmp_eq (tgt := 49) hx hb dX5_turned_40 (by decide) (fun c40 => ?_) (fun c40 => ?_)
    · skip
      have hl : lv_has ls 3 [(0, .ref zX), (1, .int (trI σ (i + 1))), (2, .int (nI i))] := by rw [← (show trI σ i = trI σ (i + 1) from trI_y (by rw [ea, ka]; exact c40))]; exact hl
      refine lv_iinc (k := 2) (x := nI i) (v := nI (i + 1)) (lv' := [(2, .int (nI (i + 1))), (0, .ref zX), (1, .int (trI σ (i + 1)))]) hx hb dX5_turned_49 hl rfl (show (nI i) + Int32.ofInt 1 = nI (i + 1) from nI_1 _) (by decide) rfl (fun ls hl => ?_)
      refine lv_goto (tgt := 4) hx hb dX5_turned_52 (by decide) ?_
      exact ih4 (i + 1) (show (i + 1) ≤ sC σ from (by omega)) (by show sC σ - (i + 1) < sC σ - i; omega) ls (lv_sub hl [1, 2, 0] rfl)
    · skip
      refine lv_iload_n hx hb dX5_turned_43 rfl (lv_at hl 1 rfl) ?_
      refine lv_iconst (v := 1) hx hb dX5_turned_44 (by decide) ?_
      refine lv_iload_n hx hb dX5_turned_45 rfl (lv_at hl 2 rfl) ?_
      refine lv_ishl hx hb dX5_turned_46 ?_
      refine lv_asi (show 1 <<< ((nI i) &&& 31) = nI (2 ^ i) from shl1 i (by omega)) ?_
      refine lv_ior hx hb dX5_turned_47 ?_
      refine lv_istore_n (lv' := [(1, .int ((trI σ i) ||| (nI (2 ^ i)))), (0, .ref zX), (2, .int (nI i))]) hx hb dX5_turned_48 rfl hl (by decide) rfl (fun ls hl => ?_)
      have hl : lv_has ls 3 [(1, .int (trI σ (i + 1))), (0, .ref zX), (2, .int (nI i))] := by rw [← (show (trI σ i) ||| (nI (2 ^ i)) = trI σ (i + 1) from trI_n (by rw [ea, ka]; exact c40))]; exact hl
      refine lv_iinc (k := 2) (x := nI i) (v := nI (i + 1)) (lv' := [(2, .int (nI (i + 1))), (1, .int (trI σ (i + 1))), (0, .ref zX)]) hx hb dX5_turned_49 hl rfl (show (nI i) + Int32.ofInt 1 = nI (i + 1) from nI_1 _) (by decide) rfl (fun ls hl => ?_)
      refine lv_goto (tgt := 4) hx hb dX5_turned_52 (by decide) ?_
      exact ih4 (i + 1) (show (i + 1) ≤ sC σ from (by omega)) (by show sC σ - (i + 1) < sC σ - i; omega) ls (lv_sub hl [2, 1, 0] rfl)

set_option maxHeartbeats 4000000 in
set_option maxRecDepth 100000 in
theorem c_X5_told (l : Launch) (D : va_G) (cI cZ : ClassId) (zX : Nat) (zB : Nat) (zL : Nat) (zF : Nat) (zM : Nat) (zC : Nat) (zG : Nat) (zJ : Nat) (zK : Nat) (zW : Nat) (zU : Nat) (zV : Nat) (zR : Nat) (zE : Nat) (zLo : Nat) (zS : Nat) (zT : Nat) (zD : Nat) (zQ : Nat) (zP : Nat) (zN : Nat) (σ : ST) (kI : Nat → Int32) (lo : Nat → Int32) (w : Int32) (hok : Ok σ) (hkI : ∀ k, k < 2 ^ sF σ → kI k = b2 (kok σ k)) (hlo : ∀ k, k < 2 ^ sF σ → lo k = lawI σ (sR σ) k) : Met l yX5_told wsX5_told ({ frames := 2, cells := 0, slots := 0, locals := 47 }) (va_Pc [.ref zX, .int w] (XP D cI cZ [(zX, .inr (5, [.ref zB, .ref zL, .ref zF, .ref zM, .ref zC, .ref zG, .ref zJ, .int (nI (sG σ))])), (zB, .inr (0, [.int (nI (sF σ)), .int (nI (2 ^ sF σ)), .ref zK, .ref zW, .int (nI (sN σ)), .int (sR σ), .int (orE (rEr σ) (sN σ)), .ref zU, .ref zV, .ref zR, .ref zE])), (zK, .inl (cZ, 128, .inl kI)), (zM, .inr (4, [.int (nI (sM σ)), .ref zS, .ref zT, .ref zD])), (zC, .inr (1, [.int (nI (sC σ)), .ref zQ, .ref zP, .ref zN])), (zL, .inr (3, [.ref zB, .ref zLo])), (zLo, .inl (cI, 128, .inl lo))])) (vp_Si (fun r => r = oTold σ w)) 0 0 (fun _ => False) := by
  refine Met.ofW (cc := cX5_told) (maxL := 2) (ret := (some .int)) (by decide) rfl ?_
  intro p e s m args below meth c s₁ B hml hv
  obtain ⟨rfl, hP, hK, hN⟩ := hv
  have hx := B.exec
  have hb := B.bytes
  have hr := B.returns
  have hts := atoms_spec (ws := wsX5_told) B.pre
  have hown : s.vm.findClass RX5 = some m.cls := findClass_of_methodNamed B.named
  have hlocks := B.notSynchronized
  have ho := hok.1
  have hk2 := hok.k
  have hf10 := hts (.fieldLink RX5 10 "BallCourt" "book" "LBallCourt$Book;") (List.mem_of_getElem? (i := 1) (by decide +kernel))
  have hiX5 : ∀ w ∈ wsX50, w ∈ wsX5_told := fun w h => List.mem_cons_of_mem _ (List.mem_append_left _ (List.mem_append_left _ (List.mem_append_left _ (List.mem_append_left _ (List.mem_append_right _ h)))))
  have hiX0 : ∀ w ∈ wsX00, w ∈ wsX5_told := fun w h => List.mem_cons_of_mem _ (List.mem_append_left _ (List.mem_append_left _ (List.mem_append_left _ (List.mem_append_right _ h))))
  have hf31 := hts (.fieldLink RX5 31 "BallCourt" "played" "LBallCourt$Moments;") (List.mem_of_getElem? (i := 2) (by decide +kernel))
  have hiX4 : ∀ w ∈ wsX40, w ∈ wsX5_told := fun w h => List.mem_cons_of_mem _ (List.mem_append_left _ (List.mem_append_left _ (List.mem_append_right _ h)))
  have hf38 := hts (.fieldLink RX5 38 "BallCourt" "cases" "LBallCourt$Cases;") (List.mem_of_getElem? (i := 3) (by decide +kernel))
  have hiX1 : ∀ w ∈ wsX10, w ∈ wsX5_told := fun w h => List.mem_cons_of_mem _ (List.mem_append_left _ (List.mem_append_right _ h))
  have hf52 := hts (.fieldLink RX5 52 "BallCourt" "hoopsToWin" "I") (List.mem_of_getElem? (i := 4) (by decide +kernel))
  have hl := lv_entry ([.ref zX, .int w]) (n := 2) (Nat.le_of_ble_eq_true rfl)
  rw [lg_entry_eq]
  generalize (lg_sl ([.ref zX, .int w]) ++ List.replicate (2 - (lg_sl ([.ref zX, .int w])).length) Slot.unset).toArray = ls at hl ⊢
  have hl : lv_has ls 2 [(0, .ref zX), (1, .int w)] := hl
  refine lv_iload_n hx hb dX5_told_0 rfl (lv_at hl 1 rfl) ?_
  rcases sw7 w with c1 | c1 | c1 | c1 | c1 | c1 | c1 | c1
  · skip
    subst c1
    refine lv_tableIn (off := 43) (tgt := 44) hx hb dX5_told_1 (by decide) (by decide) (by decide) (by decide) ?_
    refine lv_aload_n hx hb dX5_told_44 rfl (lv_at hl 0 rfl) ?_
    refine va_get (D := D) (ci := 5) (v := .ref zB) (C := RX5) (T := TX5) (N := 8) hx hb hts hiX5 hown hK hP 0 rfl rfl 0 (by decide) hf10 (fun _ h9 => h9) rfl dX5_told_45 ?_
    refine va_getN (D := D) (ci := 0) (v := .int (nI (sF σ))) (C := RX0) (T := TX0) (N := 11) hx hb hts hiX0 hown hK hP 1 rfl rfl 0 (by decide) (NW.f hN 3 rfl _) (fun _ h9 => h9) rfl dX5_told_48 ?_
    exact W.iret (v := nI (sF σ)) hx hb hr (fun t ht hW => ⟨_, rfl, by simp [oTold], ht⟩) (fun _ h => absurd h List.not_mem_nil) dX5_told_51
  · skip
    subst c1
    refine lv_tableIn (off := 51) (tgt := 52) hx hb dX5_told_1 (by decide) (by decide) (by decide) (by decide) ?_
    refine lv_aload_n hx hb dX5_told_52 rfl (lv_at hl 0 rfl) ?_
    refine va_get (D := D) (ci := 5) (v := .ref zB) (C := RX5) (T := TX5) (N := 8) hx hb hts hiX5 hown hK hP 0 rfl rfl 0 (by decide) hf10 (fun _ h9 => h9) rfl dX5_told_53 ?_
    refine lv_iconst (v := 0) hx hb dX5_told_56 (by decide) ?_
    refine lv_iconst (v := 0) hx hb dX5_told_57 (by decide) ?_
    refine xpV (rest := []) ⟨hx, hb, hml, hown, hts⟩ (c_X0_countMayBe l D cI cZ zB zK zW zU zV zR zE σ kI 0 0 hok hkI) (cwV 2 hts gX5_told_X0_countMayBe rfl rfl rfl (by decide +kernel) ⟨Nat.le_of_ble_eq_true rfl, Nat.le_of_ble_eq_true rfl⟩) hP [1, 2] rfl hK hN (ci := 0) (q0 := 1) rfl rfl rfl hl.1 rfl (Nat.le_of_ble_eq_true rfl) dX5_told_58 ⟨Nat.zero_le _, Nat.zero_le _⟩ (fun r58 e58 => ?_)
    subst e58
    exact W.iret (v := nI (cmb σ 0 0)) hx hb hr (fun t ht hW => ⟨_, rfl, by simp [oTold], ht⟩) (fun _ h => absurd h List.not_mem_nil) dX5_told_61
  · skip
    subst c1
    refine lv_tableIn (off := 61) (tgt := 62) hx hb dX5_told_1 (by decide) (by decide) (by decide) (by decide) ?_
    refine lv_aload_n hx hb dX5_told_62 rfl (lv_at hl 0 rfl) ?_
    refine va_get (D := D) (ci := 5) (v := .ref zB) (C := RX5) (T := TX5) (N := 8) hx hb hts hiX5 hown hK hP 0 rfl rfl 0 (by decide) hf10 (fun _ h9 => h9) rfl dX5_told_63 ?_
    refine va_getN (D := D) (ci := 0) (v := .int (nI (sN σ))) (C := RX0) (T := TX0) (N := 11) hx hb hts hiX0 hown hK hP 1 rfl rfl 4 (by decide) (NW.f hN 4 rfl _) (fun _ h9 => h9) rfl dX5_told_66 ?_
    exact W.iret (v := nI (sN σ)) hx hb hr (fun t ht hW => ⟨_, rfl, by simp [oTold], ht⟩) (fun _ h => absurd h List.not_mem_nil) dX5_told_69
  · skip
    subst c1
    refine lv_tableIn (off := 69) (tgt := 70) hx hb dX5_told_1 (by decide) (by decide) (by decide) (by decide) ?_
    refine lv_aload_n hx hb dX5_told_70 rfl (lv_at hl 0 rfl) ?_
    refine va_get (D := D) (ci := 5) (v := .ref zM) (C := RX5) (T := TX5) (N := 8) hx hb hts hiX5 hown hK hP 0 rfl rfl 3 (by decide) hf31 (fun _ h9 => h9) rfl dX5_told_71 ?_
    refine va_getN (D := D) (ci := 4) (v := .int (nI (sM σ))) (C := RX4) (T := TX4) (N := 4) hx hb hts hiX4 hown hK hP 3 rfl rfl 0 (by decide) (NW.f hN 0 rfl _) (fun _ h9 => h9) rfl dX5_told_74 ?_
    exact W.iret (v := nI (sM σ)) hx hb hr (fun t ht hW => ⟨_, rfl, by simp [oTold], ht⟩) (fun _ h => absurd h List.not_mem_nil) dX5_told_77
  · skip
    subst c1
    refine lv_tableIn (off := 77) (tgt := 78) hx hb dX5_told_1 (by decide) (by decide) (by decide) (by decide) ?_
    refine lv_aload_n hx hb dX5_told_78 rfl (lv_at hl 0 rfl) ?_
    refine va_get (D := D) (ci := 5) (v := .ref zC) (C := RX5) (T := TX5) (N := 8) hx hb hts hiX5 hown hK hP 0 rfl rfl 4 (by decide) hf38 (fun _ h9 => h9) rfl dX5_told_79 ?_
    refine va_getN (D := D) (ci := 1) (v := .int (nI (sC σ))) (C := RX1) (T := TX1) (N := 4) hx hb hts hiX1 hown hK hP 4 rfl rfl 0 (by decide) (NW.f hN 1 rfl _) (fun _ h9 => h9) rfl dX5_told_82 ?_
    exact W.iret (v := nI (sC σ)) hx hb hr (fun t ht hW => ⟨_, rfl, by simp [oTold], ht⟩) (fun _ h => absurd h List.not_mem_nil) dX5_told_85
  · skip
    subst c1
    refine lv_tableIn (off := 85) (tgt := 86) hx hb dX5_told_1 (by decide) (by decide) (by decide) (by decide) ?_
    refine lv_aload_n hx hb dX5_told_86 rfl (lv_at hl 0 rfl) ?_
    refine va_get (D := D) (ci := 5) (v := .int (nI (sG σ))) (C := RX5) (T := TX5) (N := 8) hx hb hts hiX5 hown hK hP 0 rfl rfl 7 (by decide) hf52 (fun _ h9 => h9) rfl dX5_told_87 ?_
    exact W.iret (v := nI (sG σ)) hx hb hr (fun t ht hW => ⟨_, rfl, by simp [oTold], ht⟩) (fun _ h => absurd h List.not_mem_nil) dX5_told_90
  · skip
    subst c1
    refine lv_tableIn (off := 90) (tgt := 91) hx hb dX5_told_1 (by decide) (by decide) (by decide) (by decide) ?_
    refine lv_aload_n hx hb dX5_told_91 rfl (lv_at hl 0 rfl) ?_
    refine xpV (rest := []) ⟨hx, hb, hml, hown, hts⟩ (c_X5_coveredKinds l D cI cZ zX zB zL zF zM zC zG zJ zK zW zU zV zR zE zLo σ kI lo hok hkI hlo) (cwV 0 hts gX5_told_X5_coveredKinds rfl rfl rfl (by decide +kernel) ⟨Nat.le_of_ble_eq_true rfl, Nat.le_of_ble_eq_true rfl⟩) hP [0, 1, 2, 5, 6] rfl hK hN (ci := 5) (q0 := 0) rfl rfl rfl hl.1 rfl (Nat.le_of_ble_eq_true rfl) dX5_told_92 ⟨Nat.zero_le _, Nat.zero_le _⟩ (fun r92 e92 => ?_)
    subst e92
    exact W.iret (v := nI (cvN σ)) hx hb hr (fun t ht hW => ⟨_, rfl, by simp [oTold], ht⟩) (fun _ h => absurd h List.not_mem_nil) dX5_told_95
  · skip
    refine lv_tableOut (tgt := 96) hx hb dX5_told_1 c1 (by decide) ?_
    have n0 := sw_ne c1 (k := 0) (by decide) (by decide)
    have n1 := sw_ne c1 (k := 1) (by decide) (by decide)
    have n2 := sw_ne c1 (k := 2) (by decide) (by decide)
    have n3 := sw_ne c1 (k := 3) (by decide) (by decide)
    have n4 := sw_ne c1 (k := 4) (by decide) (by decide)
    have n5 := sw_ne c1 (k := 5) (by decide) (by decide)
    have n6 := sw_ne c1 (k := 6) (by decide) (by decide)
    refine lv_bipush (v := (-2)) hx hb dX5_told_96 (by decide) ?_
    exact W.iret (v := (-2)) hx hb hr (fun t ht hW => ⟨_, rfl, by simp [oTold, n0, n1, n2, n3, n4, n5, n6], ht⟩) (fun _ h => absurd h List.not_mem_nil) dX5_told_98
