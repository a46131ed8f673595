set_option maxHeartbeats 4000000 in
set_option maxRecDepth 100000 in
theorem c_X6_facts (l : Launch) (D : va_G) (cI cZ : ClassId) (sz : Nat) (ym : Nat) (ymB : Nat) (ymU : Nat) (ymV : Nat) (ymR : Nat) (ymI : Nat) (ymE : Nat) (ymS : Nat) (ymT : Nat) (ymD : Nat) (ymQ : Nat) (ymP : Nat) (ymN : Nat) (ymO : Nat) (ymY : Nat) (ymZ : Nat) (ymX : Nat) (σ : ST) (x : Int32) (hok : Ok σ) : Met l yX6_facts wsX6_facts ({ frames := 1, cells := 0, slots := 0, locals := 22 }) (va_Pc [.ref ym, .int x] (XW D cI cZ [(ym, .inr (6, [.int (nI (sF σ)), .ref ymB, .int (nI (sN σ)), .ref ymU, .ref ymV, .ref ymR, .ref ymI, .ref ymE, .int (nI (sM σ)), .ref ymS, .ref ymT, .ref ymD, .int (nI (sC σ)), .ref ymQ, .ref ymP, .ref ymN, .int (nI (sG σ)), .ref ymO, .ref ymY, .ref ymZ, .ref ymX])), (ymB, .inl (cI, 7, .inl (rB σ)))] sz)) (va_Qi (fun (r : Int32) (u : Unit) => r = oFacts σ x) (fun u => XB D cI cZ (va_A [(ym, .inr (6, [.int (nI (sF σ)), .ref ymB, .int (nI (sN σ)), .ref ymU, .ref ymV, .ref ymR, .ref ymI, .ref ymE, .int (nI (sM σ)), .ref ymS, .ref ymT, .ref ymD, .int (nI (sC σ)), .ref ymQ, .ref ymP, .ref ymN, .int (nI (sG σ)), .ref ymO, .ref ymY, .ref ymZ, .ref ymX])), (ymB, .inl (cI, 7, .inl (rB σ)))] sz) [(ym, .inr (6, [.int (nI (sF (nFacts σ x))), .ref ymB, .int (nI (sN (nFacts σ x))), .ref ymU, .ref ymV, .ref ymR, .ref ymI, .ref ymE, .int (nI (sM (nFacts σ x))), .ref ymS, .ref ymT, .ref ymD, .int (nI (sC (nFacts σ x))), .ref ymQ, .ref ymP, .ref ymN, .int (nI (sG (nFacts σ x))), .ref ymO, .ref ymY, .ref ymZ, .ref ymX])), (ymB, .inl (cI, 7, .inl (rB (nFacts σ x))))]) (va_A [(ym, .inr (6, [.int (nI (sF σ)), .ref ymB, .int (nI (sN σ)), .ref ymU, .ref ymV, .ref ymR, .ref ymI, .ref ymE, .int (nI (sM σ)), .ref ymS, .ref ymT, .ref ymD, .int (nI (sC σ)), .ref ymQ, .ref ymP, .ref ymN, .int (nI (sG σ)), .ref ymO, .ref ymY, .ref ymZ, .ref ymX])), (ymB, .inl (cI, 7, .inl (rB σ)))] sz)) 0 0 (va_A [(ym, .inr (6, [.int (nI (sF σ)), .ref ymB, .int (nI (sN σ)), .ref ymU, .ref ymV, .ref ymR, .ref ymI, .ref ymE, .int (nI (sM σ)), .ref ymS, .ref ymT, .ref ymD, .int (nI (sC σ)), .ref ymQ, .ref ymP, .ref ymN, .int (nI (sG σ)), .ref ymO, .ref ymY, .ref ymZ, .ref ymX])), (ymB, .inl (cI, 7, .inl (rB σ)))] sz) := by
  refine Met.ofW (cc := cX6_facts) (maxL := 4) (ret := (some .int)) (by decide) rfl ?_
  intro p e s m args below meth c s₁ B hml hv
  obtain ⟨rfl, hsz, ⟨hP, hK, hN⟩, hD0⟩ := hv
  have hx := B.exec
  have hb := B.bytes
  have hr := B.returns
  have hts := atoms_spec (ws := wsX6_facts) B.pre
  have hown : s.vm.findClass RX6 = some m.cls := findClass_of_methodNamed B.named
  have hlocks := B.notSynchronized
  subst hsz
  have hD := hD0.self (sz := s.heap.size)
  generalize hAe : va_A [(ym, .inr (6, [.int (nI (sF σ)), .ref ymB, .int (nI (sN σ)), .ref ymU, .ref ymV, .ref ymR, .ref ymI, .ref ymE, .int (nI (sM σ)), .ref ymS, .ref ymT, .ref ymD, .int (nI (sC σ)), .ref ymQ, .ref ymP, .ref ymN, .int (nI (sG σ)), .ref ymO, .ref ymY, .ref ymZ, .ref ymX])), (ymB, .inl (cI, 7, .inl (rB σ)))] s.heap.size = A at hD ⊢
  have hA : ∀ q : Nat, s.heap.size ≤ q → A q := fun q h => by rw [← hAe]; exact Or.inr h
  have hS : va_S A s.heap s.heap [] := va_S.rf
  have ho := hok.1
  have hk2 := hok.k
  have hp2 : 1 ≤ 2 ^ sF σ := Nat.two_pow_pos _
  have hf7 := hts (.fieldLink RX6 7 "BallCourtModel" "facts" "I") (List.mem_of_getElem? (i := 1) (by decide +kernel))
  have hiX6 : ∀ w ∈ wsX60, w ∈ wsX6_facts := fun w h => List.mem_cons_of_mem _ (List.mem_append_right _ h)
  have hf70 := hts (.fieldLink RX6 70 "BallCourtModel" "lines" "I") (List.mem_of_getElem? (i := 3) (by decide +kernel))
  have hf73 := hts (.fieldLink RX6 73 "BallCourtModel" "moments" "I") (List.mem_of_getElem? (i := 4) (by decide +kernel))
  have hf76 := hts (.fieldLink RX6 76 "BallCourtModel" "cases" "I") (List.mem_of_getElem? (i := 5) (by decide +kernel))
  have hf13 := hts (.fieldLink RX6 13 "BallCourtModel" "bars" "[I") (List.mem_of_getElem? (i := 2) (by decide +kernel))
  have hl := lv_entry ([.ref ym, .int x]) (n := 4) (Nat.le_of_ble_eq_true rfl)
  rw [lg_entry_eq]
  generalize (lg_sl ([.ref ym, .int x]) ++ List.replicate (4 - (lg_sl ([.ref ym, .int x])).length) Slot.unset).toArray = ls at hl ⊢
  have hl : lv_has ls 4 [(0, .ref ym), (1, .int x)] := hl
  refine lv_iload_n hx hb dX6_facts_0 rfl (lv_at hl 1 rfl) ?_
  refine lv_iconst (v := 1) hx hb dX6_facts_1 (by decide) ?_
  refine lv_bipush (v := 7) hx hb dX6_facts_2 (by decide) ?_
  refine xpS (rest := []) ⟨hx, hb, hml, hown, hts⟩ (c_X6_in l D cI cZ x 1 7) (va_cwS 3 hts gX6_facts_X6_in rfl rfl rfl (by decide +kernel) ⟨Nat.le_of_ble_eq_true rfl, Nat.le_of_ble_eq_true rfl⟩) hP [] rfl hK hN rfl hl.1 rfl (Nat.le_of_ble_eq_true rfl) dX6_facts_4 ⟨Nat.zero_le _, Nat.zero_le _⟩ (fun r4 e4 => ?_)
  subst e4
  refine lv_if_ne (tgt := 13) hx hb dX6_facts_7 (by decide) (fun c7 => ?_) (fun c7 => ?_)
  · skip
    have c7 := b2_1 c7
    obtain ⟨q, hq, rfl⟩ := rng1 (a := 1) (b := 7) (by omega) c7
    have kq : (nI q).toNatClampNeg = q := nI_clamp (by omega)
    refine lv_aload_n hx hb dX6_facts_13 rfl (lv_at hl 0 rfl) ?_
    refine va_get (D := D) (ci := 6) (v := .int (nI (sF σ))) (C := RX6) (T := TX6) (N := 21) hx hb hts hiX6 hown hK hP 0 rfl rfl 0 (by decide) hf7 (fun _ h9 => h9) rfl dX6_facts_14 ?_
    refine lv_istore_n (lv' := [(2, .int (nI (sF σ))), (0, .ref ym), (1, .int (nI q))]) hx hb dX6_facts_17 rfl hl (by decide) rfl (fun ls hl => ?_)
    refine lv_aload_n hx hb dX6_facts_18 rfl (lv_at hl 1 rfl) ?_
    refine lv_iload_n hx hb dX6_facts_19 rfl (lv_at hl 2 rfl) ?_
    refine va_put (D := D) (ci := 6) (v := .int (nI q)) (ty := .int) (C := RX6) (T := TX6) (N := 21) hx hb hts hiX6 tyX6 tyX6_ok nmX6 hown hK hP hD hS 0 rfl rfl 0 (by decide) hf7 (fun _ h9 => h9) rfl (by decide +kernel) rfl rfl (Nat.le_of_ble_eq_true rfl) dX6_facts_20 (fun H locs hP hD hS => ?_)
    have hP : va_P D vwCl [(ym, .inr (6, [.int (nI q), .ref ymB, .int (nI (sN σ)), .ref ymU, .ref ymV, .ref ymR, .ref ymI, .ref ymE, .int (nI (sM σ)), .ref ymS, .ref ymT, .ref ymD, .int (nI (sC σ)), .ref ymQ, .ref ymP, .ref ymN, .int (nI (sG σ)), .ref ymO, .ref ymY, .ref ymZ, .ref ymX])), (ymB, .inl (cI, 7, .inl (rB σ)))] H := hP
    have hD : va_D A [(ym, .inr (6, [.int (nI q), .ref ymB, .int (nI (sN σ)), .ref ymU, .ref ymV, .ref ymR, .ref ymI, .ref ymE, .int (nI (sM σ)), .ref ymS, .ref ymT, .ref ymD, .int (nI (sC σ)), .ref ymQ, .ref ymP, .ref ymN, .int (nI (sG σ)), .ref ymO, .ref ymY, .ref ymZ, .ref ymX])), (ymB, .inl (cI, 7, .inl (rB σ)))] := hD
    refine lv_iconst (v := nI 0) hx hb dX6_facts_23 (by decide) ?_
    refine lv_istore_n (lv' := [(3, .int (nI 0)), (2, .int (nI (sF σ))), (0, .ref ym), (1, .int (nI q))]) hx hb dX6_facts_24 rfl hl (by decide) rfl (fun ls hl => ?_)
    have e_rw : (rB σ : Nat → Int32) = zf (rB σ) 0 := (zf_0 _)
    have hP : va_P D vwCl [(ym, .inr (6, [.int (nI q), .ref ymB, .int (nI (sN σ)), .ref ymU, .ref ymV, .ref ymR, .ref ymI, .ref ymE, .int (nI (sM σ)), .ref ymS, .ref ymT, .ref ymD, .int (nI (sC σ)), .ref ymQ, .ref ymP, .ref ymN, .int (nI (sG σ)), .ref ymO, .ref ymY, .ref ymZ, .ref ymX])), (ymB, .inl (cI, 7, .inl (zf (rB σ) 0)))] H := by rw [← e_rw]; exact hP
    have hD : va_D A [(ym, .inr (6, [.int (nI q), .ref ymB, .int (nI (sN σ)), .ref ymU, .ref ymV, .ref ymR, .ref ymI, .ref ymE, .int (nI (sM σ)), .ref ymS, .ref ymT, .ref ymD, .int (nI (sC σ)), .ref ymQ, .ref ymP, .ref ymN, .int (nI (sG σ)), .ref ymO, .ref ymY, .ref ymZ, .ref ymX])), (ymB, .inl (cI, 7, .inl (zf (rB σ) 0)))] := by rw [← e_rw]; exact hD
    clear e_rw
    refine wloopW (α := Nat) (fun v => 7 - v) (fun v => [(ym, .inr (6, [.int (nI q), .ref ymB, .int (nI (sN σ)), .ref ymU, .ref ymV, .ref ymR, .ref ymI, .ref ymE, .int (nI (sM σ)), .ref ymS, .ref ymT, .ref ymD, .int (nI (sC σ)), .ref ymQ, .ref ymP, .ref ymN, .int (nI (sG σ)), .ref ymO, .ref ymY, .ref ymZ, .ref ymX])), (ymB, .inl (cI, 7, .inl (zf (rB σ) v)))]) (fun v => [(0, .ref ym), (1, .int (nI q)), (2, .int (nI (sF σ))), (3, .int (nI v))]) (fun v => (v ≤ 7)) 4 (fun v hv ih25 H locs hP hD hS ls hl => ?_) 0 (show 0 ≤ 7 from Nat.zero_le _) hP hD hS ls (lv_sub hl [2, 3, 1, 0] rfl)
    obtain ⟨i, rfl⟩ : ∃ z : Nat, z = v := ⟨_, rfl⟩
    have hi : i ≤ 7 := hv
    have hl : lv_has ls 4 [(0, .ref ym), (1, .int (nI q)), (2, .int (nI (sF σ))), (3, .int (nI i))] := hl
    have hP : va_P D vwCl [(ym, .inr (6, [.int (nI q), .ref ymB, .int (nI (sN σ)), .ref ymU, .ref ymV, .ref ymR, .ref ymI, .ref ymE, .int (nI (sM σ)), .ref ymS, .ref ymT, .ref ymD, .int (nI (sC σ)), .ref ymQ, .ref ymP, .ref ymN, .int (nI (sG σ)), .ref ymO, .ref ymY, .ref ymZ, .ref ymX])), (ymB, .inl (cI, 7, .inl (zf (rB σ) i)))] H := hP
    have hD : va_D A [(ym, .inr (6, [.int (nI q), .ref ymB, .int (nI (sN σ)), .ref ymU, .ref ymV, .ref ymR, .ref ymI, .ref ymE, .int (nI (sM σ)), .ref ymS, .ref ymT, .ref ymD, .int (nI (sC σ)), .ref ymQ, .ref ymP, .ref ymN, .int (nI (sG σ)), .ref ymO, .ref ymY, .ref ymZ, .ref ymX])), (ymB, .inl (cI, 7, .inl (zf (rB σ) i)))] := hD
    refine lv_iload_n hx hb dX6_facts_25 rfl (lv_at hl 3 rfl) ?_
    refine lv_bipush (v := nI 7) hx hb dX6_facts_26 (by decide) ?_
    refine lv_icmp_ge (tgt := 44) hx hb dX6_facts_28 (by decide) (fun c28 => ?_) (fun c28 => ?_)
    · skip
      have c28 := (nI_leI (by omega) (by omega)).mp c28
      obtain rfl : i = 7 := by omega
      refine lv_aload_n hx hb dX6_facts_44 rfl (lv_at hl 0 rfl) ?_
      refine lv_iconst (v := nI 0) hx hb dX6_facts_45 (by decide) ?_
      refine va_put (D := D) (ci := 6) (v := .int (nI 0)) (ty := .int) (C := RX6) (T := TX6) (N := 21) hx hb hts hiX6 tyX6 tyX6_ok nmX6 hown hK hP hD hS 0 rfl rfl 2 (by decide) hf70 (fun _ h9 => h9) rfl (by decide +kernel) rfl rfl (Nat.le_of_ble_eq_true rfl) dX6_facts_46 (fun H locs hP hD hS => ?_)
      have hP : va_P D vwCl [(ym, .inr (6, [.int (nI q), .ref ymB, .int (nI 0), .ref ymU, .ref ymV, .ref ymR, .ref ymI, .ref ymE, .int (nI (sM σ)), .ref ymS, .ref ymT, .ref ymD, .int (nI (sC σ)), .ref ymQ, .ref ymP, .ref ymN, .int (nI (sG σ)), .ref ymO, .ref ymY, .ref ymZ, .ref ymX])), (ymB, .inl (cI, 7, .inl (zf (rB σ) 7)))] H := hP
      have hD : va_D A [(ym, .inr (6, [.int (nI q), .ref ymB, .int (nI 0), .ref ymU, .ref ymV, .ref ymR, .ref ymI, .ref ymE, .int (nI (sM σ)), .ref ymS, .ref ymT, .ref ymD, .int (nI (sC σ)), .ref ymQ, .ref ymP, .ref ymN, .int (nI (sG σ)), .ref ymO, .ref ymY, .ref ymZ, .ref ymX])), (ymB, .inl (cI, 7, .inl (zf (rB σ) 7)))] := hD
      refine lv_aload_n hx hb dX6_facts_49 rfl (lv_at hl 0 rfl) ?_
      refine lv_iconst (v := nI 0) hx hb dX6_facts_50 (by decide) ?_
      refine va_put (D := D) (ci := 6) (v := .int (nI 0)) (ty := .int) (C := RX6) (T := TX6) (N := 21) hx hb hts hiX6 tyX6 tyX6_ok nmX6 hown hK hP hD hS 0 rfl rfl 8 (by decide) hf73 (fun _ h9 => h9) rfl (by decide +kernel) rfl rfl (Nat.le_of_ble_eq_true rfl) dX6_facts_51 (fun H locs hP hD hS => ?_)
      have hP : va_P D vwCl [(ym, .inr (6, [.int (nI q), .ref ymB, .int (nI 0), .ref ymU, .ref ymV, .ref ymR, .ref ymI, .ref ymE, .int (nI 0), .ref ymS, .ref ymT, .ref ymD, .int (nI (sC σ)), .ref ymQ, .ref ymP, .ref ymN, .int (nI (sG σ)), .ref ymO, .ref ymY, .ref ymZ, .ref ymX])), (ymB, .inl (cI, 7, .inl (zf (rB σ) 7)))] H := hP
      have hD : va_D A [(ym, .inr (6, [.int (nI q), .ref ymB, .int (nI 0), .ref ymU, .ref ymV, .ref ymR, .ref ymI, .ref ymE, .int (nI 0), .ref ymS, .ref ymT, .ref ymD, .int (nI (sC σ)), .ref ymQ, .ref ymP, .ref ymN, .int (nI (sG σ)), .ref ymO, .ref ymY, .ref ymZ, .ref ymX])), (ymB, .inl (cI, 7, .inl (zf (rB σ) 7)))] := hD
      refine lv_aload_n hx hb dX6_facts_54 rfl (lv_at hl 0 rfl) ?_
      refine lv_iconst (v := nI 0) hx hb dX6_facts_55 (by decide) ?_
      refine va_put (D := D) (ci := 6) (v := .int (nI 0)) (ty := .int) (C := RX6) (T := TX6) (N := 21) hx hb hts hiX6 tyX6 tyX6_ok nmX6 hown hK hP hD hS 0 rfl rfl 12 (by decide) hf76 (fun _ h9 => h9) rfl (by decide +kernel) rfl rfl (Nat.le_of_ble_eq_true rfl) dX6_facts_56 (fun H locs hP hD hS => ?_)
      have hP : va_P D vwCl [(ym, .inr (6, [.int (nI q), .ref ymB, .int (nI 0), .ref ymU, .ref ymV, .ref ymR, .ref ymI, .ref ymE, .int (nI 0), .ref ymS, .ref ymT, .ref ymD, .int (nI 0), .ref ymQ, .ref ymP, .ref ymN, .int (nI (sG σ)), .ref ymO, .ref ymY, .ref ymZ, .ref ymX])), (ymB, .inl (cI, 7, .inl (zf (rB σ) 7)))] H := hP
      have hD : va_D A [(ym, .inr (6, [.int (nI q), .ref ymB, .int (nI 0), .ref ymU, .ref ymV, .ref ymR, .ref ymI, .ref ymE, .int (nI 0), .ref ymS, .ref ymT, .ref ymD, .int (nI 0), .ref ymQ, .ref ymP, .ref ymN, .int (nI (sG σ)), .ref ymO, .ref ymY, .ref ymZ, .ref ymX])), (ymB, .inl (cI, 7, .inl (zf (rB σ) 7)))] := hD
      refine lv_iload_n hx hb dX6_facts_59 rfl (lv_at hl 2 rfl) ?_
      have hP9 := hP
      have hD9 := hD
      have eN : nFacts σ (nI q) = bgS σ q := by rw [nFacts, if_neg (by rw [c7]; decide), kq]
      exact W.iret (v := nI (sF σ)) hx hb hr (fun t ht hW => ⟨⟨nI (sF σ), (), rfl, (by rw [oFacts, if_neg (by rw [c7]; decide)]), ⟨⟨by rw [ht, eN]; exact hP9, va_K.moved hW.alike hK, NW.warm hW hN⟩, by rw [eN]; exact hD9⟩⟩, hS.F ht⟩) hS.2.2 dX6_facts_60
    · skip
      have c28 := Nat.lt_of_not_le (fun z => c28 ((nI_leI (by omega) (by omega)).mpr z))
      refine lv_aload_n hx hb dX6_facts_31 rfl (lv_at hl 0 rfl) ?_
      refine va_get (D := D) (ci := 6) (v := .ref ymB) (C := RX6) (T := TX6) (N := 21) hx hb hts hiX6 hown hK hP 0 rfl rfl 1 (by decide) hf13 (fun _ h9 => h9) rfl dX6_facts_32 ?_
      refine lv_iload_n hx hb dX6_facts_35 rfl (lv_at hl 3 rfl) ?_
      refine lv_iconst (v := 0) hx hb dX6_facts_36 (by decide) ?_
      refine xast (k := i) hx hb hK hP hD hS 1 rfl (by omega) (by decide) dX6_facts_37 (fun H locs hP hD hS => ?_)
      have hP : va_P D vwCl [(ym, .inr (6, [.int (nI q), .ref ymB, .int (nI (sN σ)), .ref ymU, .ref ymV, .ref ymR, .ref ymI, .ref ymE, .int (nI (sM σ)), .ref ymS, .ref ymT, .ref ymD, .int (nI (sC σ)), .ref ymQ, .ref ymP, .ref ymN, .int (nI (sG σ)), .ref ymO, .ref ymY, .ref ymZ, .ref ymX])), (ymB, .inl (cI, 7, .inl (upd (zf (rB σ) i) i 0)))] H := hP
      have hD : va_D A [(ym, .inr (6, [.int (nI q), .ref ymB, .int (nI (sN σ)), .ref ymU, .ref ymV, .ref ymR, .ref ymI, .ref ymE, .int (nI (sM σ)), .ref ymS, .ref ymT, .ref ymD, .int (nI (sC σ)), .ref ymQ, .ref ymP, .ref ymN, .int (nI (sG σ)), .ref ymO, .ref ymY, .ref ymZ, .ref ymX])), (ymB, .inl (cI, 7, .inl (upd (zf (rB σ) i) i 0)))] := hD
      refine lv_iinc (k := 3) (x := nI i) (v := nI (i + 1)) (lv' := [(3, .int (nI (i + 1))), (0, .ref ym), (1, .int (nI q)), (2, .int (nI (sF σ)))]) hx hb dX6_facts_38 hl rfl (show (nI i) + Int32.ofInt 1 = nI (i + 1) from nI_1 _) (by decide) rfl (fun ls hl => ?_)
      refine lv_goto (tgt := 25) hx hb dX6_facts_41 (by decide) ?_
      have e_rw : (upd (zf (rB σ) i) i 0 : Nat → Int32) = zf (rB σ) (i + 1) := zf_up _ _
      have hP : va_P D vwCl [(ym, .inr (6, [.int (nI q), .ref ymB, .int (nI (sN σ)), .ref ymU, .ref ymV, .ref ymR, .ref ymI, .ref ymE, .int (nI (sM σ)), .ref ymS, .ref ymT, .ref ymD, .int (nI (sC σ)), .ref ymQ, .ref ymP, .ref ymN, .int (nI (sG σ)), .ref ymO, .ref ymY, .ref ymZ, .ref ymX])), (ymB, .inl (cI, 7, .inl (zf (rB σ) (i + 1))))] H := by rw [← e_rw]; exact hP
      have hD : va_D A [(ym, .inr (6, [.int (nI q), .ref ymB, .int (nI (sN σ)), .ref ymU, .ref ymV, .ref ymR, .ref ymI, .ref ymE, .int (nI (sM σ)), .ref ymS, .ref ymT, .ref ymD, .int (nI (sC σ)), .ref ymQ, .ref ymP, .ref ymN, .int (nI (sG σ)), .ref ymO, .ref ymY, .ref ymZ, .ref ymX])), (ymB, .inl (cI, 7, .inl (zf (rB σ) (i + 1))))] := by rw [← e_rw]; exact hD
      clear e_rw
      exact ih25 (i + 1) (show (i + 1) ≤ 7 from (by omega)) (by show 7 - (i + 1) < 7 - i; omega) _ _ hP hD hS ls (lv_sub hl [1, 2, 3, 0] rfl)
  · skip
    have c7 := b2_0 c7
    refine lv_bipush (v := (-2)) hx hb dX6_facts_10 (by decide) ?_
    have hP9 := hP
    have hD9 := hD
    have eN : nFacts σ x = σ := by rw [nFacts, if_pos c7]
    exact W.iret (v := (-2)) hx hb hr (fun t ht hW => ⟨⟨(-2), (), rfl, (by rw [oFacts, if_pos c7]), ⟨⟨by rw [ht, eN]; exact hP9, va_K.moved hW.alike hK, NW.warm hW hN⟩, by rw [eN]; exact hD9⟩⟩, hS.F ht⟩) hS.2.2 dX6_facts_12

set_option maxHeartbeats 4000000 in
set_option maxRecDepth 100000 in
theorem c_X6_barred (l : Launch) (D : va_G) (cI cZ : ClassId) (sz : Nat) (ym : Nat) (ymB : Nat) (ymU : Nat) (ymV : Nat) (ymR : Nat) (ymI : Nat) (ymE : Nat) (ymS : Nat) (ymT : Nat) (ymD : Nat) (ymQ : Nat) (ymP : Nat) (ymN : Nat) (ymO : Nat) (ymY : Nat) (ymZ : Nat) (ymX : Nat) (σ : ST) (x : Int32) (y : Int32) (is : Bool) (hok : Ok σ) : Met l yX6_barred wsX6_barred ({ frames := 2, cells := 0, slots := 0, locals := 43 }) (va_Pc [.ref ym, .int x, .int y, .int (b2 is)] (XW D cI cZ [(ym, .inr (6, [.int (nI (sF σ)), .ref ymB, .int (nI (sN σ)), .ref ymU, .ref ymV, .ref ymR, .ref ymI, .ref ymE, .int (nI (sM σ)), .ref ymS, .ref ymT, .ref ymD, .int (nI (sC σ)), .ref ymQ, .ref ymP, .ref ymN, .int (nI (sG σ)), .ref ymO, .ref ymY, .ref ymZ, .ref ymX])), (ymB, .inl (cI, 7, .inl (rB σ)))] sz)) (va_Qi (fun (r : Int32) (u : Unit) => r = oBarred σ x y) (fun u => XB D cI cZ (va_A [(ym, .inr (6, [.int (nI (sF σ)), .ref ymB, .int (nI (sN σ)), .ref ymU, .ref ymV, .ref ymR, .ref ymI, .ref ymE, .int (nI (sM σ)), .ref ymS, .ref ymT, .ref ymD, .int (nI (sC σ)), .ref ymQ, .ref ymP, .ref ymN, .int (nI (sG σ)), .ref ymO, .ref ymY, .ref ymZ, .ref ymX])), (ymB, .inl (cI, 7, .inl (rB σ)))] sz) [(ym, .inr (6, [.int (nI (sF (nBarred σ x y is))), .ref ymB, .int (nI (sN (nBarred σ x y is))), .ref ymU, .ref ymV, .ref ymR, .ref ymI, .ref ymE, .int (nI (sM (nBarred σ x y is))), .ref ymS, .ref ymT, .ref ymD, .int (nI (sC (nBarred σ x y is))), .ref ymQ, .ref ymP, .ref ymN, .int (nI (sG (nBarred σ x y is))), .ref ymO, .ref ymY, .ref ymZ, .ref ymX])), (ymB, .inl (cI, 7, .inl (rB (nBarred σ x y is))))]) (va_A [(ym, .inr (6, [.int (nI (sF σ)), .ref ymB, .int (nI (sN σ)), .ref ymU, .ref ymV, .ref ymR, .ref ymI, .ref ymE, .int (nI (sM σ)), .ref ymS, .ref ymT, .ref ymD, .int (nI (sC σ)), .ref ymQ, .ref ymP, .ref ymN, .int (nI (sG σ)), .ref ymO, .ref ymY, .ref ymZ, .ref ymX])), (ymB, .inl (cI, 7, .inl (rB σ)))] sz)) 0 0 (va_A [(ym, .inr (6, [.int (nI (sF σ)), .ref ymB, .int (nI (sN σ)), .ref ymU, .ref ymV, .ref ymR, .ref ymI, .ref ymE, .int (nI (sM σ)), .ref ymS, .ref ymT, .ref ymD, .int (nI (sC σ)), .ref ymQ, .ref ymP, .ref ymN, .int (nI (sG σ)), .ref ymO, .ref ymY, .ref ymZ, .ref ymX])), (ymB, .inl (cI, 7, .inl (rB σ)))] sz) := by
  refine Met.ofW (cc := cX6_barred) (maxL := 5) (ret := (some .int)) (by decide) rfl ?_
  intro p e s m args below meth c s₁ B hml hv
  obtain ⟨rfl, hsz, ⟨hP, hK, hN⟩, hD0⟩ := hv
  have hx := B.exec
  have hb := B.bytes
  have hr := B.returns
  have hts := atoms_spec (ws := wsX6_barred) B.pre
  have hown : s.vm.findClass RX6 = some m.cls := findClass_of_methodNamed B.named
  have hlocks := B.notSynchronized
  subst hsz
  have hD := hD0.self (sz := s.heap.size)
  generalize hAe : va_A [(ym, .inr (6, [.int (nI (sF σ)), .ref ymB, .int (nI (sN σ)), .ref ymU, .ref ymV, .ref ymR, .ref ymI, .ref ymE, .int (nI (sM σ)), .ref ymS, .ref ymT, .ref ymD, .int (nI (sC σ)), .ref ymQ, .ref ymP, .ref ymN, .int (nI (sG σ)), .ref ymO, .ref ymY, .ref ymZ, .ref ymX])), (ymB, .inl (cI, 7, .inl (rB σ)))] s.heap.size = A at hD ⊢
  have hA : ∀ q : Nat, s.heap.size ≤ q → A q := fun q h => by rw [← hAe]; exact Or.inr h
  have hS : va_S A s.heap s.heap [] := va_S.rf
  have ho := hok.1
  have hk2 := hok.k
  have hp2 : 1 ≤ 2 ^ sF σ := Nat.two_pow_pos _
  have hf13 := hts (.fieldLink RX6 13 "BallCourtModel" "bars" "[I") (List.mem_of_getElem? (i := 1) (by decide +kernel))
  have hiX6 : ∀ w ∈ wsX60, w ∈ wsX6_barred := fun w h => List.mem_cons_of_mem _ (List.mem_append_right _ h)
  have hl := lv_entry ([.ref ym, .int x, .int y, .int (b2 is)]) (n := 5) (Nat.le_of_ble_eq_true rfl)
  rw [lg_entry_eq]
  generalize (lg_sl ([.ref ym, .int x, .int y, .int (b2 is)]) ++ List.replicate (5 - (lg_sl ([.ref ym, .int x, .int y, .int (b2 is)])).length) Slot.unset).toArray = ls at hl ⊢
  have hl : lv_has ls 5 [(0, .ref ym), (1, .int x), (2, .int y), (3, .int (b2 is))] := hl
  refine lv_aload_n hx hb dX6_barred_0 rfl (lv_at hl 0 rfl) ?_
  refine lv_iload_n hx hb dX6_barred_1 rfl (lv_at hl 1 rfl) ?_
  refine xpV (rest := []) ⟨hx, hb, hml, hown, hts⟩ (c_X6_isFact l D cI cZ ym ymB ymU ymV ymR ymI ymE ymS ymT ymD ymQ ymP ymN ymO ymY ymZ ymX σ x hok) (cwV 1 hts gX6_barred_X6_isFact rfl rfl rfl (by decide +kernel) ⟨Nat.le_of_ble_eq_true rfl, Nat.le_of_ble_eq_true rfl⟩) hP [0] rfl hK hN (ci := 6) (q0 := 0) rfl rfl rfl hl.1 rfl (Nat.le_of_ble_eq_true rfl) dX6_barred_2 ⟨Nat.zero_le _, Nat.zero_le _⟩ (fun r2 e2 => ?_)
  subst e2
  refine lv_if_eq (tgt := 21) hx hb dX6_barred_5 (by decide) (fun c5 => ?_) (fun c5 => ?_)
  · skip
    have c5 := b2_0 c5
    refine lv_iconst (v := (-1)) hx hb dX6_barred_21 (by decide) ?_
    have hP9 := hP
    have hD9 := hD
    have eN : nBarred σ x y is = σ := by rw [nBarred, if_pos c5]
    have eO : oBarred σ x y = -1 := by rw [oBarred, if_pos c5]
    exact W.iret (v := (-1)) hx hb hr (fun t ht hW => ⟨⟨(-1), (), rfl, eO.symm, ⟨⟨by rw [ht, eN]; exact hP9, va_K.moved hW.alike hK, NW.warm hW hN⟩, by rw [eN]; exact hD9⟩⟩, hS.F ht⟩) hS.2.2 dX6_barred_22
  · skip
    have c5 := b2_1 c5
    refine lv_aload_n hx hb dX6_barred_8 rfl (lv_at hl 0 rfl) ?_
    refine lv_iload_n hx hb dX6_barred_9 rfl (lv_at hl 2 rfl) ?_
    refine xpV (rest := []) ⟨hx, hb, hml, hown, hts⟩ (c_X6_isFact l D cI cZ ym ymB ymU ymV ymR ymI ymE ymS ymT ymD ymQ ymP ymN ymO ymY ymZ ymX σ y hok) (cwV 1 hts gX6_barred_X6_isFact rfl rfl rfl (by decide +kernel) ⟨Nat.le_of_ble_eq_true rfl, Nat.le_of_ble_eq_true rfl⟩) hP [0] rfl hK hN (ci := 6) (q0 := 0) rfl rfl rfl hl.1 rfl (Nat.le_of_ble_eq_true rfl) dX6_barred_10 ⟨Nat.zero_le _, Nat.zero_le _⟩ (fun r10 e10 => ?_)
    subst e10
    refine lv_if_eq (tgt := 21) hx hb dX6_barred_13 (by decide) (fun c13 => ?_) (fun c13 => ?_)
    · skip
      have c13 := b2_0 c13
      refine lv_iconst (v := (-1)) hx hb dX6_barred_21 (by decide) ?_
      have hP9 := hP
      have hD9 := hD
      have eN : nBarred σ x y is = σ := by rw [nBarred, if_neg (by rw [c5]; decide), if_pos c13]
      have eO : oBarred σ x y = -1 := by rw [oBarred, if_neg (by rw [c5]; decide), if_pos c13]
      exact W.iret (v := (-1)) hx hb hr (fun t ht hW => ⟨⟨(-1), (), rfl, eO.symm, ⟨⟨by rw [ht, eN]; exact hP9, va_K.moved hW.alike hK, NW.warm hW hN⟩, by rw [eN]; exact hD9⟩⟩, hS.F ht⟩) hS.2.2 dX6_barred_22
    · skip
      have c13 := b2_1 c13
      refine lv_iload_n hx hb dX6_barred_16 rfl (lv_at hl 1 rfl) ?_
      refine lv_iload_n hx hb dX6_barred_17 rfl (lv_at hl 2 rfl) ?_
      refine lv_icmp_ne (tgt := 23) hx hb dX6_barred_18 (by decide) (fun c18 => ?_) (fun c18 => ?_)
      · skip
        obtain ⟨a, ha, rfl⟩ := inN_t c5 (by omega)
        obtain ⟨b, hb2, rfl⟩ := inN_t c13 (by omega)
        have ka : (nI a).toNatClampNeg = a := nI_clamp (by omega)
        have kb : (nI b).toNatClampNeg = b := nI_clamp (by omega)
        refine lv_aload_n hx hb dX6_barred_23 rfl (lv_at hl 0 rfl) ?_
        refine va_get (D := D) (ci := 6) (v := .ref ymB) (C := RX6) (T := TX6) (N := 21) hx hb hts hiX6 hown hK hP 0 rfl rfl 1 (by decide) hf13 (fun _ h9 => h9) rfl dX6_barred_24 ?_
        refine lv_iload_n hx hb dX6_barred_27 rfl (lv_at hl 1 rfl) ?_
        refine xald (k := a) hx hb hK hP 1 rfl (by omega) (by decide) dX6_barred_28 ?_
        refine lv_iload_n hx hb dX6_barred_29 rfl (lv_at hl 2 rfl) ?_
        refine lv_ishr hx hb dX6_barred_30 ?_
        refine lv_iconst (v := 1) hx hb dX6_barred_31 (by decide) ?_
        refine lv_iand hx hb dX6_barred_32 ?_
        refine lv_asi (show ((rB σ a) >>> ((nI b) &&& 31)) &&& 1 = b2 (bit (rB σ a) (nI b)) from hb_b2 _ _) ?_
        refine lv_istore (lv' := [(4, .int (b2 (bit (rB σ a) (nI b)))), (0, .ref ym), (1, .int (nI a)), (2, .int (nI b)), (3, .int (b2 is))]) hx hb dX6_barred_33 hl (by decide) rfl (fun ls hl => ?_)
        refine lv_aload_n hx hb dX6_barred_35 rfl (lv_at hl 1 rfl) ?_
        refine va_get (D := D) (ci := 6) (v := .ref ymB) (C := RX6) (T := TX6) (N := 21) hx hb hts hiX6 hown hK hP 0 rfl rfl 1 (by decide) hf13 (fun _ h9 => h9) rfl dX6_barred_36 ?_
        refine lv_iload_n hx hb dX6_barred_39 rfl (lv_at hl 2 rfl) ?_
        refine lv_iload_n hx hb dX6_barred_40 rfl (lv_at hl 4 rfl) ?_
        refine lv_if_eq (tgt := 57) hx hb dX6_barred_41 (by decide) (fun c41 => ?_) (fun c41 => ?_)
        · skip
          have c41 := b2_0 c41
          refine lv_aload_n hx hb dX6_barred_57 rfl (lv_at hl 1 rfl) ?_
          refine va_get (D := D) (ci := 6) (v := .ref ymB) (C := RX6) (T := TX6) (N := 21) hx hb hts hiX6 hown hK hP 0 rfl rfl 1 (by decide) hf13 (fun _ h9 => h9) rfl dX6_barred_58 ?_
          refine lv_iload_n hx hb dX6_barred_61 rfl (lv_at hl 2 rfl) ?_
          refine xald (k := a) hx hb hK hP 1 rfl (by omega) (by decide) dX6_barred_62 ?_
          refine lv_iconst (v := 1) hx hb dX6_barred_63 (by decide) ?_
          refine lv_iload_n hx hb dX6_barred_64 rfl (lv_at hl 3 rfl) ?_
          refine lv_ishl hx hb dX6_barred_65 ?_
          refine lv_asi (show (1 : Int32) <<< ((nI b) &&& 31) = nI (2 ^ b) from shl1 b (by omega)) ?_
          refine lv_iconst (v := (-1)) hx hb dX6_barred_66 (by decide) ?_
          refine lv_ixor hx hb dX6_barred_67 ?_
          refine lv_iand hx hb dX6_barred_68 ?_
          refine xast (k := a) hx hb hK hP hD hS 1 rfl (by omega) (by decide) dX6_barred_69 (fun H locs hP hD hS => ?_)
          have hP : va_P D vwCl [(ym, .inr (6, [.int (nI (sF σ)), .ref ymB, .int (nI (sN σ)), .ref ymU, .ref ymV, .ref ymR, .ref ymI, .ref ymE, .int (nI (sM σ)), .ref ymS, .ref ymT, .ref ymD, .int (nI (sC σ)), .ref ymQ, .ref ymP, .ref ymN, .int (nI (sG σ)), .ref ymO, .ref ymY, .ref ymZ, .ref ymX])), (ymB, .inl (cI, 7, .inl (upd (rB σ) a ((rB σ a) &&& ((nI (2 ^ b)) ^^^ (-1))))))] H := hP
          have hD : va_D A [(ym, .inr (6, [.int (nI (sF σ)), .ref ymB, .int (nI (sN σ)), .ref ymU, .ref ymV, .ref ymR, .ref ymI, .ref ymE, .int (nI (sM σ)), .ref ymS, .ref ymT, .ref ymD, .int (nI (sC σ)), .ref ymQ, .ref ymP, .ref ymN, .int (nI (sG σ)), .ref ymO, .ref ymY, .ref ymZ, .ref ymX])), (ymB, .inl (cI, 7, .inl (upd (rB σ) a ((rB σ a) &&& ((nI (2 ^ b)) ^^^ (-1))))))] := hD
          refine lv_aload_n hx hb dX6_barred_70 rfl (lv_at hl 1 rfl) ?_
          refine va_get (D := D) (ci := 6) (v := .ref ymB) (C := RX6) (T := TX6) (N := 21) hx hb hts hiX6 hown hK hP 0 rfl rfl 1 (by decide) hf13 (fun _ h9 => h9) rfl dX6_barred_71 ?_
          refine lv_iload_n hx hb dX6_barred_74 rfl (lv_at hl 3 rfl) ?_
          refine lv_iload_n hx hb dX6_barred_75 rfl (lv_at hl 4 rfl) ?_
          refine lv_if_eq (tgt := 92) hx hb dX6_barred_76 (by decide) (fun c76 => ?_) (fun c76 => ?_)
          · skip
            have c76 := b2_0 c76
            refine lv_aload_n hx hb dX6_barred_92 rfl (lv_at hl 1 rfl) ?_
            refine va_get (D := D) (ci := 6) (v := .ref ymB) (C := RX6) (T := TX6) (N := 21) hx hb hts hiX6 hown hK hP 0 rfl rfl 1 (by decide) hf13 (fun _ h9 => h9) rfl dX6_barred_93 ?_
            refine lv_iload_n hx hb dX6_barred_96 rfl (lv_at hl 3 rfl) ?_
            refine xald (k := b) hx hb hK hP 1 rfl (by omega) (by decide) dX6_barred_97 ?_
            refine lv_iconst (v := 1) hx hb dX6_barred_98 (by decide) ?_
            refine lv_iload_n hx hb dX6_barred_99 rfl (lv_at hl 2 rfl) ?_
            refine lv_ishl hx hb dX6_barred_100 ?_
            refine lv_asi (show (1 : Int32) <<< ((nI a) &&& 31) = nI (2 ^ a) from shl1 a (by omega)) ?_
            refine lv_iconst (v := (-1)) hx hb dX6_barred_101 (by decide) ?_
            refine lv_ixor hx hb dX6_barred_102 ?_
            refine lv_iand hx hb dX6_barred_103 ?_
            refine xast (k := b) hx hb hK hP hD hS 1 rfl (by omega) (by decide) dX6_barred_104 (fun H locs hP hD hS => ?_)
            have hP : va_P D vwCl [(ym, .inr (6, [.int (nI (sF σ)), .ref ymB, .int (nI (sN σ)), .ref ymU, .ref ymV, .ref ymR, .ref ymI, .ref ymE, .int (nI (sM σ)), .ref ymS, .ref ymT, .ref ymD, .int (nI (sC σ)), .ref ymQ, .ref ymP, .ref ymN, .int (nI (sG σ)), .ref ymO, .ref ymY, .ref ymZ, .ref ymX])), (ymB, .inl (cI, 7, .inl (upd (upd (rB σ) a ((rB σ a) &&& ((nI (2 ^ b)) ^^^ (-1)))) b (((upd (rB σ) a ((rB σ a) &&& ((nI (2 ^ b)) ^^^ (-1)))) b) &&& ((nI (2 ^ a)) ^^^ (-1))))))] H := hP
            have hD : va_D A [(ym, .inr (6, [.int (nI (sF σ)), .ref ymB, .int (nI (sN σ)), .ref ymU, .ref ymV, .ref ymR, .ref ymI, .ref ymE, .int (nI (sM σ)), .ref ymS, .ref ymT, .ref ymD, .int (nI (sC σ)), .ref ymQ, .ref ymP, .ref ymN, .int (nI (sG σ)), .ref ymO, .ref ymY, .ref ymZ, .ref ymX])), (ymB, .inl (cI, 7, .inl (upd (upd (rB σ) a ((rB σ a) &&& ((nI (2 ^ b)) ^^^ (-1)))) b (((upd (rB σ) a ((rB σ a) &&& ((nI (2 ^ b)) ^^^ (-1)))) b) &&& ((nI (2 ^ a)) ^^^ (-1))))))] := hD
            have e_rw : (upd (upd (rB σ) a ((rB σ a) &&& ((nI (2 ^ b)) ^^^ (-1)))) b (((upd (rB σ) a ((rB σ a) &&& ((nI (2 ^ b)) ^^^ (-1)))) b) &&& ((nI (2 ^ a)) ^^^ (-1))) : Nat → Int32) = rB (barS σ a b is) := (by rw [c41]; rfl)
            have hP : va_P D vwCl [(ym, .inr (6, [.int (nI (sF σ)), .ref ymB, .int (nI (sN σ)), .ref ymU, .ref ymV, .ref ymR, .ref ymI, .ref ymE, .int (nI (sM σ)), .ref ymS, .ref ymT, .ref ymD, .int (nI (sC σ)), .ref ymQ, .ref ymP, .ref ymN, .int (nI (sG σ)), .ref ymO, .ref ymY, .ref ymZ, .ref ymX])), (ymB, .inl (cI, 7, .inl (rB (barS σ a b is))))] H := by rw [← e_rw]; exact hP
            have hD : va_D A [(ym, .inr (6, [.int (nI (sF σ)), .ref ymB, .int (nI (sN σ)), .ref ymU, .ref ymV, .ref ymR, .ref ymI, .ref ymE, .int (nI (sM σ)), .ref ymS, .ref ymT, .ref ymD, .int (nI (sC σ)), .ref ymQ, .ref ymP, .ref ymN, .int (nI (sG σ)), .ref ymO, .ref ymY, .ref ymZ, .ref ymX])), (ymB, .inl (cI, 7, .inl (rB (barS σ a b is))))] := by rw [← e_rw]; exact hD
            clear e_rw
            refine lv_iload hx hb dX6_barred_105 (lv_at hl 0 rfl) ?_
            have hP9 := hP
            have hD9 := hD
            have eN : nBarred σ (nI a) (nI b) is = barS σ a b is := by rw [nBarred, if_neg (by rw [c5]; decide), if_neg (by rw [c13]; decide), if_neg c18, ka, kb]
            exact W.iret (v := b2 (bit (rB σ a) (nI b))) hx hb hr (fun t ht hW => ⟨⟨b2 (bit (rB σ a) (nI b)), (), rfl, (by rw [oBarred, if_neg (by rw [c5]; decide), if_neg (by rw [c13]; decide), if_neg c18, ka]), ⟨⟨by rw [ht, eN]; exact hP9, va_K.moved hW.alike hK, NW.warm hW hN⟩, by rw [eN]; exact hD9⟩⟩, hS.F ht⟩) hS.2.2 dX6_barred_107
          · skip
            have c76 := b2_1 c76
            exact absurd (c41.symm.trans c76) (by decide)
        · skip
          have c41 := b2_1 c41
          refine lv_aload_n hx hb dX6_barred_44 rfl (lv_at hl 1 rfl) ?_
          refine va_get (D := D) (ci := 6) (v := .ref ymB) (C := RX6) (T := TX6) (N := 21) hx hb hts hiX6 hown hK hP 0 rfl rfl 1 (by decide) hf13 (fun _ h9 => h9) rfl dX6_barred_45 ?_
          refine lv_iload_n hx hb dX6_barred_48 rfl (lv_at hl 2 rfl) ?_
          refine xald (k := a) hx hb hK hP 1 rfl (by omega) (by decide) dX6_barred_49 ?_
          refine lv_iconst (v := 1) hx hb dX6_barred_50 (by decide) ?_
          refine lv_iload_n hx hb dX6_barred_51 rfl (lv_at hl 3 rfl) ?_
          refine lv_ishl hx hb dX6_barred_52 ?_
          refine lv_asi (show (1 : Int32) <<< ((nI b) &&& 31) = nI (2 ^ b) from shl1 b (by omega)) ?_
          refine lv_ior hx hb dX6_barred_53 ?_
          refine lv_goto (tgt := 69) hx hb dX6_barred_54 (by decide) ?_
          refine xast (k := a) hx hb hK hP hD hS 1 rfl (by omega) (by decide) dX6_barred_69 (fun H locs hP hD hS => ?_)
          have hP : va_P D vwCl [(ym, .inr (6, [.int (nI (sF σ)), .ref ymB, .int (nI (sN σ)), .ref ymU, .ref ymV, .ref ymR, .ref ymI, .ref ymE, .int (nI (sM σ)), .ref ymS, .ref ymT, .ref ymD, .int (nI (sC σ)), .ref ymQ, .ref ymP, .ref ymN, .int (nI (sG σ)), .ref ymO, .ref ymY, .ref ymZ, .ref ymX])), (ymB, .inl (cI, 7, .inl (upd (rB σ) a ((rB σ a) ||| (nI (2 ^ b))))))] H := hP
          have hD : va_D A [(ym, .inr (6, [.int (nI (sF σ)), .ref ymB, .int (nI (sN σ)), .ref ymU, .ref ymV, .ref ymR, .ref ymI, .ref ymE, .int (nI (sM σ)), .ref ymS, .ref ymT, .ref ymD, .int (nI (sC σ)), .ref ymQ, .ref ymP, .ref ymN, .int (nI (sG σ)), .ref ymO, .ref ymY, .ref ymZ, .ref ymX])), (ymB, .inl (cI, 7, .inl (upd (rB σ) a ((rB σ a) ||| (nI (2 ^ b))))))] := hD
          refine lv_aload_n hx hb dX6_barred_70 rfl (lv_at hl 1 rfl) ?_
          refine va_get (D := D) (ci := 6) (v := .ref ymB) (C := RX6) (T := TX6) (N := 21) hx hb hts hiX6 hown hK hP 0 rfl rfl 1 (by decide) hf13 (fun _ h9 => h9) rfl dX6_barred_71 ?_
          refine lv_iload_n hx hb dX6_barred_74 rfl (lv_at hl 3 rfl) ?_
          refine lv_iload_n hx hb dX6_barred_75 rfl (lv_at hl 4 rfl) ?_
          refine lv_if_eq (tgt := 92) hx hb dX6_barred_76 (by decide) (fun c76 => ?_) (fun c76 => ?_)
          · skip
            have c76 := b2_0 c76
            exact absurd (c41.symm.trans c76) (by decide)
          · skip
            have c76 := b2_1 c76
            refine lv_aload_n hx hb dX6_barred_79 rfl (lv_at hl 1 rfl) ?_
            refine va_get (D := D) (ci := 6) (v := .ref ymB) (C := RX6) (T := TX6) (N := 21) hx hb hts hiX6 hown hK hP 0 rfl rfl 1 (by decide) hf13 (fun _ h9 => h9) rfl dX6_barred_80 ?_
            refine lv_iload_n hx hb dX6_barred_83 rfl (lv_at hl 3 rfl) ?_
            refine xald (k := b) hx hb hK hP 1 rfl (by omega) (by decide) dX6_barred_84 ?_
            refine lv_iconst (v := 1) hx hb dX6_barred_85 (by decide) ?_
            refine lv_iload_n hx hb dX6_barred_86 rfl (lv_at hl 2 rfl) ?_
            refine lv_ishl hx hb dX6_barred_87 ?_
            refine lv_asi (show (1 : Int32) <<< ((nI a) &&& 31) = nI (2 ^ a) from shl1 a (by omega)) ?_
            refine lv_ior hx hb dX6_barred_88 ?_
            refine lv_goto (tgt := 104) hx hb dX6_barred_89 (by decide) ?_
            refine xast (k := b) hx hb hK hP hD hS 1 rfl (by omega) (by decide) dX6_barred_104 (fun H locs hP hD hS => ?_)
            have hP : va_P D vwCl [(ym, .inr (6, [.int (nI (sF σ)), .ref ymB, .int (nI (sN σ)), .ref ymU, .ref ymV, .ref ymR, .ref ymI, .ref ymE, .int (nI (sM σ)), .ref ymS, .ref ymT, .ref ymD, .int (nI (sC σ)), .ref ymQ, .ref ymP, .ref ymN, .int (nI (sG σ)), .ref ymO, .ref ymY, .ref ymZ, .ref ymX])), (ymB, .inl (cI, 7, .inl (upd (upd (rB σ) a ((rB σ a) ||| (nI (2 ^ b)))) b (((upd (rB σ) a ((rB σ a) ||| (nI (2 ^ b)))) b) ||| (nI (2 ^ a))))))] H := hP
            have hD : va_D A [(ym, .inr (6, [.int (nI (sF σ)), .ref ymB, .int (nI (sN σ)), .ref ymU, .ref ymV, .ref ymR, .ref ymI, .ref ymE, .int (nI (sM σ)), .ref ymS, .ref ymT, .ref ymD, .int (nI (sC σ)), .ref ymQ, .ref ymP, .ref ymN, .int (nI (sG σ)), .ref ymO, .ref ymY, .ref ymZ, .ref ymX])), (ymB, .inl (cI, 7, .inl (upd (upd (rB σ) a ((rB σ a) ||| (nI (2 ^ b)))) b (((upd (rB σ) a ((rB σ a) ||| (nI (2 ^ b)))) b) ||| (nI (2 ^ a))))))] := hD
            have e_rw : (upd (upd (rB σ) a ((rB σ a) ||| (nI (2 ^ b)))) b (((upd (rB σ) a ((rB σ a) ||| (nI (2 ^ b)))) b) ||| (nI (2 ^ a))) : Nat → Int32) = rB (barS σ a b is) := (by rw [c41]; rfl)
            have hP : va_P D vwCl [(ym, .inr (6, [.int (nI (sF σ)), .ref ymB, .int (nI (sN σ)), .ref ymU, .ref ymV, .ref ymR, .ref ymI, .ref ymE, .int (nI (sM σ)), .ref ymS, .ref ymT, .ref ymD, .int (nI (sC σ)), .ref ymQ, .ref ymP, .ref ymN, .int (nI (sG σ)), .ref ymO, .ref ymY, .ref ymZ, .ref ymX])), (ymB, .inl (cI, 7, .inl (rB (barS σ a b is))))] H := by rw [← e_rw]; exact hP
            have hD : va_D A [(ym, .inr (6, [.int (nI (sF σ)), .ref ymB, .int (nI (sN σ)), .ref ymU, .ref ymV, .ref ymR, .ref ymI, .ref ymE, .int (nI (sM σ)), .ref ymS, .ref ymT, .ref ymD, .int (nI (sC σ)), .ref ymQ, .ref ymP, .ref ymN, .int (nI (sG σ)), .ref ymO, .ref ymY, .ref ymZ, .ref ymX])), (ymB, .inl (cI, 7, .inl (rB (barS σ a b is))))] := by rw [← e_rw]; exact hD
            clear e_rw
            refine lv_iload hx hb dX6_barred_105 (lv_at hl 0 rfl) ?_
            have hP9 := hP
            have hD9 := hD
            have eN : nBarred σ (nI a) (nI b) is = barS σ a b is := by rw [nBarred, if_neg (by rw [c5]; decide), if_neg (by rw [c13]; decide), if_neg c18, ka, kb]
            exact W.iret (v := b2 (bit (rB σ a) (nI b))) hx hb hr (fun t ht hW => ⟨⟨b2 (bit (rB σ a) (nI b)), (), rfl, (by rw [oBarred, if_neg (by rw [c5]; decide), if_neg (by rw [c13]; decide), if_neg c18, ka]), ⟨⟨by rw [ht, eN]; exact hP9, va_K.moved hW.alike hK, NW.warm hW hN⟩, by rw [eN]; exact hD9⟩⟩, hS.F ht⟩) hS.2.2 dX6_barred_107
      · skip
        refine lv_iconst (v := (-1)) hx hb dX6_barred_21 (by decide) ?_
        have hP9 := hP
        have hD9 := hD
        have eN : nBarred σ x y is = σ := by rw [nBarred, if_neg (by rw [c5]; decide), if_neg (by rw [c13]; decide), if_pos c18]
        have eO : oBarred σ x y = -1 := by rw [oBarred, if_neg (by rw [c5]; decide), if_neg (by rw [c13]; decide), if_pos c18]
        exact W.iret (v := (-1)) hx hb hr (fun t ht hW => ⟨⟨(-1), (), rfl, eO.symm, ⟨⟨by rw [ht, eN]; exact hP9, va_K.moved hW.alike hK, NW.warm hW hN⟩, by rw [eN]; exact hD9⟩⟩, hS.F ht⟩) hS.2.2 dX6_barred_22

set_option maxHeartbeats 4000000 in
set_option maxRecDepth 100000 in
theorem c_X6_line (l : Launch) (D : va_G) (cI cZ : ClassId) (sz : Nat) (ym : Nat) (ymB : Nat) (ymU : Nat) (ymV : Nat) (ymR : Nat) (ymI : Nat) (ymE : Nat) (ymS : Nat) (ymT : Nat) (ymD : Nat) (ymQ : Nat) (ymP : Nat) (ymN : Nat) (ymO : Nat) (ymY : Nat) (ymZ : Nat) (ymX : Nat) (σ : ST) (ir : Nat → Int32) (x : Int32) (y : Int32) (z : Int32) (hok : Ok σ) (hir : ∀ l, l < sN σ → ir l = b2 (bit (sR σ) (nI l))) : Met l yX6_line wsX6_line ({ frames := 2, cells := 0, slots := 0, locals := 42 }) (va_Pc [.ref ym, .int x, .int y, .int z] (XW D cI cZ [(ym, .inr (6, [.int (nI (sF σ)), .ref ymB, .int (nI (sN σ)), .ref ymU, .ref ymV, .ref ymR, .ref ymI, .ref ymE, .int (nI (sM σ)), .ref ymS, .ref ymT, .ref ymD, .int (nI (sC σ)), .ref ymQ, .ref ymP, .ref ymN, .int (nI (sG σ)), .ref ymO, .ref ymY, .ref ymZ, .ref ymX])), (ymU, .inl (cI, 12, .inl (rMu σ))), (ymV, .inl (cI, 12, .inl (rMn σ))), (ymR, .inl (cI, 12, .inl (rRu σ))), (ymI, .inl (cZ, 12, .inl ir)), (ymE, .inl (cI, 12, .inl (rEr σ)))] sz)) (va_Qi (fun (r : Int32) (u : Nat → Int32) => r = oLine σ x y z ∧ ∀ l, l < sN (nLine σ x y z) → u l = b2 (bit (sR (nLine σ x y z)) (nI l))) (fun u => XB D cI cZ (va_A [(ym, .inr (6, [.int (nI (sF σ)), .ref ymB, .int (nI (sN σ)), .ref ymU, .ref ymV, .ref ymR, .ref ymI, .ref ymE, .int (nI (sM σ)), .ref ymS, .ref ymT, .ref ymD, .int (nI (sC σ)), .ref ymQ, .ref ymP, .ref ymN, .int (nI (sG σ)), .ref ymO, .ref ymY, .ref ymZ, .ref ymX])), (ymU, .inl (cI, 12, .inl (rMu σ))), (ymV, .inl (cI, 12, .inl (rMn σ))), (ymR, .inl (cI, 12, .inl (rRu σ))), (ymI, .inl (cZ, 12, .inl ir)), (ymE, .inl (cI, 12, .inl (rEr σ)))] sz) [(ym, .inr (6, [.int (nI (sF (nLine σ x y z))), .ref ymB, .int (nI (sN (nLine σ x y z))), .ref ymU, .ref ymV, .ref ymR, .ref ymI, .ref ymE, .int (nI (sM (nLine σ x y z))), .ref ymS, .ref ymT, .ref ymD, .int (nI (sC (nLine σ x y z))), .ref ymQ, .ref ymP, .ref ymN, .int (nI (sG (nLine σ x y z))), .ref ymO, .ref ymY, .ref ymZ, .ref ymX])), (ymU, .inl (cI, 12, .inl (rMu (nLine σ x y z)))), (ymV, .inl (cI, 12, .inl (rMn (nLine σ x y z)))), (ymR, .inl (cI, 12, .inl (rRu (nLine σ x y z)))), (ymI, .inl (cZ, 12, .inl u)), (ymE, .inl (cI, 12, .inl (rEr (nLine σ x y z))))]) (va_A [(ym, .inr (6, [.int (nI (sF σ)), .ref ymB, .int (nI (sN σ)), .ref ymU, .ref ymV, .ref ymR, .ref ymI, .ref ymE, .int (nI (sM σ)), .ref ymS, .ref ymT, .ref ymD, .int (nI (sC σ)), .ref ymQ, .ref ymP, .ref ymN, .int (nI (sG σ)), .ref ymO, .ref ymY, .ref ymZ, .ref ymX])), (ymU, .inl (cI, 12, .inl (rMu σ))), (ymV, .inl (cI, 12, .inl (rMn σ))), (ymR, .inl (cI, 12, .inl (rRu σ))), (ymI, .inl (cZ, 12, .inl ir)), (ymE, .inl (cI, 12, .inl (rEr σ)))] sz)) 0 0 (va_A [(ym, .inr (6, [.int (nI (sF σ)), .ref ymB, .int (nI (sN σ)), .ref ymU, .ref ymV, .ref ymR, .ref ymI, .ref ymE, .int (nI (sM σ)), .ref ymS, .ref ymT, .ref ymD, .int (nI (sC σ)), .ref ymQ, .ref ymP, .ref ymN, .int (nI (sG σ)), .ref ymO, .ref ymY, .ref ymZ, .ref ymX])), (ymU, .inl (cI, 12, .inl (rMu σ))), (ymV, .inl (cI, 12, .inl (rMn σ))), (ymR, .inl (cI, 12, .inl (rRu σ))), (ymI, .inl (cZ, 12, .inl ir)), (ymE, .inl (cI, 12, .inl (rEr σ)))] sz) := by
  refine Met.ofW (cc := cX6_line) (maxL := 4) (ret := (some .int)) (by decide) rfl ?_
  intro p e s m args below meth c s₁ B hml hv
  obtain ⟨rfl, hsz, ⟨hP, hK, hN⟩, hD0⟩ := hv
  have hx := B.exec
  have hb := B.bytes
  have hr := B.returns
  have hts := atoms_spec (ws := wsX6_line) B.pre
  have hown : s.vm.findClass RX6 = some m.cls := findClass_of_methodNamed B.named
  have hlocks := B.notSynchronized
  subst hsz
  have hD := hD0.self (sz := s.heap.size)
  generalize hAe : va_A [(ym, .inr (6, [.int (nI (sF σ)), .ref ymB, .int (nI (sN σ)), .ref ymU, .ref ymV, .ref ymR, .ref ymI, .ref ymE, .int (nI (sM σ)), .ref ymS, .ref ymT, .ref ymD, .int (nI (sC σ)), .ref ymQ, .ref ymP, .ref ymN, .int (nI (sG σ)), .ref ymO, .ref ymY, .ref ymZ, .ref ymX])), (ymU, .inl (cI, 12, .inl (rMu σ))), (ymV, .inl (cI, 12, .inl (rMn σ))), (ymR, .inl (cI, 12, .inl (rRu σ))), (ymI, .inl (cZ, 12, .inl ir)), (ymE, .inl (cI, 12, .inl (rEr σ)))] s.heap.size = A at hD ⊢
  have hA : ∀ q : Nat, s.heap.size ≤ q → A q := fun q h => by rw [← hAe]; exact Or.inr h
  have hS : va_S A s.heap s.heap [] := va_S.rf
  have ho := hok.1
  have hk2 := hok.k
  have hp2 : 1 ≤ 2 ^ sF σ := Nat.two_pow_pos _
  have hf70 := hts (.fieldLink RX6 70 "BallCourtModel" "lines" "I") (List.mem_of_getElem? (i := 1) (by decide +kernel))
  have hiX6 : ∀ w ∈ wsX60, w ∈ wsX6_line := fun w h => List.mem_cons_of_mem _ (List.mem_append_right _ h)
  have hf17 := hts (.fieldLink RX6 17 "BallCourtModel" "must" "[I") (List.mem_of_getElem? (i := 2) (by decide +kernel))
  have hf20 := hts (.fieldLink RX6 20 "BallCourtModel" "mustNot" "[I") (List.mem_of_getElem? (i := 3) (by decide +kernel))
  have hf23 := hts (.fieldLink RX6 23 "BallCourtModel" "ruling" "[I") (List.mem_of_getElem? (i := 4) (by decide +kernel))
  have hf26 := hts (.fieldLink RX6 26 "BallCourtModel" "isRepealed" "[Z") (List.mem_of_getElem? (i := 5) (by decide +kernel))
  have hf30 := hts (.fieldLink RX6 30 "BallCourtModel" "excepts" "[I") (List.mem_of_getElem? (i := 6) (by decide +kernel))
  have hl := lv_entry ([.ref ym, .int x, .int y, .int z]) (n := 4) (Nat.le_of_ble_eq_true rfl)
  rw [lg_entry_eq]
  generalize (lg_sl ([.ref ym, .int x, .int y, .int z]) ++ List.replicate (4 - (lg_sl ([.ref ym, .int x, .int y, .int z])).length) Slot.unset).toArray = ls at hl ⊢
  have hl : lv_has ls 4 [(0, .ref ym), (1, .int x), (2, .int y), (3, .int z)] := hl
  refine lv_iload_n hx hb dX6_line_0 rfl (lv_at hl 1 rfl) ?_
  refine lv_iconst (v := 0) hx hb dX6_line_1 (by decide) ?_
  refine lv_aload_n hx hb dX6_line_2 rfl (lv_at hl 0 rfl) ?_
  refine xpV (rest := [.int 0, .int x]) ⟨hx, hb, hml, hown, hts⟩ (c_X6_allFacts l D cI cZ ym ymB ymU ymV ymR ymI ymE ymS ymT ymD ymQ ymP ymN ymO ymY ymZ ymX σ hok) (cwV 0 hts gX6_line_X6_allFacts rfl rfl rfl (by decide +kernel) ⟨Nat.le_of_ble_eq_true rfl, Nat.le_of_ble_eq_true rfl⟩) hP [0] rfl hK hN (ci := 6) (q0 := 0) rfl rfl rfl hl.1 rfl (Nat.le_of_ble_eq_true rfl) dX6_line_3 ⟨Nat.zero_le _, Nat.zero_le _⟩ (fun r3 e3 => ?_)
  subst e3
  refine xpS (rest := []) ⟨hx, hb, hml, hown, hts⟩ (c_X6_in l D cI cZ x 0 (nI (2 ^ sF σ - 1))) (va_cwS 3 hts gX6_line_X6_in rfl rfl rfl (by decide +kernel) ⟨Nat.le_of_ble_eq_true rfl, Nat.le_of_ble_eq_true rfl⟩) hP [] rfl hK hN rfl hl.1 rfl (Nat.le_of_ble_eq_true rfl) dX6_line_6 ⟨Nat.zero_le _, Nat.zero_le _⟩ (fun r6 e6 => ?_)
  subst e6
  refine lv_asi (show b2 (inI x 0 (nI (2 ^ sF σ - 1))) = b2 (inN x (2 ^ sF σ)) from congrArg b2 (inI_p x hp2 (by omega))) ?_
  refine lv_if_eq (tgt := 37) hx hb dX6_line_9 (by decide) (fun c9 => ?_) (fun c9 => ?_)
  · skip
    have c9 := b2_0 c9
    refine lv_bipush (v := (-2)) hx hb dX6_line_37 (by decide) ?_
    have hP9 := hP
    have hD9 := hD
    have eN : nLine σ x y z = σ := by rw [nLine, if_pos c9]
    have eO : oLine σ x y z = -2 := by rw [oLine, if_pos c9]
    exact W.iret (v := (-2)) hx hb hr (fun t ht hW => ⟨⟨(-2), ir, rfl, (by rw [eN]; exact ⟨eO.symm, hir⟩), ⟨⟨by rw [ht, eN]; exact hP9, va_K.moved hW.alike hK, NW.warm hW hN⟩, by rw [eN]; exact hD9⟩⟩, hS.F ht⟩) hS.2.2 dX6_line_39
  · skip
    have c9 := b2_1 c9
    refine lv_iload_n hx hb dX6_line_12 rfl (lv_at hl 2 rfl) ?_
    refine lv_iconst (v := 0) hx hb dX6_line_13 (by decide) ?_
    refine lv_aload_n hx hb dX6_line_14 rfl (lv_at hl 0 rfl) ?_
    refine xpV (rest := [.int 0, .int y]) ⟨hx, hb, hml, hown, hts⟩ (c_X6_allFacts l D cI cZ ym ymB ymU ymV ymR ymI ymE ymS ymT ymD ymQ ymP ymN ymO ymY ymZ ymX σ hok) (cwV 0 hts gX6_line_X6_allFacts rfl rfl rfl (by decide +kernel) ⟨Nat.le_of_ble_eq_true rfl, Nat.le_of_ble_eq_true rfl⟩) hP [0] rfl hK hN (ci := 6) (q0 := 0) rfl rfl rfl hl.1 rfl (Nat.le_of_ble_eq_true rfl) dX6_line_15 ⟨Nat.zero_le _, Nat.zero_le _⟩ (fun r15 e15 => ?_)
    subst e15
    refine xpS (rest := []) ⟨hx, hb, hml, hown, hts⟩ (c_X6_in l D cI cZ y 0 (nI (2 ^ sF σ - 1))) (va_cwS 3 hts gX6_line_X6_in rfl rfl rfl (by decide +kernel) ⟨Nat.le_of_ble_eq_true rfl, Nat.le_of_ble_eq_true rfl⟩) hP [] rfl hK hN rfl hl.1 rfl (Nat.le_of_ble_eq_true rfl) dX6_line_18 ⟨Nat.zero_le _, Nat.zero_le _⟩ (fun r18 e18 => ?_)
    subst e18
    refine lv_asi (show b2 (inI y 0 (nI (2 ^ sF σ - 1))) = b2 (inN y (2 ^ sF σ)) from congrArg b2 (inI_p y hp2 (by omega))) ?_
    refine lv_if_eq (tgt := 37) hx hb dX6_line_21 (by decide) (fun c21 => ?_) (fun c21 => ?_)
    · skip
      have c21 := b2_0 c21
      refine lv_bipush (v := (-2)) hx hb dX6_line_37 (by decide) ?_
      have hP9 := hP
      have hD9 := hD
      have eN : nLine σ x y z = σ := by rw [nLine, if_neg (by rw [c9]; decide), if_pos c21]
      have eO : oLine σ x y z = -2 := by rw [oLine, if_neg (by rw [c9]; decide), if_pos c21]
      exact W.iret (v := (-2)) hx hb hr (fun t ht hW => ⟨⟨(-2), ir, rfl, (by rw [eN]; exact ⟨eO.symm, hir⟩), ⟨⟨by rw [ht, eN]; exact hP9, va_K.moved hW.alike hK, NW.warm hW hN⟩, by rw [eN]; exact hD9⟩⟩, hS.F ht⟩) hS.2.2 dX6_line_39
    · skip
      have c21 := b2_1 c21
      refine lv_iload_n hx hb dX6_line_24 rfl (lv_at hl 1 rfl) ?_
      refine lv_iload_n hx hb dX6_line_25 rfl (lv_at hl 2 rfl) ?_
      refine lv_iand hx hb dX6_line_26 ?_
      refine lv_if_ne (tgt := 37) hx hb dX6_line_27 (by decide) (fun c27 => ?_) (fun c27 => ?_)
      · skip
        refine lv_bipush (v := (-2)) hx hb dX6_line_37 (by decide) ?_
        have hP9 := hP
        have hD9 := hD
        have eN : nLine σ x y z = σ := by rw [nLine, if_neg (by rw [c9]; decide), if_neg (by rw [c21]; decide), if_pos c27]
        have eO : oLine σ x y z = -2 := by rw [oLine, if_neg (by rw [c9]; decide), if_neg (by rw [c21]; decide), if_pos c27]
        exact W.iret (v := (-2)) hx hb hr (fun t ht hW => ⟨⟨(-2), ir, rfl, (by rw [eN]; exact ⟨eO.symm, hir⟩), ⟨⟨by rw [ht, eN]; exact hP9, va_K.moved hW.alike hK, NW.warm hW hN⟩, by rw [eN]; exact hD9⟩⟩, hS.F ht⟩) hS.2.2 dX6_line_39
      · skip
        refine lv_iload_n hx hb dX6_line_30 rfl (lv_at hl 3 rfl) ?_
        refine xpS (rest := []) ⟨hx, hb, hml, hown, hts⟩ (c_X6_isRuling l D cI cZ z) (va_cwS 1 hts gX6_line_X6_isRuling rfl rfl rfl (by decide +kernel) ⟨Nat.le_of_ble_eq_true rfl, Nat.le_of_ble_eq_true rfl⟩) hP [] rfl hK hN rfl hl.1 rfl (Nat.le_of_ble_eq_true rfl) dX6_line_31 ⟨Nat.zero_le _, Nat.zero_le _⟩ (fun r31 e31 => ?_)
        subst e31
        refine lv_if_ne (tgt := 40) hx hb dX6_line_34 (by decide) (fun c34 => ?_) (fun c34 => ?_)
        · skip
          have c34 := b2_1 c34
          refine lv_aload_n hx hb dX6_line_40 rfl (lv_at hl 0 rfl) ?_
          refine va_get (D := D) (ci := 6) (v := .int (nI (sN σ))) (C := RX6) (T := TX6) (N := 21) hx hb hts hiX6 hown hK hP 0 rfl rfl 2 (by decide) hf70 (fun _ h9 => h9) rfl dX6_line_41 ?_
          refine lv_bipush (v := nI 12) hx hb dX6_line_44 (by decide) ?_
          refine lv_icmp_ne (tgt := 52) hx hb dX6_line_46 (by decide) (fun c46 => ?_) (fun c46 => ?_)
          · skip
            have c46 := mt (nI_eq (by omega) (by omega)).mpr c46
            refine lv_aload_n hx hb dX6_line_52 rfl (lv_at hl 0 rfl) ?_
            refine va_get (D := D) (ci := 6) (v := .ref ymU) (C := RX6) (T := TX6) (N := 21) hx hb hts hiX6 hown hK hP 0 rfl rfl 3 (by decide) hf17 (fun _ h9 => h9) rfl dX6_line_53 ?_
            refine lv_aload_n hx hb dX6_line_56 rfl (lv_at hl 0 rfl) ?_
            refine va_get (D := D) (ci := 6) (v := .int (nI (sN σ))) (C := RX6) (T := TX6) (N := 21) hx hb hts hiX6 hown hK hP 0 rfl rfl 2 (by decide) hf70 (fun _ h9 => h9) rfl dX6_line_57 ?_
            refine lv_iload_n hx hb dX6_line_60 rfl (lv_at hl 1 rfl) ?_
            refine xast (k := (sN σ)) hx hb hK hP hD hS 1 rfl (by omega) (by decide) dX6_line_61 (fun H locs hP hD hS => ?_)
            have hP : va_P D vwCl [(ym, .inr (6, [.int (nI (sF σ)), .ref ymB, .int (nI (sN σ)), .ref ymU, .ref ymV, .ref ymR, .ref ymI, .ref ymE, .int (nI (sM σ)), .ref ymS, .ref ymT, .ref ymD, .int (nI (sC σ)), .ref ymQ, .ref ymP, .ref ymN, .int (nI (sG σ)), .ref ymO, .ref ymY, .ref ymZ, .ref ymX])), (ymU, .inl (cI, 12, .inl (upd (rMu σ) (sN σ) x))), (ymV, .inl (cI, 12, .inl (rMn σ))), (ymR, .inl (cI, 12, .inl (rRu σ))), (ymI, .inl (cZ, 12, .inl ir)), (ymE, .inl (cI, 12, .inl (rEr σ)))] H := hP
            have hD : va_D A [(ym, .inr (6, [.int (nI (sF σ)), .ref ymB, .int (nI (sN σ)), .ref ymU, .ref ymV, .ref ymR, .ref ymI, .ref ymE, .int (nI (sM σ)), .ref ymS, .ref ymT, .ref ymD, .int (nI (sC σ)), .ref ymQ, .ref ymP, .ref ymN, .int (nI (sG σ)), .ref ymO, .ref ymY, .ref ymZ, .ref ymX])), (ymU, .inl (cI, 12, .inl (upd (rMu σ) (sN σ) x))), (ymV, .inl (cI, 12, .inl (rMn σ))), (ymR, .inl (cI, 12, .inl (rRu σ))), (ymI, .inl (cZ, 12, .inl ir)), (ymE, .inl (cI, 12, .inl (rEr σ)))] := hD
            refine lv_aload_n hx hb dX6_line_62 rfl (lv_at hl 0 rfl) ?_
            refine va_get (D := D) (ci := 6) (v := .ref ymV) (C := RX6) (T := TX6) (N := 21) hx hb hts hiX6 hown hK hP 0 rfl rfl 4 (by decide) hf20 (fun _ h9 => h9) rfl dX6_line_63 ?_
            refine lv_aload_n hx hb dX6_line_66 rfl (lv_at hl 0 rfl) ?_
            refine va_get (D := D) (ci := 6) (v := .int (nI (sN σ))) (C := RX6) (T := TX6) (N := 21) hx hb hts hiX6 hown hK hP 0 rfl rfl 2 (by decide) hf70 (fun _ h9 => h9) rfl dX6_line_67 ?_
            refine lv_iload_n hx hb dX6_line_70 rfl (lv_at hl 2 rfl) ?_
            refine xast (k := (sN σ)) hx hb hK hP hD hS 2 rfl (by omega) (by decide) dX6_line_71 (fun H locs hP hD hS => ?_)
            have hP : va_P D vwCl [(ym, .inr (6, [.int (nI (sF σ)), .ref ymB, .int (nI (sN σ)), .ref ymU, .ref ymV, .ref ymR, .ref ymI, .ref ymE, .int (nI (sM σ)), .ref ymS, .ref ymT, .ref ymD, .int (nI (sC σ)), .ref ymQ, .ref ymP, .ref ymN, .int (nI (sG σ)), .ref ymO, .ref ymY, .ref ymZ, .ref ymX])), (ymU, .inl (cI, 12, .inl (upd (rMu σ) (sN σ) x))), (ymV, .inl (cI, 12, .inl (upd (rMn σ) (sN σ) y))), (ymR, .inl (cI, 12, .inl (rRu σ))), (ymI, .inl (cZ, 12, .inl ir)), (ymE, .inl (cI, 12, .inl (rEr σ)))] H := hP
            have hD : va_D A [(ym, .inr (6, [.int (nI (sF σ)), .ref ymB, .int (nI (sN σ)), .ref ymU, .ref ymV, .ref ymR, .ref ymI, .ref ymE, .int (nI (sM σ)), .ref ymS, .ref ymT, .ref ymD, .int (nI (sC σ)), .ref ymQ, .ref ymP, .ref ymN, .int (nI (sG σ)), .ref ymO, .ref ymY, .ref ymZ, .ref ymX])), (ymU, .inl (cI, 12, .inl (upd (rMu σ) (sN σ) x))), (ymV, .inl (cI, 12, .inl (upd (rMn σ) (sN σ) y))), (ymR, .inl (cI, 12, .inl (rRu σ))), (ymI, .inl (cZ, 12, .inl ir)), (ymE, .inl (cI, 12, .inl (rEr σ)))] := hD
            refine lv_aload_n hx hb dX6_line_72 rfl (lv_at hl 0 rfl) ?_
            refine va_get (D := D) (ci := 6) (v := .ref ymR) (C := RX6) (T := TX6) (N := 21) hx hb hts hiX6 hown hK hP 0 rfl rfl 5 (by decide) hf23 (fun _ h9 => h9) rfl dX6_line_73 ?_
            refine lv_aload_n hx hb dX6_line_76 rfl (lv_at hl 0 rfl) ?_
            refine va_get (D := D) (ci := 6) (v := .int (nI (sN σ))) (C := RX6) (T := TX6) (N := 21) hx hb hts hiX6 hown hK hP 0 rfl rfl 2 (by decide) hf70 (fun _ h9 => h9) rfl dX6_line_77 ?_
            refine lv_iload_n hx hb dX6_line_80 rfl (lv_at hl 3 rfl) ?_
            refine xast (k := (sN σ)) hx hb hK hP hD hS 3 rfl (by omega) (by decide) dX6_line_81 (fun H locs hP hD hS => ?_)
            have hP : va_P D vwCl [(ym, .inr (6, [.int (nI (sF σ)), .ref ymB, .int (nI (sN σ)), .ref ymU, .ref ymV, .ref ymR, .ref ymI, .ref ymE, .int (nI (sM σ)), .ref ymS, .ref ymT, .ref ymD, .int (nI (sC σ)), .ref ymQ, .ref ymP, .ref ymN, .int (nI (sG σ)), .ref ymO, .ref ymY, .ref ymZ, .ref ymX])), (ymU, .inl (cI, 12, .inl (upd (rMu σ) (sN σ) x))), (ymV, .inl (cI, 12, .inl (upd (rMn σ) (sN σ) y))), (ymR, .inl (cI, 12, .inl (upd (rRu σ) (sN σ) z))), (ymI, .inl (cZ, 12, .inl ir)), (ymE, .inl (cI, 12, .inl (rEr σ)))] H := hP
            have hD : va_D A [(ym, .inr (6, [.int (nI (sF σ)), .ref ymB, .int (nI (sN σ)), .ref ymU, .ref ymV, .ref ymR, .ref ymI, .ref ymE, .int (nI (sM σ)), .ref ymS, .ref ymT, .ref ymD, .int (nI (sC σ)), .ref ymQ, .ref ymP, .ref ymN, .int (nI (sG σ)), .ref ymO, .ref ymY, .ref ymZ, .ref ymX])), (ymU, .inl (cI, 12, .inl (upd (rMu σ) (sN σ) x))), (ymV, .inl (cI, 12, .inl (upd (rMn σ) (sN σ) y))), (ymR, .inl (cI, 12, .inl (upd (rRu σ) (sN σ) z))), (ymI, .inl (cZ, 12, .inl ir)), (ymE, .inl (cI, 12, .inl (rEr σ)))] := hD
            refine lv_aload_n hx hb dX6_line_82 rfl (lv_at hl 0 rfl) ?_
            refine va_get (D := D) (ci := 6) (v := .ref ymI) (C := RX6) (T := TX6) (N := 21) hx hb hts hiX6 hown hK hP 0 rfl rfl 6 (by decide) hf26 (fun _ h9 => h9) rfl dX6_line_83 ?_
            refine lv_aload_n hx hb dX6_line_86 rfl (lv_at hl 0 rfl) ?_
            refine va_get (D := D) (ci := 6) (v := .int (nI (sN σ))) (C := RX6) (T := TX6) (N := 21) hx hb hts hiX6 hown hK hP 0 rfl rfl 2 (by decide) hf70 (fun _ h9 => h9) rfl dX6_line_87 ?_
            refine lv_iconst (v := 0) hx hb dX6_line_90 (by decide) ?_
            refine xzst (k := (sN σ)) hx hb hK hP hD hS 4 rfl rfl (by omega) (by decide) dX6_line_91 (fun H locs hP hD hS => ?_)
            have hP : va_P D vwCl [(ym, .inr (6, [.int (nI (sF σ)), .ref ymB, .int (nI (sN σ)), .ref ymU, .ref ymV, .ref ymR, .ref ymI, .ref ymE, .int (nI (sM σ)), .ref ymS, .ref ymT, .ref ymD, .int (nI (sC σ)), .ref ymQ, .ref ymP, .ref ymN, .int (nI (sG σ)), .ref ymO, .ref ymY, .ref ymZ, .ref ymX])), (ymU, .inl (cI, 12, .inl (upd (rMu σ) (sN σ) x))), (ymV, .inl (cI, 12, .inl (upd (rMn σ) (sN σ) y))), (ymR, .inl (cI, 12, .inl (upd (rRu σ) (sN σ) z))), (ymI, .inl (cZ, 12, .inl (upd ir (sN σ) 0))), (ymE, .inl (cI, 12, .inl (rEr σ)))] H := hP
            have hD : va_D A [(ym, .inr (6, [.int (nI (sF σ)), .ref ymB, .int (nI (sN σ)), .ref ymU, .ref ymV, .ref ymR, .ref ymI, .ref ymE, .int (nI (sM σ)), .ref ymS, .ref ymT, .ref ymD, .int (nI (sC σ)), .ref ymQ, .ref ymP, .ref ymN, .int (nI (sG σ)), .ref ymO, .ref ymY, .ref ymZ, .ref ymX])), (ymU, .inl (cI, 12, .inl (upd (rMu σ) (sN σ) x))), (ymV, .inl (cI, 12, .inl (upd (rMn σ) (sN σ) y))), (ymR, .inl (cI, 12, .inl (upd (rRu σ) (sN σ) z))), (ymI, .inl (cZ, 12, .inl (upd ir (sN σ) 0))), (ymE, .inl (cI, 12, .inl (rEr σ)))] := hD
            refine lv_aload_n hx hb dX6_line_92 rfl (lv_at hl 0 rfl) ?_
            refine va_get (D := D) (ci := 6) (v := .ref ymE) (C := RX6) (T := TX6) (N := 21) hx hb hts hiX6 hown hK hP 0 rfl rfl 7 (by decide) hf30 (fun _ h9 => h9) rfl dX6_line_93 ?_
            refine lv_aload_n hx hb dX6_line_96 rfl (lv_at hl 0 rfl) ?_
            refine va_get (D := D) (ci := 6) (v := .int (nI (sN σ))) (C := RX6) (T := TX6) (N := 21) hx hb hts hiX6 hown hK hP 0 rfl rfl 2 (by decide) hf70 (fun _ h9 => h9) rfl dX6_line_97 ?_
            refine lv_iconst (v := 0) hx hb dX6_line_100 (by decide) ?_
            refine xast (k := (sN σ)) hx hb hK hP hD hS 5 rfl (by omega) (by decide) dX6_line_101 (fun H locs hP hD hS => ?_)
            have hP : va_P D vwCl [(ym, .inr (6, [.int (nI (sF σ)), .ref ymB, .int (nI (sN σ)), .ref ymU, .ref ymV, .ref ymR, .ref ymI, .ref ymE, .int (nI (sM σ)), .ref ymS, .ref ymT, .ref ymD, .int (nI (sC σ)), .ref ymQ, .ref ymP, .ref ymN, .int (nI (sG σ)), .ref ymO, .ref ymY, .ref ymZ, .ref ymX])), (ymU, .inl (cI, 12, .inl (upd (rMu σ) (sN σ) x))), (ymV, .inl (cI, 12, .inl (upd (rMn σ) (sN σ) y))), (ymR, .inl (cI, 12, .inl (upd (rRu σ) (sN σ) z))), (ymI, .inl (cZ, 12, .inl (upd ir (sN σ) 0))), (ymE, .inl (cI, 12, .inl (upd (rEr σ) (sN σ) 0)))] H := hP
            have hD : va_D A [(ym, .inr (6, [.int (nI (sF σ)), .ref ymB, .int (nI (sN σ)), .ref ymU, .ref ymV, .ref ymR, .ref ymI, .ref ymE, .int (nI (sM σ)), .ref ymS, .ref ymT, .ref ymD, .int (nI (sC σ)), .ref ymQ, .ref ymP, .ref ymN, .int (nI (sG σ)), .ref ymO, .ref ymY, .ref ymZ, .ref ymX])), (ymU, .inl (cI, 12, .inl (upd (rMu σ) (sN σ) x))), (ymV, .inl (cI, 12, .inl (upd (rMn σ) (sN σ) y))), (ymR, .inl (cI, 12, .inl (upd (rRu σ) (sN σ) z))), (ymI, .inl (cZ, 12, .inl (upd ir (sN σ) 0))), (ymE, .inl (cI, 12, .inl (upd (rEr σ) (sN σ) 0)))] := hD
            refine lv_aload_n hx hb dX6_line_102 rfl (lv_at hl 0 rfl) ?_
            refine lv_dup hx hb dX6_line_103 rfl ?_
            refine va_get (D := D) (ci := 6) (v := .int (nI (sN σ))) (C := RX6) (T := TX6) (N := 21) hx hb hts hiX6 hown hK hP 0 rfl rfl 2 (by decide) hf70 (fun _ h9 => h9) rfl dX6_line_104 ?_
            refine lv_iconst (v := 1) hx hb dX6_line_107 (by decide) ?_
            refine lv_iadd hx hb dX6_line_108 ?_
            refine lv_asi (show (nI (sN σ)) + 1 = nI (sN σ + 1) from nI_1 _) ?_
            refine va_put (D := D) (ci := 6) (v := .int (nI (sN σ + 1))) (ty := .int) (C := RX6) (T := TX6) (N := 21) hx hb hts hiX6 tyX6 tyX6_ok nmX6 hown hK hP hD hS 0 rfl rfl 2 (by decide) hf70 (fun _ h9 => h9) rfl (by decide +kernel) rfl rfl (Nat.le_of_ble_eq_true rfl) dX6_line_109 (fun H locs hP hD hS => ?_)
            have hP : va_P D vwCl [(ym, .inr (6, [.int (nI (sF σ)), .ref ymB, .int (nI (sN σ + 1)), .ref ymU, .ref ymV, .ref ymR, .ref ymI, .ref ymE, .int (nI (sM σ)), .ref ymS, .ref ymT, .ref ymD, .int (nI (sC σ)), .ref ymQ, .ref ymP, .ref ymN, .int (nI (sG σ)), .ref ymO, .ref ymY, .ref ymZ, .ref ymX])), (ymU, .inl (cI, 12, .inl (upd (rMu σ) (sN σ) x))), (ymV, .inl (cI, 12, .inl (upd (rMn σ) (sN σ) y))), (ymR, .inl (cI, 12, .inl (upd (rRu σ) (sN σ) z))), (ymI, .inl (cZ, 12, .inl (upd ir (sN σ) 0))), (ymE, .inl (cI, 12, .inl (upd (rEr σ) (sN σ) 0)))] H := hP
            have hD : va_D A [(ym, .inr (6, [.int (nI (sF σ)), .ref ymB, .int (nI (sN σ + 1)), .ref ymU, .ref ymV, .ref ymR, .ref ymI, .ref ymE, .int (nI (sM σ)), .ref ymS, .ref ymT, .ref ymD, .int (nI (sC σ)), .ref ymQ, .ref ymP, .ref ymN, .int (nI (sG σ)), .ref ymO, .ref ymY, .ref ymZ, .ref ymX])), (ymU, .inl (cI, 12, .inl (upd (rMu σ) (sN σ) x))), (ymV, .inl (cI, 12, .inl (upd (rMn σ) (sN σ) y))), (ymR, .inl (cI, 12, .inl (upd (rRu σ) (sN σ) z))), (ymI, .inl (cZ, 12, .inl (upd ir (sN σ) 0))), (ymE, .inl (cI, 12, .inl (upd (rEr σ) (sN σ) 0)))] := hD
            refine lv_aload_n hx hb dX6_line_112 rfl (lv_at hl 0 rfl) ?_
            refine va_get (D := D) (ci := 6) (v := .int (nI (sN σ + 1))) (C := RX6) (T := TX6) (N := 21) hx hb hts hiX6 hown hK hP 0 rfl rfl 2 (by decide) hf70 (fun _ h9 => h9) rfl dX6_line_113 ?_
            refine lv_iconst (v := 1) hx hb dX6_line_116 (by decide) ?_
            refine lv_isub hx hb dX6_line_117 ?_
            refine lv_asi (show (nI (sN σ + 1)) - 1 = nI (sN σ) from nI_pred _) ?_
            have hP9 := hP
            have hD9 := hD
            have eN : nLine σ x y z = lnS σ x y z := by rw [nLine, if_neg (by rw [c9]; decide), if_neg (by rw [c21]; decide), if_neg (fun z => z c27), if_neg (by rw [c34]; decide), if_neg (by omega)]
            exact W.iret (v := nI (sN σ)) hx hb hr (fun t ht hW => ⟨⟨nI (sN σ), upd ir (sN σ) 0, rfl, (by rw [eN]; exact ⟨by rw [oLine, if_neg (by rw [c9]; decide), if_neg (by rw [c21]; decide), if_neg (fun z => z c27), if_neg (by rw [c34]; decide), if_neg (by omega)], ir_ln hok hir (by omega)⟩), ⟨⟨by rw [ht, eN]; exact hP9, va_K.moved hW.alike hK, NW.warm hW hN⟩, by rw [eN]; exact hD9⟩⟩, hS.F ht⟩) hS.2.2 dX6_line_118
          · skip
            have c46 := (nI_eq (by omega) (by omega)).mp c46
            refine lv_bipush (v := (-4)) hx hb dX6_line_49 (by decide) ?_
            have hP9 := hP
            have hD9 := hD
            have eN : nLine σ x y z = σ := by rw [nLine, if_neg (by rw [c9]; decide), if_neg (by rw [c21]; decide), if_neg (fun z => z c27), if_neg (by rw [c34]; decide), if_pos (by omega)]
            have eO : oLine σ x y z = -4 := by rw [oLine, if_neg (by rw [c9]; decide), if_neg (by rw [c21]; decide), if_neg (fun z => z c27), if_neg (by rw [c34]; decide), if_pos (by omega)]
            exact W.iret (v := (-4)) hx hb hr (fun t ht hW => ⟨⟨(-4), ir, rfl, (by rw [eN]; exact ⟨eO.symm, hir⟩), ⟨⟨by rw [ht, eN]; exact hP9, va_K.moved hW.alike hK, NW.warm hW hN⟩, by rw [eN]; exact hD9⟩⟩, hS.F ht⟩) hS.2.2 dX6_line_51
        · skip
          have c34 := b2_0 c34
          refine lv_bipush (v := (-2)) hx hb dX6_line_37 (by decide) ?_
          have hP9 := hP
          have hD9 := hD
          have eN : nLine σ x y z = σ := by rw [nLine, if_neg (by rw [c9]; decide), if_neg (by rw [c21]; decide), if_neg (fun z => z c27), if_pos c34]
          have eO : oLine σ x y z = -2 := by rw [oLine, if_neg (by rw [c9]; decide), if_neg (by rw [c21]; decide), if_neg (fun z => z c27), if_pos c34]
          exact W.iret (v := (-2)) hx hb hr (fun t ht hW => ⟨⟨(-2), ir, rfl, (by rw [eN]; exact ⟨eO.symm, hir⟩), ⟨⟨by rw [ht, eN]; exact hP9, va_K.moved hW.alike hK, NW.warm hW hN⟩, by rw [eN]; exact hD9⟩⟩, hS.F ht⟩) hS.2.2 dX6_line_39

set_option maxHeartbeats 4000000 in
set_option maxRecDepth 100000 in
theorem c_X6_except (l : Launch) (D : va_G) (cI cZ : ClassId) (sz : Nat) (ym : Nat) (ymB : Nat) (ymU : Nat) (ymV : Nat) (ymR : Nat) (ymI : Nat) (ymE : Nat) (ymS : Nat) (ymT : Nat) (ymD : Nat) (ymQ : Nat) (ymP : Nat) (ymN : Nat) (ymO : Nat) (ymY : Nat) (ymZ : Nat) (ymX : Nat) (σ : ST) (x : Int32) (y : Int32) (hok : Ok σ) : Met l yX6_except wsX6_except ({ frames := 2, cells := 0, slots := 0, locals := 43 }) (va_Pc [.ref ym, .int x, .int y] (XW D cI cZ [(ym, .inr (6, [.int (nI (sF σ)), .ref ymB, .int (nI (sN σ)), .ref ymU, .ref ymV, .ref ymR, .ref ymI, .ref ymE, .int (nI (sM σ)), .ref ymS, .ref ymT, .ref ymD, .int (nI (sC σ)), .ref ymQ, .ref ymP, .ref ymN, .int (nI (sG σ)), .ref ymO, .ref ymY, .ref ymZ, .ref ymX])), (ymE, .inl (cI, 12, .inl (rEr σ)))] sz)) (va_Qi (fun (r : Int32) (u : Unit) => r = oExcept σ x y) (fun u => XB D cI cZ (va_A [(ym, .inr (6, [.int (nI (sF σ)), .ref ymB, .int (nI (sN σ)), .ref ymU, .ref ymV, .ref ymR, .ref ymI, .ref ymE, .int (nI (sM σ)), .ref ymS, .ref ymT, .ref ymD, .int (nI (sC σ)), .ref ymQ, .ref ymP, .ref ymN, .int (nI (sG σ)), .ref ymO, .ref ymY, .ref ymZ, .ref ymX])), (ymE, .inl (cI, 12, .inl (rEr σ)))] sz) [(ym, .inr (6, [.int (nI (sF (nExcept σ x y))), .ref ymB, .int (nI (sN (nExcept σ x y))), .ref ymU, .ref ymV, .ref ymR, .ref ymI, .ref ymE, .int (nI (sM (nExcept σ x y))), .ref ymS, .ref ymT, .ref ymD, .int (nI (sC (nExcept σ x y))), .ref ymQ, .ref ymP, .ref ymN, .int (nI (sG (nExcept σ x y))), .ref ymO, .ref ymY, .ref ymZ, .ref ymX])), (ymE, .inl (cI, 12, .inl (rEr (nExcept σ x y))))]) (va_A [(ym, .inr (6, [.int (nI (sF σ)), .ref ymB, .int (nI (sN σ)), .ref ymU, .ref ymV, .ref ymR, .ref ymI, .ref ymE, .int (nI (sM σ)), .ref ymS, .ref ymT, .ref ymD, .int (nI (sC σ)), .ref ymQ, .ref ymP, .ref ymN, .int (nI (sG σ)), .ref ymO, .ref ymY, .ref ymZ, .ref ymX])), (ymE, .inl (cI, 12, .inl (rEr σ)))] sz)) 0 0 (va_A [(ym, .inr (6, [.int (nI (sF σ)), .ref ymB, .int (nI (sN σ)), .ref ymU, .ref ymV, .ref ymR, .ref ymI, .ref ymE, .int (nI (sM σ)), .ref ymS, .ref ymT, .ref ymD, .int (nI (sC σ)), .ref ymQ, .ref ymP, .ref ymN, .int (nI (sG σ)), .ref ymO, .ref ymY, .ref ymZ, .ref ymX])), (ymE, .inl (cI, 12, .inl (rEr σ)))] sz) := by
  refine Met.ofW (cc := cX6_except) (maxL := 3) (ret := (some .int)) (by decide) rfl ?_
  intro p e s m args below meth c s₁ B hml hv
  obtain ⟨rfl, hsz, ⟨hP, hK, hN⟩, hD0⟩ := hv
  have hx := B.exec
  have hb := B.bytes
  have hr := B.returns
  have hts := atoms_spec (ws := wsX6_except) B.pre
  have hown : s.vm.findClass RX6 = some m.cls := findClass_of_methodNamed B.named
  have hlocks := B.notSynchronized
  subst hsz
  have hD := hD0.self (sz := s.heap.size)
  generalize hAe : va_A [(ym, .inr (6, [.int (nI (sF σ)), .ref ymB, .int (nI (sN σ)), .ref ymU, .ref ymV, .ref ymR, .ref ymI, .ref ymE, .int (nI (sM σ)), .ref ymS, .ref ymT, .ref ymD, .int (nI (sC σ)), .ref ymQ, .ref ymP, .ref ymN, .int (nI (sG σ)), .ref ymO, .ref ymY, .ref ymZ, .ref ymX])), (ymE, .inl (cI, 12, .inl (rEr σ)))] s.heap.size = A at hD ⊢
  have hA : ∀ q : Nat, s.heap.size ≤ q → A q := fun q h => by rw [← hAe]; exact Or.inr h
  have hS : va_S A s.heap s.heap [] := va_S.rf
  have ho := hok.1
  have hk2 := hok.k
  have hp2 : 1 ≤ 2 ^ sF σ := Nat.two_pow_pos _
  have hf30 := hts (.fieldLink RX6 30 "BallCourtModel" "excepts" "[I") (List.mem_of_getElem? (i := 1) (by decide +kernel))
  have hiX6 : ∀ w ∈ wsX60, w ∈ wsX6_except := fun w h => List.mem_cons_of_mem _ (List.mem_append_right _ h)
  have hl := lv_entry ([.ref ym, .int x, .int y]) (n := 3) (Nat.le_of_ble_eq_true rfl)
  rw [lg_entry_eq]
  generalize (lg_sl ([.ref ym, .int x, .int y]) ++ List.replicate (3 - (lg_sl ([.ref ym, .int x, .int y])).length) Slot.unset).toArray = ls at hl ⊢
  have hl : lv_has ls 3 [(0, .ref ym), (1, .int x), (2, .int y)] := hl
  refine lv_aload_n hx hb dX6_except_0 rfl (lv_at hl 0 rfl) ?_
  refine lv_iload_n hx hb dX6_except_1 rfl (lv_at hl 1 rfl) ?_
  refine xpV (rest := []) ⟨hx, hb, hml, hown, hts⟩ (c_X6_isLine l D cI cZ ym ymB ymU ymV ymR ymI ymE ymS ymT ymD ymQ ymP ymN ymO ymY ymZ ymX σ x hok) (cwV 1 hts gX6_except_X6_isLine rfl rfl rfl (by decide +kernel) ⟨Nat.le_of_ble_eq_true rfl, Nat.le_of_ble_eq_true rfl⟩) hP [0] rfl hK hN (ci := 6) (q0 := 0) rfl rfl rfl hl.1 rfl (Nat.le_of_ble_eq_true rfl) dX6_except_2 ⟨Nat.zero_le _, Nat.zero_le _⟩ (fun r2 e2 => ?_)
  subst e2
  refine lv_if_eq (tgt := 16) hx hb dX6_except_5 (by decide) (fun c5 => ?_) (fun c5 => ?_)
  · skip
    have c5 := b2_0 c5
    refine lv_iconst (v := (-1)) hx hb dX6_except_16 (by decide) ?_
    have hP9 := hP
    have hD9 := hD
    have eN : nExcept σ x y = σ := by rw [nExcept, if_pos c5]
    have eO : oExcept σ x y = -1 := by rw [oExcept, if_pos c5]
    exact W.iret (v := (-1)) hx hb hr (fun t ht hW => ⟨⟨(-1), (), rfl, eO.symm, ⟨⟨by rw [ht, eN]; exact hP9, va_K.moved hW.alike hK, NW.warm hW hN⟩, by rw [eN]; exact hD9⟩⟩, hS.F ht⟩) hS.2.2 dX6_except_17
  · skip
    have c5 := b2_1 c5
    refine lv_aload_n hx hb dX6_except_8 rfl (lv_at hl 0 rfl) ?_
    refine lv_iload_n hx hb dX6_except_9 rfl (lv_at hl 2 rfl) ?_
    refine xpV (rest := []) ⟨hx, hb, hml, hown, hts⟩ (c_X6_isLine l D cI cZ ym ymB ymU ymV ymR ymI ymE ymS ymT ymD ymQ ymP ymN ymO ymY ymZ ymX σ y hok) (cwV 1 hts gX6_except_X6_isLine rfl rfl rfl (by decide +kernel) ⟨Nat.le_of_ble_eq_true rfl, Nat.le_of_ble_eq_true rfl⟩) hP [0] rfl hK hN (ci := 6) (q0 := 0) rfl rfl rfl hl.1 rfl (Nat.le_of_ble_eq_true rfl) dX6_except_10 ⟨Nat.zero_le _, Nat.zero_le _⟩ (fun r10 e10 => ?_)
    subst e10
    refine lv_if_ne (tgt := 18) hx hb dX6_except_13 (by decide) (fun c13 => ?_) (fun c13 => ?_)
    · skip
      have c13 := b2_1 c13
      obtain ⟨j, hj, rfl⟩ := inN_t c5 (by omega)
      obtain ⟨i, hi, rfl⟩ := inN_t c13 (by omega)
      have kj : (nI j).toNatClampNeg = j := nI_clamp (by omega)
      have ki : (nI i).toNatClampNeg = i := nI_clamp (by omega)
      refine lv_iload_n hx hb dX6_except_18 rfl (lv_at hl 1 rfl) ?_
      refine lv_iload_n hx hb dX6_except_19 rfl (lv_at hl 2 rfl) ?_
      refine lv_icmp_le (tgt := 37) hx hb dX6_except_20 (by decide) (fun c20 => ?_) (fun c20 => ?_)
      · skip
        refine lv_bipush (v := (-5)) hx hb dX6_except_37 (by decide) ?_
        have hP9 := hP
        have hD9 := hD
        have eN : nExcept σ (nI j) (nI i) = σ := by rw [nExcept, if_neg (by rw [c5]; decide), if_neg (by rw [c13]; decide), if_pos c20]
        have eO : oExcept σ (nI j) (nI i) = -5 := by rw [oExcept, if_neg (by rw [c5]; decide), if_neg (by rw [c13]; decide), if_pos c20]
        exact W.iret (v := (-5)) hx hb hr (fun t ht hW => ⟨⟨(-5), (), rfl, eO.symm, ⟨⟨by rw [ht, eN]; exact hP9, va_K.moved hW.alike hK, NW.warm hW hN⟩, by rw [eN]; exact hD9⟩⟩, hS.F ht⟩) hS.2.2 dX6_except_39
      · skip
        refine lv_aload_n hx hb dX6_except_23 rfl (lv_at hl 0 rfl) ?_
        refine va_get (D := D) (ci := 6) (v := .ref ymE) (C := RX6) (T := TX6) (N := 21) hx hb hts hiX6 hown hK hP 0 rfl rfl 7 (by decide) hf30 (fun _ h9 => h9) rfl dX6_except_24 ?_
        refine lv_iload_n hx hb dX6_except_27 rfl (lv_at hl 2 rfl) ?_
        refine xald (k := i) hx hb hK hP 1 rfl (by omega) (by decide) dX6_except_28 ?_
        refine lv_iload_n hx hb dX6_except_29 rfl (lv_at hl 1 rfl) ?_
        refine lv_ishr hx hb dX6_except_30 ?_
        refine lv_iconst (v := 1) hx hb dX6_except_31 (by decide) ?_
        refine lv_iand hx hb dX6_except_32 ?_
        refine lv_asi (show ((rEr σ i) >>> ((nI j) &&& 31)) &&& 1 = b2 (bit (rEr σ i) (nI j)) from hb_b2 _ _) ?_
        refine lv_iconst (v := 1) hx hb dX6_except_33 (by decide) ?_
        refine lv_icmp_ne (tgt := 40) hx hb dX6_except_34 (by decide) (fun c34 => ?_) (fun c34 => ?_)
        · skip
          have c34 := b2_n1 c34
          refine lv_aload_n hx hb dX6_except_40 rfl (lv_at hl 0 rfl) ?_
          refine va_get (D := D) (ci := 6) (v := .ref ymE) (C := RX6) (T := TX6) (N := 21) hx hb hts hiX6 hown hK hP 0 rfl rfl 7 (by decide) hf30 (fun _ h9 => h9) rfl dX6_except_41 ?_
          refine lv_iload_n hx hb dX6_except_44 rfl (lv_at hl 2 rfl) ?_
          refine lv_dup2_11 hx hb dX6_except_45 rfl rfl ?_
          refine xald (k := i) hx hb hK hP 1 rfl (by omega) (by decide) dX6_except_46 ?_
          refine lv_iconst (v := 1) hx hb dX6_except_47 (by decide) ?_
          refine lv_iload_n hx hb dX6_except_48 rfl (lv_at hl 1 rfl) ?_
          refine lv_ishl hx hb dX6_except_49 ?_
          refine lv_asi (show (1 : Int32) <<< ((nI j) &&& 31) = nI (2 ^ j) from shl1 j (by omega)) ?_
          refine lv_ior hx hb dX6_except_50 ?_
          refine xast (k := i) hx hb hK hP hD hS 1 rfl (by omega) (by decide) dX6_except_51 (fun H locs hP hD hS => ?_)
          have hP : va_P D vwCl [(ym, .inr (6, [.int (nI (sF σ)), .ref ymB, .int (nI (sN σ)), .ref ymU, .ref ymV, .ref ymR, .ref ymI, .ref ymE, .int (nI (sM σ)), .ref ymS, .ref ymT, .ref ymD, .int (nI (sC σ)), .ref ymQ, .ref ymP, .ref ymN, .int (nI (sG σ)), .ref ymO, .ref ymY, .ref ymZ, .ref ymX])), (ymE, .inl (cI, 12, .inl (upd (rEr σ) i ((rEr σ i) ||| (nI (2 ^ j))))))] H := hP
          have hD : va_D A [(ym, .inr (6, [.int (nI (sF σ)), .ref ymB, .int (nI (sN σ)), .ref ymU, .ref ymV, .ref ymR, .ref ymI, .ref ymE, .int (nI (sM σ)), .ref ymS, .ref ymT, .ref ymD, .int (nI (sC σ)), .ref ymQ, .ref ymP, .ref ymN, .int (nI (sG σ)), .ref ymO, .ref ymY, .ref ymZ, .ref ymX])), (ymE, .inl (cI, 12, .inl (upd (rEr σ) i ((rEr σ i) ||| (nI (2 ^ j))))))] := hD
          refine lv_aload_n hx hb dX6_except_52 rfl (lv_at hl 0 rfl) ?_
          refine va_get (D := D) (ci := 6) (v := .ref ymE) (C := RX6) (T := TX6) (N := 21) hx hb hts hiX6 hown hK hP 0 rfl rfl 7 (by decide) hf30 (fun _ h9 => h9) rfl dX6_except_53 ?_
          refine lv_iload_n hx hb dX6_except_56 rfl (lv_at hl 2 rfl) ?_
          refine xald (k := i) hx hb hK hP 1 rfl (by omega) (by decide) dX6_except_57 ?_
          refine xpS (rest := []) ⟨hx, hb, hml, hown, hts⟩ (c_X6_bits l D cI cZ ((upd (rEr σ) i ((rEr σ i) ||| (nI (2 ^ j)))) i)) (va_cwS 1 hts gX6_except_X6_bits rfl rfl rfl (by decide +kernel) ⟨Nat.le_of_ble_eq_true rfl, Nat.le_of_ble_eq_true rfl⟩) hP [] rfl hK hN rfl hl.1 rfl (Nat.le_of_ble_eq_true rfl) dX6_except_58 ⟨Nat.zero_le _, Nat.zero_le _⟩ (fun r58 e58 => ?_)
          subst e58
          have hP9 := hP
          have hD9 := hD
          have eN : nExcept σ (nI j) (nI i) = exS σ j i := by rw [nExcept, if_neg (by rw [c5]; decide), if_neg (by rw [c13]; decide), if_neg c20, ki, if_neg (by rw [c34]; decide), kj]
          exact W.iret (v := bcI ((upd (rEr σ) i ((rEr σ i) ||| (nI (2 ^ j)))) i) 12) hx hb hr (fun t ht hW => ⟨⟨bcI ((upd (rEr σ) i ((rEr σ i) ||| (nI (2 ^ j)))) i) 12, (), rfl, (by rw [oExcept, if_neg (by rw [c5]; decide), if_neg (by rw [c13]; decide), if_neg c20, ki, if_neg (by rw [c34]; decide), kj] <;> rfl), ⟨⟨by rw [ht, eN]; exact hP9, va_K.moved hW.alike hK, NW.warm hW hN⟩, by rw [eN]; exact hD9⟩⟩, hS.F ht⟩) hS.2.2 dX6_except_61
        · skip
          have c34 := b2_e1 c34
          refine lv_bipush (v := (-5)) hx hb dX6_except_37 (by decide) ?_
          have hP9 := hP
          have hD9 := hD
          have eN : nExcept σ (nI j) (nI i) = σ := by rw [nExcept, if_neg (by rw [c5]; decide), if_neg (by rw [c13]; decide), if_neg c20, ki, if_pos c34]
          have eO : oExcept σ (nI j) (nI i) = -5 := by rw [oExcept, if_neg (by rw [c5]; decide), if_neg (by rw [c13]; decide), if_neg c20, ki, if_pos c34]
          exact W.iret (v := (-5)) hx hb hr (fun t ht hW => ⟨⟨(-5), (), rfl, eO.symm, ⟨⟨by rw [ht, eN]; exact hP9, va_K.moved hW.alike hK, NW.warm hW hN⟩, by rw [eN]; exact hD9⟩⟩, hS.F ht⟩) hS.2.2 dX6_except_39
    · skip
      have c13 := b2_0 c13
      refine lv_iconst (v := (-1)) hx hb dX6_except_16 (by decide) ?_
      have hP9 := hP
      have hD9 := hD
      have eN : nExcept σ x y = σ := by rw [nExcept, if_neg (by rw [c5]; decide), if_pos c13]
      have eO : oExcept σ x y = -1 := by rw [oExcept, if_neg (by rw [c5]; decide), if_pos c13]
      exact W.iret (v := (-1)) hx hb hr (fun t ht hW => ⟨⟨(-1), (), rfl, eO.symm, ⟨⟨by rw [ht, eN]; exact hP9, va_K.moved hW.alike hK, NW.warm hW hN⟩, by rw [eN]; exact hD9⟩⟩, hS.F ht⟩) hS.2.2 dX6_except_17

set_option maxHeartbeats 4000000 in
set_option maxRecDepth 100000 in
theorem c_X6_repeal (l : Launch) (D : va_G) (cI cZ : ClassId) (sz : Nat) (ym : Nat) (ymB : Nat) (ymU : Nat) (ymV : Nat) (ymR : Nat) (ymI : Nat) (ymE : Nat) (ymS : Nat) (ymT : Nat) (ymD : Nat) (ymQ : Nat) (ymP : Nat) (ymN : Nat) (ymO : Nat) (ymY : Nat) (ymZ : Nat) (ymX : Nat) (σ : ST) (ir : Nat → Int32) (x : Int32) (is : Bool) (hok : Ok σ) (hir : ∀ l, l < sN σ → ir l = b2 (bit (sR σ) (nI l))) : Met l yX6_repeal wsX6_repeal ({ frames := 2, cells := 0, slots := 0, locals := 43 }) (va_Pc [.ref ym, .int x, .int (b2 is)] (XW D cI cZ [(ym, .inr (6, [.int (nI (sF σ)), .ref ymB, .int (nI (sN σ)), .ref ymU, .ref ymV, .ref ymR, .ref ymI, .ref ymE, .int (nI (sM σ)), .ref ymS, .ref ymT, .ref ymD, .int (nI (sC σ)), .ref ymQ, .ref ymP, .ref ymN, .int (nI (sG σ)), .ref ymO, .ref ymY, .ref ymZ, .ref ymX])), (ymI, .inl (cZ, 12, .inl ir))] sz)) (va_Qi (fun (r : Int32) (u : Nat → Int32) => r = oRepeal σ x ∧ ∀ l, l < sN (nRepeal σ x is) → u l = b2 (bit (sR (nRepeal σ x is)) (nI l))) (fun u => XB D cI cZ (va_A [(ym, .inr (6, [.int (nI (sF σ)), .ref ymB, .int (nI (sN σ)), .ref ymU, .ref ymV, .ref ymR, .ref ymI, .ref ymE, .int (nI (sM σ)), .ref ymS, .ref ymT, .ref ymD, .int (nI (sC σ)), .ref ymQ, .ref ymP, .ref ymN, .int (nI (sG σ)), .ref ymO, .ref ymY, .ref ymZ, .ref ymX])), (ymI, .inl (cZ, 12, .inl ir))] sz) [(ym, .inr (6, [.int (nI (sF (nRepeal σ x is))), .ref ymB, .int (nI (sN (nRepeal σ x is))), .ref ymU, .ref ymV, .ref ymR, .ref ymI, .ref ymE, .int (nI (sM (nRepeal σ x is))), .ref ymS, .ref ymT, .ref ymD, .int (nI (sC (nRepeal σ x is))), .ref ymQ, .ref ymP, .ref ymN, .int (nI (sG (nRepeal σ x is))), .ref ymO, .ref ymY, .ref ymZ, .ref ymX])), (ymI, .inl (cZ, 12, .inl u))]) (va_A [(ym, .inr (6, [.int (nI (sF σ)), .ref ymB, .int (nI (sN σ)), .ref ymU, .ref ymV, .ref ymR, .ref ymI, .ref ymE, .int (nI (sM σ)), .ref ymS, .ref ymT, .ref ymD, .int (nI (sC σ)), .ref ymQ, .ref ymP, .ref ymN, .int (nI (sG σ)), .ref ymO, .ref ymY, .ref ymZ, .ref ymX])), (ymI, .inl (cZ, 12, .inl ir))] sz)) 0 0 (va_A [(ym, .inr (6, [.int (nI (sF σ)), .ref ymB, .int (nI (sN σ)), .ref ymU, .ref ymV, .ref ymR, .ref ymI, .ref ymE, .int (nI (sM σ)), .ref ymS, .ref ymT, .ref ymD, .int (nI (sC σ)), .ref ymQ, .ref ymP, .ref ymN, .int (nI (sG σ)), .ref ymO, .ref ymY, .ref ymZ, .ref ymX])), (ymI, .inl (cZ, 12, .inl ir))] sz) := by
  refine Met.ofW (cc := cX6_repeal) (maxL := 4) (ret := (some .int)) (by decide) rfl ?_
  intro p e s m args below meth c s₁ B hml hv
  obtain ⟨rfl, hsz, ⟨hP, hK, hN⟩, hD0⟩ := hv
  have hx := B.exec
  have hb := B.bytes
  have hr := B.returns
  have hts := atoms_spec (ws := wsX6_repeal) B.pre
  have hown : s.vm.findClass RX6 = some m.cls := findClass_of_methodNamed B.named
  have hlocks := B.notSynchronized
  subst hsz
  have hD := hD0.self (sz := s.heap.size)
  generalize hAe : va_A [(ym, .inr (6, [.int (nI (sF σ)), .ref ymB, .int (nI (sN σ)), .ref ymU, .ref ymV, .ref ymR, .ref ymI, .ref ymE, .int (nI (sM σ)), .ref ymS, .ref ymT, .ref ymD, .int (nI (sC σ)), .ref ymQ, .ref ymP, .ref ymN, .int (nI (sG σ)), .ref ymO, .ref ymY, .ref ymZ, .ref ymX])), (ymI, .inl (cZ, 12, .inl ir))] s.heap.size = A at hD ⊢
  have hA : ∀ q : Nat, s.heap.size ≤ q → A q := fun q h => by rw [← hAe]; exact Or.inr h
  have hS : va_S A s.heap s.heap [] := va_S.rf
  have ho := hok.1
  have hk2 := hok.k
  have hp2 : 1 ≤ 2 ^ sF σ := Nat.two_pow_pos _
  have hf26 := hts (.fieldLink RX6 26 "BallCourtModel" "isRepealed" "[Z") (List.mem_of_getElem? (i := 1) (by decide +kernel))
  have hiX6 : ∀ w ∈ wsX60, w ∈ wsX6_repeal := fun w h => List.mem_cons_of_mem _ (List.mem_append_right _ h)
  have hl := lv_entry ([.ref ym, .int x, .int (b2 is)]) (n := 4) (Nat.le_of_ble_eq_true rfl)
  rw [lg_entry_eq]
  generalize (lg_sl ([.ref ym, .int x, .int (b2 is)]) ++ List.replicate (4 - (lg_sl ([.ref ym, .int x, .int (b2 is)])).length) Slot.unset).toArray = ls at hl ⊢
  have hl : lv_has ls 4 [(0, .ref ym), (1, .int x), (2, .int (b2 is))] := hl
  refine lv_aload_n hx hb dX6_repeal_0 rfl (lv_at hl 0 rfl) ?_
  refine lv_iload_n hx hb dX6_repeal_1 rfl (lv_at hl 1 rfl) ?_
  refine xpV (rest := []) ⟨hx, hb, hml, hown, hts⟩ (c_X6_isLine l D cI cZ ym ymB ymU ymV ymR ymI ymE ymS ymT ymD ymQ ymP ymN ymO ymY ymZ ymX σ x hok) (cwV 1 hts gX6_repeal_X6_isLine rfl rfl rfl (by decide +kernel) ⟨Nat.le_of_ble_eq_true rfl, Nat.le_of_ble_eq_true rfl⟩) hP [0] rfl hK hN (ci := 6) (q0 := 0) rfl rfl rfl hl.1 rfl (Nat.le_of_ble_eq_true rfl) dX6_repeal_2 ⟨Nat.zero_le _, Nat.zero_le _⟩ (fun r2 e2 => ?_)
  subst e2
  refine lv_if_ne (tgt := 10) hx hb dX6_repeal_5 (by decide) (fun c5 => ?_) (fun c5 => ?_)
  · skip
    have c5 := b2_1 c5
    obtain ⟨q, hq, rfl⟩ := inN_t c5 (by omega)
    have kq := clp hq (show sN σ ≤ 128 by omega)
    refine lv_aload_n hx hb dX6_repeal_10 rfl (lv_at hl 0 rfl) ?_
    refine va_get (D := D) (ci := 6) (v := .ref ymI) (C := RX6) (T := TX6) (N := 21) hx hb hts hiX6 hown hK hP 0 rfl rfl 6 (by decide) hf26 (fun _ h9 => h9) rfl dX6_repeal_11 ?_
    refine lv_iload_n hx hb dX6_repeal_14 rfl (lv_at hl 1 rfl) ?_
    refine xzld (k := q) hx hb hK hP 1 rfl (by omega) (by decide) dX6_repeal_15 ?_
    refine lv_asi (show ir q = b2 (bit (sR σ) (nI q)) from hir q hq) ?_
    refine lv_if_eq (tgt := 23) hx hb dX6_repeal_16 (by decide) (fun c16 => ?_) (fun c16 => ?_)
    · skip
      have c16 := b2_0 c16
      refine lv_iconst (v := 0) hx hb dX6_repeal_23 (by decide) ?_
      refine lv_istore_n (lv' := [(3, .int 0), (0, .ref ym), (1, .int (nI q)), (2, .int (b2 is))]) hx hb dX6_repeal_24 rfl hl (by decide) rfl (fun ls hl => ?_)
      refine lv_aload_n hx hb dX6_repeal_25 rfl (lv_at hl 1 rfl) ?_
      refine va_get (D := D) (ci := 6) (v := .ref ymI) (C := RX6) (T := TX6) (N := 21) hx hb hts hiX6 hown hK hP 0 rfl rfl 6 (by decide) hf26 (fun _ h9 => h9) rfl dX6_repeal_26 ?_
      refine lv_iload_n hx hb dX6_repeal_29 rfl (lv_at hl 2 rfl) ?_
      refine lv_iload_n hx hb dX6_repeal_30 rfl (lv_at hl 3 rfl) ?_
      refine xzst (k := q) hx hb hK hP hD hS 1 rfl (nar_b2 _) (by omega) (by decide) dX6_repeal_31 (fun H locs hP hD hS => ?_)
      have hP : va_P D vwCl [(ym, .inr (6, [.int (nI (sF σ)), .ref ymB, .int (nI (sN σ)), .ref ymU, .ref ymV, .ref ymR, .ref ymI, .ref ymE, .int (nI (sM σ)), .ref ymS, .ref ymT, .ref ymD, .int (nI (sC σ)), .ref ymQ, .ref ymP, .ref ymN, .int (nI (sG σ)), .ref ymO, .ref ymY, .ref ymZ, .ref ymX])), (ymI, .inl (cZ, 12, .inl (upd ir q (b2 is))))] H := hP
      have hD : va_D A [(ym, .inr (6, [.int (nI (sF σ)), .ref ymB, .int (nI (sN σ)), .ref ymU, .ref ymV, .ref ymR, .ref ymI, .ref ymE, .int (nI (sM σ)), .ref ymS, .ref ymT, .ref ymD, .int (nI (sC σ)), .ref ymQ, .ref ymP, .ref ymN, .int (nI (sG σ)), .ref ymO, .ref ymY, .ref ymZ, .ref ymX])), (ymI, .inl (cZ, 12, .inl (upd ir q (b2 is))))] := hD
      refine lv_iload_n hx hb dX6_repeal_32 rfl (lv_at hl 0 rfl) ?_
      by_cases c99 : bit (sR σ) (nI q) = is
      · skip
        have hP9 := hP
        have hD9 := hD
        have eN : nRepeal σ (nI q) is = σ := by rw [nRepeal, if_neg (by rw [c5]; decide), if_pos c99]
        exact W.iret (v := 0) hx hb hr (fun t ht hW => ⟨⟨0, upd ir q (b2 is), rfl, (by rw [eN]; exact ⟨by rw [oRepeal, if_neg (by rw [c5]; decide), c16] <;> rfl, ir_same hir c99⟩), ⟨⟨by rw [ht, eN]; exact hP9, va_K.moved hW.alike hK, NW.warm hW hN⟩, by rw [eN]; exact hD9⟩⟩, hS.F ht⟩) hS.2.2 dX6_repeal_33
      · skip
        have hP9 := hP
        have hD9 := hD
        have eN : nRepeal σ (nI q) is = rpS σ (sR σ ^^^ nI (2 ^ q)) := by rw [nRepeal, if_neg (by rw [c5]; decide), if_neg c99, kq]
        exact W.iret (v := 0) hx hb hr (fun t ht hW => ⟨⟨0, upd ir q (b2 is), rfl, (by rw [eN]; exact ⟨by rw [oRepeal, if_neg (by rw [c5]; decide), c16] <;> rfl, ir_rp hok hir hq c99⟩), ⟨⟨by rw [ht, eN]; exact hP9, va_K.moved hW.alike hK, NW.warm hW hN⟩, by rw [eN]; exact hD9⟩⟩, hS.F ht⟩) hS.2.2 dX6_repeal_33
    · skip
      have c16 := b2_1 c16
      refine lv_iconst (v := 1) hx hb dX6_repeal_19 (by decide) ?_
      refine lv_goto (tgt := 24) hx hb dX6_repeal_20 (by decide) ?_
      refine lv_istore_n (lv' := [(3, .int 1), (0, .ref ym), (1, .int (nI q)), (2, .int (b2 is))]) hx hb dX6_repeal_24 rfl hl (by decide) rfl (fun ls hl => ?_)
      refine lv_aload_n hx hb dX6_repeal_25 rfl (lv_at hl 1 rfl) ?_
      refine va_get (D := D) (ci := 6) (v := .ref ymI) (C := RX6) (T := TX6) (N := 21) hx hb hts hiX6 hown hK hP 0 rfl rfl 6 (by decide) hf26 (fun _ h9 => h9) rfl dX6_repeal_26 ?_
      refine lv_iload_n hx hb dX6_repeal_29 rfl (lv_at hl 2 rfl) ?_
      refine lv_iload_n hx hb dX6_repeal_30 rfl (lv_at hl 3 rfl) ?_
      refine xzst (k := q) hx hb hK hP hD hS 1 rfl (nar_b2 _) (by omega) (by decide) dX6_repeal_31 (fun H locs hP hD hS => ?_)
      have hP : va_P D vwCl [(ym, .inr (6, [.int (nI (sF σ)), .ref ymB, .int (nI (sN σ)), .ref ymU, .ref ymV, .ref ymR, .ref ymI, .ref ymE, .int (nI (sM σ)), .ref ymS, .ref ymT, .ref ymD, .int (nI (sC σ)), .ref ymQ, .ref ymP, .ref ymN, .int (nI (sG σ)), .ref ymO, .ref ymY, .ref ymZ, .ref ymX])), (ymI, .inl (cZ, 12, .inl (upd ir q (b2 is))))] H := hP
      have hD : va_D A [(ym, .inr (6, [.int (nI (sF σ)), .ref ymB, .int (nI (sN σ)), .ref ymU, .ref ymV, .ref ymR, .ref ymI, .ref ymE, .int (nI (sM σ)), .ref ymS, .ref ymT, .ref ymD, .int (nI (sC σ)), .ref ymQ, .ref ymP, .ref ymN, .int (nI (sG σ)), .ref ymO, .ref ymY, .ref ymZ, .ref ymX])), (ymI, .inl (cZ, 12, .inl (upd ir q (b2 is))))] := hD
      refine lv_iload_n hx hb dX6_repeal_32 rfl (lv_at hl 0 rfl) ?_
      by_cases c99 : bit (sR σ) (nI q) = is
      · skip
        have hP9 := hP
        have hD9 := hD
        have eN : nRepeal σ (nI q) is = σ := by rw [nRepeal, if_neg (by rw [c5]; decide), if_pos c99]
        exact W.iret (v := 1) hx hb hr (fun t ht hW => ⟨⟨1, upd ir q (b2 is), rfl, (by rw [eN]; exact ⟨by rw [oRepeal, if_neg (by rw [c5]; decide), c16] <;> rfl, ir_same hir c99⟩), ⟨⟨by rw [ht, eN]; exact hP9, va_K.moved hW.alike hK, NW.warm hW hN⟩, by rw [eN]; exact hD9⟩⟩, hS.F ht⟩) hS.2.2 dX6_repeal_33
      · skip
        have hP9 := hP
        have hD9 := hD
        have eN : nRepeal σ (nI q) is = rpS σ (sR σ ^^^ nI (2 ^ q)) := by rw [nRepeal, if_neg (by rw [c5]; decide), if_neg c99, kq]
        exact W.iret (v := 1) hx hb hr (fun t ht hW => ⟨⟨1, upd ir q (b2 is), rfl, (by rw [eN]; exact ⟨by rw [oRepeal, if_neg (by rw [c5]; decide), c16] <;> rfl, ir_rp hok hir hq c99⟩), ⟨⟨by rw [ht, eN]; exact hP9, va_K.moved hW.alike hK, NW.warm hW hN⟩, by rw [eN]; exact hD9⟩⟩, hS.F ht⟩) hS.2.2 dX6_repeal_33
  · skip
    have c5 := b2_0 c5
    refine lv_iconst (v := (-1)) hx hb dX6_repeal_8 (by decide) ?_
    have hP9 := hP
    have hD9 := hD
    have eN : nRepeal σ x is = σ := by rw [nRepeal, if_pos c5]
    exact W.iret (v := (-1)) hx hb hr (fun t ht hW => ⟨⟨(-1), ir, rfl, (by rw [eN]; exact ⟨by rw [oRepeal, if_pos c5], hir⟩), ⟨⟨by rw [ht, eN]; exact hP9, va_K.moved hW.alike hK, NW.warm hW hN⟩, by rw [eN]; exact hD9⟩⟩, hS.F ht⟩) hS.2.2 dX6_repeal_9

set_option maxHeartbeats 4000000 in
set_option maxRecDepth 100000 in
theorem c_X6_turnedKinds (l : Launch) (D : va_G) (cI cZ : ClassId) (sz : Nat) (ym : Nat) (ymB : Nat) (ymU : Nat) (ymV : Nat) (ymR : Nat) (ymI : Nat) (ymE : Nat) (ymS : Nat) (ymT : Nat) (ymD : Nat) (ymQ : Nat) (ymP : Nat) (ymN : Nat) (ymO : Nat) (ymY : Nat) (ymZ : Nat) (ymX : Nat) (σ : ST) (ir : Nat → Int32) (ob : Nat → Int32) (rp : Int32) (q : Nat) (hok : Ok σ) (hq : q < sN σ) (hir : ∀ l, l < sN σ → ir l = b2 (bit rp (nI l))) : Met l yX6_turnedKinds wsX6_turnedKinds ({ frames := 4, cells := 0, slots := 0, locals := 91 }) (va_Pc [.ref ym, .int (nI q)] (XW D cI cZ [(ym, .inr (6, [.int (nI (sF σ)), .ref ymB, .int (nI (sN σ)), .ref ymU, .ref ymV, .ref ymR, .ref ymI, .ref ymE, .int (nI (sM σ)), .ref ymS, .ref ymT, .ref ymD, .int (nI (sC σ)), .ref ymQ, .ref ymP, .ref ymN, .int (nI (sG σ)), .ref ymO, .ref ymY, .ref ymZ, .ref ymX])), (ymB, .inl (cI, 7, .inl (rB σ))), (ymU, .inl (cI, 12, .inl (rMu σ))), (ymV, .inl (cI, 12, .inl (rMn σ))), (ymR, .inl (cI, 12, .inl (rRu σ))), (ymI, .inl (cZ, 12, .inl ir)), (ymE, .inl (cI, 12, .inl (rEr σ))), (ymO, .inl (cI, 128, .inl ob))] sz)) (va_Qi (fun (r : Int32) (u : (Nat → Int32) × (Nat → Int32)) => r = nI (tkN σ rp (rp ^^^ nI (2 ^ q))) ∧ (∀ l, l < sN σ → u.1 l = b2 (bit rp (nI l))) ∧ ∀ k, k < 2 ^ sF σ → u.2 k = b2 (difB σ rp (rp ^^^ nI (2 ^ q)) k)) (fun u => XB D cI cZ (va_A [(ym, .inr (6, [.int (nI (sF σ)), .ref ymB, .int (nI (sN σ)), .ref ymU, .ref ymV, .ref ymR, .ref ymI, .ref ymE, .int (nI (sM σ)), .ref ymS, .ref ymT, .ref ymD, .int (nI (sC σ)), .ref ymQ, .ref ymP, .ref ymN, .int (nI (sG σ)), .ref ymO, .ref ymY, .ref ymZ, .ref ymX])), (ymB, .inl (cI, 7, .inl (rB σ))), (ymU, .inl (cI, 12, .inl (rMu σ))), (ymV, .inl (cI, 12, .inl (rMn σ))), (ymR, .inl (cI, 12, .inl (rRu σ))), (ymI, .inl (cZ, 12, .inl ir)), (ymE, .inl (cI, 12, .inl (rEr σ))), (ymO, .inl (cI, 128, .inl ob))] sz) [(ym, .inr (6, [.int (nI (sF σ)), .ref ymB, .int (nI (sN σ)), .ref ymU, .ref ymV, .ref ymR, .ref ymI, .ref ymE, .int (nI (sM σ)), .ref ymS, .ref ymT, .ref ymD, .int (nI (sC σ)), .ref ymQ, .ref ymP, .ref ymN, .int (nI (sG σ)), .ref ymO, .ref ymY, .ref ymZ, .ref ymX])), (ymB, .inl (cI, 7, .inl (rB σ))), (ymU, .inl (cI, 12, .inl (rMu σ))), (ymV, .inl (cI, 12, .inl (rMn σ))), (ymR, .inl (cI, 12, .inl (rRu σ))), (ymI, .inl (cZ, 12, .inl u.1)), (ymE, .inl (cI, 12, .inl (rEr σ))), (ymO, .inl (cI, 128, .inl u.2))]) (va_A [(ym, .inr (6, [.int (nI (sF σ)), .ref ymB, .int (nI (sN σ)), .ref ymU, .ref ymV, .ref ymR, .ref ymI, .ref ymE, .int (nI (sM σ)), .ref ymS, .ref ymT, .ref ymD, .int (nI (sC σ)), .ref ymQ, .ref ymP, .ref ymN, .int (nI (sG σ)), .ref ymO, .ref ymY, .ref ymZ, .ref ymX])), (ymB, .inl (cI, 7, .inl (rB σ))), (ymU, .inl (cI, 12, .inl (rMu σ))), (ymV, .inl (cI, 12, .inl (rMn σ))), (ymR, .inl (cI, 12, .inl (rRu σ))), (ymI, .inl (cZ, 12, .inl ir)), (ymE, .inl (cI, 12, .inl (rEr σ))), (ymO, .inl (cI, 128, .inl ob))] sz)) 0 0 (va_A [(ym, .inr (6, [.int (nI (sF σ)), .ref ymB, .int (nI (sN σ)), .ref ymU, .ref ymV, .ref ymR, .ref ymI, .ref ymE, .int (nI (sM σ)), .ref ymS, .ref ymT, .ref ymD, .int (nI (sC σ)), .ref ymQ, .ref ymP, .ref ymN, .int (nI (sG σ)), .ref ymO, .ref ymY, .ref ymZ, .ref ymX])), (ymB, .inl (cI, 7, .inl (rB σ))), (ymU, .inl (cI, 12, .inl (rMu σ))), (ymV, .inl (cI, 12, .inl (rMn σ))), (ymR, .inl (cI, 12, .inl (rRu σ))), (ymI, .inl (cZ, 12, .inl ir)), (ymE, .inl (cI, 12, .inl (rEr σ))), (ymO, .inl (cI, 128, .inl ob))] sz) := by
  refine Met.ofW (cc := cX6_turnedKinds) (maxL := 4) (ret := (some .int)) (by decide) rfl ?_
  intro p e s m args below meth c s₁ B hml hv
  obtain ⟨rfl, hsz, ⟨hP, hK, hN⟩, hD0⟩ := hv
  have hx := B.exec
  have hb := B.bytes
  have hr := B.returns
  have hts := atoms_spec (ws := wsX6_turnedKinds) B.pre
  have hown : s.vm.findClass RX6 = some m.cls := findClass_of_methodNamed B.named
  have hlocks := B.notSynchronized
  subst hsz
  have hD := hD0.self (sz := s.heap.size)
  generalize hAe : va_A [(ym, .inr (6, [.int (nI (sF σ)), .ref ymB, .int (nI (sN σ)), .ref ymU, .ref ymV, .ref ymR, .ref ymI, .ref ymE, .int (nI (sM σ)), .ref ymS, .ref ymT, .ref ymD, .int (nI (sC σ)), .ref ymQ, .ref ymP, .ref ymN, .int (nI (sG σ)), .ref ymO, .ref ymY, .ref ymZ, .ref ymX])), (ymB, .inl (cI, 7, .inl (rB σ))), (ymU, .inl (cI, 12, .inl (rMu σ))), (ymV, .inl (cI, 12, .inl (rMn σ))), (ymR, .inl (cI, 12, .inl (rRu σ))), (ymI, .inl (cZ, 12, .inl ir)), (ymE, .inl (cI, 12, .inl (rEr σ))), (ymO, .inl (cI, 128, .inl ob))] s.heap.size = A at hD ⊢
  have hA : ∀ q : Nat, s.heap.size ≤ q → A q := fun q h => by rw [← hAe]; exact Or.inr h
  have hS : va_S A s.heap s.heap [] := va_S.rf
  have ho := hok.1
  have hk2 := hok.k
  have hp2 : 1 ≤ 2 ^ sF σ := Nat.two_pow_pos _
  have hf26 := hts (.fieldLink RX6 26 "BallCourtModel" "isRepealed" "[Z") (List.mem_of_getElem? (i := 2) (by decide +kernel))
  have hiX6 : ∀ w ∈ wsX60, w ∈ wsX6_turnedKinds := fun w h => List.mem_cons_of_mem _ (List.mem_append_right _ h)
  have hf54 := hts (.fieldLink RX6 54 "BallCourtModel" "before" "[I") (List.mem_of_getElem? (i := 1) (by decide +kernel))
  have hl := lv_entry ([.ref ym, .int (nI q)]) (n := 4) (Nat.le_of_ble_eq_true rfl)
  rw [lg_entry_eq]
  generalize (lg_sl ([.ref ym, .int (nI q)]) ++ List.replicate (4 - (lg_sl ([.ref ym, .int (nI q)])).length) Slot.unset).toArray = ls at hl ⊢
  have hl : lv_has ls 4 [(0, .ref ym), (1, .int (nI q))] := hl
  refine lv_iconst (v := nI 0) hx hb dX6_turnedKinds_0 (by decide) ?_
  refine lv_istore_n (lv' := [(2, .int (nI 0)), (0, .ref ym), (1, .int (nI q))]) hx hb dX6_turnedKinds_1 rfl hl (by decide) rfl (fun ls hl => ?_)
  refine lv_iconst (v := nI 0) hx hb dX6_turnedKinds_2 (by decide) ?_
  refine lv_istore_n (lv' := [(3, .int (nI 0)), (2, .int (nI 0)), (0, .ref ym), (1, .int (nI q))]) hx hb dX6_turnedKinds_3 rfl hl (by decide) rfl (fun ls hl => ?_)
  refine wloopW (α := Nat × (Nat → Int32)) (fun v => 2 ^ sF σ - v.1) (fun v => [(ym, .inr (6, [.int (nI (sF σ)), .ref ymB, .int (nI (sN σ)), .ref ymU, .ref ymV, .ref ymR, .ref ymI, .ref ymE, .int (nI (sM σ)), .ref ymS, .ref ymT, .ref ymD, .int (nI (sC σ)), .ref ymQ, .ref ymP, .ref ymN, .int (nI (sG σ)), .ref ymO, .ref ymY, .ref ymZ, .ref ymX])), (ymB, .inl (cI, 7, .inl (rB σ))), (ymU, .inl (cI, 12, .inl (rMu σ))), (ymV, .inl (cI, 12, .inl (rMn σ))), (ymR, .inl (cI, 12, .inl (rRu σ))), (ymI, .inl (cZ, 12, .inl ir)), (ymE, .inl (cI, 12, .inl (rEr σ))), (ymO, .inl (cI, 128, .inl v.2))]) (fun v => [(0, .ref ym), (1, .int (nI q)), (2, .int (nI 0)), (3, .int (nI v.1))]) (fun v => (v.1 ≤ 2 ^ sF σ) ∧ (∀ j, j < v.1 → v.2 j = bdI σ rp j)) 4 (fun v hv ih4 H locs hP hD hS ls hl => ?_) (0, ob) ⟨(show 0 ≤ 2 ^ sF σ from Nat.zero_le _), (show ∀ j, j < 0 → ob j = bdI σ rp j from fun j hj => absurd hj (Nat.not_lt_zero _))⟩ hP hD hS ls (lv_sub hl [2, 3, 1, 0] rfl)
  obtain ⟨k, r1⟩ := v
  obtain ⟨hk, hv⟩ := hv
  have hk : k ≤ 2 ^ sF σ := hk
  have hv : ∀ j, j < k → r1 j = bdI σ rp j := hv
  have hl : lv_has ls 4 [(0, .ref ym), (1, .int (nI q)), (2, .int (nI 0)), (3, .int (nI k))] := hl
  have hP : va_P D vwCl [(ym, .inr (6, [.int (nI (sF σ)), .ref ymB, .int (nI (sN σ)), .ref ymU, .ref ymV, .ref ymR, .ref ymI, .ref ymE, .int (nI (sM σ)), .ref ymS, .ref ymT, .ref ymD, .int (nI (sC σ)), .ref ymQ, .ref ymP, .ref ymN, .int (nI (sG σ)), .ref ymO, .ref ymY, .ref ymZ, .ref ymX])), (ymB, .inl (cI, 7, .inl (rB σ))), (ymU, .inl (cI, 12, .inl (rMu σ))), (ymV, .inl (cI, 12, .inl (rMn σ))), (ymR, .inl (cI, 12, .inl (rRu σ))), (ymI, .inl (cZ, 12, .inl ir)), (ymE, .inl (cI, 12, .inl (rEr σ))), (ymO, .inl (cI, 128, .inl r1))] H := hP
  have hD : va_D A [(ym, .inr (6, [.int (nI (sF σ)), .ref ymB, .int (nI (sN σ)), .ref ymU, .ref ymV, .ref ymR, .ref ymI, .ref ymE, .int (nI (sM σ)), .ref ymS, .ref ymT, .ref ymD, .int (nI (sC σ)), .ref ymQ, .ref ymP, .ref ymN, .int (nI (sG σ)), .ref ymO, .ref ymY, .ref ymZ, .ref ymX])), (ymB, .inl (cI, 7, .inl (rB σ))), (ymU, .inl (cI, 12, .inl (rMu σ))), (ymV, .inl (cI, 12, .inl (rMn σ))), (ymR, .inl (cI, 12, .inl (rRu σ))), (ymI, .inl (cZ, 12, .inl ir)), (ymE, .inl (cI, 12, .inl (rEr σ))), (ymO, .inl (cI, 128, .inl r1))] := hD
  refine lv_iload_n hx hb dX6_turnedKinds_4 rfl (lv_at hl 3 rfl) ?_
  refine lv_aload_n hx hb dX6_turnedKinds_5 rfl (lv_at hl 0 rfl) ?_
  refine xpV (rest := [.int (nI k)]) ⟨hx, hb, hml, hown, hts⟩ (c_X6_allFacts l D cI cZ ym ymB ymU ymV ymR ymI ymE ymS ymT ymD ymQ ymP ymN ymO ymY ymZ ymX σ hok) (cwV 0 hts gX6_turnedKinds_X6_allFacts rfl rfl rfl (by decide +kernel) ⟨Nat.le_of_ble_eq_true rfl, Nat.le_of_ble_eq_true rfl⟩) hP [0] rfl hK hN (ci := 6) (q0 := 0) rfl rfl rfl hl.1 rfl (Nat.le_of_ble_eq_true rfl) dX6_turnedKinds_6 ⟨Nat.zero_le _, Nat.zero_le _⟩ (fun r6 e6 => ?_)
  subst e6
  refine lv_icmp_gt (tgt := 29) hx hb dX6_turnedKinds_9 (by decide) (fun c9 => ?_) (fun c9 => ?_)
  · skip
    have c9 := (nI_ltI (by omega) (by omega)).mp c9
    refine lv_aload_n hx hb dX6_turnedKinds_29 rfl (lv_at hl 0 rfl) ?_
    refine va_get (D := D) (ci := 6) (v := .ref ymI) (C := RX6) (T := TX6) (N := 21) hx hb hts hiX6 hown hK hP 0 rfl rfl 6 (by decide) hf26 (fun _ h9 => h9) rfl dX6_turnedKinds_30 ?_
    refine lv_iload_n hx hb dX6_turnedKinds_33 rfl (lv_at hl 1 rfl) ?_
    refine wjoin (pcJ := 48) (lv := [(0, .ref ym), (1, .int (nI q)), (2, .int (nI 0)), (3, .int (nI k))]) (nL := 4) (st := [.int (b2 (!bit rp (nI q))), .int (nI q), .ref ymI]) (fun ls hl => ?_) (fun J48 => ?_)
    · skip
      refine xzst (k := q) hx hb hK hP hD hS 5 rfl (nar_b2 _) (by omega) (by decide) dX6_turnedKinds_48 (fun H locs hP hD hS => ?_)
      have hP : va_P D vwCl [(ym, .inr (6, [.int (nI (sF σ)), .ref ymB, .int (nI (sN σ)), .ref ymU, .ref ymV, .ref ymR, .ref ymI, .ref ymE, .int (nI (sM σ)), .ref ymS, .ref ymT, .ref ymD, .int (nI (sC σ)), .ref ymQ, .ref ymP, .ref ymN, .int (nI (sG σ)), .ref ymO, .ref ymY, .ref ymZ, .ref ymX])), (ymB, .inl (cI, 7, .inl (rB σ))), (ymU, .inl (cI, 12, .inl (rMu σ))), (ymV, .inl (cI, 12, .inl (rMn σ))), (ymR, .inl (cI, 12, .inl (rRu σ))), (ymI, .inl (cZ, 12, .inl (upd ir q (b2 (!bit rp (nI q)))))), (ymE, .inl (cI, 12, .inl (rEr σ))), (ymO, .inl (cI, 128, .inl r1))] H := hP
      have hD : va_D A [(ym, .inr (6, [.int (nI (sF σ)), .ref ymB, .int (nI (sN σ)), .ref ymU, .ref ymV, .ref ymR, .ref ymI, .ref ymE, .int (nI (sM σ)), .ref ymS, .ref ymT, .ref ymD, .int (nI (sC σ)), .ref ymQ, .ref ymP, .ref ymN, .int (nI (sG σ)), .ref ymO, .ref ymY, .ref ymZ, .ref ymX])), (ymB, .inl (cI, 7, .inl (rB σ))), (ymU, .inl (cI, 12, .inl (rMu σ))), (ymV, .inl (cI, 12, .inl (rMn σ))), (ymR, .inl (cI, 12, .inl (rRu σ))), (ymI, .inl (cZ, 12, .inl (upd ir q (b2 (!bit rp (nI q)))))), (ymE, .inl (cI, 12, .inl (rEr σ))), (ymO, .inl (cI, 128, .inl r1))] := hD
      have hir2 : ∀ l, l < sN σ → upd ir q (b2 (!bit rp (nI q))) l = b2 (bit (rp ^^^ nI (2 ^ q)) (nI l)) := ir_flip hok hir hq rfl
      refine lv_iconst (v := nI 0) hx hb dX6_turnedKinds_49 (by decide) ?_
      refine lv_istore_n (lv' := [(3, .int (nI 0)), (0, .ref ym), (1, .int (nI q)), (2, .int (nI 0))]) hx hb dX6_turnedKinds_50 rfl hl (by decide) rfl (fun ls hl => ?_)
      refine wloopW (α := Nat × (Nat → Int32)) (fun v => 2 ^ sF σ - v.1) (fun v => [(ym, .inr (6, [.int (nI (sF σ)), .ref ymB, .int (nI (sN σ)), .ref ymU, .ref ymV, .ref ymR, .ref ymI, .ref ymE, .int (nI (sM σ)), .ref ymS, .ref ymT, .ref ymD, .int (nI (sC σ)), .ref ymQ, .ref ymP, .ref ymN, .int (nI (sG σ)), .ref ymO, .ref ymY, .ref ymZ, .ref ymX])), (ymB, .inl (cI, 7, .inl (rB σ))), (ymU, .inl (cI, 12, .inl (rMu σ))), (ymV, .inl (cI, 12, .inl (rMn σ))), (ymR, .inl (cI, 12, .inl (rRu σ))), (ymI, .inl (cZ, 12, .inl (upd ir q (b2 (!bit rp (nI q)))))), (ymE, .inl (cI, 12, .inl (rEr σ))), (ymO, .inl (cI, 128, .inl v.2))]) (fun v => [(0, .ref ym), (1, .int (nI q)), (2, .int (nI (cnt (tkq σ rp (rp ^^^ nI (2 ^ q))) v.1))), (3, .int (nI v.1))]) (fun v => (v.1 ≤ 2 ^ sF σ) ∧ (∀ j, j < v.1 → v.2 j = b2 (difB σ rp (rp ^^^ nI (2 ^ q)) j)) ∧ (∀ j, v.1 ≤ j → j < 2 ^ sF σ → v.2 j = bdI σ rp j)) 4 (fun v hv ih51 H locs hP hD hS ls hl => ?_) (0, r1) ⟨(show 0 ≤ 2 ^ sF σ from Nat.zero_le _), (show ∀ j, j < 0 → r1 j = b2 (difB σ rp (rp ^^^ nI (2 ^ q)) j) from fun j hj => absurd hj (Nat.not_lt_zero _)), (show ∀ j, 0 ≤ j → j < 2 ^ sF σ → r1 j = bdI σ rp j from fun j _ hj => hv j (by omega))⟩ hP hD hS ls (lv_sub hl [1, 2, 3, 0] rfl)
      obtain ⟨k, r2⟩ := v
      obtain ⟨hk, hv2, hw⟩ := hv
      have hk : k ≤ 2 ^ sF σ := hk
      have hv2 : ∀ j, j < k → r2 j = b2 (difB σ rp (rp ^^^ nI (2 ^ q)) j) := hv2
      have hw : ∀ j, k ≤ j → j < 2 ^ sF σ → r2 j = bdI σ rp j := hw
      have hl : lv_has ls 4 [(0, .ref ym), (1, .int (nI q)), (2, .int (nI (cnt (tkq σ rp (rp ^^^ nI (2 ^ q))) k))), (3, .int (nI k))] := hl
      have hP : va_P D vwCl [(ym, .inr (6, [.int (nI (sF σ)), .ref ymB, .int (nI (sN σ)), .ref ymU, .ref ymV, .ref ymR, .ref ymI, .ref ymE, .int (nI (sM σ)), .ref ymS, .ref ymT, .ref ymD, .int (nI (sC σ)), .ref ymQ, .ref ymP, .ref ymN, .int (nI (sG σ)), .ref ymO, .ref ymY, .ref ymZ, .ref ymX])), (ymB, .inl (cI, 7, .inl (rB σ))), (ymU, .inl (cI, 12, .inl (rMu σ))), (ymV, .inl (cI, 12, .inl (rMn σ))), (ymR, .inl (cI, 12, .inl (rRu σ))), (ymI, .inl (cZ, 12, .inl (upd ir q (b2 (!bit rp (nI q)))))), (ymE, .inl (cI, 12, .inl (rEr σ))), (ymO, .inl (cI, 128, .inl r2))] H := hP
      have hD : va_D A [(ym, .inr (6, [.int (nI (sF σ)), .ref ymB, .int (nI (sN σ)), .ref ymU, .ref ymV, .ref ymR, .ref ymI, .ref ymE, .int (nI (sM σ)), .ref ymS, .ref ymT, .ref ymD, .int (nI (sC σ)), .ref ymQ, .ref ymP, .ref ymN, .int (nI (sG σ)), .ref ymO, .ref ymY, .ref ymZ, .ref ymX])), (ymB, .inl (cI, 7, .inl (rB σ))), (ymU, .inl (cI, 12, .inl (rMu σ))), (ymV, .inl (cI, 12, .inl (rMn σ))), (ymR, .inl (cI, 12, .inl (rRu σ))), (ymI, .inl (cZ, 12, .inl (upd ir q (b2 (!bit rp (nI q)))))), (ymE, .inl (cI, 12, .inl (rEr σ))), (ymO, .inl (cI, 128, .inl r2))] := hD
      refine lv_iload_n hx hb dX6_turnedKinds_51 rfl (lv_at hl 3 rfl) ?_
      refine lv_aload_n hx hb dX6_turnedKinds_52 rfl (lv_at hl 0 rfl) ?_
      refine xpV (rest := [.int (nI k)]) ⟨hx, hb, hml, hown, hts⟩ (c_X6_allFacts l D cI cZ ym ymB ymU ymV ymR ymI ymE ymS ymT ymD ymQ ymP ymN ymO ymY ymZ ymX σ hok) (cwV 0 hts gX6_turnedKinds_X6_allFacts rfl rfl rfl (by decide +kernel) ⟨Nat.le_of_ble_eq_true rfl, Nat.le_of_ble_eq_true rfl⟩) hP [0] rfl hK hN (ci := 6) (q0 := 0) rfl rfl rfl hl.1 rfl (Nat.le_of_ble_eq_true rfl) dX6_turnedKinds_53 ⟨Nat.zero_le _, Nat.zero_le _⟩ (fun r53 e53 => ?_)
      subst e53
      refine lv_icmp_gt (tgt := 111) hx hb dX6_turnedKinds_56 (by decide) (fun c56 => ?_) (fun c56 => ?_)
      · skip
        have c56 := (nI_ltI (by omega) (by omega)).mp c56
        refine lv_aload_n hx hb dX6_turnedKinds_111 rfl (lv_at hl 0 rfl) ?_
        refine va_get (D := D) (ci := 6) (v := .ref ymI) (C := RX6) (T := TX6) (N := 21) hx hb hts hiX6 hown hK hP 0 rfl rfl 6 (by decide) hf26 (fun _ h9 => h9) rfl dX6_turnedKinds_112 ?_
        refine lv_iload_n hx hb dX6_turnedKinds_115 rfl (lv_at hl 1 rfl) ?_
        refine wjoin (pcJ := 130) (lv := [(0, .ref ym), (1, .int (nI q)), (2, .int (nI (cnt (tkq σ rp (rp ^^^ nI (2 ^ q))) k))), (3, .int (nI k))]) (nL := 4) (st := [.int (b2 (bit rp (nI q))), .int (nI q), .ref ymI]) (fun ls hl => ?_) (fun J130 => ?_)
        · skip
          refine xzst (k := q) hx hb hK hP hD hS 5 rfl (nar_b2 _) (by omega) (by decide) dX6_turnedKinds_130 (fun H locs hP hD hS => ?_)
          have hP : va_P D vwCl [(ym, .inr (6, [.int (nI (sF σ)), .ref ymB, .int (nI (sN σ)), .ref ymU, .ref ymV, .ref ymR, .ref ymI, .ref ymE, .int (nI (sM σ)), .ref ymS, .ref ymT, .ref ymD, .int (nI (sC σ)), .ref ymQ, .ref ymP, .ref ymN, .int (nI (sG σ)), .ref ymO, .ref ymY, .ref ymZ, .ref ymX])), (ymB, .inl (cI, 7, .inl (rB σ))), (ymU, .inl (cI, 12, .inl (rMu σ))), (ymV, .inl (cI, 12, .inl (rMn σ))), (ymR, .inl (cI, 12, .inl (rRu σ))), (ymI, .inl (cZ, 12, .inl (upd (upd ir q (b2 (!bit rp (nI q)))) q (b2 (bit rp (nI q)))))), (ymE, .inl (cI, 12, .inl (rEr σ))), (ymO, .inl (cI, 128, .inl r2))] H := hP
          have hD : va_D A [(ym, .inr (6, [.int (nI (sF σ)), .ref ymB, .int (nI (sN σ)), .ref ymU, .ref ymV, .ref ymR, .ref ymI, .ref ymE, .int (nI (sM σ)), .ref ymS, .ref ymT, .ref ymD, .int (nI (sC σ)), .ref ymQ, .ref ymP, .ref ymN, .int (nI (sG σ)), .ref ymO, .ref ymY, .ref ymZ, .ref ymX])), (ymB, .inl (cI, 7, .inl (rB σ))), (ymU, .inl (cI, 12, .inl (rMu σ))), (ymV, .inl (cI, 12, .inl (rMn σ))), (ymR, .inl (cI, 12, .inl (rRu σ))), (ymI, .inl (cZ, 12, .inl (upd (upd ir q (b2 (!bit rp (nI q)))) q (b2 (bit rp (nI q)))))), (ymE, .inl (cI, 12, .inl (rEr σ))), (ymO, .inl (cI, 128, .inl r2))] := hD
          refine lv_iload_n hx hb dX6_turnedKinds_131 rfl (lv_at hl 2 rfl) ?_
          have hP9 := hP
          have hD9 := hD
          exact W.iret (v := nI (cnt (tkq σ rp (rp ^^^ nI (2 ^ q))) k)) hx hb hr (fun t ht hW => ⟨⟨nI (cnt (tkq σ rp (rp ^^^ nI (2 ^ q))) k), (upd (upd ir q (b2 (!bit rp (nI q)))) q (b2 (bit rp (nI q))), r2), rfl, ⟨by rw [show k = 2 ^ sF σ by omega]; rfl, ir_two hir, fun j hj => hv2 j (by omega)⟩, ⟨⟨by rw [ht]; exact hP9, va_K.moved hW.alike hK, NW.warm hW hN⟩, hD9⟩⟩, hS.F ht⟩) hS.2.2 dX6_turnedKinds_132
        · skip
          refine lv_aload_n hx hb dX6_turnedKinds_116 rfl (lv_at hl 0 rfl) ?_
          refine va_get (D := D) (ci := 6) (v := .ref ymI) (C := RX6) (T := TX6) (N := 21) hx hb hts hiX6 hown hK hP 0 rfl rfl 6 (by decide) hf26 (fun _ h9 => h9) rfl dX6_turnedKinds_117 ?_
          refine lv_iload_n hx hb dX6_turnedKinds_120 rfl (lv_at hl 1 rfl) ?_
          refine xzld (k := q) hx hb hK hP 5 rfl (by omega) (by decide) dX6_turnedKinds_121 ?_
          refine lv_asi (show (upd ir q (b2 (!bit rp (nI q)))) q = b2 (!bit rp (nI q)) from by rw [pk_us]) ?_
          refine lv_if_ne (tgt := 129) hx hb dX6_turnedKinds_122 (by decide) (fun c122 => ?_) (fun c122 => ?_)
          · skip
            have c122 := b2_1 c122
            refine lv_iconst (v := 0) hx hb dX6_turnedKinds_129 (by decide) ?_
            refine lv_asi (show (0 : Int32) = b2 (bit rp (nI q)) from b2_f (by simpa using c122)) ?_
            exact J130 ls (lv_sub hl [0, 1, 2, 3] rfl)
          · skip
            have c122 := b2_0 c122
            refine lv_iconst (v := 1) hx hb dX6_turnedKinds_125 (by decide) ?_
            refine lv_goto (tgt := 130) hx hb dX6_turnedKinds_126 (by decide) ?_
            refine lv_asi (show (1 : Int32) = b2 (bit rp (nI q)) from b2_t (by simpa using c122)) ?_
            exact J130 ls (lv_sub hl [0, 1, 2, 3] rfl)
      · skip
        have c56 := Nat.le_of_not_lt (mt (nI_ltI (by omega) (by omega)).mpr c56)
        have c56 : k < 2 ^ sF σ := by omega
        refine lv_aload_n hx hb dX6_turnedKinds_59 rfl (lv_at hl 0 rfl) ?_
        refine va_get (D := D) (ci := 6) (v := .ref ymO) (C := RX6) (T := TX6) (N := 21) hx hb hts hiX6 hown hK hP 0 rfl rfl 17 (by decide) hf54 (fun _ h9 => h9) rfl dX6_turnedKinds_60 ?_
        refine lv_iload_n hx hb dX6_turnedKinds_63 rfl (lv_at hl 3 rfl) ?_
        refine wjoin (pcJ := 83) (lv := [(0, .ref ym), (1, .int (nI q)), (2, .int (nI (cnt (tkq σ rp (rp ^^^ nI (2 ^ q))) k))), (3, .int (nI k))]) (nL := 4) (st := [.int (b2 (difB σ rp (rp ^^^ nI (2 ^ q)) k)), .int (nI k), .ref ymO]) (fun ls hl => ?_) (fun J83 => ?_)
        · skip
          refine xast (k := k) hx hb hK hP hD hS 7 rfl (by omega) (by decide) dX6_turnedKinds_83 (fun H locs hP hD hS => ?_)
          have hP : va_P D vwCl [(ym, .inr (6, [.int (nI (sF σ)), .ref ymB, .int (nI (sN σ)), .ref ymU, .ref ymV, .ref ymR, .ref ymI, .ref ymE, .int (nI (sM σ)), .ref ymS, .ref ymT, .ref ymD, .int (nI (sC σ)), .ref ymQ, .ref ymP, .ref ymN, .int (nI (sG σ)), .ref ymO, .ref ymY, .ref ymZ, .ref ymX])), (ymB, .inl (cI, 7, .inl (rB σ))), (ymU, .inl (cI, 12, .inl (rMu σ))), (ymV, .inl (cI, 12, .inl (rMn σ))), (ymR, .inl (cI, 12, .inl (rRu σ))), (ymI, .inl (cZ, 12, .inl (upd ir q (b2 (!bit rp (nI q)))))), (ymE, .inl (cI, 12, .inl (rEr σ))), (ymO, .inl (cI, 128, .inl (upd r2 k (b2 (difB σ rp (rp ^^^ nI (2 ^ q)) k)))))] H := hP
          have hD : va_D A [(ym, .inr (6, [.int (nI (sF σ)), .ref ymB, .int (nI (sN σ)), .ref ymU, .ref ymV, .ref ymR, .ref ymI, .ref ymE, .int (nI (sM σ)), .ref ymS, .ref ymT, .ref ymD, .int (nI (sC σ)), .ref ymQ, .ref ymP, .ref ymN, .int (nI (sG σ)), .ref ymO, .ref ymY, .ref ymZ, .ref ymX])), (ymB, .inl (cI, 7, .inl (rB σ))), (ymU, .inl (cI, 12, .inl (rMu σ))), (ymV, .inl (cI, 12, .inl (rMn σ))), (ymR, .inl (cI, 12, .inl (rRu σ))), (ymI, .inl (cZ, 12, .inl (upd ir q (b2 (!bit rp (nI q)))))), (ymE, .inl (cI, 12, .inl (rEr σ))), (ymO, .inl (cI, 128, .inl (upd r2 k (b2 (difB σ rp (rp ^^^ nI (2 ^ q)) k)))))] := hD
          refine lv_iload_n hx hb dX6_turnedKinds_84 rfl (lv_at hl 2 rfl) ?_
          refine wjoin (pcJ := 103) (lv := [(0, .ref ym), (1, .int (nI q)), (2, .int (nI (cnt (tkq σ rp (rp ^^^ nI (2 ^ q))) k))), (3, .int (nI k))]) (nL := 4) (st := [.int (b2 (tkq σ rp (rp ^^^ nI (2 ^ q)) k)), .int (nI (cnt (tkq σ rp (rp ^^^ nI (2 ^ q))) k))]) (fun ls hl => ?_) (fun J103 => ?_)
          · skip
            refine lv_iadd hx hb dX6_turnedKinds_103 ?_
            refine lv_asi (show (nI (cnt (tkq σ rp (rp ^^^ nI (2 ^ q))) k)) + (b2 (tkq σ rp (rp ^^^ nI (2 ^ q)) k)) = nI (cnt (tkq σ rp (rp ^^^ nI (2 ^ q))) (k + 1)) from cnt_b2 _ _) ?_
            refine lv_istore_n (lv' := [(2, .int (nI (cnt (tkq σ rp (rp ^^^ nI (2 ^ q))) (k + 1)))), (0, .ref ym), (1, .int (nI q)), (3, .int (nI k))]) hx hb dX6_turnedKinds_104 rfl hl (by decide) rfl (fun ls hl => ?_)
            refine lv_iinc (k := 3) (x := nI k) (v := nI (k + 1)) (lv' := [(3, .int (nI (k + 1))), (2, .int (nI (cnt (tkq σ rp (rp ^^^ nI (2 ^ q))) (k + 1)))), (0, .ref ym), (1, .int (nI q))]) hx hb dX6_turnedKinds_105 hl rfl (show (nI k) + Int32.ofInt 1 = nI (k + 1) from nI_1 _) (by decide) rfl (fun ls hl => ?_)
            refine lv_goto (tgt := 51) hx hb dX6_turnedKinds_108 (by decide) ?_
            exact ih51 (k + 1, upd r2 k (b2 (difB σ rp (rp ^^^ nI (2 ^ q)) k))) ⟨(show (k + 1) ≤ 2 ^ sF σ from (by omega)), (show ∀ j, j < (k + 1) → (upd r2 k (b2 (difB σ rp (rp ^^^ nI (2 ^ q)) k))) j = b2 (difB σ rp (rp ^^^ nI (2 ^ q)) j) from lt_s (fun j hj => by rw [pk_un (by omega)]; exact hv2 j hj) (by rw [pk_us])), (show ∀ j, (k + 1) ≤ j → j < 2 ^ sF σ → (upd r2 k (b2 (difB σ rp (rp ^^^ nI (2 ^ q)) k))) j = bdI σ rp j from fun j hj hj2 => by rw [pk_un (by omega)]; exact hw j (by omega) hj2)⟩ (by show 2 ^ sF σ - (k + 1) < 2 ^ sF σ - k; omega) _ _ hP hD hS ls (lv_sub hl [2, 3, 1, 0] rfl)
          · skip
            refine lv_aload_n hx hb dX6_turnedKinds_85 rfl (lv_at hl 0 rfl) ?_
            refine lv_iload_n hx hb dX6_turnedKinds_86 rfl (lv_at hl 3 rfl) ?_
            refine xpV (rest := [.int (nI (cnt (tkq σ rp (rp ^^^ nI (2 ^ q))) k))]) ⟨hx, hb, hml, hown, hts⟩ (c_X6_isKind l D cI cZ ym ymB ymU ymV ymR ymI ymE ymS ymT ymD ymQ ymP ymN ymO ymY ymZ ymX σ (nI k) hok) (cwV 1 hts gX6_turnedKinds_X6_isKind rfl rfl rfl (by decide +kernel) ⟨Nat.le_of_ble_eq_true rfl, Nat.le_of_ble_eq_true rfl⟩) hP [0, 1] rfl hK hN (ci := 6) (q0 := 0) rfl rfl rfl hl.1 rfl (Nat.le_of_ble_eq_true rfl) dX6_turnedKinds_87 ⟨Nat.zero_le _, Nat.zero_le _⟩ (fun r87 e87 => ?_)
            subst e87
            refine lv_asi (show b2 (kin σ (nI k)) = b2 (kok σ k) from congrArg b2 (kin_nI c56 (by omega))) ?_
            refine lv_if_eq (tgt := 102) hx hb dX6_turnedKinds_90 (by decide) (fun c90 => ?_) (fun c90 => ?_)
            · skip
              have c90 := b2_0 c90
              refine lv_iconst (v := 0) hx hb dX6_turnedKinds_102 (by decide) ?_
              refine lv_asi (show (0 : Int32) = b2 (tkq σ rp (rp ^^^ nI (2 ^ q)) k) from b2_f (by rw [tkq, c90]; rfl)) ?_
              exact J103 ls (lv_sub hl [0, 1, 2, 3] rfl)
            · skip
              have c90 := b2_1 c90
              refine lv_aload_n hx hb dX6_turnedKinds_93 rfl (lv_at hl 0 rfl) ?_
              refine va_get (D := D) (ci := 6) (v := .ref ymO) (C := RX6) (T := TX6) (N := 21) hx hb hts hiX6 hown hK hP 0 rfl rfl 17 (by decide) hf54 (fun _ h9 => h9) rfl dX6_turnedKinds_94 ?_
              refine lv_iload_n hx hb dX6_turnedKinds_97 rfl (lv_at hl 3 rfl) ?_
              refine xald (k := k) hx hb hK hP 7 rfl (by omega) (by decide) dX6_turnedKinds_98 ?_
              refine lv_goto (tgt := 103) hx hb dX6_turnedKinds_99 (by decide) ?_
              refine lv_asi (show ((upd r2 k (b2 (difB σ rp (rp ^^^ nI (2 ^ q)) k))) k : Int32) = b2 (tkq σ rp (rp ^^^ nI (2 ^ q)) k) from by rw [pk_us, tkq, c90]; rfl) ?_
              exact J103 ls (lv_sub hl [0, 1, 2, 3] rfl)
        · skip
          refine lv_aload_n hx hb dX6_turnedKinds_64 rfl (lv_at hl 0 rfl) ?_
          refine va_get (D := D) (ci := 6) (v := .ref ymO) (C := RX6) (T := TX6) (N := 21) hx hb hts hiX6 hown hK hP 0 rfl rfl 17 (by decide) hf54 (fun _ h9 => h9) rfl dX6_turnedKinds_65 ?_
          refine lv_iload_n hx hb dX6_turnedKinds_68 rfl (lv_at hl 3 rfl) ?_
          refine xald (k := k) hx hb hK hP 7 rfl (by omega) (by decide) dX6_turnedKinds_69 ?_
          refine lv_asi (show r2 k = bdI σ rp k from hw k (Nat.le_refl _) c56) ?_
          refine lv_aload_n hx hb dX6_turnedKinds_70 rfl (lv_at hl 0 rfl) ?_
          refine lv_iload_n hx hb dX6_turnedKinds_71 rfl (lv_at hl 3 rfl) ?_
          refine xpV (rest := [.int (bdI σ rp k), .int (nI k), .ref ymO]) ⟨hx, hb, hml, hown, hts⟩ (c_X6_bound l D cI cZ ym ymB ymU ymV ymR ymI ymE ymS ymT ymD ymQ ymP ymN ymO ymY ymZ ymX σ (upd ir q (b2 (!bit rp (nI q)))) (rp ^^^ nI (2 ^ q)) k hok hir2) (cwV 1 hts gX6_turnedKinds_X6_bound rfl rfl rfl (by decide +kernel) ⟨Nat.le_of_ble_eq_true rfl, Nat.le_of_ble_eq_true rfl⟩) hP [0, 2, 3, 4, 5, 6] rfl hK hN (ci := 6) (q0 := 0) rfl rfl rfl hl.1 rfl (Nat.le_of_ble_eq_true rfl) dX6_turnedKinds_72 ⟨Nat.zero_le _, Nat.zero_le _⟩ (fun r72 e72 => ?_)
          subst e72
          refine lv_icmp_eq (tgt := 82) hx hb dX6_turnedKinds_75 (by decide) (fun c75 => ?_) (fun c75 => ?_)
          · skip
            have c75 := (bdI_eq hok _ _ _).mp c75
            refine lv_iconst (v := 0) hx hb dX6_turnedKinds_82 (by decide) ?_
            refine lv_asi (show (0 : Int32) = b2 (difB σ rp (rp ^^^ nI (2 ^ q)) k) from by rw [c75]; rfl) ?_
            exact J83 ls (lv_sub hl [0, 1, 2, 3] rfl)
          · skip
            have c75 := nt (mt (bdI_eq hok _ _ _).mpr c75)
            refine lv_iconst (v := 1) hx hb dX6_turnedKinds_78 (by decide) ?_
            refine lv_goto (tgt := 83) hx hb dX6_turnedKinds_79 (by decide) ?_
            refine lv_asi (show (1 : Int32) = b2 (difB σ rp (rp ^^^ nI (2 ^ q)) k) from by rw [c75]; rfl) ?_
            exact J83 ls (lv_sub hl [0, 1, 2, 3] rfl)
    · skip
      refine lv_aload_n hx hb dX6_turnedKinds_34 rfl (lv_at hl 0 rfl) ?_
      refine va_get (D := D) (ci := 6) (v := .ref ymI) (C := RX6) (T := TX6) (N := 21) hx hb hts hiX6 hown hK hP 0 rfl rfl 6 (by decide) hf26 (fun _ h9 => h9) rfl dX6_turnedKinds_35 ?_
      refine lv_iload_n hx hb dX6_turnedKinds_38 rfl (lv_at hl 1 rfl) ?_
      refine xzld (k := q) hx hb hK hP 5 rfl (by omega) (by decide) dX6_turnedKinds_39 ?_
      refine lv_asi (show ir q = b2 (bit rp (nI q)) from hir q hq) ?_
      refine lv_if_ne (tgt := 47) hx hb dX6_turnedKinds_40 (by decide) (fun c40 => ?_) (fun c40 => ?_)
      · skip
        have c40 := b2_1 c40
        refine lv_iconst (v := 0) hx hb dX6_turnedKinds_47 (by decide) ?_
        refine lv_asi (show (0 : Int32) = b2 (!bit rp (nI q)) from by rw [c40]; rfl) ?_
        exact J48 ls (lv_sub hl [0, 1, 2, 3] rfl)
      · skip
        have c40 := b2_0 c40
        refine lv_iconst (v := 1) hx hb dX6_turnedKinds_43 (by decide) ?_
        refine lv_goto (tgt := 48) hx hb dX6_turnedKinds_44 (by decide) ?_
        refine lv_asi (show (1 : Int32) = b2 (!bit rp (nI q)) from by rw [c40]; rfl) ?_
        exact J48 ls (lv_sub hl [0, 1, 2, 3] rfl)
  · skip
    have c9 := Nat.le_of_not_lt (mt (nI_ltI (by omega) (by omega)).mpr c9)
    have c9 : k < 2 ^ sF σ := by omega
    refine lv_aload_n hx hb dX6_turnedKinds_12 rfl (lv_at hl 0 rfl) ?_
    refine va_get (D := D) (ci := 6) (v := .ref ymO) (C := RX6) (T := TX6) (N := 21) hx hb hts hiX6 hown hK hP 0 rfl rfl 17 (by decide) hf54 (fun _ h9 => h9) rfl dX6_turnedKinds_13 ?_
    refine lv_iload_n hx hb dX6_turnedKinds_16 rfl (lv_at hl 3 rfl) ?_
    refine lv_aload_n hx hb dX6_turnedKinds_17 rfl (lv_at hl 0 rfl) ?_
    refine lv_iload_n hx hb dX6_turnedKinds_18 rfl (lv_at hl 3 rfl) ?_
    refine xpV (rest := [.int (nI k), .ref ymO]) ⟨hx, hb, hml, hown, hts⟩ (c_X6_bound l D cI cZ ym ymB ymU ymV ymR ymI ymE ymS ymT ymD ymQ ymP ymN ymO ymY ymZ ymX σ ir rp k hok hir) (cwV 1 hts gX6_turnedKinds_X6_bound rfl rfl rfl (by decide +kernel) ⟨Nat.le_of_ble_eq_true rfl, Nat.le_of_ble_eq_true rfl⟩) hP [0, 2, 3, 4, 5, 6] rfl hK hN (ci := 6) (q0 := 0) rfl rfl rfl hl.1 rfl (Nat.le_of_ble_eq_true rfl) dX6_turnedKinds_19 ⟨Nat.zero_le _, Nat.zero_le _⟩ (fun r19 e19 => ?_)
    subst e19
    refine xast (k := k) hx hb hK hP hD hS 7 rfl (by omega) (by decide) dX6_turnedKinds_22 (fun H locs hP hD hS => ?_)
    have hP : va_P D vwCl [(ym, .inr (6, [.int (nI (sF σ)), .ref ymB, .int (nI (sN σ)), .ref ymU, .ref ymV, .ref ymR, .ref ymI, .ref ymE, .int (nI (sM σ)), .ref ymS, .ref ymT, .ref ymD, .int (nI (sC σ)), .ref ymQ, .ref ymP, .ref ymN, .int (nI (sG σ)), .ref ymO, .ref ymY, .ref ymZ, .ref ymX])), (ymB, .inl (cI, 7, .inl (rB σ))), (ymU, .inl (cI, 12, .inl (rMu σ))), (ymV, .inl (cI, 12, .inl (rMn σ))), (ymR, .inl (cI, 12, .inl (rRu σ))), (ymI, .inl (cZ, 12, .inl ir)), (ymE, .inl (cI, 12, .inl (rEr σ))), (ymO, .inl (cI, 128, .inl (upd r1 k (bdI σ rp k))))] H := hP
    have hD : va_D A [(ym, .inr (6, [.int (nI (sF σ)), .ref ymB, .int (nI (sN σ)), .ref ymU, .ref ymV, .ref ymR, .ref ymI, .ref ymE, .int (nI (sM σ)), .ref ymS, .ref ymT, .ref ymD, .int (nI (sC σ)), .ref ymQ, .ref ymP, .ref ymN, .int (nI (sG σ)), .ref ymO, .ref ymY, .ref ymZ, .ref ymX])), (ymB, .inl (cI, 7, .inl (rB σ))), (ymU, .inl (cI, 12, .inl (rMu σ))), (ymV, .inl (cI, 12, .inl (rMn σ))), (ymR, .inl (cI, 12, .inl (rRu σ))), (ymI, .inl (cZ, 12, .inl ir)), (ymE, .inl (cI, 12, .inl (rEr σ))), (ymO, .inl (cI, 128, .inl (upd r1 k (bdI σ rp k))))] := hD
    refine lv_iinc (k := 3) (x := nI k) (v := nI (k + 1)) (lv' := [(3, .int (nI (k + 1))), (0, .ref ym), (1, .int (nI q)), (2, .int (nI 0))]) hx hb dX6_turnedKinds_23 hl rfl (show (nI k) + Int32.ofInt 1 = nI (k + 1) from nI_1 _) (by decide) rfl (fun ls hl => ?_)
    refine lv_goto (tgt := 4) hx hb dX6_turnedKinds_26 (by decide) ?_
    exact ih4 (k + 1, upd r1 k (bdI σ rp k)) ⟨(show (k + 1) ≤ 2 ^ sF σ from (by omega)), (show ∀ j, j < (k + 1) → (upd r1 k (bdI σ rp k)) j = bdI σ rp j from lt_s (fun j hj => by rw [pk_un (by omega)]; exact hv j hj) (by rw [pk_us]))⟩ (by show 2 ^ sF σ - (k + 1) < 2 ^ sF σ - k; omega) _ _ hP hD hS ls (lv_sub hl [1, 2, 3, 0] rfl)

set_option maxHeartbeats 4000000 in
set_option maxRecDepth 100000 in
theorem c_X6_idle (l : Launch) (D : va_G) (cI cZ : ClassId) (sz : Nat) (ym : Nat) (ymB : Nat) (ymU : Nat) (ymV : Nat) (ymR : Nat) (ymI : Nat) (ymE : Nat) (ymS : Nat) (ymT : Nat) (ymD : Nat) (ymQ : Nat) (ymP : Nat) (ymN : Nat) (ymO : Nat) (ymY : Nat) (ymZ : Nat) (ymX : Nat) (σ : ST) (ir : Nat → Int32) (ob : Nat → Int32) (x : Int32) (hok : Ok σ) (hir : ∀ l, l < sN σ → ir l = b2 (bit (sR σ) (nI l))) : Met l yX6_idle wsX6_idle ({ frames := 5, cells := 0, slots := 0, locals := 114 }) (va_Pc [.ref ym, .int x] (XW D cI cZ [(ym, .inr (6, [.int (nI (sF σ)), .ref ymB, .int (nI (sN σ)), .ref ymU, .ref ymV, .ref ymR, .ref ymI, .ref ymE, .int (nI (sM σ)), .ref ymS, .ref ymT, .ref ymD, .int (nI (sC σ)), .ref ymQ, .ref ymP, .ref ymN, .int (nI (sG σ)), .ref ymO, .ref ymY, .ref ymZ, .ref ymX])), (ymB, .inl (cI, 7, .inl (rB σ))), (ymU, .inl (cI, 12, .inl (rMu σ))), (ymV, .inl (cI, 12, .inl (rMn σ))), (ymR, .inl (cI, 12, .inl (rRu σ))), (ymI, .inl (cZ, 12, .inl ir)), (ymE, .inl (cI, 12, .inl (rEr σ))), (ymO, .inl (cI, 128, .inl ob))] sz)) (va_Qi (fun (r : Int32) (u : (Nat → Int32) × (Nat → Int32)) => r = oIdle σ x ∧ ∀ l, l < sN (σ) → u.1 l = b2 (bit (sR (σ)) (nI l))) (fun u => XB D cI cZ (va_A [(ym, .inr (6, [.int (nI (sF σ)), .ref ymB, .int (nI (sN σ)), .ref ymU, .ref ymV, .ref ymR, .ref ymI, .ref ymE, .int (nI (sM σ)), .ref ymS, .ref ymT, .ref ymD, .int (nI (sC σ)), .ref ymQ, .ref ymP, .ref ymN, .int (nI (sG σ)), .ref ymO, .ref ymY, .ref ymZ, .ref ymX])), (ymB, .inl (cI, 7, .inl (rB σ))), (ymU, .inl (cI, 12, .inl (rMu σ))), (ymV, .inl (cI, 12, .inl (rMn σ))), (ymR, .inl (cI, 12, .inl (rRu σ))), (ymI, .inl (cZ, 12, .inl ir)), (ymE, .inl (cI, 12, .inl (rEr σ))), (ymO, .inl (cI, 128, .inl ob))] sz) [(ym, .inr (6, [.int (nI (sF σ)), .ref ymB, .int (nI (sN σ)), .ref ymU, .ref ymV, .ref ymR, .ref ymI, .ref ymE, .int (nI (sM σ)), .ref ymS, .ref ymT, .ref ymD, .int (nI (sC σ)), .ref ymQ, .ref ymP, .ref ymN, .int (nI (sG σ)), .ref ymO, .ref ymY, .ref ymZ, .ref ymX])), (ymB, .inl (cI, 7, .inl (rB σ))), (ymU, .inl (cI, 12, .inl (rMu σ))), (ymV, .inl (cI, 12, .inl (rMn σ))), (ymR, .inl (cI, 12, .inl (rRu σ))), (ymI, .inl (cZ, 12, .inl u.1)), (ymE, .inl (cI, 12, .inl (rEr σ))), (ymO, .inl (cI, 128, .inl u.2))]) (va_A [(ym, .inr (6, [.int (nI (sF σ)), .ref ymB, .int (nI (sN σ)), .ref ymU, .ref ymV, .ref ymR, .ref ymI, .ref ymE, .int (nI (sM σ)), .ref ymS, .ref ymT, .ref ymD, .int (nI (sC σ)), .ref ymQ, .ref ymP, .ref ymN, .int (nI (sG σ)), .ref ymO, .ref ymY, .ref ymZ, .ref ymX])), (ymB, .inl (cI, 7, .inl (rB σ))), (ymU, .inl (cI, 12, .inl (rMu σ))), (ymV, .inl (cI, 12, .inl (rMn σ))), (ymR, .inl (cI, 12, .inl (rRu σ))), (ymI, .inl (cZ, 12, .inl ir)), (ymE, .inl (cI, 12, .inl (rEr σ))), (ymO, .inl (cI, 128, .inl ob))] sz)) 0 0 (va_A [(ym, .inr (6, [.int (nI (sF σ)), .ref ymB, .int (nI (sN σ)), .ref ymU, .ref ymV, .ref ymR, .ref ymI, .ref ymE, .int (nI (sM σ)), .ref ymS, .ref ymT, .ref ymD, .int (nI (sC σ)), .ref ymQ, .ref ymP, .ref ymN, .int (nI (sG σ)), .ref ymO, .ref ymY, .ref ymZ, .ref ymX])), (ymB, .inl (cI, 7, .inl (rB σ))), (ymU, .inl (cI, 12, .inl (rMu σ))), (ymV, .inl (cI, 12, .inl (rMn σ))), (ymR, .inl (cI, 12, .inl (rRu σ))), (ymI, .inl (cZ, 12, .inl ir)), (ymE, .inl (cI, 12, .inl (rEr σ))), (ymO, .inl (cI, 128, .inl ob))] sz) := by
  refine Met.ofW (cc := cX6_idle) (maxL := 2) (ret := (some .int)) (by decide) rfl ?_
  intro p e s m args below meth c s₁ B hml hv
  obtain ⟨rfl, hsz, ⟨hP, hK, hN⟩, hD0⟩ := hv
  have hx := B.exec
  have hb := B.bytes
  have hr := B.returns
  have hts := atoms_spec (ws := wsX6_idle) B.pre
  have hown : s.vm.findClass RX6 = some m.cls := findClass_of_methodNamed B.named
  have hlocks := B.notSynchronized
  subst hsz
  have hD := hD0.self (sz := s.heap.size)
  generalize hAe : va_A [(ym, .inr (6, [.int (nI (sF σ)), .ref ymB, .int (nI (sN σ)), .ref ymU, .ref ymV, .ref ymR, .ref ymI, .ref ymE, .int (nI (sM σ)), .ref ymS, .ref ymT, .ref ymD, .int (nI (sC σ)), .ref ymQ, .ref ymP, .ref ymN, .int (nI (sG σ)), .ref ymO, .ref ymY, .ref ymZ, .ref ymX])), (ymB, .inl (cI, 7, .inl (rB σ))), (ymU, .inl (cI, 12, .inl (rMu σ))), (ymV, .inl (cI, 12, .inl (rMn σ))), (ymR, .inl (cI, 12, .inl (rRu σ))), (ymI, .inl (cZ, 12, .inl ir)), (ymE, .inl (cI, 12, .inl (rEr σ))), (ymO, .inl (cI, 128, .inl ob))] s.heap.size = A at hD ⊢
  have hA : ∀ q : Nat, s.heap.size ≤ q → A q := fun q h => by rw [← hAe]; exact Or.inr h
  have hS : va_S A s.heap s.heap [] := va_S.rf
  have ho := hok.1
  have hk2 := hok.k
  have hp2 : 1 ≤ 2 ^ sF σ := Nat.two_pow_pos _
  have hl := lv_entry ([.ref ym, .int x]) (n := 2) (Nat.le_of_ble_eq_true rfl)
  rw [lg_entry_eq]
  generalize (lg_sl ([.ref ym, .int x]) ++ List.replicate (2 - (lg_sl ([.ref ym, .int x])).length) Slot.unset).toArray = ls at hl ⊢
  have hl : lv_has ls 2 [(0, .ref ym), (1, .int x)] := hl
  refine lv_aload_n hx hb dX6_idle_0 rfl (lv_at hl 0 rfl) ?_
  refine lv_iload_n hx hb dX6_idle_1 rfl (lv_at hl 1 rfl) ?_
  refine xpV (rest := []) ⟨hx, hb, hml, hown, hts⟩ (c_X6_isLine l D cI cZ ym ymB ymU ymV ymR ymI ymE ymS ymT ymD ymQ ymP ymN ymO ymY ymZ ymX σ x hok) (cwV 1 hts gX6_idle_X6_isLine rfl rfl rfl (by decide +kernel) ⟨Nat.le_of_ble_eq_true rfl, Nat.le_of_ble_eq_true rfl⟩) hP [0] rfl hK hN (ci := 6) (q0 := 0) rfl rfl rfl hl.1 rfl (Nat.le_of_ble_eq_true rfl) dX6_idle_2 ⟨Nat.zero_le _, Nat.zero_le _⟩ (fun r2 e2 => ?_)
  subst e2
  refine lv_if_ne (tgt := 12) hx hb dX6_idle_5 (by decide) (fun c5 => ?_) (fun c5 => ?_)
  · skip
    have c5 := b2_1 c5
    obtain ⟨q, hq, rfl⟩ := inN_t c5 (by omega)
    have kq := clp hq (show sN σ ≤ 128 by omega)
    refine lv_aload_n hx hb dX6_idle_12 rfl (lv_at hl 0 rfl) ?_
    refine lv_iload_n hx hb dX6_idle_13 rfl (lv_at hl 1 rfl) ?_
    refine xwV (rest := []) (wr := []) ⟨hx, hb, hml, hown, hts⟩ (c_X6_turnedKinds l D cI cZ s.heap.size ym ymB ymU ymV ymR ymI ymE ymS ymT ymD ymQ ymP ymN ymO ymY ymZ ymX σ ir ob (sR σ) q hok hq hir) (cwV 1 hts gX6_idle_X6_turnedKinds rfl rfl rfl (by decide +kernel) ⟨Nat.le_of_ble_eq_true rfl, Nat.le_of_ble_eq_true rfl⟩) hP hD hS hA [0, 1, 2, 3, 4, 5, 6, 7] [] rfl rfl (by decide) (by decide) (by decide) hK hN (ci := 6) (q0 := 0) rfl rfl rfl hl.1 rfl (Nat.le_of_ble_eq_true rfl) dX6_idle_14 ⟨Nat.zero_le _, Nat.zero_le _⟩ (fun r14 u14 H locs e14 hP hD hS => ?_)
    obtain ⟨ir2, ob2⟩ := u14
    have hP : va_P D vwCl [(ym, .inr (6, [.int (nI (sF σ)), .ref ymB, .int (nI (sN σ)), .ref ymU, .ref ymV, .ref ymR, .ref ymI, .ref ymE, .int (nI (sM σ)), .ref ymS, .ref ymT, .ref ymD, .int (nI (sC σ)), .ref ymQ, .ref ymP, .ref ymN, .int (nI (sG σ)), .ref ymO, .ref ymY, .ref ymZ, .ref ymX])), (ymB, .inl (cI, 7, .inl (rB σ))), (ymU, .inl (cI, 12, .inl (rMu σ))), (ymV, .inl (cI, 12, .inl (rMn σ))), (ymR, .inl (cI, 12, .inl (rRu σ))), (ymI, .inl (cZ, 12, .inl ir2)), (ymE, .inl (cI, 12, .inl (rEr σ))), (ymO, .inl (cI, 128, .inl ob2))] H := hP
    have hD : va_D A [(ym, .inr (6, [.int (nI (sF σ)), .ref ymB, .int (nI (sN σ)), .ref ymU, .ref ymV, .ref ymR, .ref ymI, .ref ymE, .int (nI (sM σ)), .ref ymS, .ref ymT, .ref ymD, .int (nI (sC σ)), .ref ymQ, .ref ymP, .ref ymN, .int (nI (sG σ)), .ref ymO, .ref ymY, .ref ymZ, .ref ymX])), (ymB, .inl (cI, 7, .inl (rB σ))), (ymU, .inl (cI, 12, .inl (rMu σ))), (ymV, .inl (cI, 12, .inl (rMn σ))), (ymR, .inl (cI, 12, .inl (rRu σ))), (ymI, .inl (cZ, 12, .inl ir2)), (ymE, .inl (cI, 12, .inl (rEr σ))), (ymO, .inl (cI, 128, .inl ob2))] := hD
    obtain ⟨rfl, hir2, hob2⟩ := e14
    refine lv_if_ne (tgt := 24) hx hb dX6_idle_17 (by decide) (fun c17 => ?_) (fun c17 => ?_)
    · skip
      have c17 : ¬ tkN σ (sR σ) (sR σ ^^^ nI (2 ^ q)) = 0 := fun z => c17 (by rw [z]; rfl)
      refine lv_iconst (v := 0) hx hb dX6_idle_24 (by decide) ?_
      have hP9 := hP
      have hD9 := hD
      exact W.iret (v := 0) hx hb hr (fun t ht hW => ⟨⟨0, (ir2, ob2), rfl, ⟨by rw [oIdle, if_neg (by rw [c5]; decide), flS, kq, decide_eq_false c17] <;> rfl, hir2⟩, ⟨⟨by rw [ht]; exact hP9, va_K.moved hW.alike hK, NW.warm hW hN⟩, hD9⟩⟩, hS.F ht⟩) hS.2.2 dX6_idle_25
    · skip
      have c17 : tkN σ (sR σ) (sR σ ^^^ nI (2 ^ q)) = 0 := (nI_eq (by have := tkN_le hok (sR σ) (sR σ ^^^ nI (2 ^ q)); omega) (by omega)).mp c17
      refine lv_iconst (v := 1) hx hb dX6_idle_20 (by decide) ?_
      refine lv_goto (tgt := 25) hx hb dX6_idle_21 (by decide) ?_
      have hP9 := hP
      have hD9 := hD
      exact W.iret (v := 1) hx hb hr (fun t ht hW => ⟨⟨1, (ir2, ob2), rfl, ⟨by rw [oIdle, if_neg (by rw [c5]; decide), flS, kq, decide_eq_true c17] <;> rfl, hir2⟩, ⟨⟨by rw [ht]; exact hP9, va_K.moved hW.alike hK, NW.warm hW hN⟩, hD9⟩⟩, hS.F ht⟩) hS.2.2 dX6_idle_25
  · skip
    have c5 := b2_0 c5
    refine lv_iconst (v := (-1)) hx hb dX6_idle_8 (by decide) ?_
    refine lv_goto (tgt := 25) hx hb dX6_idle_9 (by decide) ?_
    have hP9 := hP
    have hD9 := hD
    exact W.iret (v := (-1)) hx hb hr (fun t ht hW => ⟨⟨(-1), (ir, ob), rfl, ⟨by rw [oIdle, if_pos c5], hir⟩, ⟨⟨by rw [ht]; exact hP9, va_K.moved hW.alike hK, NW.warm hW hN⟩, hD9⟩⟩, hS.F ht⟩) hS.2.2 dX6_idle_25

set_option maxHeartbeats 4000000 in
set_option maxRecDepth 100000 in
theorem c_X6_moment (l : Launch) (D : va_G) (cI cZ : ClassId) (sz : Nat) (ym : Nat) (ymB : Nat) (ymU : Nat) (ymV : Nat) (ymR : Nat) (ymI : Nat) (ymE : Nat) (ymS : Nat) (ymT : Nat) (ymD : Nat) (ymQ : Nat) (ymP : Nat) (ymN : Nat) (ymO : Nat) (ymY : Nat) (ymZ : Nat) (ymX : Nat) (σ : ST) (hok : Ok σ) : Met l yX6_moment wsX6_moment ({ frames := 0, cells := 0, slots := 0, locals := 0 }) (va_Pc [.ref ym] (XW D cI cZ [(ym, .inr (6, [.int (nI (sF σ)), .ref ymB, .int (nI (sN σ)), .ref ymU, .ref ymV, .ref ymR, .ref ymI, .ref ymE, .int (nI (sM σ)), .ref ymS, .ref ymT, .ref ymD, .int (nI (sC σ)), .ref ymQ, .ref ymP, .ref ymN, .int (nI (sG σ)), .ref ymO, .ref ymY, .ref ymZ, .ref ymX])), (ymS, .inl (cI, 90, .inl (rTs σ))), (ymT, .inl (cI, 90, .inl (rTn σ))), (ymD, .inl (cI, 30, .inl (rRd σ)))] sz)) (va_Qi (fun (r : Int32) (u : Unit) => r = oMoment σ) (fun u => XB D cI cZ (va_A [(ym, .inr (6, [.int (nI (sF σ)), .ref ymB, .int (nI (sN σ)), .ref ymU, .ref ymV, .ref ymR, .ref ymI, .ref ymE, .int (nI (sM σ)), .ref ymS, .ref ymT, .ref ymD, .int (nI (sC σ)), .ref ymQ, .ref ymP, .ref ymN, .int (nI (sG σ)), .ref ymO, .ref ymY, .ref ymZ, .ref ymX])), (ymS, .inl (cI, 90, .inl (rTs σ))), (ymT, .inl (cI, 90, .inl (rTn σ))), (ymD, .inl (cI, 30, .inl (rRd σ)))] sz) [(ym, .inr (6, [.int (nI (sF (nMoment σ))), .ref ymB, .int (nI (sN (nMoment σ))), .ref ymU, .ref ymV, .ref ymR, .ref ymI, .ref ymE, .int (nI (sM (nMoment σ))), .ref ymS, .ref ymT, .ref ymD, .int (nI (sC (nMoment σ))), .ref ymQ, .ref ymP, .ref ymN, .int (nI (sG (nMoment σ))), .ref ymO, .ref ymY, .ref ymZ, .ref ymX])), (ymS, .inl (cI, 90, .inl (rTs (nMoment σ)))), (ymT, .inl (cI, 90, .inl (rTn (nMoment σ)))), (ymD, .inl (cI, 30, .inl (rRd (nMoment σ))))]) (va_A [(ym, .inr (6, [.int (nI (sF σ)), .ref ymB, .int (nI (sN σ)), .ref ymU, .ref ymV, .ref ymR, .ref ymI, .ref ymE, .int (nI (sM σ)), .ref ymS, .ref ymT, .ref ymD, .int (nI (sC σ)), .ref ymQ, .ref ymP, .ref ymN, .int (nI (sG σ)), .ref ymO, .ref ymY, .ref ymZ, .ref ymX])), (ymS, .inl (cI, 90, .inl (rTs σ))), (ymT, .inl (cI, 90, .inl (rTn σ))), (ymD, .inl (cI, 30, .inl (rRd σ)))] sz)) 0 0 (va_A [(ym, .inr (6, [.int (nI (sF σ)), .ref ymB, .int (nI (sN σ)), .ref ymU, .ref ymV, .ref ymR, .ref ymI, .ref ymE, .int (nI (sM σ)), .ref ymS, .ref ymT, .ref ymD, .int (nI (sC σ)), .ref ymQ, .ref ymP, .ref ymN, .int (nI (sG σ)), .ref ymO, .ref ymY, .ref ymZ, .ref ymX])), (ymS, .inl (cI, 90, .inl (rTs σ))), (ymT, .inl (cI, 90, .inl (rTn σ))), (ymD, .inl (cI, 30, .inl (rRd σ)))] sz) := by
  refine Met.ofW (cc := cX6_moment) (maxL := 2) (ret := (some .int)) (by decide) rfl ?_
  intro p e s m args below meth c s₁ B hml hv
  obtain ⟨rfl, hsz, ⟨hP, hK, hN⟩, hD0⟩ := hv
  have hx := B.exec
  have hb := B.bytes
  have hr := B.returns
  have hts := atoms_spec (ws := wsX6_moment) B.pre
  have hown : s.vm.findClass RX6 = some m.cls := findClass_of_methodNamed B.named
  have hlocks := B.notSynchronized
  subst hsz
  have hD := hD0.self (sz := s.heap.size)
  generalize hAe : va_A [(ym, .inr (6, [.int (nI (sF σ)), .ref ymB, .int (nI (sN σ)), .ref ymU, .ref ymV, .ref ymR, .ref ymI, .ref ymE, .int (nI (sM σ)), .ref ymS, .ref ymT, .ref ymD, .int (nI (sC σ)), .ref ymQ, .ref ymP, .ref ymN, .int (nI (sG σ)), .ref ymO, .ref ymY, .ref ymZ, .ref ymX])), (ymS, .inl (cI, 90, .inl (rTs σ))), (ymT, .inl (cI, 90, .inl (rTn σ))), (ymD, .inl (cI, 30, .inl (rRd σ)))] s.heap.size = A at hD ⊢
  have hA : ∀ q : Nat, s.heap.size ≤ q → A q := fun q h => by rw [← hAe]; exact Or.inr h
  have hS : va_S A s.heap s.heap [] := va_S.rf
  have ho := hok.1
  have hk2 := hok.k
  have hp2 : 1 ≤ 2 ^ sF σ := Nat.two_pow_pos _
  have hf73 := hts (.fieldLink RX6 73 "BallCourtModel" "moments" "I") (List.mem_of_getElem? (i := 1) (by decide +kernel))
  have hiX6 : ∀ w ∈ wsX60, w ∈ wsX6_moment := fun w h => List.mem_cons_of_mem _ (List.mem_append_right _ h)
  have hf33 := hts (.fieldLink RX6 33 "BallCourtModel" "toldSo" "[I") (List.mem_of_getElem? (i := 2) (by decide +kernel))
  have hf36 := hts (.fieldLink RX6 36 "BallCourtModel" "toldNot" "[I") (List.mem_of_getElem? (i := 3) (by decide +kernel))
  have hf39 := hts (.fieldLink RX6 39 "BallCourtModel" "ruled" "[I") (List.mem_of_getElem? (i := 4) (by decide +kernel))
  have hl := lv_entry ([.ref ym]) (n := 2) (Nat.le_of_ble_eq_true rfl)
  rw [lg_entry_eq]
  generalize (lg_sl ([.ref ym]) ++ List.replicate (2 - (lg_sl ([.ref ym])).length) Slot.unset).toArray = ls at hl ⊢
  have hl : lv_has ls 2 [(0, .ref ym)] := hl
  refine lv_aload_n hx hb dX6_moment_0 rfl (lv_at hl 0 rfl) ?_
  refine va_get (D := D) (ci := 6) (v := .int (nI (sM σ))) (C := RX6) (T := TX6) (N := 21) hx hb hts hiX6 hown hK hP 0 rfl rfl 8 (by decide) hf73 (fun _ h9 => h9) rfl dX6_moment_1 ?_
  refine lv_bipush (v := nI 30) hx hb dX6_moment_4 (by decide) ?_
  refine lv_icmp_ne (tgt := 12) hx hb dX6_moment_6 (by decide) (fun c6 => ?_) (fun c6 => ?_)
  · skip
    have c6 := mt (nI_eq (by omega) (by omega)).mpr c6
    refine lv_iconst (v := nI 0) hx hb dX6_moment_12 (by decide) ?_
    refine lv_istore_n (lv' := [(1, .int (nI 0)), (0, .ref ym)]) hx hb dX6_moment_13 rfl hl (by decide) rfl (fun ls hl => ?_)
    refine lv_iload_n hx hb dX6_moment_14 rfl (lv_at hl 0 rfl) ?_
    refine lv_iconst (v := nI 3) hx hb dX6_moment_15 (by decide) ?_
    refine lv_icmp_ge (tgt := 53) hx hb dX6_moment_16 (by decide) (fun c16 => ?_) (fun c16 => ?_)
    · exact absurd c16 (by decide)
    · skip
      refine lv_aload_n hx hb dX6_moment_19 rfl (lv_at hl 1 rfl) ?_
      refine va_get (D := D) (ci := 6) (v := .ref ymS) (C := RX6) (T := TX6) (N := 21) hx hb hts hiX6 hown hK hP 0 rfl rfl 9 (by decide) hf33 (fun _ h9 => h9) rfl dX6_moment_20 ?_
      refine lv_iconst (v := nI 3) hx hb dX6_moment_23 (by decide) ?_
      refine lv_aload_n hx hb dX6_moment_24 rfl (lv_at hl 1 rfl) ?_
      refine va_get (D := D) (ci := 6) (v := .int (nI (sM σ))) (C := RX6) (T := TX6) (N := 21) hx hb hts hiX6 hown hK hP 0 rfl rfl 8 (by decide) hf73 (fun _ h9 => h9) rfl dX6_moment_25 ?_
      refine lv_imul hx hb dX6_moment_28 ?_
      refine lv_asi (show (nI 3) * (nI (sM σ)) = nI (3 * sM σ) from pk_mul _ _) ?_
      refine lv_iload_n hx hb dX6_moment_29 rfl (lv_at hl 0 rfl) ?_
      refine lv_iadd hx hb dX6_moment_30 ?_
      refine lv_asi (show (nI (3 * sM σ)) + (nI 0) = nI (3 * sM σ + 0) from nI_add _ _) ?_
      refine lv_iconst (v := 0) hx hb dX6_moment_31 (by decide) ?_
      refine xast (k := (3 * sM σ + 0)) hx hb hK hP hD hS 1 rfl (by omega) (by decide) dX6_moment_32 (fun H locs hP hD hS => ?_)
      have hP : va_P D vwCl [(ym, .inr (6, [.int (nI (sF σ)), .ref ymB, .int (nI (sN σ)), .ref ymU, .ref ymV, .ref ymR, .ref ymI, .ref ymE, .int (nI (sM σ)), .ref ymS, .ref ymT, .ref ymD, .int (nI (sC σ)), .ref ymQ, .ref ymP, .ref ymN, .int (nI (sG σ)), .ref ymO, .ref ymY, .ref ymZ, .ref ymX])), (ymS, .inl (cI, 90, .inl (upd (rTs σ) (3 * sM σ + 0) 0))), (ymT, .inl (cI, 90, .inl (rTn σ))), (ymD, .inl (cI, 30, .inl (rRd σ)))] H := hP
      have hD : va_D A [(ym, .inr (6, [.int (nI (sF σ)), .ref ymB, .int (nI (sN σ)), .ref ymU, .ref ymV, .ref ymR, .ref ymI, .ref ymE, .int (nI (sM σ)), .ref ymS, .ref ymT, .ref ymD, .int (nI (sC σ)), .ref ymQ, .ref ymP, .ref ymN, .int (nI (sG σ)), .ref ymO, .ref ymY, .ref ymZ, .ref ymX])), (ymS, .inl (cI, 90, .inl (upd (rTs σ) (3 * sM σ + 0) 0))), (ymT, .inl (cI, 90, .inl (rTn σ))), (ymD, .inl (cI, 30, .inl (rRd σ)))] := hD
      refine lv_aload_n hx hb dX6_moment_33 rfl (lv_at hl 1 rfl) ?_
      refine va_get (D := D) (ci := 6) (v := .ref ymT) (C := RX6) (T := TX6) (N := 21) hx hb hts hiX6 hown hK hP 0 rfl rfl 10 (by decide) hf36 (fun _ h9 => h9) rfl dX6_moment_34 ?_
      refine lv_iconst (v := nI 3) hx hb dX6_moment_37 (by decide) ?_
      refine lv_aload_n hx hb dX6_moment_38 rfl (lv_at hl 1 rfl) ?_
      refine va_get (D := D) (ci := 6) (v := .int (nI (sM σ))) (C := RX6) (T := TX6) (N := 21) hx hb hts hiX6 hown hK hP 0 rfl rfl 8 (by decide) hf73 (fun _ h9 => h9) rfl dX6_moment_39 ?_
      refine lv_imul hx hb dX6_moment_42 ?_
      refine lv_asi (show (nI 3) * (nI (sM σ)) = nI (3 * sM σ) from pk_mul _ _) ?_
      refine lv_iload_n hx hb dX6_moment_43 rfl (lv_at hl 0 rfl) ?_
      refine lv_iadd hx hb dX6_moment_44 ?_
      refine lv_asi (show (nI (3 * sM σ)) + (nI 0) = nI (3 * sM σ + 0) from nI_add _ _) ?_
      refine lv_iconst (v := 0) hx hb dX6_moment_45 (by decide) ?_
      refine xast (k := (3 * sM σ + 0)) hx hb hK hP hD hS 2 rfl (by omega) (by decide) dX6_moment_46 (fun H locs hP hD hS => ?_)
      have hP : va_P D vwCl [(ym, .inr (6, [.int (nI (sF σ)), .ref ymB, .int (nI (sN σ)), .ref ymU, .ref ymV, .ref ymR, .ref ymI, .ref ymE, .int (nI (sM σ)), .ref ymS, .ref ymT, .ref ymD, .int (nI (sC σ)), .ref ymQ, .ref ymP, .ref ymN, .int (nI (sG σ)), .ref ymO, .ref ymY, .ref ymZ, .ref ymX])), (ymS, .inl (cI, 90, .inl (upd (rTs σ) (3 * sM σ + 0) 0))), (ymT, .inl (cI, 90, .inl (upd (rTn σ) (3 * sM σ + 0) 0))), (ymD, .inl (cI, 30, .inl (rRd σ)))] H := hP
      have hD : va_D A [(ym, .inr (6, [.int (nI (sF σ)), .ref ymB, .int (nI (sN σ)), .ref ymU, .ref ymV, .ref ymR, .ref ymI, .ref ymE, .int (nI (sM σ)), .ref ymS, .ref ymT, .ref ymD, .int (nI (sC σ)), .ref ymQ, .ref ymP, .ref ymN, .int (nI (sG σ)), .ref ymO, .ref ymY, .ref ymZ, .ref ymX])), (ymS, .inl (cI, 90, .inl (upd (rTs σ) (3 * sM σ + 0) 0))), (ymT, .inl (cI, 90, .inl (upd (rTn σ) (3 * sM σ + 0) 0))), (ymD, .inl (cI, 30, .inl (rRd σ)))] := hD
      refine lv_iinc (k := 0) (x := nI 0) (v := nI 1) (lv' := [(1, .int (nI 1)), (0, .ref ym)]) hx hb dX6_moment_47 hl rfl (show (nI 0) + Int32.ofInt 1 = nI 1 from (by decide)) (by decide) rfl (fun ls hl => ?_)
      refine lv_goto (tgt := 14) hx hb dX6_moment_50 (by decide) ?_
      refine lv_iload_n hx hb dX6_moment_14 rfl (lv_at hl 0 rfl) ?_
      refine lv_iconst (v := nI 3) hx hb dX6_moment_15 (by decide) ?_
      refine lv_icmp_ge (tgt := 53) hx hb dX6_moment_16 (by decide) (fun c16 => ?_) (fun c16 => ?_)
      · exact absurd c16 (by decide)
      · skip
        refine lv_aload_n hx hb dX6_moment_19 rfl (lv_at hl 1 rfl) ?_
        refine va_get (D := D) (ci := 6) (v := .ref ymS) (C := RX6) (T := TX6) (N := 21) hx hb hts hiX6 hown hK hP 0 rfl rfl 9 (by decide) hf33 (fun _ h9 => h9) rfl dX6_moment_20 ?_
        refine lv_iconst (v := nI 3) hx hb dX6_moment_23 (by decide) ?_
        refine lv_aload_n hx hb dX6_moment_24 rfl (lv_at hl 1 rfl) ?_
        refine va_get (D := D) (ci := 6) (v := .int (nI (sM σ))) (C := RX6) (T := TX6) (N := 21) hx hb hts hiX6 hown hK hP 0 rfl rfl 8 (by decide) hf73 (fun _ h9 => h9) rfl dX6_moment_25 ?_
        refine lv_imul hx hb dX6_moment_28 ?_
        refine lv_asi (show (nI 3) * (nI (sM σ)) = nI (3 * sM σ) from pk_mul _ _) ?_
        refine lv_iload_n hx hb dX6_moment_29 rfl (lv_at hl 0 rfl) ?_
        refine lv_iadd hx hb dX6_moment_30 ?_
        refine lv_asi (show (nI (3 * sM σ)) + (nI 1) = nI (3 * sM σ + 1) from nI_add _ _) ?_
        refine lv_iconst (v := 0) hx hb dX6_moment_31 (by decide) ?_
        refine xast (k := (3 * sM σ + 1)) hx hb hK hP hD hS 1 rfl (by omega) (by decide) dX6_moment_32 (fun H locs hP hD hS => ?_)
        have hP : va_P D vwCl [(ym, .inr (6, [.int (nI (sF σ)), .ref ymB, .int (nI (sN σ)), .ref ymU, .ref ymV, .ref ymR, .ref ymI, .ref ymE, .int (nI (sM σ)), .ref ymS, .ref ymT, .ref ymD, .int (nI (sC σ)), .ref ymQ, .ref ymP, .ref ymN, .int (nI (sG σ)), .ref ymO, .ref ymY, .ref ymZ, .ref ymX])), (ymS, .inl (cI, 90, .inl (upd (upd (rTs σ) (3 * sM σ + 0) 0) (3 * sM σ + 1) 0))), (ymT, .inl (cI, 90, .inl (upd (rTn σ) (3 * sM σ + 0) 0))), (ymD, .inl (cI, 30, .inl (rRd σ)))] H := hP
        have hD : va_D A [(ym, .inr (6, [.int (nI (sF σ)), .ref ymB, .int (nI (sN σ)), .ref ymU, .ref ymV, .ref ymR, .ref ymI, .ref ymE, .int (nI (sM σ)), .ref ymS, .ref ymT, .ref ymD, .int (nI (sC σ)), .ref ymQ, .ref ymP, .ref ymN, .int (nI (sG σ)), .ref ymO, .ref ymY, .ref ymZ, .ref ymX])), (ymS, .inl (cI, 90, .inl (upd (upd (rTs σ) (3 * sM σ + 0) 0) (3 * sM σ + 1) 0))), (ymT, .inl (cI, 90, .inl (upd (rTn σ) (3 * sM σ + 0) 0))), (ymD, .inl (cI, 30, .inl (rRd σ)))] := hD
        refine lv_aload_n hx hb dX6_moment_33 rfl (lv_at hl 1 rfl) ?_
        refine va_get (D := D) (ci := 6) (v := .ref ymT) (C := RX6) (T := TX6) (N := 21) hx hb hts hiX6 hown hK hP 0 rfl rfl 10 (by decide) hf36 (fun _ h9 => h9) rfl dX6_moment_34 ?_
        refine lv_iconst (v := nI 3) hx hb dX6_moment_37 (by decide) ?_
        refine lv_aload_n hx hb dX6_moment_38 rfl (lv_at hl 1 rfl) ?_
        refine va_get (D := D) (ci := 6) (v := .int (nI (sM σ))) (C := RX6) (T := TX6) (N := 21) hx hb hts hiX6 hown hK hP 0 rfl rfl 8 (by decide) hf73 (fun _ h9 => h9) rfl dX6_moment_39 ?_
        refine lv_imul hx hb dX6_moment_42 ?_
        refine lv_asi (show (nI 3) * (nI (sM σ)) = nI (3 * sM σ) from pk_mul _ _) ?_
        refine lv_iload_n hx hb dX6_moment_43 rfl (lv_at hl 0 rfl) ?_
        refine lv_iadd hx hb dX6_moment_44 ?_
        refine lv_asi (show (nI (3 * sM σ)) + (nI 1) = nI (3 * sM σ + 1) from nI_add _ _) ?_
        refine lv_iconst (v := 0) hx hb dX6_moment_45 (by decide) ?_
        refine xast (k := (3 * sM σ + 1)) hx hb hK hP hD hS 2 rfl (by omega) (by decide) dX6_moment_46 (fun H locs hP hD hS => ?_)
        have hP : va_P D vwCl [(ym, .inr (6, [.int (nI (sF σ)), .ref ymB, .int (nI (sN σ)), .ref ymU, .ref ymV, .ref ymR, .ref ymI, .ref ymE, .int (nI (sM σ)), .ref ymS, .ref ymT, .ref ymD, .int (nI (sC σ)), .ref ymQ, .ref ymP, .ref ymN, .int (nI (sG σ)), .ref ymO, .ref ymY, .ref ymZ, .ref ymX])), (ymS, .inl (cI, 90, .inl (upd (upd (rTs σ) (3 * sM σ + 0) 0) (3 * sM σ + 1) 0))), (ymT, .inl (cI, 90, .inl (upd (upd (rTn σ) (3 * sM σ + 0) 0) (3 * sM σ + 1) 0))), (ymD, .inl (cI, 30, .inl (rRd σ)))] H := hP
        have hD : va_D A [(ym, .inr (6, [.int (nI (sF σ)), .ref ymB, .int (nI (sN σ)), .ref ymU, .ref ymV, .ref ymR, .ref ymI, .ref ymE, .int (nI (sM σ)), .ref ymS, .ref ymT, .ref ymD, .int (nI (sC σ)), .ref ymQ, .ref ymP, .ref ymN, .int (nI (sG σ)), .ref ymO, .ref ymY, .ref ymZ, .ref ymX])), (ymS, .inl (cI, 90, .inl (upd (upd (rTs σ) (3 * sM σ + 0) 0) (3 * sM σ + 1) 0))), (ymT, .inl (cI, 90, .inl (upd (upd (rTn σ) (3 * sM σ + 0) 0) (3 * sM σ + 1) 0))), (ymD, .inl (cI, 30, .inl (rRd σ)))] := hD
        refine lv_iinc (k := 0) (x := nI 1) (v := nI 2) (lv' := [(1, .int (nI 2)), (0, .ref ym)]) hx hb dX6_moment_47 hl rfl (show (nI 1) + Int32.ofInt 1 = nI 2 from (by decide)) (by decide) rfl (fun ls hl => ?_)
        refine lv_goto (tgt := 14) hx hb dX6_moment_50 (by decide) ?_
        refine lv_iload_n hx hb dX6_moment_14 rfl (lv_at hl 0 rfl) ?_
        refine lv_iconst (v := nI 3) hx hb dX6_moment_15 (by decide) ?_
        refine lv_icmp_ge (tgt := 53) hx hb dX6_moment_16 (by decide) (fun c16 => ?_) (fun c16 => ?_)
        · exact absurd c16 (by decide)
        · skip
          refine lv_aload_n hx hb dX6_moment_19 rfl (lv_at hl 1 rfl) ?_
          refine va_get (D := D) (ci := 6) (v := .ref ymS) (C := RX6) (T := TX6) (N := 21) hx hb hts hiX6 hown hK hP 0 rfl rfl 9 (by decide) hf33 (fun _ h9 => h9) rfl dX6_moment_20 ?_
          refine lv_iconst (v := nI 3) hx hb dX6_moment_23 (by decide) ?_
          refine lv_aload_n hx hb dX6_moment_24 rfl (lv_at hl 1 rfl) ?_
          refine va_get (D := D) (ci := 6) (v := .int (nI (sM σ))) (C := RX6) (T := TX6) (N := 21) hx hb hts hiX6 hown hK hP 0 rfl rfl 8 (by decide) hf73 (fun _ h9 => h9) rfl dX6_moment_25 ?_
          refine lv_imul hx hb dX6_moment_28 ?_
          refine lv_asi (show (nI 3) * (nI (sM σ)) = nI (3 * sM σ) from pk_mul _ _) ?_
          refine lv_iload_n hx hb dX6_moment_29 rfl (lv_at hl 0 rfl) ?_
          refine lv_iadd hx hb dX6_moment_30 ?_
          refine lv_asi (show (nI (3 * sM σ)) + (nI 2) = nI (3 * sM σ + 2) from nI_add _ _) ?_
          refine lv_iconst (v := 0) hx hb dX6_moment_31 (by decide) ?_
          refine xast (k := (3 * sM σ + 2)) hx hb hK hP hD hS 1 rfl (by omega) (by decide) dX6_moment_32 (fun H locs hP hD hS => ?_)
          have hP : va_P D vwCl [(ym, .inr (6, [.int (nI (sF σ)), .ref ymB, .int (nI (sN σ)), .ref ymU, .ref ymV, .ref ymR, .ref ymI, .ref ymE, .int (nI (sM σ)), .ref ymS, .ref ymT, .ref ymD, .int (nI (sC σ)), .ref ymQ, .ref ymP, .ref ymN, .int (nI (sG σ)), .ref ymO, .ref ymY, .ref ymZ, .ref ymX])), (ymS, .inl (cI, 90, .inl (upd (upd (upd (rTs σ) (3 * sM σ + 0) 0) (3 * sM σ + 1) 0) (3 * sM σ + 2) 0))), (ymT, .inl (cI, 90, .inl (upd (upd (rTn σ) (3 * sM σ + 0) 0) (3 * sM σ + 1) 0))), (ymD, .inl (cI, 30, .inl (rRd σ)))] H := hP
          have hD : va_D A [(ym, .inr (6, [.int (nI (sF σ)), .ref ymB, .int (nI (sN σ)), .ref ymU, .ref ymV, .ref ymR, .ref ymI, .ref ymE, .int (nI (sM σ)), .ref ymS, .ref ymT, .ref ymD, .int (nI (sC σ)), .ref ymQ, .ref ymP, .ref ymN, .int (nI (sG σ)), .ref ymO, .ref ymY, .ref ymZ, .ref ymX])), (ymS, .inl (cI, 90, .inl (upd (upd (upd (rTs σ) (3 * sM σ + 0) 0) (3 * sM σ + 1) 0) (3 * sM σ + 2) 0))), (ymT, .inl (cI, 90, .inl (upd (upd (rTn σ) (3 * sM σ + 0) 0) (3 * sM σ + 1) 0))), (ymD, .inl (cI, 30, .inl (rRd σ)))] := hD
          refine lv_aload_n hx hb dX6_moment_33 rfl (lv_at hl 1 rfl) ?_
          refine va_get (D := D) (ci := 6) (v := .ref ymT) (C := RX6) (T := TX6) (N := 21) hx hb hts hiX6 hown hK hP 0 rfl rfl 10 (by decide) hf36 (fun _ h9 => h9) rfl dX6_moment_34 ?_
          refine lv_iconst (v := nI 3) hx hb dX6_moment_37 (by decide) ?_
          refine lv_aload_n hx hb dX6_moment_38 rfl (lv_at hl 1 rfl) ?_
          refine va_get (D := D) (ci := 6) (v := .int (nI (sM σ))) (C := RX6) (T := TX6) (N := 21) hx hb hts hiX6 hown hK hP 0 rfl rfl 8 (by decide) hf73 (fun _ h9 => h9) rfl dX6_moment_39 ?_
          refine lv_imul hx hb dX6_moment_42 ?_
          refine lv_asi (show (nI 3) * (nI (sM σ)) = nI (3 * sM σ) from pk_mul _ _) ?_
          refine lv_iload_n hx hb dX6_moment_43 rfl (lv_at hl 0 rfl) ?_
          refine lv_iadd hx hb dX6_moment_44 ?_
          refine lv_asi (show (nI (3 * sM σ)) + (nI 2) = nI (3 * sM σ + 2) from nI_add _ _) ?_
          refine lv_iconst (v := 0) hx hb dX6_moment_45 (by decide) ?_
          refine xast (k := (3 * sM σ + 2)) hx hb hK hP hD hS 2 rfl (by omega) (by decide) dX6_moment_46 (fun H locs hP hD hS => ?_)
          have hP : va_P D vwCl [(ym, .inr (6, [.int (nI (sF σ)), .ref ymB, .int (nI (sN σ)), .ref ymU, .ref ymV, .ref ymR, .ref ymI, .ref ymE, .int (nI (sM σ)), .ref ymS, .ref ymT, .ref ymD, .int (nI (sC σ)), .ref ymQ, .ref ymP, .ref ymN, .int (nI (sG σ)), .ref ymO, .ref ymY, .ref ymZ, .ref ymX])), (ymS, .inl (cI, 90, .inl (upd (upd (upd (rTs σ) (3 * sM σ + 0) 0) (3 * sM σ + 1) 0) (3 * sM σ + 2) 0))), (ymT, .inl (cI, 90, .inl (upd (upd (upd (rTn σ) (3 * sM σ + 0) 0) (3 * sM σ + 1) 0) (3 * sM σ + 2) 0))), (ymD, .inl (cI, 30, .inl (rRd σ)))] H := hP
          have hD : va_D A [(ym, .inr (6, [.int (nI (sF σ)), .ref ymB, .int (nI (sN σ)), .ref ymU, .ref ymV, .ref ymR, .ref ymI, .ref ymE, .int (nI (sM σ)), .ref ymS, .ref ymT, .ref ymD, .int (nI (sC σ)), .ref ymQ, .ref ymP, .ref ymN, .int (nI (sG σ)), .ref ymO, .ref ymY, .ref ymZ, .ref ymX])), (ymS, .inl (cI, 90, .inl (upd (upd (upd (rTs σ) (3 * sM σ + 0) 0) (3 * sM σ + 1) 0) (3 * sM σ + 2) 0))), (ymT, .inl (cI, 90, .inl (upd (upd (upd (rTn σ) (3 * sM σ + 0) 0) (3 * sM σ + 1) 0) (3 * sM σ + 2) 0))), (ymD, .inl (cI, 30, .inl (rRd σ)))] := hD
          refine lv_iinc (k := 0) (x := nI 2) (v := nI 3) (lv' := [(1, .int (nI 3)), (0, .ref ym)]) hx hb dX6_moment_47 hl rfl (show (nI 2) + Int32.ofInt 1 = nI 3 from (by decide)) (by decide) rfl (fun ls hl => ?_)
          refine lv_goto (tgt := 14) hx hb dX6_moment_50 (by decide) ?_
          refine lv_iload_n hx hb dX6_moment_14 rfl (lv_at hl 0 rfl) ?_
          refine lv_iconst (v := nI 3) hx hb dX6_moment_15 (by decide) ?_
          refine lv_icmp_ge (tgt := 53) hx hb dX6_moment_16 (by decide) (fun c16 => ?_) (fun c16 => ?_)
          · skip
            refine lv_aload_n hx hb dX6_moment_53 rfl (lv_at hl 1 rfl) ?_
            refine va_get (D := D) (ci := 6) (v := .ref ymD) (C := RX6) (T := TX6) (N := 21) hx hb hts hiX6 hown hK hP 0 rfl rfl 11 (by decide) hf39 (fun _ h9 => h9) rfl dX6_moment_54 ?_
            refine lv_aload_n hx hb dX6_moment_57 rfl (lv_at hl 1 rfl) ?_
            refine va_get (D := D) (ci := 6) (v := .int (nI (sM σ))) (C := RX6) (T := TX6) (N := 21) hx hb hts hiX6 hown hK hP 0 rfl rfl 8 (by decide) hf73 (fun _ h9 => h9) rfl dX6_moment_58 ?_
            refine lv_iconst (v := (-1)) hx hb dX6_moment_61 (by decide) ?_
            refine xast (k := (sM σ)) hx hb hK hP hD hS 3 rfl (by omega) (by decide) dX6_moment_62 (fun H locs hP hD hS => ?_)
            have hP : va_P D vwCl [(ym, .inr (6, [.int (nI (sF σ)), .ref ymB, .int (nI (sN σ)), .ref ymU, .ref ymV, .ref ymR, .ref ymI, .ref ymE, .int (nI (sM σ)), .ref ymS, .ref ymT, .ref ymD, .int (nI (sC σ)), .ref ymQ, .ref ymP, .ref ymN, .int (nI (sG σ)), .ref ymO, .ref ymY, .ref ymZ, .ref ymX])), (ymS, .inl (cI, 90, .inl (upd (upd (upd (rTs σ) (3 * sM σ + 0) 0) (3 * sM σ + 1) 0) (3 * sM σ + 2) 0))), (ymT, .inl (cI, 90, .inl (upd (upd (upd (rTn σ) (3 * sM σ + 0) 0) (3 * sM σ + 1) 0) (3 * sM σ + 2) 0))), (ymD, .inl (cI, 30, .inl (upd (rRd σ) (sM σ) (-1))))] H := hP
            have hD : va_D A [(ym, .inr (6, [.int (nI (sF σ)), .ref ymB, .int (nI (sN σ)), .ref ymU, .ref ymV, .ref ymR, .ref ymI, .ref ymE, .int (nI (sM σ)), .ref ymS, .ref ymT, .ref ymD, .int (nI (sC σ)), .ref ymQ, .ref ymP, .ref ymN, .int (nI (sG σ)), .ref ymO, .ref ymY, .ref ymZ, .ref ymX])), (ymS, .inl (cI, 90, .inl (upd (upd (upd (rTs σ) (3 * sM σ + 0) 0) (3 * sM σ + 1) 0) (3 * sM σ + 2) 0))), (ymT, .inl (cI, 90, .inl (upd (upd (upd (rTn σ) (3 * sM σ + 0) 0) (3 * sM σ + 1) 0) (3 * sM σ + 2) 0))), (ymD, .inl (cI, 30, .inl (upd (rRd σ) (sM σ) (-1))))] := hD
            refine lv_aload_n hx hb dX6_moment_63 rfl (lv_at hl 1 rfl) ?_
            refine lv_dup hx hb dX6_moment_64 rfl ?_
            refine va_get (D := D) (ci := 6) (v := .int (nI (sM σ))) (C := RX6) (T := TX6) (N := 21) hx hb hts hiX6 hown hK hP 0 rfl rfl 8 (by decide) hf73 (fun _ h9 => h9) rfl dX6_moment_65 ?_
            refine lv_iconst (v := 1) hx hb dX6_moment_68 (by decide) ?_
            refine lv_iadd hx hb dX6_moment_69 ?_
            refine lv_asi (show (nI (sM σ)) + 1 = nI (sM σ + 1) from nI_1 _) ?_
            refine va_put (D := D) (ci := 6) (v := .int (nI (sM σ + 1))) (ty := .int) (C := RX6) (T := TX6) (N := 21) hx hb hts hiX6 tyX6 tyX6_ok nmX6 hown hK hP hD hS 0 rfl rfl 8 (by decide) hf73 (fun _ h9 => h9) rfl (by decide +kernel) rfl rfl (Nat.le_of_ble_eq_true rfl) dX6_moment_70 (fun H locs hP hD hS => ?_)
            have hP : va_P D vwCl [(ym, .inr (6, [.int (nI (sF σ)), .ref ymB, .int (nI (sN σ)), .ref ymU, .ref ymV, .ref ymR, .ref ymI, .ref ymE, .int (nI (sM σ + 1)), .ref ymS, .ref ymT, .ref ymD, .int (nI (sC σ)), .ref ymQ, .ref ymP, .ref ymN, .int (nI (sG σ)), .ref ymO, .ref ymY, .ref ymZ, .ref ymX])), (ymS, .inl (cI, 90, .inl (upd (upd (upd (rTs σ) (3 * sM σ + 0) 0) (3 * sM σ + 1) 0) (3 * sM σ + 2) 0))), (ymT, .inl (cI, 90, .inl (upd (upd (upd (rTn σ) (3 * sM σ + 0) 0) (3 * sM σ + 1) 0) (3 * sM σ + 2) 0))), (ymD, .inl (cI, 30, .inl (upd (rRd σ) (sM σ) (-1))))] H := hP
            have hD : va_D A [(ym, .inr (6, [.int (nI (sF σ)), .ref ymB, .int (nI (sN σ)), .ref ymU, .ref ymV, .ref ymR, .ref ymI, .ref ymE, .int (nI (sM σ + 1)), .ref ymS, .ref ymT, .ref ymD, .int (nI (sC σ)), .ref ymQ, .ref ymP, .ref ymN, .int (nI (sG σ)), .ref ymO, .ref ymY, .ref ymZ, .ref ymX])), (ymS, .inl (cI, 90, .inl (upd (upd (upd (rTs σ) (3 * sM σ + 0) 0) (3 * sM σ + 1) 0) (3 * sM σ + 2) 0))), (ymT, .inl (cI, 90, .inl (upd (upd (upd (rTn σ) (3 * sM σ + 0) 0) (3 * sM σ + 1) 0) (3 * sM σ + 2) 0))), (ymD, .inl (cI, 30, .inl (upd (rRd σ) (sM σ) (-1))))] := hD
            refine lv_aload_n hx hb dX6_moment_73 rfl (lv_at hl 1 rfl) ?_
            refine va_get (D := D) (ci := 6) (v := .int (nI (sM σ + 1))) (C := RX6) (T := TX6) (N := 21) hx hb hts hiX6 hown hK hP 0 rfl rfl 8 (by decide) hf73 (fun _ h9 => h9) rfl dX6_moment_74 ?_
            refine lv_iconst (v := 1) hx hb dX6_moment_77 (by decide) ?_
            refine lv_isub hx hb dX6_moment_78 ?_
            refine lv_asi (show (nI (sM σ + 1)) - 1 = nI (sM σ) from nI_pred _) ?_
            have hP9 := hP
            have hD9 := hD
            have eN : nMoment σ = moS σ := by rw [nMoment, if_neg (by omega)]
            exact W.iret (v := nI (sM σ)) hx hb hr (fun t ht hW => ⟨⟨nI (sM σ), (), rfl, (by rw [oMoment, if_neg (by omega)]), ⟨⟨by rw [ht, eN]; exact hP9, va_K.moved hW.alike hK, NW.warm hW hN⟩, by rw [eN]; exact hD9⟩⟩, hS.F ht⟩) hS.2.2 dX6_moment_79
          · exact absurd (by decide) c16
  · skip
    have c6 := (nI_eq (by omega) (by omega)).mp c6
    refine lv_bipush (v := (-4)) hx hb dX6_moment_9 (by decide) ?_
    have hP9 := hP
    have hD9 := hD
    have eN : nMoment σ = σ := by rw [nMoment, if_pos (by omega)]
    exact W.iret (v := (-4)) hx hb hr (fun t ht hW => ⟨⟨(-4), (), rfl, (by rw [oMoment, if_pos (by omega)]), ⟨⟨by rw [ht, eN]; exact hP9, va_K.moved hW.alike hK, NW.warm hW hN⟩, by rw [eN]; exact hD9⟩⟩, hS.F ht⟩) hS.2.2 dX6_moment_11

set_option maxHeartbeats 4000000 in
set_option maxRecDepth 100000 in
theorem c_X6_tell (l : Launch) (D : va_G) (cI cZ : ClassId) (sz : Nat) (ym : Nat) (ymB : Nat) (ymU : Nat) (ymV : Nat) (ymR : Nat) (ymI : Nat) (ymE : Nat) (ymS : Nat) (ymT : Nat) (ymD : Nat) (ymQ : Nat) (ymP : Nat) (ymN : Nat) (ymO : Nat) (ymY : Nat) (ymZ : Nat) (ymX : Nat) (σ : ST) (x : Int32) (y : Int32) (z : Int32) (v : Int32) (hok : Ok σ) : Met l yX6_tell wsX6_tell ({ frames := 2, cells := 0, slots := 0, locals := 43 }) (va_Pc [.ref ym, .int x, .int y, .int z, .int v] (XW D cI cZ [(ym, .inr (6, [.int (nI (sF σ)), .ref ymB, .int (nI (sN σ)), .ref ymU, .ref ymV, .ref ymR, .ref ymI, .ref ymE, .int (nI (sM σ)), .ref ymS, .ref ymT, .ref ymD, .int (nI (sC σ)), .ref ymQ, .ref ymP, .ref ymN, .int (nI (sG σ)), .ref ymO, .ref ymY, .ref ymZ, .ref ymX])), (ymS, .inl (cI, 90, .inl (rTs σ))), (ymT, .inl (cI, 90, .inl (rTn σ)))] sz)) (va_Qi (fun (r : Int32) (u : Unit) => r = oTell σ x y z v) (fun u => XB D cI cZ (va_A [(ym, .inr (6, [.int (nI (sF σ)), .ref ymB, .int (nI (sN σ)), .ref ymU, .ref ymV, .ref ymR, .ref ymI, .ref ymE, .int (nI (sM σ)), .ref ymS, .ref ymT, .ref ymD, .int (nI (sC σ)), .ref ymQ, .ref ymP, .ref ymN, .int (nI (sG σ)), .ref ymO, .ref ymY, .ref ymZ, .ref ymX])), (ymS, .inl (cI, 90, .inl (rTs σ))), (ymT, .inl (cI, 90, .inl (rTn σ)))] sz) [(ym, .inr (6, [.int (nI (sF (nTell σ x y z v))), .ref ymB, .int (nI (sN (nTell σ x y z v))), .ref ymU, .ref ymV, .ref ymR, .ref ymI, .ref ymE, .int (nI (sM (nTell σ x y z v))), .ref ymS, .ref ymT, .ref ymD, .int (nI (sC (nTell σ x y z v))), .ref ymQ, .ref ymP, .ref ymN, .int (nI (sG (nTell σ x y z v))), .ref ymO, .ref ymY, .ref ymZ, .ref ymX])), (ymS, .inl (cI, 90, .inl (rTs (nTell σ x y z v)))), (ymT, .inl (cI, 90, .inl (rTn (nTell σ x y z v))))]) (va_A [(ym, .inr (6, [.int (nI (sF σ)), .ref ymB, .int (nI (sN σ)), .ref ymU, .ref ymV, .ref ymR, .ref ymI, .ref ymE, .int (nI (sM σ)), .ref ymS, .ref ymT, .ref ymD, .int (nI (sC σ)), .ref ymQ, .ref ymP, .ref ymN, .int (nI (sG σ)), .ref ymO, .ref ymY, .ref ymZ, .ref ymX])), (ymS, .inl (cI, 90, .inl (rTs σ))), (ymT, .inl (cI, 90, .inl (rTn σ)))] sz)) 0 0 (va_A [(ym, .inr (6, [.int (nI (sF σ)), .ref ymB, .int (nI (sN σ)), .ref ymU, .ref ymV, .ref ymR, .ref ymI, .ref ymE, .int (nI (sM σ)), .ref ymS, .ref ymT, .ref ymD, .int (nI (sC σ)), .ref ymQ, .ref ymP, .ref ymN, .int (nI (sG σ)), .ref ymO, .ref ymY, .ref ymZ, .ref ymX])), (ymS, .inl (cI, 90, .inl (rTs σ))), (ymT, .inl (cI, 90, .inl (rTn σ)))] sz) := by
  refine Met.ofW (cc := cX6_tell) (maxL := 7) (ret := (some .int)) (by decide) rfl ?_
  intro p e s m args below meth c s₁ B hml hv
  obtain ⟨rfl, hsz, ⟨hP, hK, hN⟩, hD0⟩ := hv
  have hx := B.exec
  have hb := B.bytes
  have hr := B.returns
  have hts := atoms_spec (ws := wsX6_tell) B.pre
  have hown : s.vm.findClass RX6 = some m.cls := findClass_of_methodNamed B.named
  have hlocks := B.notSynchronized
  subst hsz
  have hD := hD0.self (sz := s.heap.size)
  generalize hAe : va_A [(ym, .inr (6, [.int (nI (sF σ)), .ref ymB, .int (nI (sN σ)), .ref ymU, .ref ymV, .ref ymR, .ref ymI, .ref ymE, .int (nI (sM σ)), .ref ymS, .ref ymT, .ref ymD, .int (nI (sC σ)), .ref ymQ, .ref ymP, .ref ymN, .int (nI (sG σ)), .ref ymO, .ref ymY, .ref ymZ, .ref ymX])), (ymS, .inl (cI, 90, .inl (rTs σ))), (ymT, .inl (cI, 90, .inl (rTn σ)))] s.heap.size = A at hD ⊢
  have hA : ∀ q : Nat, s.heap.size ≤ q → A q := fun q h => by rw [← hAe]; exact Or.inr h
  have hS : va_S A s.heap s.heap [] := va_S.rf
  have ho := hok.1
  have hk2 := hok.k
  have hp2 : 1 ≤ 2 ^ sF σ := Nat.two_pow_pos _
  have hf33 := hts (.fieldLink RX6 33 "BallCourtModel" "toldSo" "[I") (List.mem_of_getElem? (i := 1) (by decide +kernel))
  have hiX6 : ∀ w ∈ wsX60, w ∈ wsX6_tell := fun w h => List.mem_cons_of_mem _ (List.mem_append_right _ h)
  have hf36 := hts (.fieldLink RX6 36 "BallCourtModel" "toldNot" "[I") (List.mem_of_getElem? (i := 2) (by decide +kernel))
  have hl := lv_entry ([.ref ym, .int x, .int y, .int z, .int v]) (n := 7) (Nat.le_of_ble_eq_true rfl)
  rw [lg_entry_eq]
  generalize (lg_sl ([.ref ym, .int x, .int y, .int z, .int v]) ++ List.replicate (7 - (lg_sl ([.ref ym, .int x, .int y, .int z, .int v])).length) Slot.unset).toArray = ls at hl ⊢
  have hl : lv_has ls 7 [(0, .ref ym), (1, .int x), (2, .int y), (3, .int z), (4, .int v)] := hl
  refine lv_aload_n hx hb dX6_tell_0 rfl (lv_at hl 0 rfl) ?_
  refine lv_iload_n hx hb dX6_tell_1 rfl (lv_at hl 1 rfl) ?_
  refine xpV (rest := []) ⟨hx, hb, hml, hown, hts⟩ (c_X6_isMoment l D cI cZ ym ymB ymU ymV ymR ymI ymE ymS ymT ymD ymQ ymP ymN ymO ymY ymZ ymX σ x hok) (cwV 1 hts gX6_tell_X6_isMoment rfl rfl rfl (by decide +kernel) ⟨Nat.le_of_ble_eq_true rfl, Nat.le_of_ble_eq_true rfl⟩) hP [0] rfl hK hN (ci := 6) (q0 := 0) rfl rfl rfl hl.1 rfl (Nat.le_of_ble_eq_true rfl) dX6_tell_2 ⟨Nat.zero_le _, Nat.zero_le _⟩ (fun r2 e2 => ?_)
  subst e2
  refine lv_if_eq (tgt := 16) hx hb dX6_tell_5 (by decide) (fun c5 => ?_) (fun c5 => ?_)
  · skip
    have c5 := b2_0 c5
    refine lv_iconst (v := (-1)) hx hb dX6_tell_16 (by decide) ?_
    have hP9 := hP
    have hD9 := hD
    have eN : nTell σ x y z v = σ := by rw [nTell, if_pos c5]
    have eO : oTell σ x y z v = -1 := by rw [oTell, if_pos c5]
    exact W.iret (v := (-1)) hx hb hr (fun t ht hW => ⟨⟨(-1), (), rfl, eO.symm, ⟨⟨by rw [ht, eN]; exact hP9, va_K.moved hW.alike hK, NW.warm hW hN⟩, by rw [eN]; exact hD9⟩⟩, hS.F ht⟩) hS.2.2 dX6_tell_17
  · skip
    have c5 := b2_1 c5
    refine lv_aload_n hx hb dX6_tell_8 rfl (lv_at hl 0 rfl) ?_
    refine lv_iload_n hx hb dX6_tell_9 rfl (lv_at hl 3 rfl) ?_
    refine xpV (rest := []) ⟨hx, hb, hml, hown, hts⟩ (c_X6_isFact l D cI cZ ym ymB ymU ymV ymR ymI ymE ymS ymT ymD ymQ ymP ymN ymO ymY ymZ ymX σ z hok) (cwV 1 hts gX6_tell_X6_isFact rfl rfl rfl (by decide +kernel) ⟨Nat.le_of_ble_eq_true rfl, Nat.le_of_ble_eq_true rfl⟩) hP [0] rfl hK hN (ci := 6) (q0 := 0) rfl rfl rfl hl.1 rfl (Nat.le_of_ble_eq_true rfl) dX6_tell_10 ⟨Nat.zero_le _, Nat.zero_le _⟩ (fun r10 e10 => ?_)
    subst e10
    refine lv_if_ne (tgt := 18) hx hb dX6_tell_13 (by decide) (fun c13 => ?_) (fun c13 => ?_)
    · skip
      have c13 := b2_1 c13
      refine lv_iload_n hx hb dX6_tell_18 rfl (lv_at hl 2 rfl) ?_
      refine lv_iconst (v := 0) hx hb dX6_tell_19 (by decide) ?_
      refine lv_iconst (v := 2) hx hb dX6_tell_20 (by decide) ?_
      refine xpS (rest := []) ⟨hx, hb, hml, hown, hts⟩ (c_X6_in l D cI cZ y 0 2) (va_cwS 3 hts gX6_tell_X6_in rfl rfl rfl (by decide +kernel) ⟨Nat.le_of_ble_eq_true rfl, Nat.le_of_ble_eq_true rfl⟩) hP [] rfl hK hN rfl hl.1 rfl (Nat.le_of_ble_eq_true rfl) dX6_tell_21 ⟨Nat.zero_le _, Nat.zero_le _⟩ (fun r21 e21 => ?_)
      subst e21
      refine lv_asi (show b2 (inI y 0 2) = b2 (inN y 3) from congrArg b2 (inI_3 y)) ?_
      refine lv_if_eq (tgt := 37) hx hb dX6_tell_24 (by decide) (fun c24 => ?_) (fun c24 => ?_)
      · skip
        have c24 := b2_0 c24
        refine lv_bipush (v := (-2)) hx hb dX6_tell_37 (by decide) ?_
        have hP9 := hP
        have hD9 := hD
        have eN : nTell σ x y z v = σ := by rw [nTell, if_neg (by rw [c5]; decide), if_neg (by rw [c13]; decide), if_pos c24]
        have eO : oTell σ x y z v = -2 := by rw [oTell, if_neg (by rw [c5]; decide), if_neg (by rw [c13]; decide), if_pos c24]
        exact W.iret (v := (-2)) hx hb hr (fun t ht hW => ⟨⟨(-2), (), rfl, eO.symm, ⟨⟨by rw [ht, eN]; exact hP9, va_K.moved hW.alike hK, NW.warm hW hN⟩, by rw [eN]; exact hD9⟩⟩, hS.F ht⟩) hS.2.2 dX6_tell_39
      · skip
        have c24 := b2_1 c24
        refine lv_iload hx hb dX6_tell_27 (lv_at hl 4 rfl) ?_
        refine lv_iconst (v := 0) hx hb dX6_tell_29 (by decide) ?_
        refine lv_iconst (v := 2) hx hb dX6_tell_30 (by decide) ?_
        refine xpS (rest := []) ⟨hx, hb, hml, hown, hts⟩ (c_X6_in l D cI cZ v 0 2) (va_cwS 3 hts gX6_tell_X6_in rfl rfl rfl (by decide +kernel) ⟨Nat.le_of_ble_eq_true rfl, Nat.le_of_ble_eq_true rfl⟩) hP [] rfl hK hN rfl hl.1 rfl (Nat.le_of_ble_eq_true rfl) dX6_tell_31 ⟨Nat.zero_le _, Nat.zero_le _⟩ (fun r31 e31 => ?_)
        subst e31
        refine lv_if_ne (tgt := 40) hx hb dX6_tell_34 (by decide) (fun c34 => ?_) (fun c34 => ?_)
        · skip
          have c34 := b2_1 c34
          obtain ⟨m0, hm, rfl⟩ := inN_t c5 (by omega)
          obtain ⟨w0, hw, rfl⟩ := inN_t c24 (by omega)
          obtain ⟨f, hf, rfl⟩ := inN_t c13 (by omega)
          have km : (nI m0).toNatClampNeg = m0 := nI_clamp (by omega)
          have kw : (nI w0).toNatClampNeg = w0 := nI_clamp (by omega)
          have kf : (nI f).toNatClampNeg = f := nI_clamp (by omega)
          refine lv_iconst (v := nI 3) hx hb dX6_tell_40 (by decide) ?_
          refine lv_iload_n hx hb dX6_tell_41 rfl (lv_at hl 1 rfl) ?_
          refine lv_imul hx hb dX6_tell_42 ?_
          refine lv_asi (show (nI 3) * (nI m0) = nI (3 * m0) from pk_mul _ _) ?_
          refine lv_iload_n hx hb dX6_tell_43 rfl (lv_at hl 2 rfl) ?_
          refine lv_iadd hx hb dX6_tell_44 ?_
          refine lv_asi (show (nI (3 * m0)) + (nI w0) = nI (3 * m0 + w0) from nI_add _ _) ?_
          refine lv_istore (lv' := [(5, .int (nI (3 * m0 + w0))), (0, .ref ym), (1, .int (nI m0)), (2, .int (nI w0)), (3, .int (nI f)), (4, .int v)]) hx hb dX6_tell_45 hl (by decide) rfl (fun ls hl => ?_)
          refine wjoin (pcJ := 86) (lv := [(5, .int (nI (3 * m0 + w0))), (0, .ref ym), (1, .int (nI m0)), (2, .int (nI w0)), (3, .int (nI f)), (4, .int v)]) (nL := 7) (st := [.int (teR σ (3 * m0 + w0) f)]) (fun ls hl => ?_) (fun J86 => ?_)
          · skip
            refine lv_istore (lv' := [(6, .int (teR σ (3 * m0 + w0) f)), (5, .int (nI (3 * m0 + w0))), (0, .ref ym), (1, .int (nI m0)), (2, .int (nI w0)), (3, .int (nI f)), (4, .int v)]) hx hb dX6_tell_86 hl (by decide) rfl (fun ls hl => ?_)
            refine lv_aload_n hx hb dX6_tell_88 rfl (lv_at hl 2 rfl) ?_
            refine va_get (D := D) (ci := 6) (v := .ref ymS) (C := RX6) (T := TX6) (N := 21) hx hb hts hiX6 hown hK hP 0 rfl rfl 9 (by decide) hf33 (fun _ h9 => h9) rfl dX6_tell_89 ?_
            refine lv_iload hx hb dX6_tell_92 (lv_at hl 1 rfl) ?_
            refine wjoin (pcJ := 127) (lv := [(6, .int (teR σ (3 * m0 + w0) f)), (5, .int (nI (3 * m0 + w0))), (0, .ref ym), (1, .int (nI m0)), (2, .int (nI w0)), (3, .int (nI f)), (4, .int v)]) (nL := 7) (st := [.int (if v = 1 then rTs σ (3 * m0 + w0) ||| nI (2 ^ f) else rTs σ (3 * m0 + w0) &&& (nI (2 ^ f) ^^^ (-1))), .int (nI (3 * m0 + w0)), .ref ymS]) (fun ls hl => ?_) (fun J127 => ?_)
            · skip
              refine xast (k := (3 * m0 + w0)) hx hb hK hP hD hS 1 rfl (by omega) (by decide) dX6_tell_127 (fun H locs hP hD hS => ?_)
              have hP : va_P D vwCl [(ym, .inr (6, [.int (nI (sF σ)), .ref ymB, .int (nI (sN σ)), .ref ymU, .ref ymV, .ref ymR, .ref ymI, .ref ymE, .int (nI (sM σ)), .ref ymS, .ref ymT, .ref ymD, .int (nI (sC σ)), .ref ymQ, .ref ymP, .ref ymN, .int (nI (sG σ)), .ref ymO, .ref ymY, .ref ymZ, .ref ymX])), (ymS, .inl (cI, 90, .inl (upd (rTs σ) (3 * m0 + w0) (if v = 1 then rTs σ (3 * m0 + w0) ||| nI (2 ^ f) else rTs σ (3 * m0 + w0) &&& (nI (2 ^ f) ^^^ (-1)))))), (ymT, .inl (cI, 90, .inl (rTn σ)))] H := hP
              have hD : va_D A [(ym, .inr (6, [.int (nI (sF σ)), .ref ymB, .int (nI (sN σ)), .ref ymU, .ref ymV, .ref ymR, .ref ymI, .ref ymE, .int (nI (sM σ)), .ref ymS, .ref ymT, .ref ymD, .int (nI (sC σ)), .ref ymQ, .ref ymP, .ref ymN, .int (nI (sG σ)), .ref ymO, .ref ymY, .ref ymZ, .ref ymX])), (ymS, .inl (cI, 90, .inl (upd (rTs σ) (3 * m0 + w0) (if v = 1 then rTs σ (3 * m0 + w0) ||| nI (2 ^ f) else rTs σ (3 * m0 + w0) &&& (nI (2 ^ f) ^^^ (-1)))))), (ymT, .inl (cI, 90, .inl (rTn σ)))] := hD
              refine lv_aload_n hx hb dX6_tell_128 rfl (lv_at hl 2 rfl) ?_
              refine va_get (D := D) (ci := 6) (v := .ref ymT) (C := RX6) (T := TX6) (N := 21) hx hb hts hiX6 hown hK hP 0 rfl rfl 10 (by decide) hf36 (fun _ h9 => h9) rfl dX6_tell_129 ?_
              refine lv_iload hx hb dX6_tell_132 (lv_at hl 1 rfl) ?_
              refine wjoin (pcJ := 166) (lv := [(6, .int (teR σ (3 * m0 + w0) f)), (5, .int (nI (3 * m0 + w0))), (0, .ref ym), (1, .int (nI m0)), (2, .int (nI w0)), (3, .int (nI f)), (4, .int v)]) (nL := 7) (st := [.int (if v = 0 then rTn σ (3 * m0 + w0) ||| nI (2 ^ f) else rTn σ (3 * m0 + w0) &&& (nI (2 ^ f) ^^^ (-1))), .int (nI (3 * m0 + w0)), .ref ymT]) (fun ls hl => ?_) (fun J166 => ?_)
              · skip
                refine xast (k := (3 * m0 + w0)) hx hb hK hP hD hS 2 rfl (by omega) (by decide) dX6_tell_166 (fun H locs hP hD hS => ?_)
                have hP : va_P D vwCl [(ym, .inr (6, [.int (nI (sF σ)), .ref ymB, .int (nI (sN σ)), .ref ymU, .ref ymV, .ref ymR, .ref ymI, .ref ymE, .int (nI (sM σ)), .ref ymS, .ref ymT, .ref ymD, .int (nI (sC σ)), .ref ymQ, .ref ymP, .ref ymN, .int (nI (sG σ)), .ref ymO, .ref ymY, .ref ymZ, .ref ymX])), (ymS, .inl (cI, 90, .inl (upd (rTs σ) (3 * m0 + w0) (if v = 1 then rTs σ (3 * m0 + w0) ||| nI (2 ^ f) else rTs σ (3 * m0 + w0) &&& (nI (2 ^ f) ^^^ (-1)))))), (ymT, .inl (cI, 90, .inl (upd (rTn σ) (3 * m0 + w0) (if v = 0 then rTn σ (3 * m0 + w0) ||| nI (2 ^ f) else rTn σ (3 * m0 + w0) &&& (nI (2 ^ f) ^^^ (-1))))))] H := hP
                have hD : va_D A [(ym, .inr (6, [.int (nI (sF σ)), .ref ymB, .int (nI (sN σ)), .ref ymU, .ref ymV, .ref ymR, .ref ymI, .ref ymE, .int (nI (sM σ)), .ref ymS, .ref ymT, .ref ymD, .int (nI (sC σ)), .ref ymQ, .ref ymP, .ref ymN, .int (nI (sG σ)), .ref ymO, .ref ymY, .ref ymZ, .ref ymX])), (ymS, .inl (cI, 90, .inl (upd (rTs σ) (3 * m0 + w0) (if v = 1 then rTs σ (3 * m0 + w0) ||| nI (2 ^ f) else rTs σ (3 * m0 + w0) &&& (nI (2 ^ f) ^^^ (-1)))))), (ymT, .inl (cI, 90, .inl (upd (rTn σ) (3 * m0 + w0) (if v = 0 then rTn σ (3 * m0 + w0) ||| nI (2 ^ f) else rTn σ (3 * m0 + w0) &&& (nI (2 ^ f) ^^^ (-1))))))] := hD
                refine lv_iload hx hb dX6_tell_167 (lv_at hl 0 rfl) ?_
                have hP9 := hP
                have hD9 := hD
                have eN : nTell σ (nI m0) (nI w0) (nI f) v = teS σ (3 * m0 + w0) f v := by rw [nTell, if_neg (by rw [c5]; decide), if_neg (by rw [c13]; decide), if_neg (by rw [c24]; decide), if_neg (by rw [c34]; decide), km, kw, kf]
                exact W.iret (v := teR σ (3 * m0 + w0) f) hx hb hr (fun t ht hW => ⟨⟨teR σ (3 * m0 + w0) f, (), rfl, (by rw [oTell, if_neg (by rw [c5]; decide), if_neg (by rw [c13]; decide), if_neg (by rw [c24]; decide), if_neg (by rw [c34]; decide), km, kw, kf]), ⟨⟨by rw [ht, eN]; exact hP9, va_K.moved hW.alike hK, NW.warm hW hN⟩, by rw [eN]; exact hD9⟩⟩, hS.F ht⟩) hS.2.2 dX6_tell_169
              · skip
                refine lv_iload hx hb dX6_tell_134 (lv_at hl 6 rfl) ?_
                refine lv_if_ne (tgt := 153) hx hb dX6_tell_136 (by decide) (fun c136 => ?_) (fun c136 => ?_)
                · skip
                  refine lv_aload_n hx hb dX6_tell_153 rfl (lv_at hl 2 rfl) ?_
                  refine va_get (D := D) (ci := 6) (v := .ref ymT) (C := RX6) (T := TX6) (N := 21) hx hb hts hiX6 hown hK hP 0 rfl rfl 10 (by decide) hf36 (fun _ h9 => h9) rfl dX6_tell_154 ?_
                  refine lv_iload hx hb dX6_tell_157 (lv_at hl 1 rfl) ?_
                  refine xald (k := (3 * m0 + w0)) hx hb hK hP 2 rfl (by omega) (by decide) dX6_tell_159 ?_
                  refine lv_iconst (v := 1) hx hb dX6_tell_160 (by decide) ?_
                  refine lv_iload_n hx hb dX6_tell_161 rfl (lv_at hl 5 rfl) ?_
                  refine lv_ishl hx hb dX6_tell_162 ?_
                  refine lv_asi (show (1 : Int32) <<< ((nI f) &&& 31) = nI (2 ^ f) from shl1 f (by omega)) ?_
                  refine lv_iconst (v := (-1)) hx hb dX6_tell_163 (by decide) ?_
                  refine lv_ixor hx hb dX6_tell_164 ?_
                  refine lv_iand hx hb dX6_tell_165 ?_
                  refine lv_asi (show ((rTn σ (3 * m0 + w0)) &&& ((nI (2 ^ f)) ^^^ (-1)) : Int32) = if v = 0 then rTn σ (3 * m0 + w0) ||| nI (2 ^ f) else rTn σ (3 * m0 + w0) &&& (nI (2 ^ f) ^^^ (-1)) from by rw [if_neg c136]) ?_
                  exact J166 ls (lv_sub hl [0, 1, 2, 3, 4, 5, 6] rfl)
                · skip
                  refine lv_aload_n hx hb dX6_tell_139 rfl (lv_at hl 2 rfl) ?_
                  refine va_get (D := D) (ci := 6) (v := .ref ymT) (C := RX6) (T := TX6) (N := 21) hx hb hts hiX6 hown hK hP 0 rfl rfl 10 (by decide) hf36 (fun _ h9 => h9) rfl dX6_tell_140 ?_
                  refine lv_iload hx hb dX6_tell_143 (lv_at hl 1 rfl) ?_
                  refine xald (k := (3 * m0 + w0)) hx hb hK hP 2 rfl (by omega) (by decide) dX6_tell_145 ?_
                  refine lv_iconst (v := 1) hx hb dX6_tell_146 (by decide) ?_
                  refine lv_iload_n hx hb dX6_tell_147 rfl (lv_at hl 5 rfl) ?_
                  refine lv_ishl hx hb dX6_tell_148 ?_
                  refine lv_asi (show (1 : Int32) <<< ((nI f) &&& 31) = nI (2 ^ f) from shl1 f (by omega)) ?_
                  refine lv_ior hx hb dX6_tell_149 ?_
                  refine lv_goto (tgt := 166) hx hb dX6_tell_150 (by decide) ?_
                  refine lv_asi (show ((rTn σ (3 * m0 + w0)) ||| (nI (2 ^ f)) : Int32) = if v = 0 then rTn σ (3 * m0 + w0) ||| nI (2 ^ f) else rTn σ (3 * m0 + w0) &&& (nI (2 ^ f) ^^^ (-1)) from by rw [if_pos c136]) ?_
                  exact J166 ls (lv_sub hl [0, 1, 2, 3, 4, 5, 6] rfl)
            · skip
              refine lv_iload hx hb dX6_tell_94 (lv_at hl 6 rfl) ?_
              refine lv_iconst (v := 1) hx hb dX6_tell_96 (by decide) ?_
              refine lv_icmp_ne (tgt := 114) hx hb dX6_tell_97 (by decide) (fun c97 => ?_) (fun c97 => ?_)
              · skip
                refine lv_aload_n hx hb dX6_tell_114 rfl (lv_at hl 2 rfl) ?_
                refine va_get (D := D) (ci := 6) (v := .ref ymS) (C := RX6) (T := TX6) (N := 21) hx hb hts hiX6 hown hK hP 0 rfl rfl 9 (by decide) hf33 (fun _ h9 => h9) rfl dX6_tell_115 ?_
                refine lv_iload hx hb dX6_tell_118 (lv_at hl 1 rfl) ?_
                refine xald (k := (3 * m0 + w0)) hx hb hK hP 1 rfl (by omega) (by decide) dX6_tell_120 ?_
                refine lv_iconst (v := 1) hx hb dX6_tell_121 (by decide) ?_
                refine lv_iload_n hx hb dX6_tell_122 rfl (lv_at hl 5 rfl) ?_
                refine lv_ishl hx hb dX6_tell_123 ?_
                refine lv_asi (show (1 : Int32) <<< ((nI f) &&& 31) = nI (2 ^ f) from shl1 f (by omega)) ?_
                refine lv_iconst (v := (-1)) hx hb dX6_tell_124 (by decide) ?_
                refine lv_ixor hx hb dX6_tell_125 ?_
                refine lv_iand hx hb dX6_tell_126 ?_
                refine lv_asi (show ((rTs σ (3 * m0 + w0)) &&& ((nI (2 ^ f)) ^^^ (-1)) : Int32) = if v = 1 then rTs σ (3 * m0 + w0) ||| nI (2 ^ f) else rTs σ (3 * m0 + w0) &&& (nI (2 ^ f) ^^^ (-1)) from by rw [if_neg c97]) ?_
                exact J127 ls (lv_sub hl [0, 1, 2, 3, 4, 5, 6] rfl)
              · skip
                refine lv_aload_n hx hb dX6_tell_100 rfl (lv_at hl 2 rfl) ?_
                refine va_get (D := D) (ci := 6) (v := .ref ymS) (C := RX6) (T := TX6) (N := 21) hx hb hts hiX6 hown hK hP 0 rfl rfl 9 (by decide) hf33 (fun _ h9 => h9) rfl dX6_tell_101 ?_
                refine lv_iload hx hb dX6_tell_104 (lv_at hl 1 rfl) ?_
                refine xald (k := (3 * m0 + w0)) hx hb hK hP 1 rfl (by omega) (by decide) dX6_tell_106 ?_
                refine lv_iconst (v := 1) hx hb dX6_tell_107 (by decide) ?_
                refine lv_iload_n hx hb dX6_tell_108 rfl (lv_at hl 5 rfl) ?_
                refine lv_ishl hx hb dX6_tell_109 ?_
                refine lv_asi (show (1 : Int32) <<< ((nI f) &&& 31) = nI (2 ^ f) from shl1 f (by omega)) ?_
                refine lv_ior hx hb dX6_tell_110 ?_
                refine lv_goto (tgt := 127) hx hb dX6_tell_111 (by decide) ?_
                refine lv_asi (show ((rTs σ (3 * m0 + w0)) ||| (nI (2 ^ f)) : Int32) = if v = 1 then rTs σ (3 * m0 + w0) ||| nI (2 ^ f) else rTs σ (3 * m0 + w0) &&& (nI (2 ^ f) ^^^ (-1)) from by rw [if_pos c97]) ?_
                exact J127 ls (lv_sub hl [0, 1, 2, 3, 4, 5, 6] rfl)
          · skip
            refine lv_aload_n hx hb dX6_tell_47 rfl (lv_at hl 1 rfl) ?_
            refine va_get (D := D) (ci := 6) (v := .ref ymS) (C := RX6) (T := TX6) (N := 21) hx hb hts hiX6 hown hK hP 0 rfl rfl 9 (by decide) hf33 (fun _ h9 => h9) rfl dX6_tell_48 ?_
            refine lv_iload hx hb dX6_tell_51 (lv_at hl 0 rfl) ?_
            refine xald (k := (3 * m0 + w0)) hx hb hK hP 1 rfl (by omega) (by decide) dX6_tell_53 ?_
            refine lv_iload_n hx hb dX6_tell_54 rfl (lv_at hl 4 rfl) ?_
            refine lv_ishr hx hb dX6_tell_55 ?_
            refine lv_iconst (v := 1) hx hb dX6_tell_56 (by decide) ?_
            refine lv_iand hx hb dX6_tell_57 ?_
            refine lv_asi (show ((rTs σ (3 * m0 + w0)) >>> ((nI f) &&& 31)) &&& 1 = b2 (bit (rTs σ (3 * m0 + w0)) (nI f)) from hb_b2 _ _) ?_
            refine lv_iconst (v := 1) hx hb dX6_tell_58 (by decide) ?_
            refine lv_icmp_ne (tgt := 66) hx hb dX6_tell_59 (by decide) (fun c59 => ?_) (fun c59 => ?_)
            · skip
              have c59 := b2_n1 c59
              refine lv_aload_n hx hb dX6_tell_66 rfl (lv_at hl 1 rfl) ?_
              refine va_get (D := D) (ci := 6) (v := .ref ymT) (C := RX6) (T := TX6) (N := 21) hx hb hts hiX6 hown hK hP 0 rfl rfl 10 (by decide) hf36 (fun _ h9 => h9) rfl dX6_tell_67 ?_
              refine lv_iload hx hb dX6_tell_70 (lv_at hl 0 rfl) ?_
              refine xald (k := (3 * m0 + w0)) hx hb hK hP 2 rfl (by omega) (by decide) dX6_tell_72 ?_
              refine lv_iload_n hx hb dX6_tell_73 rfl (lv_at hl 4 rfl) ?_
              refine lv_ishr hx hb dX6_tell_74 ?_
              refine lv_iconst (v := 1) hx hb dX6_tell_75 (by decide) ?_
              refine lv_iand hx hb dX6_tell_76 ?_
              refine lv_asi (show ((rTn σ (3 * m0 + w0)) >>> ((nI f) &&& 31)) &&& 1 = b2 (bit (rTn σ (3 * m0 + w0)) (nI f)) from hb_b2 _ _) ?_
              refine lv_iconst (v := 1) hx hb dX6_tell_77 (by decide) ?_
              refine lv_icmp_ne (tgt := 85) hx hb dX6_tell_78 (by decide) (fun c78 => ?_) (fun c78 => ?_)
              · skip
                have c78 := b2_n1 c78
                refine lv_iconst (v := 2) hx hb dX6_tell_85 (by decide) ?_
                refine lv_asi (show (2 : Int32) = teR σ (3 * m0 + w0) f from by rw [teR, if_neg (by rw [c59]; decide), if_neg (by rw [c78]; decide)]) ?_
                exact J86 ls (lv_sub hl [0, 1, 2, 3, 4, 5] rfl)
              · skip
                have c78 := b2_e1 c78
                refine lv_iconst (v := 0) hx hb dX6_tell_81 (by decide) ?_
                refine lv_goto (tgt := 86) hx hb dX6_tell_82 (by decide) ?_
                refine lv_asi (show (0 : Int32) = teR σ (3 * m0 + w0) f from by rw [teR, if_neg (by rw [c59]; decide), if_pos c78]) ?_
                exact J86 ls (lv_sub hl [0, 1, 2, 3, 4, 5] rfl)
            · skip
              have c59 := b2_e1 c59
              refine lv_iconst (v := 1) hx hb dX6_tell_62 (by decide) ?_
              refine lv_goto (tgt := 86) hx hb dX6_tell_63 (by decide) ?_
              refine lv_asi (show (1 : Int32) = teR σ (3 * m0 + w0) f from by rw [teR, if_pos c59]) ?_
              exact J86 ls (lv_sub hl [0, 1, 2, 3, 4, 5] rfl)
        · skip
          have c34 := b2_0 c34
          refine lv_bipush (v := (-2)) hx hb dX6_tell_37 (by decide) ?_
          have hP9 := hP
          have hD9 := hD
          have eN : nTell σ x y z v = σ := by rw [nTell, if_neg (by rw [c5]; decide), if_neg (by rw [c13]; decide), if_neg (by rw [c24]; decide), if_pos c34]
          have eO : oTell σ x y z v = -2 := by rw [oTell, if_neg (by rw [c5]; decide), if_neg (by rw [c13]; decide), if_neg (by rw [c24]; decide), if_pos c34]
          exact W.iret (v := (-2)) hx hb hr (fun t ht hW => ⟨⟨(-2), (), rfl, eO.symm, ⟨⟨by rw [ht, eN]; exact hP9, va_K.moved hW.alike hK, NW.warm hW hN⟩, by rw [eN]; exact hD9⟩⟩, hS.F ht⟩) hS.2.2 dX6_tell_39
    · skip
      have c13 := b2_0 c13
      refine lv_iconst (v := (-1)) hx hb dX6_tell_16 (by decide) ?_
      have hP9 := hP
      have hD9 := hD
      have eN : nTell σ x y z v = σ := by rw [nTell, if_neg (by rw [c5]; decide), if_pos c13]
      have eO : oTell σ x y z v = -1 := by rw [oTell, if_neg (by rw [c5]; decide), if_pos c13]
      exact W.iret (v := (-1)) hx hb hr (fun t ht hW => ⟨⟨(-1), (), rfl, eO.symm, ⟨⟨by rw [ht, eN]; exact hP9, va_K.moved hW.alike hK, NW.warm hW hN⟩, by rw [eN]; exact hD9⟩⟩, hS.F ht⟩) hS.2.2 dX6_tell_17

set_option maxHeartbeats 4000000 in
set_option maxRecDepth 100000 in
theorem c_X6_rule (l : Launch) (D : va_G) (cI cZ : ClassId) (sz : Nat) (ym : Nat) (ymB : Nat) (ymU : Nat) (ymV : Nat) (ymR : Nat) (ymI : Nat) (ymE : Nat) (ymS : Nat) (ymT : Nat) (ymD : Nat) (ymQ : Nat) (ymP : Nat) (ymN : Nat) (ymO : Nat) (ymY : Nat) (ymZ : Nat) (ymX : Nat) (σ : ST) (ir : Nat → Int32) (x : Int32) (y : Int32) (hok : Ok σ) (hir : ∀ l, l < sN σ → ir l = b2 (bit (sR σ) (nI l))) : Met l yX6_rule wsX6_rule ({ frames := 5, cells := 0, slots := 0, locals := 118 }) (va_Pc [.ref ym, .int x, .int y] (XW D cI cZ [(ym, .inr (6, [.int (nI (sF σ)), .ref ymB, .int (nI (sN σ)), .ref ymU, .ref ymV, .ref ymR, .ref ymI, .ref ymE, .int (nI (sM σ)), .ref ymS, .ref ymT, .ref ymD, .int (nI (sC σ)), .ref ymQ, .ref ymP, .ref ymN, .int (nI (sG σ)), .ref ymO, .ref ymY, .ref ymZ, .ref ymX])), (ymB, .inl (cI, 7, .inl (rB σ))), (ymU, .inl (cI, 12, .inl (rMu σ))), (ymV, .inl (cI, 12, .inl (rMn σ))), (ymR, .inl (cI, 12, .inl (rRu σ))), (ymI, .inl (cZ, 12, .inl ir)), (ymE, .inl (cI, 12, .inl (rEr σ))), (ymS, .inl (cI, 90, .inl (rTs σ))), (ymT, .inl (cI, 90, .inl (rTn σ))), (ymD, .inl (cI, 30, .inl (rRd σ))), (ymQ, .inl (cI, 12, .inl (rCk σ))), (ymP, .inl (cI, 12, .inl (rCr σ))), (ymN, .inl (cI, 12, .inl (rCn σ)))] sz)) (va_Qi (fun (r : Int32) (u : Unit) => r = oRule σ x y) (fun u => XB D cI cZ (va_A [(ym, .inr (6, [.int (nI (sF σ)), .ref ymB, .int (nI (sN σ)), .ref ymU, .ref ymV, .ref ymR, .ref ymI, .ref ymE, .int (nI (sM σ)), .ref ymS, .ref ymT, .ref ymD, .int (nI (sC σ)), .ref ymQ, .ref ymP, .ref ymN, .int (nI (sG σ)), .ref ymO, .ref ymY, .ref ymZ, .ref ymX])), (ymB, .inl (cI, 7, .inl (rB σ))), (ymU, .inl (cI, 12, .inl (rMu σ))), (ymV, .inl (cI, 12, .inl (rMn σ))), (ymR, .inl (cI, 12, .inl (rRu σ))), (ymI, .inl (cZ, 12, .inl ir)), (ymE, .inl (cI, 12, .inl (rEr σ))), (ymS, .inl (cI, 90, .inl (rTs σ))), (ymT, .inl (cI, 90, .inl (rTn σ))), (ymD, .inl (cI, 30, .inl (rRd σ))), (ymQ, .inl (cI, 12, .inl (rCk σ))), (ymP, .inl (cI, 12, .inl (rCr σ))), (ymN, .inl (cI, 12, .inl (rCn σ)))] sz) [(ym, .inr (6, [.int (nI (sF (nRule σ x y))), .ref ymB, .int (nI (sN (nRule σ x y))), .ref ymU, .ref ymV, .ref ymR, .ref ymI, .ref ymE, .int (nI (sM (nRule σ x y))), .ref ymS, .ref ymT, .ref ymD, .int (nI (sC (nRule σ x y))), .ref ymQ, .ref ymP, .ref ymN, .int (nI (sG (nRule σ x y))), .ref ymO, .ref ymY, .ref ymZ, .ref ymX])), (ymB, .inl (cI, 7, .inl (rB (nRule σ x y)))), (ymU, .inl (cI, 12, .inl (rMu (nRule σ x y)))), (ymV, .inl (cI, 12, .inl (rMn (nRule σ x y)))), (ymR, .inl (cI, 12, .inl (rRu (nRule σ x y)))), (ymI, .inl (cZ, 12, .inl ir)), (ymE, .inl (cI, 12, .inl (rEr (nRule σ x y)))), (ymS, .inl (cI, 90, .inl (rTs (nRule σ x y)))), (ymT, .inl (cI, 90, .inl (rTn (nRule σ x y)))), (ymD, .inl (cI, 30, .inl (rRd (nRule σ x y)))), (ymQ, .inl (cI, 12, .inl (rCk (nRule σ x y)))), (ymP, .inl (cI, 12, .inl (rCr (nRule σ x y)))), (ymN, .inl (cI, 12, .inl (rCn (nRule σ x y))))]) (va_A [(ym, .inr (6, [.int (nI (sF σ)), .ref ymB, .int (nI (sN σ)), .ref ymU, .ref ymV, .ref ymR, .ref ymI, .ref ymE, .int (nI (sM σ)), .ref ymS, .ref ymT, .ref ymD, .int (nI (sC σ)), .ref ymQ, .ref ymP, .ref ymN, .int (nI (sG σ)), .ref ymO, .ref ymY, .ref ymZ, .ref ymX])), (ymB, .inl (cI, 7, .inl (rB σ))), (ymU, .inl (cI, 12, .inl (rMu σ))), (ymV, .inl (cI, 12, .inl (rMn σ))), (ymR, .inl (cI, 12, .inl (rRu σ))), (ymI, .inl (cZ, 12, .inl ir)), (ymE, .inl (cI, 12, .inl (rEr σ))), (ymS, .inl (cI, 90, .inl (rTs σ))), (ymT, .inl (cI, 90, .inl (rTn σ))), (ymD, .inl (cI, 30, .inl (rRd σ))), (ymQ, .inl (cI, 12, .inl (rCk σ))), (ymP, .inl (cI, 12, .inl (rCr σ))), (ymN, .inl (cI, 12, .inl (rCn σ)))] sz)) 0 0 (va_A [(ym, .inr (6, [.int (nI (sF σ)), .ref ymB, .int (nI (sN σ)), .ref ymU, .ref ymV, .ref ymR, .ref ymI, .ref ymE, .int (nI (sM σ)), .ref ymS, .ref ymT, .ref ymD, .int (nI (sC σ)), .ref ymQ, .ref ymP, .ref ymN, .int (nI (sG σ)), .ref ymO, .ref ymY, .ref ymZ, .ref ymX])), (ymB, .inl (cI, 7, .inl (rB σ))), (ymU, .inl (cI, 12, .inl (rMu σ))), (ymV, .inl (cI, 12, .inl (rMn σ))), (ymR, .inl (cI, 12, .inl (rRu σ))), (ymI, .inl (cZ, 12, .inl ir)), (ymE, .inl (cI, 12, .inl (rEr σ))), (ymS, .inl (cI, 90, .inl (rTs σ))), (ymT, .inl (cI, 90, .inl (rTn σ))), (ymD, .inl (cI, 30, .inl (rRd σ))), (ymQ, .inl (cI, 12, .inl (rCk σ))), (ymP, .inl (cI, 12, .inl (rCr σ))), (ymN, .inl (cI, 12, .inl (rCn σ)))] sz) := by
  refine Met.ofW (cc := cX6_rule) (maxL := 4) (ret := (some .int)) (by decide) rfl ?_
  intro p e s m args below meth c s₁ B hml hv
  obtain ⟨rfl, hsz, ⟨hP, hK, hN⟩, hD0⟩ := hv
  have hx := B.exec
  have hb := B.bytes
  have hr := B.returns
  have hts := atoms_spec (ws := wsX6_rule) B.pre
  have hown : s.vm.findClass RX6 = some m.cls := findClass_of_methodNamed B.named
  have hlocks := B.notSynchronized
  subst hsz
  have hD := hD0.self (sz := s.heap.size)
  generalize hAe : va_A [(ym, .inr (6, [.int (nI (sF σ)), .ref ymB, .int (nI (sN σ)), .ref ymU, .ref ymV, .ref ymR, .ref ymI, .ref ymE, .int (nI (sM σ)), .ref ymS, .ref ymT, .ref ymD, .int (nI (sC σ)), .ref ymQ, .ref ymP, .ref ymN, .int (nI (sG σ)), .ref ymO, .ref ymY, .ref ymZ, .ref ymX])), (ymB, .inl (cI, 7, .inl (rB σ))), (ymU, .inl (cI, 12, .inl (rMu σ))), (ymV, .inl (cI, 12, .inl (rMn σ))), (ymR, .inl (cI, 12, .inl (rRu σ))), (ymI, .inl (cZ, 12, .inl ir)), (ymE, .inl (cI, 12, .inl (rEr σ))), (ymS, .inl (cI, 90, .inl (rTs σ))), (ymT, .inl (cI, 90, .inl (rTn σ))), (ymD, .inl (cI, 30, .inl (rRd σ))), (ymQ, .inl (cI, 12, .inl (rCk σ))), (ymP, .inl (cI, 12, .inl (rCr σ))), (ymN, .inl (cI, 12, .inl (rCn σ)))] s.heap.size = A at hD ⊢
  have hA : ∀ q : Nat, s.heap.size ≤ q → A q := fun q h => by rw [← hAe]; exact Or.inr h
  have hS : va_S A s.heap s.heap [] := va_S.rf
  have ho := hok.1
  have hk2 := hok.k
  have hp2 : 1 ≤ 2 ^ sF σ := Nat.two_pow_pos _
  have hf39 := hts (.fieldLink RX6 39 "BallCourtModel" "ruled" "[I") (List.mem_of_getElem? (i := 1) (by decide +kernel))
  have hiX6 : ∀ w ∈ wsX60, w ∈ wsX6_rule := fun w h => List.mem_cons_of_mem _ (List.mem_append_right _ h)
  have hl := lv_entry ([.ref ym, .int x, .int y]) (n := 4) (Nat.le_of_ble_eq_true rfl)
  rw [lg_entry_eq]
  generalize (lg_sl ([.ref ym, .int x, .int y]) ++ List.replicate (4 - (lg_sl ([.ref ym, .int x, .int y])).length) Slot.unset).toArray = ls at hl ⊢
  have hl : lv_has ls 4 [(0, .ref ym), (1, .int x), (2, .int y)] := hl
  refine lv_aload_n hx hb dX6_rule_0 rfl (lv_at hl 0 rfl) ?_
  refine lv_iload_n hx hb dX6_rule_1 rfl (lv_at hl 1 rfl) ?_
  refine xpV (rest := []) ⟨hx, hb, hml, hown, hts⟩ (c_X6_isMoment l D cI cZ ym ymB ymU ymV ymR ymI ymE ymS ymT ymD ymQ ymP ymN ymO ymY ymZ ymX σ x hok) (cwV 1 hts gX6_rule_X6_isMoment rfl rfl rfl (by decide +kernel) ⟨Nat.le_of_ble_eq_true rfl, Nat.le_of_ble_eq_true rfl⟩) hP [0] rfl hK hN (ci := 6) (q0 := 0) rfl rfl rfl hl.1 rfl (Nat.le_of_ble_eq_true rfl) dX6_rule_2 ⟨Nat.zero_le _, Nat.zero_le _⟩ (fun r2 e2 => ?_)
  subst e2
  refine lv_if_ne (tgt := 10) hx hb dX6_rule_5 (by decide) (fun c5 => ?_) (fun c5 => ?_)
  · skip
    have c5 := b2_1 c5
    obtain ⟨q, hq, rfl⟩ := inN_t c5 (by omega)
    have kq := clp hq (show sM σ ≤ 128 by omega)
    refine lv_iload_n hx hb dX6_rule_10 rfl (lv_at hl 2 rfl) ?_
    refine lv_iconst (v := (-1)) hx hb dX6_rule_11 (by decide) ?_
    refine lv_icmp_eq (tgt := 25) hx hb dX6_rule_12 (by decide) (fun c12 => ?_) (fun c12 => ?_)
    · skip
      have cR : rul1 y = true := by rw [rul1, decide_eq_true c12]; rfl
      refine lv_aload_n hx hb dX6_rule_25 rfl (lv_at hl 0 rfl) ?_
      refine lv_iload_n hx hb dX6_rule_26 rfl (lv_at hl 1 rfl) ?_
      refine xpV (rest := []) ⟨hx, hb, hml, hown, hts⟩ (c_X6_verdictOf l D cI cZ ym ymB ymU ymV ymR ymI ymE ymS ymT ymD ymQ ymP ymN ymO ymY ymZ ymX σ ir (sR σ) q hok hq hir) (cwV 1 hts gX6_rule_X6_verdictOf rfl rfl rfl (by decide +kernel) ⟨Nat.le_of_ble_eq_true rfl, Nat.le_of_ble_eq_true rfl⟩) hP [0, 1, 2, 3, 4, 5, 6, 7, 8, 9, 10, 11, 12] rfl hK hN (ci := 6) (q0 := 0) rfl rfl rfl hl.1 rfl (Nat.le_of_ble_eq_true rfl) dX6_rule_27 ⟨Nat.zero_le _, Nat.zero_le _⟩ (fun r27 e27 => ?_)
      subst e27
      refine lv_istore_n (lv' := [(3, .int (verI σ (sR σ) q)), (0, .ref ym), (1, .int (nI q)), (2, .int y)]) hx hb dX6_rule_30 rfl hl (by decide) rfl (fun ls hl => ?_)
      refine lv_aload_n hx hb dX6_rule_31 rfl (lv_at hl 1 rfl) ?_
      refine va_get (D := D) (ci := 6) (v := .ref ymD) (C := RX6) (T := TX6) (N := 21) hx hb hts hiX6 hown hK hP 0 rfl rfl 11 (by decide) hf39 (fun _ h9 => h9) rfl dX6_rule_32 ?_
      refine lv_iload_n hx hb dX6_rule_35 rfl (lv_at hl 2 rfl) ?_
      refine lv_iload_n hx hb dX6_rule_36 rfl (lv_at hl 3 rfl) ?_
      refine xast (k := q) hx hb hK hP hD hS 9 rfl (by omega) (by decide) dX6_rule_37 (fun H locs hP hD hS => ?_)
      have hP : va_P D vwCl [(ym, .inr (6, [.int (nI (sF σ)), .ref ymB, .int (nI (sN σ)), .ref ymU, .ref ymV, .ref ymR, .ref ymI, .ref ymE, .int (nI (sM σ)), .ref ymS, .ref ymT, .ref ymD, .int (nI (sC σ)), .ref ymQ, .ref ymP, .ref ymN, .int (nI (sG σ)), .ref ymO, .ref ymY, .ref ymZ, .ref ymX])), (ymB, .inl (cI, 7, .inl (rB σ))), (ymU, .inl (cI, 12, .inl (rMu σ))), (ymV, .inl (cI, 12, .inl (rMn σ))), (ymR, .inl (cI, 12, .inl (rRu σ))), (ymI, .inl (cZ, 12, .inl ir)), (ymE, .inl (cI, 12, .inl (rEr σ))), (ymS, .inl (cI, 90, .inl (rTs σ))), (ymT, .inl (cI, 90, .inl (rTn σ))), (ymD, .inl (cI, 30, .inl (upd (rRd σ) q y))), (ymQ, .inl (cI, 12, .inl (rCk σ))), (ymP, .inl (cI, 12, .inl (rCr σ))), (ymN, .inl (cI, 12, .inl (rCn σ)))] H := hP
      have hD : va_D A [(ym, .inr (6, [.int (nI (sF σ)), .ref ymB, .int (nI (sN σ)), .ref ymU, .ref ymV, .ref ymR, .ref ymI, .ref ymE, .int (nI (sM σ)), .ref ymS, .ref ymT, .ref ymD, .int (nI (sC σ)), .ref ymQ, .ref ymP, .ref ymN, .int (nI (sG σ)), .ref ymO, .ref ymY, .ref ymZ, .ref ymX])), (ymB, .inl (cI, 7, .inl (rB σ))), (ymU, .inl (cI, 12, .inl (rMu σ))), (ymV, .inl (cI, 12, .inl (rMn σ))), (ymR, .inl (cI, 12, .inl (rRu σ))), (ymI, .inl (cZ, 12, .inl ir)), (ymE, .inl (cI, 12, .inl (rEr σ))), (ymS, .inl (cI, 90, .inl (rTs σ))), (ymT, .inl (cI, 90, .inl (rTn σ))), (ymD, .inl (cI, 30, .inl (upd (rRd σ) q y))), (ymQ, .inl (cI, 12, .inl (rCk σ))), (ymP, .inl (cI, 12, .inl (rCr σ))), (ymN, .inl (cI, 12, .inl (rCn σ)))] := hD
      refine lv_iload_n hx hb dX6_rule_38 rfl (lv_at hl 0 rfl) ?_
      have hP9 := hP
      have hD9 := hD
      have eN : nRule σ (nI q) y = rdS σ q y := by rw [nRule, if_neg (by rw [c5]; decide), if_neg (by rw [cR]; decide), kq]
      exact W.iret (v := verI σ (sR σ) q) hx hb hr (fun t ht hW => ⟨⟨verI σ (sR σ) q, (), rfl, (by rw [oRule, if_neg (by rw [c5]; decide), if_neg (by rw [cR]; decide), kq]), ⟨⟨by rw [ht, eN]; exact hP9, va_K.moved hW.alike hK, NW.warm hW hN⟩, by rw [eN]; exact hD9⟩⟩, hS.F ht⟩) hS.2.2 dX6_rule_39
    · skip
      refine lv_iload_n hx hb dX6_rule_15 rfl (lv_at hl 2 rfl) ?_
      refine xpS (rest := []) ⟨hx, hb, hml, hown, hts⟩ (c_X6_isRuling l D cI cZ y) (va_cwS 1 hts gX6_rule_X6_isRuling rfl rfl rfl (by decide +kernel) ⟨Nat.le_of_ble_eq_true rfl, Nat.le_of_ble_eq_true rfl⟩) hP [] rfl hK hN rfl hl.1 rfl (Nat.le_of_ble_eq_true rfl) dX6_rule_16 ⟨Nat.zero_le _, Nat.zero_le _⟩ (fun r16 e16 => ?_)
      subst e16
      refine lv_if_ne (tgt := 25) hx hb dX6_rule_19 (by decide) (fun c19 => ?_) (fun c19 => ?_)
      · skip
        have c19 := b2_1 c19
        have cR : rul1 y = true := by rw [rul1, c19]; exact Bool.or_true _
        refine lv_aload_n hx hb dX6_rule_25 rfl (lv_at hl 0 rfl) ?_
        refine lv_iload_n hx hb dX6_rule_26 rfl (lv_at hl 1 rfl) ?_
        refine xpV (rest := []) ⟨hx, hb, hml, hown, hts⟩ (c_X6_verdictOf l D cI cZ ym ymB ymU ymV ymR ymI ymE ymS ymT ymD ymQ ymP ymN ymO ymY ymZ ymX σ ir (sR σ) q hok hq hir) (cwV 1 hts gX6_rule_X6_verdictOf rfl rfl rfl (by decide +kernel) ⟨Nat.le_of_ble_eq_true rfl, Nat.le_of_ble_eq_true rfl⟩) hP [0, 1, 2, 3, 4, 5, 6, 7, 8, 9, 10, 11, 12] rfl hK hN (ci := 6) (q0 := 0) rfl rfl rfl hl.1 rfl (Nat.le_of_ble_eq_true rfl) dX6_rule_27 ⟨Nat.zero_le _, Nat.zero_le _⟩ (fun r27 e27 => ?_)
        subst e27
        refine lv_istore_n (lv' := [(3, .int (verI σ (sR σ) q)), (0, .ref ym), (1, .int (nI q)), (2, .int y)]) hx hb dX6_rule_30 rfl hl (by decide) rfl (fun ls hl => ?_)
        refine lv_aload_n hx hb dX6_rule_31 rfl (lv_at hl 1 rfl) ?_
        refine va_get (D := D) (ci := 6) (v := .ref ymD) (C := RX6) (T := TX6) (N := 21) hx hb hts hiX6 hown hK hP 0 rfl rfl 11 (by decide) hf39 (fun _ h9 => h9) rfl dX6_rule_32 ?_
        refine lv_iload_n hx hb dX6_rule_35 rfl (lv_at hl 2 rfl) ?_
        refine lv_iload_n hx hb dX6_rule_36 rfl (lv_at hl 3 rfl) ?_
        refine xast (k := q) hx hb hK hP hD hS 9 rfl (by omega) (by decide) dX6_rule_37 (fun H locs hP hD hS => ?_)
        have hP : va_P D vwCl [(ym, .inr (6, [.int (nI (sF σ)), .ref ymB, .int (nI (sN σ)), .ref ymU, .ref ymV, .ref ymR, .ref ymI, .ref ymE, .int (nI (sM σ)), .ref ymS, .ref ymT, .ref ymD, .int (nI (sC σ)), .ref ymQ, .ref ymP, .ref ymN, .int (nI (sG σ)), .ref ymO, .ref ymY, .ref ymZ, .ref ymX])), (ymB, .inl (cI, 7, .inl (rB σ))), (ymU, .inl (cI, 12, .inl (rMu σ))), (ymV, .inl (cI, 12, .inl (rMn σ))), (ymR, .inl (cI, 12, .inl (rRu σ))), (ymI, .inl (cZ, 12, .inl ir)), (ymE, .inl (cI, 12, .inl (rEr σ))), (ymS, .inl (cI, 90, .inl (rTs σ))), (ymT, .inl (cI, 90, .inl (rTn σ))), (ymD, .inl (cI, 30, .inl (upd (rRd σ) q y))), (ymQ, .inl (cI, 12, .inl (rCk σ))), (ymP, .inl (cI, 12, .inl (rCr σ))), (ymN, .inl (cI, 12, .inl (rCn σ)))] H := hP
        have hD : va_D A [(ym, .inr (6, [.int (nI (sF σ)), .ref ymB, .int (nI (sN σ)), .ref ymU, .ref ymV, .ref ymR, .ref ymI, .ref ymE, .int (nI (sM σ)), .ref ymS, .ref ymT, .ref ymD, .int (nI (sC σ)), .ref ymQ, .ref ymP, .ref ymN, .int (nI (sG σ)), .ref ymO, .ref ymY, .ref ymZ, .ref ymX])), (ymB, .inl (cI, 7, .inl (rB σ))), (ymU, .inl (cI, 12, .inl (rMu σ))), (ymV, .inl (cI, 12, .inl (rMn σ))), (ymR, .inl (cI, 12, .inl (rRu σ))), (ymI, .inl (cZ, 12, .inl ir)), (ymE, .inl (cI, 12, .inl (rEr σ))), (ymS, .inl (cI, 90, .inl (rTs σ))), (ymT, .inl (cI, 90, .inl (rTn σ))), (ymD, .inl (cI, 30, .inl (upd (rRd σ) q y))), (ymQ, .inl (cI, 12, .inl (rCk σ))), (ymP, .inl (cI, 12, .inl (rCr σ))), (ymN, .inl (cI, 12, .inl (rCn σ)))] := hD
        refine lv_iload_n hx hb dX6_rule_38 rfl (lv_at hl 0 rfl) ?_
        have hP9 := hP
        have hD9 := hD
        have eN : nRule σ (nI q) y = rdS σ q y := by rw [nRule, if_neg (by rw [c5]; decide), if_neg (by rw [cR]; decide), kq]
        exact W.iret (v := verI σ (sR σ) q) hx hb hr (fun t ht hW => ⟨⟨verI σ (sR σ) q, (), rfl, (by rw [oRule, if_neg (by rw [c5]; decide), if_neg (by rw [cR]; decide), kq]), ⟨⟨by rw [ht, eN]; exact hP9, va_K.moved hW.alike hK, NW.warm hW hN⟩, by rw [eN]; exact hD9⟩⟩, hS.F ht⟩) hS.2.2 dX6_rule_39
      · skip
        have c19 := b2_0 c19
        refine lv_bipush (v := (-2)) hx hb dX6_rule_22 (by decide) ?_
        have hP9 := hP
        have hD9 := hD
        have cR : rul1 y = false := by rw [rul1, decide_eq_false c12, c19]; rfl
        have eN : nRule σ (nI q) y = σ := by rw [nRule, if_neg (by rw [c5]; decide), if_pos cR]
        exact W.iret (v := (-2)) hx hb hr (fun t ht hW => ⟨⟨(-2), (), rfl, (by rw [oRule, if_neg (by rw [c5]; decide), if_pos cR]), ⟨⟨by rw [ht, eN]; exact hP9, va_K.moved hW.alike hK, NW.warm hW hN⟩, by rw [eN]; exact hD9⟩⟩, hS.F ht⟩) hS.2.2 dX6_rule_24
  · skip
    have c5 := b2_0 c5
    refine lv_iconst (v := (-1)) hx hb dX6_rule_8 (by decide) ?_
    have hP9 := hP
    have hD9 := hD
    have eN : nRule σ x y = σ := by rw [nRule, if_pos c5]
    exact W.iret (v := (-1)) hx hb hr (fun t ht hW => ⟨⟨(-1), (), rfl, (by rw [oRule, if_pos c5]), ⟨⟨by rw [ht, eN]; exact hP9, va_K.moved hW.alike hK, NW.warm hW hN⟩, by rw [eN]; exact hD9⟩⟩, hS.F ht⟩) hS.2.2 dX6_rule_9

set_option maxHeartbeats 4000000 in
set_option maxRecDepth 100000 in
theorem c_X6_make (l : Launch) (D : va_G) (cI cZ : ClassId) (sz : Nat) (ym : Nat) (ymB : Nat) (ymU : Nat) (ymV : Nat) (ymR : Nat) (ymI : Nat) (ymE : Nat) (ymS : Nat) (ymT : Nat) (ymD : Nat) (ymQ : Nat) (ymP : Nat) (ymN : Nat) (ymO : Nat) (ymY : Nat) (ymZ : Nat) (ymX : Nat) (σ : ST) (ir : Nat → Int32) (x : Int32) (hok : Ok σ) (hir : ∀ l, l < sN σ → ir l = b2 (bit (sR σ) (nI l))) : Met l yX6_make wsX6_make ({ frames := 5, cells := 0, slots := 0, locals := 118 }) (va_Pc [.ref ym, .int x] (XW D cI cZ [(ym, .inr (6, [.int (nI (sF σ)), .ref ymB, .int (nI (sN σ)), .ref ymU, .ref ymV, .ref ymR, .ref ymI, .ref ymE, .int (nI (sM σ)), .ref ymS, .ref ymT, .ref ymD, .int (nI (sC σ)), .ref ymQ, .ref ymP, .ref ymN, .int (nI (sG σ)), .ref ymO, .ref ymY, .ref ymZ, .ref ymX])), (ymB, .inl (cI, 7, .inl (rB σ))), (ymU, .inl (cI, 12, .inl (rMu σ))), (ymV, .inl (cI, 12, .inl (rMn σ))), (ymR, .inl (cI, 12, .inl (rRu σ))), (ymI, .inl (cZ, 12, .inl ir)), (ymE, .inl (cI, 12, .inl (rEr σ))), (ymS, .inl (cI, 90, .inl (rTs σ))), (ymT, .inl (cI, 90, .inl (rTn σ))), (ymD, .inl (cI, 30, .inl (rRd σ))), (ymQ, .inl (cI, 12, .inl (rCk σ))), (ymP, .inl (cI, 12, .inl (rCr σ))), (ymN, .inl (cI, 12, .inl (rCn σ)))] sz)) (va_Qi (fun (r : Int32) (u : Unit) => r = oMake σ x) (fun u => XB D cI cZ (va_A [(ym, .inr (6, [.int (nI (sF σ)), .ref ymB, .int (nI (sN σ)), .ref ymU, .ref ymV, .ref ymR, .ref ymI, .ref ymE, .int (nI (sM σ)), .ref ymS, .ref ymT, .ref ymD, .int (nI (sC σ)), .ref ymQ, .ref ymP, .ref ymN, .int (nI (sG σ)), .ref ymO, .ref ymY, .ref ymZ, .ref ymX])), (ymB, .inl (cI, 7, .inl (rB σ))), (ymU, .inl (cI, 12, .inl (rMu σ))), (ymV, .inl (cI, 12, .inl (rMn σ))), (ymR, .inl (cI, 12, .inl (rRu σ))), (ymI, .inl (cZ, 12, .inl ir)), (ymE, .inl (cI, 12, .inl (rEr σ))), (ymS, .inl (cI, 90, .inl (rTs σ))), (ymT, .inl (cI, 90, .inl (rTn σ))), (ymD, .inl (cI, 30, .inl (rRd σ))), (ymQ, .inl (cI, 12, .inl (rCk σ))), (ymP, .inl (cI, 12, .inl (rCr σ))), (ymN, .inl (cI, 12, .inl (rCn σ)))] sz) [(ym, .inr (6, [.int (nI (sF (nMake σ x))), .ref ymB, .int (nI (sN (nMake σ x))), .ref ymU, .ref ymV, .ref ymR, .ref ymI, .ref ymE, .int (nI (sM (nMake σ x))), .ref ymS, .ref ymT, .ref ymD, .int (nI (sC (nMake σ x))), .ref ymQ, .ref ymP, .ref ymN, .int (nI (sG (nMake σ x))), .ref ymO, .ref ymY, .ref ymZ, .ref ymX])), (ymB, .inl (cI, 7, .inl (rB (nMake σ x)))), (ymU, .inl (cI, 12, .inl (rMu (nMake σ x)))), (ymV, .inl (cI, 12, .inl (rMn (nMake σ x)))), (ymR, .inl (cI, 12, .inl (rRu (nMake σ x)))), (ymI, .inl (cZ, 12, .inl ir)), (ymE, .inl (cI, 12, .inl (rEr (nMake σ x)))), (ymS, .inl (cI, 90, .inl (rTs (nMake σ x)))), (ymT, .inl (cI, 90, .inl (rTn (nMake σ x)))), (ymD, .inl (cI, 30, .inl (rRd (nMake σ x)))), (ymQ, .inl (cI, 12, .inl (rCk (nMake σ x)))), (ymP, .inl (cI, 12, .inl (rCr (nMake σ x)))), (ymN, .inl (cI, 12, .inl (rCn (nMake σ x))))]) (va_A [(ym, .inr (6, [.int (nI (sF σ)), .ref ymB, .int (nI (sN σ)), .ref ymU, .ref ymV, .ref ymR, .ref ymI, .ref ymE, .int (nI (sM σ)), .ref ymS, .ref ymT, .ref ymD, .int (nI (sC σ)), .ref ymQ, .ref ymP, .ref ymN, .int (nI (sG σ)), .ref ymO, .ref ymY, .ref ymZ, .ref ymX])), (ymB, .inl (cI, 7, .inl (rB σ))), (ymU, .inl (cI, 12, .inl (rMu σ))), (ymV, .inl (cI, 12, .inl (rMn σ))), (ymR, .inl (cI, 12, .inl (rRu σ))), (ymI, .inl (cZ, 12, .inl ir)), (ymE, .inl (cI, 12, .inl (rEr σ))), (ymS, .inl (cI, 90, .inl (rTs σ))), (ymT, .inl (cI, 90, .inl (rTn σ))), (ymD, .inl (cI, 30, .inl (rRd σ))), (ymQ, .inl (cI, 12, .inl (rCk σ))), (ymP, .inl (cI, 12, .inl (rCr σ))), (ymN, .inl (cI, 12, .inl (rCn σ)))] sz)) 0 0 (va_A [(ym, .inr (6, [.int (nI (sF σ)), .ref ymB, .int (nI (sN σ)), .ref ymU, .ref ymV, .ref ymR, .ref ymI, .ref ymE, .int (nI (sM σ)), .ref ymS, .ref ymT, .ref ymD, .int (nI (sC σ)), .ref ymQ, .ref ymP, .ref ymN, .int (nI (sG σ)), .ref ymO, .ref ymY, .ref ymZ, .ref ymX])), (ymB, .inl (cI, 7, .inl (rB σ))), (ymU, .inl (cI, 12, .inl (rMu σ))), (ymV, .inl (cI, 12, .inl (rMn σ))), (ymR, .inl (cI, 12, .inl (rRu σ))), (ymI, .inl (cZ, 12, .inl ir)), (ymE, .inl (cI, 12, .inl (rEr σ))), (ymS, .inl (cI, 90, .inl (rTs σ))), (ymT, .inl (cI, 90, .inl (rTn σ))), (ymD, .inl (cI, 30, .inl (rRd σ))), (ymQ, .inl (cI, 12, .inl (rCk σ))), (ymP, .inl (cI, 12, .inl (rCr σ))), (ymN, .inl (cI, 12, .inl (rCn σ)))] sz) := by
  refine Met.ofW (cc := cX6_make) (maxL := 4) (ret := (some .int)) (by decide) rfl ?_
  intro p e s m args below meth c s₁ B hml hv
  obtain ⟨rfl, hsz, ⟨hP, hK, hN⟩, hD0⟩ := hv
  have hx := B.exec
  have hb := B.bytes
  have hr := B.returns
  have hts := atoms_spec (ws := wsX6_make) B.pre
  have hown : s.vm.findClass RX6 = some m.cls := findClass_of_methodNamed B.named
  have hlocks := B.notSynchronized
  subst hsz
  have hD := hD0.self (sz := s.heap.size)
  generalize hAe : va_A [(ym, .inr (6, [.int (nI (sF σ)), .ref ymB, .int (nI (sN σ)), .ref ymU, .ref ymV, .ref ymR, .ref ymI, .ref ymE, .int (nI (sM σ)), .ref ymS, .ref ymT, .ref ymD, .int (nI (sC σ)), .ref ymQ, .ref ymP, .ref ymN, .int (nI (sG σ)), .ref ymO, .ref ymY, .ref ymZ, .ref ymX])), (ymB, .inl (cI, 7, .inl (rB σ))), (ymU, .inl (cI, 12, .inl (rMu σ))), (ymV, .inl (cI, 12, .inl (rMn σ))), (ymR, .inl (cI, 12, .inl (rRu σ))), (ymI, .inl (cZ, 12, .inl ir)), (ymE, .inl (cI, 12, .inl (rEr σ))), (ymS, .inl (cI, 90, .inl (rTs σ))), (ymT, .inl (cI, 90, .inl (rTn σ))), (ymD, .inl (cI, 30, .inl (rRd σ))), (ymQ, .inl (cI, 12, .inl (rCk σ))), (ymP, .inl (cI, 12, .inl (rCr σ))), (ymN, .inl (cI, 12, .inl (rCn σ)))] s.heap.size = A at hD ⊢
  have hA : ∀ q : Nat, s.heap.size ≤ q → A q := fun q h => by rw [← hAe]; exact Or.inr h
  have hS : va_S A s.heap s.heap [] := va_S.rf
  have ho := hok.1
  have hk2 := hok.k
  have hp2 : 1 ≤ 2 ^ sF σ := Nat.two_pow_pos _
  have hf76 := hts (.fieldLink RX6 76 "BallCourtModel" "cases" "I") (List.mem_of_getElem? (i := 1) (by decide +kernel))
  have hiX6 : ∀ w ∈ wsX60, w ∈ wsX6_make := fun w h => List.mem_cons_of_mem _ (List.mem_append_right _ h)
  have hf45 := hts (.fieldLink RX6 45 "BallCourtModel" "caseRuling" "[I") (List.mem_of_getElem? (i := 2) (by decide +kernel))
  have hf42 := hts (.fieldLink RX6 42 "BallCourtModel" "caseKind" "[I") (List.mem_of_getElem? (i := 3) (by decide +kernel))
  have hf48 := hts (.fieldLink RX6 48 "BallCourtModel" "caseNames" "[I") (List.mem_of_getElem? (i := 4) (by decide +kernel))
  have hl := lv_entry ([.ref ym, .int x]) (n := 4) (Nat.le_of_ble_eq_true rfl)
  rw [lg_entry_eq]
  generalize (lg_sl ([.ref ym, .int x]) ++ List.replicate (4 - (lg_sl ([.ref ym, .int x])).length) Slot.unset).toArray = ls at hl ⊢
  have hl : lv_has ls 4 [(0, .ref ym), (1, .int x)] := hl
  refine lv_aload_n hx hb dX6_make_0 rfl (lv_at hl 0 rfl) ?_
  refine lv_iload_n hx hb dX6_make_1 rfl (lv_at hl 1 rfl) ?_
  refine xpV (rest := []) ⟨hx, hb, hml, hown, hts⟩ (c_X6_isMoment l D cI cZ ym ymB ymU ymV ymR ymI ymE ymS ymT ymD ymQ ymP ymN ymO ymY ymZ ymX σ x hok) (cwV 1 hts gX6_make_X6_isMoment rfl rfl rfl (by decide +kernel) ⟨Nat.le_of_ble_eq_true rfl, Nat.le_of_ble_eq_true rfl⟩) hP [0] rfl hK hN (ci := 6) (q0 := 0) rfl rfl rfl hl.1 rfl (Nat.le_of_ble_eq_true rfl) dX6_make_2 ⟨Nat.zero_le _, Nat.zero_le _⟩ (fun r2 e2 => ?_)
  subst e2
  refine lv_if_ne (tgt := 10) hx hb dX6_make_5 (by decide) (fun c5 => ?_) (fun c5 => ?_)
  · skip
    have c5 := b2_1 c5
    obtain ⟨q, hq, rfl⟩ := inN_t c5 (by omega)
    have kq := clp hq (show sM σ ≤ 128 by omega)
    refine lv_aload_n hx hb dX6_make_10 rfl (lv_at hl 0 rfl) ?_
    refine lv_iload_n hx hb dX6_make_11 rfl (lv_at hl 1 rfl) ?_
    refine xpV (rest := []) ⟨hx, hb, hml, hown, hts⟩ (c_X6_doubt l D cI cZ ym ymB ymU ymV ymR ymI ymE ymS ymT ymD ymQ ymP ymN ymO ymY ymZ ymX σ q hok (by omega)) (cwV 1 hts gX6_make_X6_doubt rfl rfl rfl (by decide +kernel) ⟨Nat.le_of_ble_eq_true rfl, Nat.le_of_ble_eq_true rfl⟩) hP [0, 7, 8] rfl hK hN (ci := 6) (q0 := 0) rfl rfl rfl hl.1 rfl (Nat.le_of_ble_eq_true rfl) dX6_make_12 ⟨Nat.zero_le _, Nat.zero_le _⟩ (fun r12 e12 => ?_)
    subst e12
    refine lv_if_ne (tgt := 27) hx hb dX6_make_15 (by decide) (fun c15 => ?_) (fun c15 => ?_)
    · skip
      refine lv_bipush (v := (-3)) hx hb dX6_make_27 (by decide) ?_
      have hP9 := hP
      have hD9 := hD
      have cB : mkB σ q = false := by rw [mk_iff hok hq, decide_eq_false c15]; rfl
      have eN : nMake σ (nI q) = σ := by rw [nMake, if_neg (by rw [c5]; decide), kq, if_pos cB]
      have eO : oMake σ (nI q) = -3 := by rw [oMake, if_neg (by rw [c5]; decide), kq, if_pos cB]
      exact W.iret (v := (-3)) hx hb hr (fun t ht hW => ⟨⟨(-3), (), rfl, eO.symm, ⟨⟨by rw [ht, eN]; exact hP9, va_K.moved hW.alike hK, NW.warm hW hN⟩, by rw [eN]; exact hD9⟩⟩, hS.F ht⟩) hS.2.2 dX6_make_29
    · skip
      refine lv_aload_n hx hb dX6_make_18 rfl (lv_at hl 0 rfl) ?_
      refine lv_iload_n hx hb dX6_make_19 rfl (lv_at hl 1 rfl) ?_
      refine lv_iconst (v := (-1)) hx hb dX6_make_20 (by decide) ?_
      refine xpV (rest := []) ⟨hx, hb, hml, hown, hts⟩ (c_X6_mayBes l D cI cZ ym ymB ymU ymV ymR ymI ymE ymS ymT ymD ymQ ymP ymN ymO ymY ymZ ymX σ ir (sR σ) q (-1) hok (by omega) hir) (cwV 2 hts gX6_make_X6_mayBes rfl rfl rfl (by decide +kernel) ⟨Nat.le_of_ble_eq_true rfl, Nat.le_of_ble_eq_true rfl⟩) hP [0, 1, 7, 8, 2, 3, 4, 5, 6] rfl hK hN (ci := 6) (q0 := 0) rfl rfl rfl hl.1 rfl (Nat.le_of_ble_eq_true rfl) dX6_make_21 ⟨Nat.zero_le _, Nat.zero_le _⟩ (fun r21 e21 => ?_)
      subst e21
      refine lv_asi (show nI (msN σ (sR σ) q (-1)) = nI (cmb σ (soI σ q) (nsI σ q)) from congrArg nI (ms_m1 σ _ q)) ?_
      refine lv_if_ne (tgt := 30) hx hb dX6_make_24 (by decide) (fun c24 => ?_) (fun c24 => ?_)
      · skip
        have c24 : ¬ cmb σ (soI σ q) (nsI σ q) = 0 := fun z => c24 (by rw [z]; rfl)
        have cB : mkB σ q = true := by rw [mk_iff hok hq, decide_eq_true c15, decide_eq_false c24]; rfl
        have cK : kin σ (soI σ q) = true := by have z := cB; rw [mkB, Bool.and_eq_true] at z; exact z.2
        obtain ⟨k, hk, ek⟩ := kin_t cK (by omega)
        have kk : (soI σ q).toNatClampNeg = k := by rw [ek]; exact clp hk hk2
        refine lv_aload_n hx hb dX6_make_30 rfl (lv_at hl 0 rfl) ?_
        refine va_get (D := D) (ci := 6) (v := .int (nI (sC σ))) (C := RX6) (T := TX6) (N := 21) hx hb hts hiX6 hown hK hP 0 rfl rfl 12 (by decide) hf76 (fun _ h9 => h9) rfl dX6_make_31 ?_
        refine lv_bipush (v := nI 12) hx hb dX6_make_34 (by decide) ?_
        refine lv_icmp_ne (tgt := 42) hx hb dX6_make_36 (by decide) (fun c36 => ?_) (fun c36 => ?_)
        · skip
          have c36 := mt (nI_eq (by omega) (by omega)).mpr c36
          refine lv_aload_n hx hb dX6_make_42 rfl (lv_at hl 0 rfl) ?_
          refine lv_iload_n hx hb dX6_make_43 rfl (lv_at hl 1 rfl) ?_
          refine xpV (rest := []) ⟨hx, hb, hml, hown, hts⟩ (c_X6_so l D cI cZ ym ymB ymU ymV ymR ymI ymE ymS ymT ymD ymQ ymP ymN ymO ymY ymZ ymX σ q (by omega)) (cwV 1 hts gX6_make_X6_so rfl rfl rfl (by decide +kernel) ⟨Nat.le_of_ble_eq_true rfl, Nat.le_of_ble_eq_true rfl⟩) hP [0, 7, 8] rfl hK hN (ci := 6) (q0 := 0) rfl rfl rfl hl.1 rfl (Nat.le_of_ble_eq_true rfl) dX6_make_44 ⟨Nat.zero_le _, Nat.zero_le _⟩ (fun r44 e44 => ?_)
          subst e44
          refine lv_istore_n (lv' := [(2, .int (soI σ q)), (0, .ref ym), (1, .int (nI q))]) hx hb dX6_make_47 rfl hl (by decide) rfl (fun ls hl => ?_)
          have hl : lv_has ls 4 [(2, .int (nI k)), (0, .ref ym), (1, .int (nI q))] := by rw [← (show soI σ q = nI k from ek)]; exact hl
          refine lv_aload_n hx hb dX6_make_48 rfl (lv_at hl 1 rfl) ?_
          refine lv_iload_n hx hb dX6_make_49 rfl (lv_at hl 0 rfl) ?_
          refine xpV (rest := []) ⟨hx, hb, hml, hown, hts⟩ (c_X6_lineFor l D cI cZ ym ymB ymU ymV ymR ymI ymE ymS ymT ymD ymQ ymP ymN ymO ymY ymZ ymX σ ir (sR σ) k hok hir) (cwV 1 hts gX6_make_X6_lineFor rfl rfl rfl (by decide +kernel) ⟨Nat.le_of_ble_eq_true rfl, Nat.le_of_ble_eq_true rfl⟩) hP [0, 2, 3, 5, 6] rfl hK hN (ci := 6) (q0 := 0) rfl rfl rfl hl.1 rfl (Nat.le_of_ble_eq_true rfl) dX6_make_50 ⟨Nat.zero_le _, Nat.zero_le _⟩ (fun r50 e50 => ?_)
          subst e50
          refine lv_istore_n (lv' := [(3, .int (lawI σ (sR σ) k)), (2, .int (nI k)), (0, .ref ym), (1, .int (nI q))]) hx hb dX6_make_53 rfl hl (by decide) rfl (fun ls hl => ?_)
          refine lv_aload_n hx hb dX6_make_54 rfl (lv_at hl 2 rfl) ?_
          refine va_get (D := D) (ci := 6) (v := .ref ymP) (C := RX6) (T := TX6) (N := 21) hx hb hts hiX6 hown hK hP 0 rfl rfl 14 (by decide) hf45 (fun _ h9 => h9) rfl dX6_make_55 ?_
          refine lv_aload_n hx hb dX6_make_58 rfl (lv_at hl 2 rfl) ?_
          refine va_get (D := D) (ci := 6) (v := .int (nI (sC σ))) (C := RX6) (T := TX6) (N := 21) hx hb hts hiX6 hown hK hP 0 rfl rfl 12 (by decide) hf76 (fun _ h9 => h9) rfl dX6_make_59 ?_
          refine lv_aload_n hx hb dX6_make_62 rfl (lv_at hl 2 rfl) ?_
          refine lv_iload_n hx hb dX6_make_63 rfl (lv_at hl 3 rfl) ?_
          refine xpV (rest := [.int (nI (sC σ)), .ref ymP]) ⟨hx, hb, hml, hown, hts⟩ (c_X6_verdictOf l D cI cZ ym ymB ymU ymV ymR ymI ymE ymS ymT ymD ymQ ymP ymN ymO ymY ymZ ymX σ ir (sR σ) q hok hq hir) (cwV 1 hts gX6_make_X6_verdictOf rfl rfl rfl (by decide +kernel) ⟨Nat.le_of_ble_eq_true rfl, Nat.le_of_ble_eq_true rfl⟩) hP [0, 1, 2, 3, 4, 5, 6, 7, 8, 9, 10, 11, 12] rfl hK hN (ci := 6) (q0 := 0) rfl rfl rfl hl.1 rfl (Nat.le_of_ble_eq_true rfl) dX6_make_64 ⟨Nat.zero_le _, Nat.zero_le _⟩ (fun r64 e64 => ?_)
          subst e64
          refine xast (k := (sC σ)) hx hb hK hP hD hS 11 rfl (by omega) (by decide) dX6_make_67 (fun H locs hP hD hS => ?_)
          have hP : va_P D vwCl [(ym, .inr (6, [.int (nI (sF σ)), .ref ymB, .int (nI (sN σ)), .ref ymU, .ref ymV, .ref ymR, .ref ymI, .ref ymE, .int (nI (sM σ)), .ref ymS, .ref ymT, .ref ymD, .int (nI (sC σ)), .ref ymQ, .ref ymP, .ref ymN, .int (nI (sG σ)), .ref ymO, .ref ymY, .ref ymZ, .ref ymX])), (ymB, .inl (cI, 7, .inl (rB σ))), (ymU, .inl (cI, 12, .inl (rMu σ))), (ymV, .inl (cI, 12, .inl (rMn σ))), (ymR, .inl (cI, 12, .inl (rRu σ))), (ymI, .inl (cZ, 12, .inl ir)), (ymE, .inl (cI, 12, .inl (rEr σ))), (ymS, .inl (cI, 90, .inl (rTs σ))), (ymT, .inl (cI, 90, .inl (rTn σ))), (ymD, .inl (cI, 30, .inl (rRd σ))), (ymQ, .inl (cI, 12, .inl (rCk σ))), (ymP, .inl (cI, 12, .inl (upd (rCr σ) (sC σ) (verI σ (sR σ) q)))), (ymN, .inl (cI, 12, .inl (rCn σ)))] H := hP
          have hD : va_D A [(ym, .inr (6, [.int (nI (sF σ)), .ref ymB, .int (nI (sN σ)), .ref ymU, .ref ymV, .ref ymR, .ref ymI, .ref ymE, .int (nI (sM σ)), .ref ymS, .ref ymT, .ref ymD, .int (nI (sC σ)), .ref ymQ, .ref ymP, .ref ymN, .int (nI (sG σ)), .ref ymO, .ref ymY, .ref ymZ, .ref ymX])), (ymB, .inl (cI, 7, .inl (rB σ))), (ymU, .inl (cI, 12, .inl (rMu σ))), (ymV, .inl (cI, 12, .inl (rMn σ))), (ymR, .inl (cI, 12, .inl (rRu σ))), (ymI, .inl (cZ, 12, .inl ir)), (ymE, .inl (cI, 12, .inl (rEr σ))), (ymS, .inl (cI, 90, .inl (rTs σ))), (ymT, .inl (cI, 90, .inl (rTn σ))), (ymD, .inl (cI, 30, .inl (rRd σ))), (ymQ, .inl (cI, 12, .inl (rCk σ))), (ymP, .inl (cI, 12, .inl (upd (rCr σ) (sC σ) (verI σ (sR σ) q)))), (ymN, .inl (cI, 12, .inl (rCn σ)))] := hD
          refine lv_aload_n hx hb dX6_make_68 rfl (lv_at hl 2 rfl) ?_
          refine va_get (D := D) (ci := 6) (v := .ref ymQ) (C := RX6) (T := TX6) (N := 21) hx hb hts hiX6 hown hK hP 0 rfl rfl 13 (by decide) hf42 (fun _ h9 => h9) rfl dX6_make_69 ?_
          refine lv_aload_n hx hb dX6_make_72 rfl (lv_at hl 2 rfl) ?_
          refine va_get (D := D) (ci := 6) (v := .int (nI (sC σ))) (C := RX6) (T := TX6) (N := 21) hx hb hts hiX6 hown hK hP 0 rfl rfl 12 (by decide) hf76 (fun _ h9 => h9) rfl dX6_make_73 ?_
          refine lv_iload_n hx hb dX6_make_76 rfl (lv_at hl 1 rfl) ?_
          refine xast (k := (sC σ)) hx hb hK hP hD hS 10 rfl (by omega) (by decide) dX6_make_77 (fun H locs hP hD hS => ?_)
          have hP : va_P D vwCl [(ym, .inr (6, [.int (nI (sF σ)), .ref ymB, .int (nI (sN σ)), .ref ymU, .ref ymV, .ref ymR, .ref ymI, .ref ymE, .int (nI (sM σ)), .ref ymS, .ref ymT, .ref ymD, .int (nI (sC σ)), .ref ymQ, .ref ymP, .ref ymN, .int (nI (sG σ)), .ref ymO, .ref ymY, .ref ymZ, .ref ymX])), (ymB, .inl (cI, 7, .inl (rB σ))), (ymU, .inl (cI, 12, .inl (rMu σ))), (ymV, .inl (cI, 12, .inl (rMn σ))), (ymR, .inl (cI, 12, .inl (rRu σ))), (ymI, .inl (cZ, 12, .inl ir)), (ymE, .inl (cI, 12, .inl (rEr σ))), (ymS, .inl (cI, 90, .inl (rTs σ))), (ymT, .inl (cI, 90, .inl (rTn σ))), (ymD, .inl (cI, 30, .inl (rRd σ))), (ymQ, .inl (cI, 12, .inl (upd (rCk σ) (sC σ) (nI k)))), (ymP, .inl (cI, 12, .inl (upd (rCr σ) (sC σ) (verI σ (sR σ) q)))), (ymN, .inl (cI, 12, .inl (rCn σ)))] H := hP
          have hD : va_D A [(ym, .inr (6, [.int (nI (sF σ)), .ref ymB, .int (nI (sN σ)), .ref ymU, .ref ymV, .ref ymR, .ref ymI, .ref ymE, .int (nI (sM σ)), .ref ymS, .ref ymT, .ref ymD, .int (nI (sC σ)), .ref ymQ, .ref ymP, .ref ymN, .int (nI (sG σ)), .ref ymO, .ref ymY, .ref ymZ, .ref ymX])), (ymB, .inl (cI, 7, .inl (rB σ))), (ymU, .inl (cI, 12, .inl (rMu σ))), (ymV, .inl (cI, 12, .inl (rMn σ))), (ymR, .inl (cI, 12, .inl (rRu σ))), (ymI, .inl (cZ, 12, .inl ir)), (ymE, .inl (cI, 12, .inl (rEr σ))), (ymS, .inl (cI, 90, .inl (rTs σ))), (ymT, .inl (cI, 90, .inl (rTn σ))), (ymD, .inl (cI, 30, .inl (rRd σ))), (ymQ, .inl (cI, 12, .inl (upd (rCk σ) (sC σ) (nI k)))), (ymP, .inl (cI, 12, .inl (upd (rCr σ) (sC σ) (verI σ (sR σ) q)))), (ymN, .inl (cI, 12, .inl (rCn σ)))] := hD
          refine lv_aload_n hx hb dX6_make_78 rfl (lv_at hl 2 rfl) ?_
          refine va_get (D := D) (ci := 6) (v := .ref ymN) (C := RX6) (T := TX6) (N := 21) hx hb hts hiX6 hown hK hP 0 rfl rfl 15 (by decide) hf48 (fun _ h9 => h9) rfl dX6_make_79 ?_
          refine lv_aload_n hx hb dX6_make_82 rfl (lv_at hl 2 rfl) ?_
          refine va_get (D := D) (ci := 6) (v := .int (nI (sC σ))) (C := RX6) (T := TX6) (N := 21) hx hb hts hiX6 hown hK hP 0 rfl rfl 12 (by decide) hf76 (fun _ h9 => h9) rfl dX6_make_83 ?_
          refine wjoin (pcJ := 102) (lv := [(0, .ref ym)]) (nL := 4) (st := [.int (namI σ k), .int (nI (sC σ)), .ref ymN]) (fun ls hl => ?_) (fun J102 => ?_)
          · skip
            refine xast (k := (sC σ)) hx hb hK hP hD hS 12 rfl (by omega) (by decide) dX6_make_102 (fun H locs hP hD hS => ?_)
            have hP : va_P D vwCl [(ym, .inr (6, [.int (nI (sF σ)), .ref ymB, .int (nI (sN σ)), .ref ymU, .ref ymV, .ref ymR, .ref ymI, .ref ymE, .int (nI (sM σ)), .ref ymS, .ref ymT, .ref ymD, .int (nI (sC σ)), .ref ymQ, .ref ymP, .ref ymN, .int (nI (sG σ)), .ref ymO, .ref ymY, .ref ymZ, .ref ymX])), (ymB, .inl (cI, 7, .inl (rB σ))), (ymU, .inl (cI, 12, .inl (rMu σ))), (ymV, .inl (cI, 12, .inl (rMn σ))), (ymR, .inl (cI, 12, .inl (rRu σ))), (ymI, .inl (cZ, 12, .inl ir)), (ymE, .inl (cI, 12, .inl (rEr σ))), (ymS, .inl (cI, 90, .inl (rTs σ))), (ymT, .inl (cI, 90, .inl (rTn σ))), (ymD, .inl (cI, 30, .inl (rRd σ))), (ymQ, .inl (cI, 12, .inl (upd (rCk σ) (sC σ) (nI k)))), (ymP, .inl (cI, 12, .inl (upd (rCr σ) (sC σ) (verI σ (sR σ) q)))), (ymN, .inl (cI, 12, .inl (upd (rCn σ) (sC σ) (namI σ k))))] H := hP
            have hD : va_D A [(ym, .inr (6, [.int (nI (sF σ)), .ref ymB, .int (nI (sN σ)), .ref ymU, .ref ymV, .ref ymR, .ref ymI, .ref ymE, .int (nI (sM σ)), .ref ymS, .ref ymT, .ref ymD, .int (nI (sC σ)), .ref ymQ, .ref ymP, .ref ymN, .int (nI (sG σ)), .ref ymO, .ref ymY, .ref ymZ, .ref ymX])), (ymB, .inl (cI, 7, .inl (rB σ))), (ymU, .inl (cI, 12, .inl (rMu σ))), (ymV, .inl (cI, 12, .inl (rMn σ))), (ymR, .inl (cI, 12, .inl (rRu σ))), (ymI, .inl (cZ, 12, .inl ir)), (ymE, .inl (cI, 12, .inl (rEr σ))), (ymS, .inl (cI, 90, .inl (rTs σ))), (ymT, .inl (cI, 90, .inl (rTn σ))), (ymD, .inl (cI, 30, .inl (rRd σ))), (ymQ, .inl (cI, 12, .inl (upd (rCk σ) (sC σ) (nI k)))), (ymP, .inl (cI, 12, .inl (upd (rCr σ) (sC σ) (verI σ (sR σ) q)))), (ymN, .inl (cI, 12, .inl (upd (rCn σ) (sC σ) (namI σ k))))] := hD
            refine lv_aload_n hx hb dX6_make_103 rfl (lv_at hl 0 rfl) ?_
            refine lv_dup hx hb dX6_make_104 rfl ?_
            refine va_get (D := D) (ci := 6) (v := .int (nI (sC σ))) (C := RX6) (T := TX6) (N := 21) hx hb hts hiX6 hown hK hP 0 rfl rfl 12 (by decide) hf76 (fun _ h9 => h9) rfl dX6_make_105 ?_
            refine lv_iconst (v := 1) hx hb dX6_make_108 (by decide) ?_
            refine lv_iadd hx hb dX6_make_109 ?_
            refine lv_asi (show (nI (sC σ)) + 1 = nI (sC σ + 1) from nI_1 _) ?_
            refine va_put (D := D) (ci := 6) (v := .int (nI (sC σ + 1))) (ty := .int) (C := RX6) (T := TX6) (N := 21) hx hb hts hiX6 tyX6 tyX6_ok nmX6 hown hK hP hD hS 0 rfl rfl 12 (by decide) hf76 (fun _ h9 => h9) rfl (by decide +kernel) rfl rfl (Nat.le_of_ble_eq_true rfl) dX6_make_110 (fun H locs hP hD hS => ?_)
            have hP : va_P D vwCl [(ym, .inr (6, [.int (nI (sF σ)), .ref ymB, .int (nI (sN σ)), .ref ymU, .ref ymV, .ref ymR, .ref ymI, .ref ymE, .int (nI (sM σ)), .ref ymS, .ref ymT, .ref ymD, .int (nI (sC σ + 1)), .ref ymQ, .ref ymP, .ref ymN, .int (nI (sG σ)), .ref ymO, .ref ymY, .ref ymZ, .ref ymX])), (ymB, .inl (cI, 7, .inl (rB σ))), (ymU, .inl (cI, 12, .inl (rMu σ))), (ymV, .inl (cI, 12, .inl (rMn σ))), (ymR, .inl (cI, 12, .inl (rRu σ))), (ymI, .inl (cZ, 12, .inl ir)), (ymE, .inl (cI, 12, .inl (rEr σ))), (ymS, .inl (cI, 90, .inl (rTs σ))), (ymT, .inl (cI, 90, .inl (rTn σ))), (ymD, .inl (cI, 30, .inl (rRd σ))), (ymQ, .inl (cI, 12, .inl (upd (rCk σ) (sC σ) (nI k)))), (ymP, .inl (cI, 12, .inl (upd (rCr σ) (sC σ) (verI σ (sR σ) q)))), (ymN, .inl (cI, 12, .inl (upd (rCn σ) (sC σ) (namI σ k))))] H := hP
            have hD : va_D A [(ym, .inr (6, [.int (nI (sF σ)), .ref ymB, .int (nI (sN σ)), .ref ymU, .ref ymV, .ref ymR, .ref ymI, .ref ymE, .int (nI (sM σ)), .ref ymS, .ref ymT, .ref ymD, .int (nI (sC σ + 1)), .ref ymQ, .ref ymP, .ref ymN, .int (nI (sG σ)), .ref ymO, .ref ymY, .ref ymZ, .ref ymX])), (ymB, .inl (cI, 7, .inl (rB σ))), (ymU, .inl (cI, 12, .inl (rMu σ))), (ymV, .inl (cI, 12, .inl (rMn σ))), (ymR, .inl (cI, 12, .inl (rRu σ))), (ymI, .inl (cZ, 12, .inl ir)), (ymE, .inl (cI, 12, .inl (rEr σ))), (ymS, .inl (cI, 90, .inl (rTs σ))), (ymT, .inl (cI, 90, .inl (rTn σ))), (ymD, .inl (cI, 30, .inl (rRd σ))), (ymQ, .inl (cI, 12, .inl (upd (rCk σ) (sC σ) (nI k)))), (ymP, .inl (cI, 12, .inl (upd (rCr σ) (sC σ) (verI σ (sR σ) q)))), (ymN, .inl (cI, 12, .inl (upd (rCn σ) (sC σ) (namI σ k))))] := hD
            refine lv_aload_n hx hb dX6_make_113 rfl (lv_at hl 0 rfl) ?_
            refine va_get (D := D) (ci := 6) (v := .int (nI (sC σ + 1))) (C := RX6) (T := TX6) (N := 21) hx hb hts hiX6 hown hK hP 0 rfl rfl 12 (by decide) hf76 (fun _ h9 => h9) rfl dX6_make_114 ?_
            refine lv_iconst (v := 1) hx hb dX6_make_117 (by decide) ?_
            refine lv_isub hx hb dX6_make_118 ?_
            refine lv_asi (show (nI (sC σ + 1)) - 1 = nI (sC σ) from nI_pred _) ?_
            have hP9 := hP
            have hD9 := hD
            have eN : nMake σ (nI q) = caS σ (nI k) (verI σ (sR σ) q) (namI σ k) := by rw [nMake, if_neg (by rw [c5]; decide), kq, if_neg (by rw [cB]; decide), if_neg (by omega), kk, ek]
            exact W.iret (v := nI (sC σ)) hx hb hr (fun t ht hW => ⟨⟨nI (sC σ), (), rfl, (by rw [oMake, if_neg (by rw [c5]; decide), kq, if_neg (by rw [cB]; decide), if_neg (by omega)]), ⟨⟨by rw [ht, eN]; exact hP9, va_K.moved hW.alike hK, NW.warm hW hN⟩, by rw [eN]; exact hD9⟩⟩, hS.F ht⟩) hS.2.2 dX6_make_119
          · skip
            refine lv_iload_n hx hb dX6_make_86 rfl (lv_at hl 0 rfl) ?_
            refine lv_if_ge (tgt := 97) hx hb dX6_make_87 (by decide) (fun c87 => ?_) (fun c87 => ?_)
            · skip
              have c87 := (lawI_ge (by omega)).mp c87
              have hl : lv_has ls 4 [(3, .int (nI (lawN σ (sR σ) k))), (2, .int (nI k)), (0, .ref ym), (1, .int (nI q))] := by rw [← (show lawI σ (sR σ) k = nI (lawN σ (sR σ) k) from (by rw [lawI, if_pos c87]))]; exact hl
              refine lv_aload_n hx hb dX6_make_97 rfl (lv_at hl 2 rfl) ?_
              refine lv_iload_n hx hb dX6_make_98 rfl (lv_at hl 0 rfl) ?_
              refine xpV (rest := [.int (nI (sC σ)), .ref ymN]) ⟨hx, hb, hml, hown, hts⟩ (c_X6_namedBy l D cI cZ ym ymB ymU ymV ymR ymI ymE ymS ymT ymD ymQ ymP ymN ymO ymY ymZ ymX σ ir (sR σ) (lawN σ (sR σ) k) hok c87 hir) (cwV 1 hts gX6_make_X6_namedBy rfl rfl rfl (by decide +kernel) ⟨Nat.le_of_ble_eq_true rfl, Nat.le_of_ble_eq_true rfl⟩) hP [0, 2, 3, 5, 6] rfl hK hN (ci := 6) (q0 := 0) rfl rfl rfl hl.1 rfl (Nat.le_of_ble_eq_true rfl) dX6_make_99 ⟨Nat.zero_le _, Nat.zero_le _⟩ (fun r99 e99 => ?_)
              subst e99
              refine lv_asi (show (nmI σ (sR σ) (lawN σ (sR σ) k) : Int32) = namI σ k from (by rw [namI, covB, decide_eq_true c87]; rfl)) ?_
              exact J102 ls (lv_sub hl [2] rfl)
            · skip
              have c87 := mt (lawI_ge (by omega)).mpr c87
              refine lv_aload_n hx hb dX6_make_90 rfl (lv_at hl 2 rfl) ?_
              refine xpV (rest := [.int (nI (sC σ)), .ref ymN]) ⟨hx, hb, hml, hown, hts⟩ (c_X6_allFacts l D cI cZ ym ymB ymU ymV ymR ymI ymE ymS ymT ymD ymQ ymP ymN ymO ymY ymZ ymX σ hok) (cwV 0 hts gX6_make_X6_allFacts rfl rfl rfl (by decide +kernel) ⟨Nat.le_of_ble_eq_true rfl, Nat.le_of_ble_eq_true rfl⟩) hP [0] rfl hK hN (ci := 6) (q0 := 0) rfl rfl rfl hl.1 rfl (Nat.le_of_ble_eq_true rfl) dX6_make_91 ⟨Nat.zero_le _, Nat.zero_le _⟩ (fun r91 e91 => ?_)
              subst e91
              refine lv_goto (tgt := 102) hx hb dX6_make_94 (by decide) ?_
              refine lv_asi (show (nI (2 ^ sF σ - 1) : Int32) = namI σ k from (by rw [namI, covB, decide_eq_false c87]; rfl)) ?_
              exact J102 ls (lv_sub hl [2] rfl)
        · skip
          have c36 := (nI_eq (by omega) (by omega)).mp c36
          refine lv_bipush (v := (-4)) hx hb dX6_make_39 (by decide) ?_
          have hP9 := hP
          have hD9 := hD
          have eN : nMake σ (nI q) = σ := by rw [nMake, if_neg (by rw [c5]; decide), kq, if_neg (by rw [cB]; decide), if_pos (by omega)]
          exact W.iret (v := (-4)) hx hb hr (fun t ht hW => ⟨⟨(-4), (), rfl, (by rw [oMake, if_neg (by rw [c5]; decide), kq, if_neg (by rw [cB]; decide), if_pos (by omega)]), ⟨⟨by rw [ht, eN]; exact hP9, va_K.moved hW.alike hK, NW.warm hW hN⟩, by rw [eN]; exact hD9⟩⟩, hS.F ht⟩) hS.2.2 dX6_make_41
      · skip
        have c24 : cmb σ (soI σ q) (nsI σ q) = 0 := (nI_eq (by have := cmb_le hok (soI σ q) (nsI σ q); omega) (by omega)).mp c24
        refine lv_bipush (v := (-3)) hx hb dX6_make_27 (by decide) ?_
        have hP9 := hP
        have hD9 := hD
        have cB : mkB σ q = false := by rw [mk_iff hok hq, decide_eq_true c15, decide_eq_true c24]; rfl
        have eN : nMake σ (nI q) = σ := by rw [nMake, if_neg (by rw [c5]; decide), kq, if_pos cB]
        have eO : oMake σ (nI q) = -3 := by rw [oMake, if_neg (by rw [c5]; decide), kq, if_pos cB]
        exact W.iret (v := (-3)) hx hb hr (fun t ht hW => ⟨⟨(-3), (), rfl, eO.symm, ⟨⟨by rw [ht, eN]; exact hP9, va_K.moved hW.alike hK, NW.warm hW hN⟩, by rw [eN]; exact hD9⟩⟩, hS.F ht⟩) hS.2.2 dX6_make_29
  · skip
    have c5 := b2_0 c5
    refine lv_iconst (v := (-1)) hx hb dX6_make_8 (by decide) ?_
    have hP9 := hP
    have hD9 := hD
    have eN : nMake σ x = σ := by rw [nMake, if_pos c5]
    exact W.iret (v := (-1)) hx hb hr (fun t ht hW => ⟨⟨(-1), (), rfl, (by rw [oMake, if_pos c5]), ⟨⟨by rw [ht, eN]; exact hP9, va_K.moved hW.alike hK, NW.warm hW hN⟩, by rw [eN]; exact hD9⟩⟩, hS.F ht⟩) hS.2.2 dX6_make_9

set_option maxHeartbeats 4000000 in
set_option maxRecDepth 100000 in
theorem c_X6_mend (l : Launch) (D : va_G) (cI cZ : ClassId) (sz : Nat) (ym : Nat) (ymB : Nat) (ymU : Nat) (ymV : Nat) (ymR : Nat) (ymI : Nat) (ymE : Nat) (ymS : Nat) (ymT : Nat) (ymD : Nat) (ymQ : Nat) (ymP : Nat) (ymN : Nat) (ymO : Nat) (ymY : Nat) (ymZ : Nat) (ymX : Nat) (σ : ST) (ir : Nat → Int32) (ob : Nat → Int32) (ov : Nat → Int32) (x : Int32) (w : Int32) (hok : Ok σ) (hir : ∀ l, l < sN σ → ir l = b2 (bit (sR σ) (nI l))) : Met l yX6_mend wsX6_mend ({ frames := 5, cells := 0, slots := 0, locals := 118 }) (va_Pc [.ref ym, .int x, .int w] (XW D cI cZ [(ym, .inr (6, [.int (nI (sF σ)), .ref ymB, .int (nI (sN σ)), .ref ymU, .ref ymV, .ref ymR, .ref ymI, .ref ymE, .int (nI (sM σ)), .ref ymS, .ref ymT, .ref ymD, .int (nI (sC σ)), .ref ymQ, .ref ymP, .ref ymN, .int (nI (sG σ)), .ref ymO, .ref ymY, .ref ymZ, .ref ymX])), (ymB, .inl (cI, 7, .inl (rB σ))), (ymU, .inl (cI, 12, .inl (rMu σ))), (ymV, .inl (cI, 12, .inl (rMn σ))), (ymR, .inl (cI, 12, .inl (rRu σ))), (ymI, .inl (cZ, 12, .inl ir)), (ymE, .inl (cI, 12, .inl (rEr σ))), (ymS, .inl (cI, 90, .inl (rTs σ))), (ymT, .inl (cI, 90, .inl (rTn σ))), (ymD, .inl (cI, 30, .inl (rRd σ))), (ymQ, .inl (cI, 12, .inl (rCk σ))), (ymP, .inl (cI, 12, .inl (rCr σ))), (ymN, .inl (cI, 12, .inl (rCn σ))), (ymO, .inl (cI, 128, .inl ob)), (ymY, .inl (cI, 30, .inl ov))] sz)) (va_Qi (fun (r : Int32) (u : (Nat → Int32) × (Nat → Int32) × (Nat → Int32)) => r = oMend σ x w ∧ ∀ l, l < sN (σ) → u.1 l = b2 (bit (sR (σ)) (nI l))) (fun u => XB D cI cZ (va_A [(ym, .inr (6, [.int (nI (sF σ)), .ref ymB, .int (nI (sN σ)), .ref ymU, .ref ymV, .ref ymR, .ref ymI, .ref ymE, .int (nI (sM σ)), .ref ymS, .ref ymT, .ref ymD, .int (nI (sC σ)), .ref ymQ, .ref ymP, .ref ymN, .int (nI (sG σ)), .ref ymO, .ref ymY, .ref ymZ, .ref ymX])), (ymB, .inl (cI, 7, .inl (rB σ))), (ymU, .inl (cI, 12, .inl (rMu σ))), (ymV, .inl (cI, 12, .inl (rMn σ))), (ymR, .inl (cI, 12, .inl (rRu σ))), (ymI, .inl (cZ, 12, .inl ir)), (ymE, .inl (cI, 12, .inl (rEr σ))), (ymS, .inl (cI, 90, .inl (rTs σ))), (ymT, .inl (cI, 90, .inl (rTn σ))), (ymD, .inl (cI, 30, .inl (rRd σ))), (ymQ, .inl (cI, 12, .inl (rCk σ))), (ymP, .inl (cI, 12, .inl (rCr σ))), (ymN, .inl (cI, 12, .inl (rCn σ))), (ymO, .inl (cI, 128, .inl ob)), (ymY, .inl (cI, 30, .inl ov))] sz) [(ym, .inr (6, [.int (nI (sF σ)), .ref ymB, .int (nI (sN σ)), .ref ymU, .ref ymV, .ref ymR, .ref ymI, .ref ymE, .int (nI (sM σ)), .ref ymS, .ref ymT, .ref ymD, .int (nI (sC σ)), .ref ymQ, .ref ymP, .ref ymN, .int (nI (sG σ)), .ref ymO, .ref ymY, .ref ymZ, .ref ymX])), (ymB, .inl (cI, 7, .inl (rB σ))), (ymU, .inl (cI, 12, .inl (rMu σ))), (ymV, .inl (cI, 12, .inl (rMn σ))), (ymR, .inl (cI, 12, .inl (rRu σ))), (ymI, .inl (cZ, 12, .inl u.1)), (ymE, .inl (cI, 12, .inl (rEr σ))), (ymS, .inl (cI, 90, .inl (rTs σ))), (ymT, .inl (cI, 90, .inl (rTn σ))), (ymD, .inl (cI, 30, .inl (rRd σ))), (ymQ, .inl (cI, 12, .inl (rCk σ))), (ymP, .inl (cI, 12, .inl (rCr σ))), (ymN, .inl (cI, 12, .inl (rCn σ))), (ymO, .inl (cI, 128, .inl u.2.1)), (ymY, .inl (cI, 30, .inl u.2.2))]) (va_A [(ym, .inr (6, [.int (nI (sF σ)), .ref ymB, .int (nI (sN σ)), .ref ymU, .ref ymV, .ref ymR, .ref ymI, .ref ymE, .int (nI (sM σ)), .ref ymS, .ref ymT, .ref ymD, .int (nI (sC σ)), .ref ymQ, .ref ymP, .ref ymN, .int (nI (sG σ)), .ref ymO, .ref ymY, .ref ymZ, .ref ymX])), (ymB, .inl (cI, 7, .inl (rB σ))), (ymU, .inl (cI, 12, .inl (rMu σ))), (ymV, .inl (cI, 12, .inl (rMn σ))), (ymR, .inl (cI, 12, .inl (rRu σ))), (ymI, .inl (cZ, 12, .inl ir)), (ymE, .inl (cI, 12, .inl (rEr σ))), (ymS, .inl (cI, 90, .inl (rTs σ))), (ymT, .inl (cI, 90, .inl (rTn σ))), (ymD, .inl (cI, 30, .inl (rRd σ))), (ymQ, .inl (cI, 12, .inl (rCk σ))), (ymP, .inl (cI, 12, .inl (rCr σ))), (ymN, .inl (cI, 12, .inl (rCn σ))), (ymO, .inl (cI, 128, .inl ob)), (ymY, .inl (cI, 30, .inl ov))] sz)) 0 0 (va_A [(ym, .inr (6, [.int (nI (sF σ)), .ref ymB, .int (nI (sN σ)), .ref ymU, .ref ymV, .ref ymR, .ref ymI, .ref ymE, .int (nI (sM σ)), .ref ymS, .ref ymT, .ref ymD, .int (nI (sC σ)), .ref ymQ, .ref ymP, .ref ymN, .int (nI (sG σ)), .ref ymO, .ref ymY, .ref ymZ, .ref ymX])), (ymB, .inl (cI, 7, .inl (rB σ))), (ymU, .inl (cI, 12, .inl (rMu σ))), (ymV, .inl (cI, 12, .inl (rMn σ))), (ymR, .inl (cI, 12, .inl (rRu σ))), (ymI, .inl (cZ, 12, .inl ir)), (ymE, .inl (cI, 12, .inl (rEr σ))), (ymS, .inl (cI, 90, .inl (rTs σ))), (ymT, .inl (cI, 90, .inl (rTn σ))), (ymD, .inl (cI, 30, .inl (rRd σ))), (ymQ, .inl (cI, 12, .inl (rCk σ))), (ymP, .inl (cI, 12, .inl (rCr σ))), (ymN, .inl (cI, 12, .inl (rCn σ))), (ymO, .inl (cI, 128, .inl ob)), (ymY, .inl (cI, 30, .inl ov))] sz) := by
  refine Met.ofW (cc := cX6_mend) (maxL := 6) (ret := (some .int)) (by decide) rfl ?_
  intro p e s m args below meth c s₁ B hml hv
  obtain ⟨rfl, hsz, ⟨hP, hK, hN⟩, hD0⟩ := hv
  have hx := B.exec
  have hb := B.bytes
  have hr := B.returns
  have hts := atoms_spec (ws := wsX6_mend) B.pre
  have hown : s.vm.findClass RX6 = some m.cls := findClass_of_methodNamed B.named
  have hlocks := B.notSynchronized
  subst hsz
  have hD := hD0.self (sz := s.heap.size)
  generalize hAe : va_A [(ym, .inr (6, [.int (nI (sF σ)), .ref ymB, .int (nI (sN σ)), .ref ymU, .ref ymV, .ref ymR, .ref ymI, .ref ymE, .int (nI (sM σ)), .ref ymS, .ref ymT, .ref ymD, .int (nI (sC σ)), .ref ymQ, .ref ymP, .ref ymN, .int (nI (sG σ)), .ref ymO, .ref ymY, .ref ymZ, .ref ymX])), (ymB, .inl (cI, 7, .inl (rB σ))), (ymU, .inl (cI, 12, .inl (rMu σ))), (ymV, .inl (cI, 12, .inl (rMn σ))), (ymR, .inl (cI, 12, .inl (rRu σ))), (ymI, .inl (cZ, 12, .inl ir)), (ymE, .inl (cI, 12, .inl (rEr σ))), (ymS, .inl (cI, 90, .inl (rTs σ))), (ymT, .inl (cI, 90, .inl (rTn σ))), (ymD, .inl (cI, 30, .inl (rRd σ))), (ymQ, .inl (cI, 12, .inl (rCk σ))), (ymP, .inl (cI, 12, .inl (rCr σ))), (ymN, .inl (cI, 12, .inl (rCn σ))), (ymO, .inl (cI, 128, .inl ob)), (ymY, .inl (cI, 30, .inl ov))] s.heap.size = A at hD ⊢
  have hA : ∀ q : Nat, s.heap.size ≤ q → A q := fun q h => by rw [← hAe]; exact Or.inr h
  have hS : va_S A s.heap s.heap [] := va_S.rf
  have ho := hok.1
  have hk2 := hok.k
  have hp2 : 1 ≤ 2 ^ sF σ := Nat.two_pow_pos _
  have hf73 := hts (.fieldLink RX6 73 "BallCourtModel" "moments" "I") (List.mem_of_getElem? (i := 4) (by decide +kernel))
  have hiX6 : ∀ w ∈ wsX60, w ∈ wsX6_mend := fun w h => List.mem_cons_of_mem _ (List.mem_append_right _ h)
  have hf26 := hts (.fieldLink RX6 26 "BallCourtModel" "isRepealed" "[Z") (List.mem_of_getElem? (i := 6) (by decide +kernel))
  have hf57 := hts (.fieldLink RX6 57 "BallCourtModel" "verdict" "[I") (List.mem_of_getElem? (i := 5) (by decide +kernel))
  have hf76 := hts (.fieldLink RX6 76 "BallCourtModel" "cases" "I") (List.mem_of_getElem? (i := 1) (by decide +kernel))
  have hf54 := hts (.fieldLink RX6 54 "BallCourtModel" "before" "[I") (List.mem_of_getElem? (i := 2) (by decide +kernel))
  have hf42 := hts (.fieldLink RX6 42 "BallCourtModel" "caseKind" "[I") (List.mem_of_getElem? (i := 3) (by decide +kernel))
  have hl := lv_entry ([.ref ym, .int x, .int w]) (n := 6) (Nat.le_of_ble_eq_true rfl)
  rw [lg_entry_eq]
  generalize (lg_sl ([.ref ym, .int x, .int w]) ++ List.replicate (6 - (lg_sl ([.ref ym, .int x, .int w])).length) Slot.unset).toArray = ls at hl ⊢
  have hl : lv_has ls 6 [(0, .ref ym), (1, .int x), (2, .int w)] := hl
  refine lv_aload_n hx hb dX6_mend_0 rfl (lv_at hl 0 rfl) ?_
  refine lv_iload_n hx hb dX6_mend_1 rfl (lv_at hl 1 rfl) ?_
  refine xpV (rest := []) ⟨hx, hb, hml, hown, hts⟩ (c_X6_isLine l D cI cZ ym ymB ymU ymV ymR ymI ymE ymS ymT ymD ymQ ymP ymN ymO ymY ymZ ymX σ x hok) (cwV 1 hts gX6_mend_X6_isLine rfl rfl rfl (by decide +kernel) ⟨Nat.le_of_ble_eq_true rfl, Nat.le_of_ble_eq_true rfl⟩) hP [0] rfl hK hN (ci := 6) (q0 := 0) rfl rfl rfl hl.1 rfl (Nat.le_of_ble_eq_true rfl) dX6_mend_2 ⟨Nat.zero_le _, Nat.zero_le _⟩ (fun r2 e2 => ?_)
  subst e2
  refine lv_if_ne (tgt := 10) hx hb dX6_mend_5 (by decide) (fun c5 => ?_) (fun c5 => ?_)
  · skip
    have c5 := b2_1 c5
    obtain ⟨q, hq, rfl⟩ := inN_t c5 (by omega)
    have kq := clp hq (show sN σ ≤ 128 by omega)
    refine lv_iload_n hx hb dX6_mend_10 rfl (lv_at hl 2 rfl) ?_
    refine lv_iconst (v := 0) hx hb dX6_mend_11 (by decide) ?_
    refine lv_iconst (v := 2) hx hb dX6_mend_12 (by decide) ?_
    refine xpS (rest := []) ⟨hx, hb, hml, hown, hts⟩ (c_X6_in l D cI cZ w 0 2) (va_cwS 3 hts gX6_mend_X6_in rfl rfl rfl (by decide +kernel) ⟨Nat.le_of_ble_eq_true rfl, Nat.le_of_ble_eq_true rfl⟩) hP [] rfl hK hN rfl hl.1 rfl (Nat.le_of_ble_eq_true rfl) dX6_mend_13 ⟨Nat.zero_le _, Nat.zero_le _⟩ (fun r13 e13 => ?_)
    subst e13
    refine lv_if_ne (tgt := 22) hx hb dX6_mend_16 (by decide) (fun c16 => ?_) (fun c16 => ?_)
    · skip
      have c16 := b2_1 c16
      refine lv_aload_n hx hb dX6_mend_22 rfl (lv_at hl 0 rfl) ?_
      refine lv_iload_n hx hb dX6_mend_23 rfl (lv_at hl 1 rfl) ?_
      refine xwV (rest := []) (wr := [(ymS, .inl (cI, 90, .inl (rTs σ))), (ymT, .inl (cI, 90, .inl (rTn σ))), (ymD, .inl (cI, 30, .inl (rRd σ))), (ymQ, .inl (cI, 12, .inl (rCk σ))), (ymP, .inl (cI, 12, .inl (rCr σ))), (ymN, .inl (cI, 12, .inl (rCn σ))), (ymY, .inl (cI, 30, .inl ov))]) ⟨hx, hb, hml, hown, hts⟩ (c_X6_turnedKinds l D cI cZ s.heap.size ym ymB ymU ymV ymR ymI ymE ymS ymT ymD ymQ ymP ymN ymO ymY ymZ ymX σ ir ob (sR σ) q hok hq hir) (cwV 1 hts gX6_mend_X6_turnedKinds rfl rfl rfl (by decide +kernel) ⟨Nat.le_of_ble_eq_true rfl, Nat.le_of_ble_eq_true rfl⟩) hP hD hS hA [0, 1, 2, 3, 4, 5, 6, 13] [7, 8, 9, 10, 11, 12, 14] rfl rfl (by decide) (by decide) (by decide) hK hN (ci := 6) (q0 := 0) rfl rfl rfl hl.1 rfl (Nat.le_of_ble_eq_true rfl) dX6_mend_24 ⟨Nat.zero_le _, Nat.zero_le _⟩ (fun r24 u24 H locs e24 hP hD hS => ?_)
      obtain ⟨ir2, ob2⟩ := u24
      have hP : va_P D vwCl [(ymS, .inl (cI, 90, .inl (rTs σ))), (ymT, .inl (cI, 90, .inl (rTn σ))), (ymD, .inl (cI, 30, .inl (rRd σ))), (ymQ, .inl (cI, 12, .inl (rCk σ))), (ymP, .inl (cI, 12, .inl (rCr σ))), (ymN, .inl (cI, 12, .inl (rCn σ))), (ymY, .inl (cI, 30, .inl ov)), (ym, .inr (6, [.int (nI (sF σ)), .ref ymB, .int (nI (sN σ)), .ref ymU, .ref ymV, .ref ymR, .ref ymI, .ref ymE, .int (nI (sM σ)), .ref ymS, .ref ymT, .ref ymD, .int (nI (sC σ)), .ref ymQ, .ref ymP, .ref ymN, .int (nI (sG σ)), .ref ymO, .ref ymY, .ref ymZ, .ref ymX])), (ymB, .inl (cI, 7, .inl (rB σ))), (ymU, .inl (cI, 12, .inl (rMu σ))), (ymV, .inl (cI, 12, .inl (rMn σ))), (ymR, .inl (cI, 12, .inl (rRu σ))), (ymI, .inl (cZ, 12, .inl ir2)), (ymE, .inl (cI, 12, .inl (rEr σ))), (ymO, .inl (cI, 128, .inl ob2))] H := hP
      have hD : va_D A [(ymS, .inl (cI, 90, .inl (rTs σ))), (ymT, .inl (cI, 90, .inl (rTn σ))), (ymD, .inl (cI, 30, .inl (rRd σ))), (ymQ, .inl (cI, 12, .inl (rCk σ))), (ymP, .inl (cI, 12, .inl (rCr σ))), (ymN, .inl (cI, 12, .inl (rCn σ))), (ymY, .inl (cI, 30, .inl ov)), (ym, .inr (6, [.int (nI (sF σ)), .ref ymB, .int (nI (sN σ)), .ref ymU, .ref ymV, .ref ymR, .ref ymI, .ref ymE, .int (nI (sM σ)), .ref ymS, .ref ymT, .ref ymD, .int (nI (sC σ)), .ref ymQ, .ref ymP, .ref ymN, .int (nI (sG σ)), .ref ymO, .ref ymY, .ref ymZ, .ref ymX])), (ymB, .inl (cI, 7, .inl (rB σ))), (ymU, .inl (cI, 12, .inl (rMu σ))), (ymV, .inl (cI, 12, .inl (rMn σ))), (ymR, .inl (cI, 12, .inl (rRu σ))), (ymI, .inl (cZ, 12, .inl ir2)), (ymE, .inl (cI, 12, .inl (rEr σ))), (ymO, .inl (cI, 128, .inl ob2))] := hD
      obtain ⟨rfl, hir2, hob2⟩ := e24
      refine lv_istore_n (lv' := [(3, .int (nI (tkN σ (sR σ) (sR σ ^^^ nI (2 ^ q))))), (0, .ref ym), (1, .int (nI q)), (2, .int w)]) hx hb dX6_mend_27 rfl hl (by decide) rfl (fun ls hl => ?_)
      refine lv_iload_n hx hb dX6_mend_28 rfl (lv_at hl 3 rfl) ?_
      refine lv_if_ne (tgt := 34) hx hb dX6_mend_29 (by decide) (fun c29 => ?_) (fun c29 => ?_)
      · skip
        refine wjoin (pcJ := 77) (lv := [(0, .ref ym), (1, .int (nI q)), (2, .int w), (4, .int (nI (if w = 1 then ctN σ (sR σ) (sR σ ^^^ nI (2 ^ q)) else 0)))]) (nL := 6) (st := []) (fun ls hl => ?_) (fun J77 => ?_)
        · skip
          refine lv_iconst (v := nI 0) hx hb dX6_mend_77 (by decide) ?_
          refine lv_istore (lv' := [(5, .int (nI 0)), (0, .ref ym), (1, .int (nI q)), (2, .int w), (4, .int (nI (if w = 1 then ctN σ (sR σ) (sR σ ^^^ nI (2 ^ q)) else 0)))]) hx hb dX6_mend_78 hl (by decide) rfl (fun ls hl => ?_)
          refine wloopW (α := Nat × (Nat → Int32)) (fun v => sM σ - v.1) (fun v => [(ymS, .inl (cI, 90, .inl (rTs σ))), (ymT, .inl (cI, 90, .inl (rTn σ))), (ymD, .inl (cI, 30, .inl (rRd σ))), (ymQ, .inl (cI, 12, .inl (rCk σ))), (ymP, .inl (cI, 12, .inl (rCr σ))), (ymN, .inl (cI, 12, .inl (rCn σ))), (ymY, .inl (cI, 30, .inl v.2)), (ym, .inr (6, [.int (nI (sF σ)), .ref ymB, .int (nI (sN σ)), .ref ymU, .ref ymV, .ref ymR, .ref ymI, .ref ymE, .int (nI (sM σ)), .ref ymS, .ref ymT, .ref ymD, .int (nI (sC σ)), .ref ymQ, .ref ymP, .ref ymN, .int (nI (sG σ)), .ref ymO, .ref ymY, .ref ymZ, .ref ymX])), (ymB, .inl (cI, 7, .inl (rB σ))), (ymU, .inl (cI, 12, .inl (rMu σ))), (ymV, .inl (cI, 12, .inl (rMn σ))), (ymR, .inl (cI, 12, .inl (rRu σ))), (ymI, .inl (cZ, 12, .inl ir2)), (ymE, .inl (cI, 12, .inl (rEr σ))), (ymO, .inl (cI, 128, .inl ob2))]) (fun v => [(0, .ref ym), (1, .int (nI q)), (2, .int w), (4, .int (nI (if w = 1 then ctN σ (sR σ) (sR σ ^^^ nI (2 ^ q)) else 0))), (5, .int (nI v.1))]) (fun v => (v.1 ≤ sM σ) ∧ (∀ j, j < v.1 → v.2 j = verI σ (sR σ) j)) 6 (fun v hv ih80 H locs hP hD hS ls hl => ?_) (0, ov) ⟨(show 0 ≤ sM σ from Nat.zero_le _), (show ∀ j, j < 0 → ov j = verI σ (sR σ) j from fun j hj => absurd hj (Nat.not_lt_zero _))⟩ hP hD hS ls (lv_sub hl [1, 2, 3, 4, 0] rfl)
          obtain ⟨i, r1⟩ := v
          obtain ⟨hi, hv⟩ := hv
          have hi : i ≤ sM σ := hi
          have hv : ∀ j, j < i → r1 j = verI σ (sR σ) j := hv
          have hl : lv_has ls 6 [(0, .ref ym), (1, .int (nI q)), (2, .int w), (4, .int (nI (if w = 1 then ctN σ (sR σ) (sR σ ^^^ nI (2 ^ q)) else 0))), (5, .int (nI i))] := hl
          have hP : va_P D vwCl [(ymS, .inl (cI, 90, .inl (rTs σ))), (ymT, .inl (cI, 90, .inl (rTn σ))), (ymD, .inl (cI, 30, .inl (rRd σ))), (ymQ, .inl (cI, 12, .inl (rCk σ))), (ymP, .inl (cI, 12, .inl (rCr σ))), (ymN, .inl (cI, 12, .inl (rCn σ))), (ymY, .inl (cI, 30, .inl r1)), (ym, .inr (6, [.int (nI (sF σ)), .ref ymB, .int (nI (sN σ)), .ref ymU, .ref ymV, .ref ymR, .ref ymI, .ref ymE, .int (nI (sM σ)), .ref ymS, .ref ymT, .ref ymD, .int (nI (sC σ)), .ref ymQ, .ref ymP, .ref ymN, .int (nI (sG σ)), .ref ymO, .ref ymY, .ref ymZ, .ref ymX])), (ymB, .inl (cI, 7, .inl (rB σ))), (ymU, .inl (cI, 12, .inl (rMu σ))), (ymV, .inl (cI, 12, .inl (rMn σ))), (ymR, .inl (cI, 12, .inl (rRu σ))), (ymI, .inl (cZ, 12, .inl ir2)), (ymE, .inl (cI, 12, .inl (rEr σ))), (ymO, .inl (cI, 128, .inl ob2))] H := hP
          have hD : va_D A [(ymS, .inl (cI, 90, .inl (rTs σ))), (ymT, .inl (cI, 90, .inl (rTn σ))), (ymD, .inl (cI, 30, .inl (rRd σ))), (ymQ, .inl (cI, 12, .inl (rCk σ))), (ymP, .inl (cI, 12, .inl (rCr σ))), (ymN, .inl (cI, 12, .inl (rCn σ))), (ymY, .inl (cI, 30, .inl r1)), (ym, .inr (6, [.int (nI (sF σ)), .ref ymB, .int (nI (sN σ)), .ref ymU, .ref ymV, .ref ymR, .ref ymI, .ref ymE, .int (nI (sM σ)), .ref ymS, .ref ymT, .ref ymD, .int (nI (sC σ)), .ref ymQ, .ref ymP, .ref ymN, .int (nI (sG σ)), .ref ymO, .ref ymY, .ref ymZ, .ref ymX])), (ymB, .inl (cI, 7, .inl (rB σ))), (ymU, .inl (cI, 12, .inl (rMu σ))), (ymV, .inl (cI, 12, .inl (rMn σ))), (ymR, .inl (cI, 12, .inl (rRu σ))), (ymI, .inl (cZ, 12, .inl ir2)), (ymE, .inl (cI, 12, .inl (rEr σ))), (ymO, .inl (cI, 128, .inl ob2))] := hD
          refine lv_iload hx hb dX6_mend_80 (lv_at hl 4 rfl) ?_
          refine lv_aload_n hx hb dX6_mend_82 rfl (lv_at hl 0 rfl) ?_
          refine va_get (D := D) (ci := 6) (v := .int (nI (sM σ))) (C := RX6) (T := TX6) (N := 21) hx hb hts hiX6 hown hK hP 7 rfl rfl 8 (by decide) hf73 (fun _ h9 => h9) rfl dX6_mend_83 ?_
          refine lv_icmp_ge (tgt := 108) hx hb dX6_mend_86 (by decide) (fun c86 => ?_) (fun c86 => ?_)
          · skip
            have c86 := (nI_leI (by omega) (by omega)).mp c86
            refine lv_aload_n hx hb dX6_mend_108 rfl (lv_at hl 0 rfl) ?_
            refine va_get (D := D) (ci := 6) (v := .ref ymI) (C := RX6) (T := TX6) (N := 21) hx hb hts hiX6 hown hK hP 7 rfl rfl 6 (by decide) hf26 (fun _ h9 => h9) rfl dX6_mend_109 ?_
            refine lv_iload_n hx hb dX6_mend_112 rfl (lv_at hl 1 rfl) ?_
            refine wjoin (pcJ := 127) (lv := [(0, .ref ym), (1, .int (nI q)), (2, .int w), (4, .int (nI (if w = 1 then ctN σ (sR σ) (sR σ ^^^ nI (2 ^ q)) else 0))), (5, .int (nI i))]) (nL := 6) (st := [.int (b2 (!bit (sR σ) (nI q))), .int (nI q), .ref ymI]) (fun ls hl => ?_) (fun J127 => ?_)
            · skip
              refine xzst (k := q) hx hb hK hP hD hS 12 rfl (nar_b2 _) (by omega) (by decide) dX6_mend_127 (fun H locs hP hD hS => ?_)
              have hP : va_P D vwCl [(ymS, .inl (cI, 90, .inl (rTs σ))), (ymT, .inl (cI, 90, .inl (rTn σ))), (ymD, .inl (cI, 30, .inl (rRd σ))), (ymQ, .inl (cI, 12, .inl (rCk σ))), (ymP, .inl (cI, 12, .inl (rCr σ))), (ymN, .inl (cI, 12, .inl (rCn σ))), (ymY, .inl (cI, 30, .inl r1)), (ym, .inr (6, [.int (nI (sF σ)), .ref ymB, .int (nI (sN σ)), .ref ymU, .ref ymV, .ref ymR, .ref ymI, .ref ymE, .int (nI (sM σ)), .ref ymS, .ref ymT, .ref ymD, .int (nI (sC σ)), .ref ymQ, .ref ymP, .ref ymN, .int (nI (sG σ)), .ref ymO, .ref ymY, .ref ymZ, .ref ymX])), (ymB, .inl (cI, 7, .inl (rB σ))), (ymU, .inl (cI, 12, .inl (rMu σ))), (ymV, .inl (cI, 12, .inl (rMn σ))), (ymR, .inl (cI, 12, .inl (rRu σ))), (ymI, .inl (cZ, 12, .inl (upd ir2 q (b2 (!bit (sR σ) (nI q)))))), (ymE, .inl (cI, 12, .inl (rEr σ))), (ymO, .inl (cI, 128, .inl ob2))] H := hP
              have hD : va_D A [(ymS, .inl (cI, 90, .inl (rTs σ))), (ymT, .inl (cI, 90, .inl (rTn σ))), (ymD, .inl (cI, 30, .inl (rRd σ))), (ymQ, .inl (cI, 12, .inl (rCk σ))), (ymP, .inl (cI, 12, .inl (rCr σ))), (ymN, .inl (cI, 12, .inl (rCn σ))), (ymY, .inl (cI, 30, .inl r1)), (ym, .inr (6, [.int (nI (sF σ)), .ref ymB, .int (nI (sN σ)), .ref ymU, .ref ymV, .ref ymR, .ref ymI, .ref ymE, .int (nI (sM σ)), .ref ymS, .ref ymT, .ref ymD, .int (nI (sC σ)), .ref ymQ, .ref ymP, .ref ymN, .int (nI (sG σ)), .ref ymO, .ref ymY, .ref ymZ, .ref ymX])), (ymB, .inl (cI, 7, .inl (rB σ))), (ymU, .inl (cI, 12, .inl (rMu σ))), (ymV, .inl (cI, 12, .inl (rMn σ))), (ymR, .inl (cI, 12, .inl (rRu σ))), (ymI, .inl (cZ, 12, .inl (upd ir2 q (b2 (!bit (sR σ) (nI q)))))), (ymE, .inl (cI, 12, .inl (rEr σ))), (ymO, .inl (cI, 128, .inl ob2))] := hD
              refine wjoin (pcJ := 177) (lv := [(0, .ref ym), (1, .int (nI q)), (2, .int w), (4, .int (nI ((if w = 1 then ctN σ (sR σ) (sR σ ^^^ nI (2 ^ q)) else 0) + (if w = 2 then tvN σ (sR σ) (sR σ ^^^ nI (2 ^ q)) else 0))))]) (nL := 6) (st := []) (fun ls hl => ?_) (fun J177 => ?_)
              · skip
                refine lv_aload_n hx hb dX6_mend_177 rfl (lv_at hl 0 rfl) ?_
                refine va_get (D := D) (ci := 6) (v := .ref ymI) (C := RX6) (T := TX6) (N := 21) hx hb hts hiX6 hown hK hP 7 rfl rfl 6 (by decide) hf26 (fun _ h9 => h9) rfl dX6_mend_178 ?_
                refine lv_iload_n hx hb dX6_mend_181 rfl (lv_at hl 1 rfl) ?_
                refine wjoin (pcJ := 196) (lv := [(0, .ref ym), (1, .int (nI q)), (2, .int w), (4, .int (nI ((if w = 1 then ctN σ (sR σ) (sR σ ^^^ nI (2 ^ q)) else 0) + (if w = 2 then tvN σ (sR σ) (sR σ ^^^ nI (2 ^ q)) else 0))))]) (nL := 6) (st := [.int (b2 (bit (sR σ) (nI q))), .int (nI q), .ref ymI]) (fun ls hl => ?_) (fun J196 => ?_)
                · skip
                  refine xzst (k := q) hx hb hK hP hD hS 12 rfl (nar_b2 _) (by omega) (by decide) dX6_mend_196 (fun H locs hP hD hS => ?_)
                  have hP : va_P D vwCl [(ymS, .inl (cI, 90, .inl (rTs σ))), (ymT, .inl (cI, 90, .inl (rTn σ))), (ymD, .inl (cI, 30, .inl (rRd σ))), (ymQ, .inl (cI, 12, .inl (rCk σ))), (ymP, .inl (cI, 12, .inl (rCr σ))), (ymN, .inl (cI, 12, .inl (rCn σ))), (ymY, .inl (cI, 30, .inl r1)), (ym, .inr (6, [.int (nI (sF σ)), .ref ymB, .int (nI (sN σ)), .ref ymU, .ref ymV, .ref ymR, .ref ymI, .ref ymE, .int (nI (sM σ)), .ref ymS, .ref ymT, .ref ymD, .int (nI (sC σ)), .ref ymQ, .ref ymP, .ref ymN, .int (nI (sG σ)), .ref ymO, .ref ymY, .ref ymZ, .ref ymX])), (ymB, .inl (cI, 7, .inl (rB σ))), (ymU, .inl (cI, 12, .inl (rMu σ))), (ymV, .inl (cI, 12, .inl (rMn σ))), (ymR, .inl (cI, 12, .inl (rRu σ))), (ymI, .inl (cZ, 12, .inl (upd (upd ir2 q (b2 (!bit (sR σ) (nI q)))) q (b2 (bit (sR σ) (nI q)))))), (ymE, .inl (cI, 12, .inl (rEr σ))), (ymO, .inl (cI, 128, .inl ob2))] H := hP
                  have hD : va_D A [(ymS, .inl (cI, 90, .inl (rTs σ))), (ymT, .inl (cI, 90, .inl (rTn σ))), (ymD, .inl (cI, 30, .inl (rRd σ))), (ymQ, .inl (cI, 12, .inl (rCk σ))), (ymP, .inl (cI, 12, .inl (rCr σ))), (ymN, .inl (cI, 12, .inl (rCn σ))), (ymY, .inl (cI, 30, .inl r1)), (ym, .inr (6, [.int (nI (sF σ)), .ref ymB, .int (nI (sN σ)), .ref ymU, .ref ymV, .ref ymR, .ref ymI, .ref ymE, .int (nI (sM σ)), .ref ymS, .ref ymT, .ref ymD, .int (nI (sC σ)), .ref ymQ, .ref ymP, .ref ymN, .int (nI (sG σ)), .ref ymO, .ref ymY, .ref ymZ, .ref ymX])), (ymB, .inl (cI, 7, .inl (rB σ))), (ymU, .inl (cI, 12, .inl (rMu σ))), (ymV, .inl (cI, 12, .inl (rMn σ))), (ymR, .inl (cI, 12, .inl (rRu σ))), (ymI, .inl (cZ, 12, .inl (upd (upd ir2 q (b2 (!bit (sR σ) (nI q)))) q (b2 (bit (sR σ) (nI q)))))), (ymE, .inl (cI, 12, .inl (rEr σ))), (ymO, .inl (cI, 128, .inl ob2))] := hD
                  refine lv_iload hx hb dX6_mend_197 (lv_at hl 3 rfl) ?_
                  have hP9 := hP.sub (ws' := [(ym, .inr (6, [.int (nI (sF σ)), .ref ymB, .int (nI (sN σ)), .ref ymU, .ref ymV, .ref ymR, .ref ymI, .ref ymE, .int (nI (sM σ)), .ref ymS, .ref ymT, .ref ymD, .int (nI (sC σ)), .ref ymQ, .ref ymP, .ref ymN, .int (nI (sG σ)), .ref ymO, .ref ymY, .ref ymZ, .ref ymX])), (ymB, .inl (cI, 7, .inl (rB σ))), (ymU, .inl (cI, 12, .inl (rMu σ))), (ymV, .inl (cI, 12, .inl (rMn σ))), (ymR, .inl (cI, 12, .inl (rRu σ))), (ymI, .inl (cZ, 12, .inl (upd (upd ir2 q (b2 (!bit (sR σ) (nI q)))) q (b2 (bit (sR σ) (nI q)))))), (ymE, .inl (cI, 12, .inl (rEr σ))), (ymS, .inl (cI, 90, .inl (rTs σ))), (ymT, .inl (cI, 90, .inl (rTn σ))), (ymD, .inl (cI, 30, .inl (rRd σ))), (ymQ, .inl (cI, 12, .inl (rCk σ))), (ymP, .inl (cI, 12, .inl (rCr σ))), (ymN, .inl (cI, 12, .inl (rCn σ))), (ymO, .inl (cI, 128, .inl ob2)), (ymY, .inl (cI, 30, .inl r1))]) [7, 8, 9, 10, 11, 12, 13, 0, 1, 2, 3, 4, 5, 14, 6] rfl
                  have hD9 := hD.sub (ws' := [(ym, .inr (6, [.int (nI (sF σ)), .ref ymB, .int (nI (sN σ)), .ref ymU, .ref ymV, .ref ymR, .ref ymI, .ref ymE, .int (nI (sM σ)), .ref ymS, .ref ymT, .ref ymD, .int (nI (sC σ)), .ref ymQ, .ref ymP, .ref ymN, .int (nI (sG σ)), .ref ymO, .ref ymY, .ref ymZ, .ref ymX])), (ymB, .inl (cI, 7, .inl (rB σ))), (ymU, .inl (cI, 12, .inl (rMu σ))), (ymV, .inl (cI, 12, .inl (rMn σ))), (ymR, .inl (cI, 12, .inl (rRu σ))), (ymI, .inl (cZ, 12, .inl (upd (upd ir2 q (b2 (!bit (sR σ) (nI q)))) q (b2 (bit (sR σ) (nI q)))))), (ymE, .inl (cI, 12, .inl (rEr σ))), (ymS, .inl (cI, 90, .inl (rTs σ))), (ymT, .inl (cI, 90, .inl (rTn σ))), (ymD, .inl (cI, 30, .inl (rRd σ))), (ymQ, .inl (cI, 12, .inl (rCk σ))), (ymP, .inl (cI, 12, .inl (rCr σ))), (ymN, .inl (cI, 12, .inl (rCn σ))), (ymO, .inl (cI, 128, .inl ob2)), (ymY, .inl (cI, 30, .inl r1))]) [7, 8, 9, 10, 11, 12, 13, 0, 1, 2, 3, 4, 5, 14, 6] (by decide) rfl
                  exact W.iret (v := nI ((if w = 1 then ctN σ (sR σ) (sR σ ^^^ nI (2 ^ q)) else 0) + (if w = 2 then tvN σ (sR σ) (sR σ ^^^ nI (2 ^ q)) else 0))) hx hb hr (fun t ht hW => ⟨⟨nI ((if w = 1 then ctN σ (sR σ) (sR σ ^^^ nI (2 ^ q)) else 0) + (if w = 2 then tvN σ (sR σ) (sR σ ^^^ nI (2 ^ q)) else 0)), (upd (upd ir2 q (b2 (!bit (sR σ) (nI q)))) q (b2 (bit (sR σ) (nI q))), ob2, r1), rfl, ⟨(md_eq c16 c29).trans (md_o c5 c16 c29 kq).symm, ir_two hir2⟩, ⟨⟨by rw [ht]; exact hP9, va_K.moved hW.alike hK, NW.warm hW hN⟩, hD9⟩⟩, hS.F ht⟩) hS.2.2 dX6_mend_199
                · skip
                  refine lv_aload_n hx hb dX6_mend_182 rfl (lv_at hl 0 rfl) ?_
                  refine va_get (D := D) (ci := 6) (v := .ref ymI) (C := RX6) (T := TX6) (N := 21) hx hb hts hiX6 hown hK hP 7 rfl rfl 6 (by decide) hf26 (fun _ h9 => h9) rfl dX6_mend_183 ?_
                  refine lv_iload_n hx hb dX6_mend_186 rfl (lv_at hl 1 rfl) ?_
                  refine xzld (k := q) hx hb hK hP 12 rfl (by omega) (by decide) dX6_mend_187 ?_
                  refine lv_asi (show (upd ir2 q (b2 (!bit (sR σ) (nI q)))) q = b2 (!bit (sR σ) (nI q)) from by rw [pk_us]) ?_
                  refine lv_if_ne (tgt := 195) hx hb dX6_mend_188 (by decide) (fun c188 => ?_) (fun c188 => ?_)
                  · skip
                    have c188 := b2_1 c188
                    refine lv_iconst (v := 0) hx hb dX6_mend_195 (by decide) ?_
                    refine lv_asi (show (0 : Int32) = b2 (bit (sR σ) (nI q)) from b2_f (by simpa using c188)) ?_
                    exact J196 ls (lv_sub hl [0, 1, 2, 3] rfl)
                  · skip
                    have c188 := b2_0 c188
                    refine lv_iconst (v := 1) hx hb dX6_mend_191 (by decide) ?_
                    refine lv_goto (tgt := 196) hx hb dX6_mend_192 (by decide) ?_
                    refine lv_asi (show (1 : Int32) = b2 (bit (sR σ) (nI q)) from b2_t (by simpa using c188)) ?_
                    exact J196 ls (lv_sub hl [0, 1, 2, 3] rfl)
              · skip
                have hir3 : ∀ l, l < sN σ → upd ir2 q (b2 (!bit (sR σ) (nI q))) l = b2 (bit (sR σ ^^^ nI (2 ^ q)) (nI l)) := ir_flip hok hir2 hq rfl
                refine lv_iconst (v := nI 0) hx hb dX6_mend_128 (by decide) ?_
                refine lv_istore (lv' := [(5, .int (nI 0)), (0, .ref ym), (1, .int (nI q)), (2, .int w), (4, .int (nI (if w = 1 then ctN σ (sR σ) (sR σ ^^^ nI (2 ^ q)) else 0)))]) hx hb dX6_mend_129 hl (by decide) rfl (fun ls hl => ?_)
                refine wloop (α := Nat) (fun v => sM σ - v) (fun v => [(0, .ref ym), (1, .int (nI q)), (2, .int w), (4, .int (nI ((if w = 1 then ctN σ (sR σ) (sR σ ^^^ nI (2 ^ q)) else 0) + cnt (tvq σ (sR σ) (sR σ ^^^ nI (2 ^ q))) v))), (5, .int (nI v))]) (fun v => (v ≤ sM σ) ∧ (w = 2 ∨ v = 0)) 6 (fun v hv ih131 ls hl => ?_) 0 ⟨(show 0 ≤ sM σ from Nat.zero_le _), (show w = 2 ∨ 0 = 0 from Or.inr rfl)⟩ ls (lv_sub hl [1, 2, 3, 4, 0] rfl)
                obtain ⟨i, rfl⟩ : ∃ z : Nat, z = v := ⟨_, rfl⟩
                obtain ⟨hi, hz⟩ := hv
                have hi : i ≤ sM σ := hi
                have hz : w = 2 ∨ i = 0 := hz
                have hl : lv_has ls 6 [(0, .ref ym), (1, .int (nI q)), (2, .int w), (4, .int (nI ((if w = 1 then ctN σ (sR σ) (sR σ ^^^ nI (2 ^ q)) else 0) + cnt (tvq σ (sR σ) (sR σ ^^^ nI (2 ^ q))) i))), (5, .int (nI i))] := hl
                refine lv_iload hx hb dX6_mend_131 (lv_at hl 4 rfl) ?_
                refine lv_aload_n hx hb dX6_mend_133 rfl (lv_at hl 0 rfl) ?_
                refine va_get (D := D) (ci := 6) (v := .int (nI (sM σ))) (C := RX6) (T := TX6) (N := 21) hx hb hts hiX6 hown hK hP 7 rfl rfl 8 (by decide) hf73 (fun _ h9 => h9) rfl dX6_mend_134 ?_
                refine lv_icmp_ge (tgt := 177) hx hb dX6_mend_137 (by decide) (fun c137 => ?_) (fun c137 => ?_)
                · skip
                  have c137 := (nI_leI (by omega) (by omega)).mp c137
                  have hl : lv_has ls 6 [(0, .ref ym), (1, .int (nI q)), (2, .int w), (4, .int (nI ((if w = 1 then ctN σ (sR σ) (sR σ ^^^ nI (2 ^ q)) else 0) + (if w = 2 then tvN σ (sR σ) (sR σ ^^^ nI (2 ^ q)) else 0)))), (5, .int (nI i))] := by rw [← (show nI ((if w = 1 then ctN σ (sR σ) (sR σ ^^^ nI (2 ^ q)) else 0) + cnt (tvq σ (sR σ) (sR σ ^^^ nI (2 ^ q))) i) = nI ((if w = 1 then ctN σ (sR σ) (sR σ ^^^ nI (2 ^ q)) else 0) + (if w = 2 then tvN σ (sR σ) (sR σ ^^^ nI (2 ^ q)) else 0)) from md_c hz (by omega))]; exact hl
                  exact J177 ls (lv_sub hl [0, 1, 2, 3] rfl)
                · skip
                  have c137 := Nat.lt_of_not_le (fun z => c137 ((nI_leI (by omega) (by omega)).mpr z))
                  refine lv_iload_n hx hb dX6_mend_140 rfl (lv_at hl 2 rfl) ?_
                  refine lv_iconst (v := 2) hx hb dX6_mend_141 (by decide) ?_
                  refine lv_icmp_ne (tgt := 177) hx hb dX6_mend_142 (by decide) (fun c142 => ?_) (fun c142 => ?_)
                  · skip
                    have hl : lv_has ls 6 [(0, .ref ym), (1, .int (nI q)), (2, .int w), (4, .int (nI ((if w = 1 then ctN σ (sR σ) (sR σ ^^^ nI (2 ^ q)) else 0) + (if w = 2 then tvN σ (sR σ) (sR σ ^^^ nI (2 ^ q)) else 0)))), (5, .int (nI i))] := by rw [← (show nI ((if w = 1 then ctN σ (sR σ) (sR σ ^^^ nI (2 ^ q)) else 0) + cnt (tvq σ (sR σ) (sR σ ^^^ nI (2 ^ q))) i) = nI ((if w = 1 then ctN σ (sR σ) (sR σ ^^^ nI (2 ^ q)) else 0) + (if w = 2 then tvN σ (sR σ) (sR σ ^^^ nI (2 ^ q)) else 0)) from md_d hz c142)]; exact hl
                    exact J177 ls (lv_sub hl [0, 1, 2, 3] rfl)
                  · skip
                    refine lv_iload hx hb dX6_mend_145 (lv_at hl 3 rfl) ?_
                    refine wjoin (pcJ := 168) (lv := [(0, .ref ym), (1, .int (nI q)), (2, .int w), (4, .int (nI ((if w = 1 then ctN σ (sR σ) (sR σ ^^^ nI (2 ^ q)) else 0) + cnt (tvq σ (sR σ) (sR σ ^^^ nI (2 ^ q))) i))), (5, .int (nI i))]) (nL := 6) (st := [.int (b2 (tvq σ (sR σ) (sR σ ^^^ nI (2 ^ q)) i)), .int (nI ((if w = 1 then ctN σ (sR σ) (sR σ ^^^ nI (2 ^ q)) else 0) + cnt (tvq σ (sR σ) (sR σ ^^^ nI (2 ^ q))) i))]) (fun ls hl => ?_) (fun J168 => ?_)
                    · skip
                      refine lv_iadd hx hb dX6_mend_168 ?_
                      refine lv_asi (show (nI ((if w = 1 then ctN σ (sR σ) (sR σ ^^^ nI (2 ^ q)) else 0) + cnt (tvq σ (sR σ) (sR σ ^^^ nI (2 ^ q))) i)) + (b2 (tvq σ (sR σ) (sR σ ^^^ nI (2 ^ q)) i)) = nI ((if w = 1 then ctN σ (sR σ) (sR σ ^^^ nI (2 ^ q)) else 0) + cnt (tvq σ (sR σ) (sR σ ^^^ nI (2 ^ q))) (i + 1)) from cnt_b2' _ _ _) ?_
                      refine lv_istore (lv' := [(4, .int (nI ((if w = 1 then ctN σ (sR σ) (sR σ ^^^ nI (2 ^ q)) else 0) + cnt (tvq σ (sR σ) (sR σ ^^^ nI (2 ^ q))) (i + 1)))), (0, .ref ym), (1, .int (nI q)), (2, .int w), (5, .int (nI i))]) hx hb dX6_mend_169 hl (by decide) rfl (fun ls hl => ?_)
                      refine lv_iinc (k := 4) (x := nI i) (v := nI (i + 1)) (lv' := [(5, .int (nI (i + 1))), (4, .int (nI ((if w = 1 then ctN σ (sR σ) (sR σ ^^^ nI (2 ^ q)) else 0) + cnt (tvq σ (sR σ) (sR σ ^^^ nI (2 ^ q))) (i + 1)))), (0, .ref ym), (1, .int (nI q)), (2, .int w)]) hx hb dX6_mend_171 hl rfl (show (nI i) + Int32.ofInt 1 = nI (i + 1) from nI_1 _) (by decide) rfl (fun ls hl => ?_)
                      refine lv_goto (tgt := 131) hx hb dX6_mend_174 (by decide) ?_
                      exact ih131 (i + 1) ⟨(show (i + 1) ≤ sM σ from (by omega)), (show w = 2 ∨ (i + 1) = 0 from Or.inl c142)⟩ (by show sM σ - (i + 1) < sM σ - i; omega) ls (lv_sub hl [2, 3, 4, 1, 0] rfl)
                    · skip
                      refine lv_aload_n hx hb dX6_mend_147 rfl (lv_at hl 0 rfl) ?_
                      refine va_get (D := D) (ci := 6) (v := .ref ymY) (C := RX6) (T := TX6) (N := 21) hx hb hts hiX6 hown hK hP 7 rfl rfl 18 (by decide) hf57 (fun _ h9 => h9) rfl dX6_mend_148 ?_
                      refine lv_iload hx hb dX6_mend_151 (lv_at hl 4 rfl) ?_
                      refine xald (k := i) hx hb hK hP 6 rfl (by omega) (by decide) dX6_mend_153 ?_
                      refine lv_asi (show r1 i = verI σ (sR σ) i from hv i (by omega)) ?_
                      refine lv_aload_n hx hb dX6_mend_154 rfl (lv_at hl 0 rfl) ?_
                      refine lv_iload hx hb dX6_mend_155 (lv_at hl 4 rfl) ?_
                      refine xpV (rest := [.int (verI σ (sR σ) i), .int (nI ((if w = 1 then ctN σ (sR σ) (sR σ ^^^ nI (2 ^ q)) else 0) + cnt (tvq σ (sR σ) (sR σ ^^^ nI (2 ^ q))) i))]) ⟨hx, hb, hml, hown, hts⟩ (c_X6_verdictOf l D cI cZ ym ymB ymU ymV ymR ymI ymE ymS ymT ymD ymQ ymP ymN ymO ymY ymZ ymX σ (upd ir2 q (b2 (!bit (sR σ) (nI q)))) (sR σ ^^^ nI (2 ^ q)) i hok c137 hir3) (cwV 1 hts gX6_mend_X6_verdictOf rfl rfl rfl (by decide +kernel) ⟨Nat.le_of_ble_eq_true rfl, Nat.le_of_ble_eq_true rfl⟩) hP [7, 8, 9, 10, 11, 12, 13, 0, 1, 2, 3, 4, 5] rfl hK hN (ci := 6) (q0 := 7) rfl rfl rfl hl.1 rfl (Nat.le_of_ble_eq_true rfl) dX6_mend_157 ⟨Nat.zero_le _, Nat.zero_le _⟩ (fun r157 e157 => ?_)
                      subst e157
                      refine lv_icmp_eq (tgt := 167) hx hb dX6_mend_160 (by decide) (fun c160 => ?_) (fun c160 => ?_)
                      · skip
                        refine lv_iconst (v := 0) hx hb dX6_mend_167 (by decide) ?_
                        refine lv_asi (show (0 : Int32) = b2 (tvq σ (sR σ) (sR σ ^^^ nI (2 ^ q)) i) from b2_f (by rw [tvq, decide_eq_true c160]; rfl)) ?_
                        exact J168 ls (lv_sub hl [0, 1, 2, 3, 4] rfl)
                      · skip
                        refine lv_iconst (v := 1) hx hb dX6_mend_163 (by decide) ?_
                        refine lv_goto (tgt := 168) hx hb dX6_mend_164 (by decide) ?_
                        refine lv_asi (show (1 : Int32) = b2 (tvq σ (sR σ) (sR σ ^^^ nI (2 ^ q)) i) from b2_t (by rw [tvq, decide_eq_false c160]; rfl)) ?_
                        exact J168 ls (lv_sub hl [0, 1, 2, 3, 4] rfl)
            · skip
              refine lv_aload_n hx hb dX6_mend_113 rfl (lv_at hl 0 rfl) ?_
              refine va_get (D := D) (ci := 6) (v := .ref ymI) (C := RX6) (T := TX6) (N := 21) hx hb hts hiX6 hown hK hP 7 rfl rfl 6 (by decide) hf26 (fun _ h9 => h9) rfl dX6_mend_114 ?_
              refine lv_iload_n hx hb dX6_mend_117 rfl (lv_at hl 1 rfl) ?_
              refine xzld (k := q) hx hb hK hP 12 rfl (by omega) (by decide) dX6_mend_118 ?_
              refine lv_asi (show ir2 q = b2 (bit (sR σ) (nI q)) from hir2 q hq) ?_
              refine lv_if_ne (tgt := 126) hx hb dX6_mend_119 (by decide) (fun c119 => ?_) (fun c119 => ?_)
              · skip
                have c119 := b2_1 c119
                refine lv_iconst (v := 0) hx hb dX6_mend_126 (by decide) ?_
                refine lv_asi (show (0 : Int32) = b2 (!bit (sR σ) (nI q)) from by rw [c119]; rfl) ?_
                exact J127 ls (lv_sub hl [0, 1, 2, 3, 4] rfl)
              · skip
                have c119 := b2_0 c119
                refine lv_iconst (v := 1) hx hb dX6_mend_122 (by decide) ?_
                refine lv_goto (tgt := 127) hx hb dX6_mend_123 (by decide) ?_
                refine lv_asi (show (1 : Int32) = b2 (!bit (sR σ) (nI q)) from by rw [c119]; rfl) ?_
                exact J127 ls (lv_sub hl [0, 1, 2, 3, 4] rfl)
          · skip
            have c86 := Nat.lt_of_not_le (fun z => c86 ((nI_leI (by omega) (by omega)).mpr z))
            refine lv_aload_n hx hb dX6_mend_89 rfl (lv_at hl 0 rfl) ?_
            refine va_get (D := D) (ci := 6) (v := .ref ymY) (C := RX6) (T := TX6) (N := 21) hx hb hts hiX6 hown hK hP 7 rfl rfl 18 (by decide) hf57 (fun _ h9 => h9) rfl dX6_mend_90 ?_
            refine lv_iload hx hb dX6_mend_93 (lv_at hl 4 rfl) ?_
            refine lv_aload_n hx hb dX6_mend_95 rfl (lv_at hl 0 rfl) ?_
            refine lv_iload hx hb dX6_mend_96 (lv_at hl 4 rfl) ?_
            refine xpV (rest := [.int (nI i), .ref ymY]) ⟨hx, hb, hml, hown, hts⟩ (c_X6_verdictOf l D cI cZ ym ymB ymU ymV ymR ymI ymE ymS ymT ymD ymQ ymP ymN ymO ymY ymZ ymX σ ir2 (sR σ) i hok c86 hir2) (cwV 1 hts gX6_mend_X6_verdictOf rfl rfl rfl (by decide +kernel) ⟨Nat.le_of_ble_eq_true rfl, Nat.le_of_ble_eq_true rfl⟩) hP [7, 8, 9, 10, 11, 12, 13, 0, 1, 2, 3, 4, 5] rfl hK hN (ci := 6) (q0 := 7) rfl rfl rfl hl.1 rfl (Nat.le_of_ble_eq_true rfl) dX6_mend_98 ⟨Nat.zero_le _, Nat.zero_le _⟩ (fun r98 e98 => ?_)
            subst e98
            refine xast (k := i) hx hb hK hP hD hS 6 rfl (by omega) (by decide) dX6_mend_101 (fun H locs hP hD hS => ?_)
            have hP : va_P D vwCl [(ymS, .inl (cI, 90, .inl (rTs σ))), (ymT, .inl (cI, 90, .inl (rTn σ))), (ymD, .inl (cI, 30, .inl (rRd σ))), (ymQ, .inl (cI, 12, .inl (rCk σ))), (ymP, .inl (cI, 12, .inl (rCr σ))), (ymN, .inl (cI, 12, .inl (rCn σ))), (ymY, .inl (cI, 30, .inl (upd r1 i (verI σ (sR σ) i)))), (ym, .inr (6, [.int (nI (sF σ)), .ref ymB, .int (nI (sN σ)), .ref ymU, .ref ymV, .ref ymR, .ref ymI, .ref ymE, .int (nI (sM σ)), .ref ymS, .ref ymT, .ref ymD, .int (nI (sC σ)), .ref ymQ, .ref ymP, .ref ymN, .int (nI (sG σ)), .ref ymO, .ref ymY, .ref ymZ, .ref ymX])), (ymB, .inl (cI, 7, .inl (rB σ))), (ymU, .inl (cI, 12, .inl (rMu σ))), (ymV, .inl (cI, 12, .inl (rMn σ))), (ymR, .inl (cI, 12, .inl (rRu σ))), (ymI, .inl (cZ, 12, .inl ir2)), (ymE, .inl (cI, 12, .inl (rEr σ))), (ymO, .inl (cI, 128, .inl ob2))] H := hP
            have hD : va_D A [(ymS, .inl (cI, 90, .inl (rTs σ))), (ymT, .inl (cI, 90, .inl (rTn σ))), (ymD, .inl (cI, 30, .inl (rRd σ))), (ymQ, .inl (cI, 12, .inl (rCk σ))), (ymP, .inl (cI, 12, .inl (rCr σ))), (ymN, .inl (cI, 12, .inl (rCn σ))), (ymY, .inl (cI, 30, .inl (upd r1 i (verI σ (sR σ) i)))), (ym, .inr (6, [.int (nI (sF σ)), .ref ymB, .int (nI (sN σ)), .ref ymU, .ref ymV, .ref ymR, .ref ymI, .ref ymE, .int (nI (sM σ)), .ref ymS, .ref ymT, .ref ymD, .int (nI (sC σ)), .ref ymQ, .ref ymP, .ref ymN, .int (nI (sG σ)), .ref ymO, .ref ymY, .ref ymZ, .ref ymX])), (ymB, .inl (cI, 7, .inl (rB σ))), (ymU, .inl (cI, 12, .inl (rMu σ))), (ymV, .inl (cI, 12, .inl (rMn σ))), (ymR, .inl (cI, 12, .inl (rRu σ))), (ymI, .inl (cZ, 12, .inl ir2)), (ymE, .inl (cI, 12, .inl (rEr σ))), (ymO, .inl (cI, 128, .inl ob2))] := hD
            refine lv_iinc (k := 4) (x := nI i) (v := nI (i + 1)) (lv' := [(5, .int (nI (i + 1))), (0, .ref ym), (1, .int (nI q)), (2, .int w), (4, .int (nI (if w = 1 then ctN σ (sR σ) (sR σ ^^^ nI (2 ^ q)) else 0)))]) hx hb dX6_mend_102 hl rfl (show (nI i) + Int32.ofInt 1 = nI (i + 1) from nI_1 _) (by decide) rfl (fun ls hl => ?_)
            refine lv_goto (tgt := 80) hx hb dX6_mend_105 (by decide) ?_
            exact ih80 (i + 1, upd r1 i (verI σ (sR σ) i)) ⟨(show (i + 1) ≤ sM σ from (by omega)), (show ∀ j, j < (i + 1) → (upd r1 i (verI σ (sR σ) i)) j = verI σ (sR σ) j from lt_s (fun j hj => by rw [pk_un (by omega)]; exact hv j hj) (by rw [pk_us]))⟩ (by show sM σ - (i + 1) < sM σ - i; omega) _ _ hP hD hS ls (lv_sub hl [1, 2, 3, 4, 0] rfl)
        · skip
          refine lv_iconst (v := nI 0) hx hb dX6_mend_34 (by decide) ?_
          refine lv_istore (lv' := [(4, .int (nI 0)), (3, .int (nI (tkN σ (sR σ) (sR σ ^^^ nI (2 ^ q))))), (0, .ref ym), (1, .int (nI q)), (2, .int w)]) hx hb dX6_mend_35 hl (by decide) rfl (fun ls hl => ?_)
          refine lv_iconst (v := nI 0) hx hb dX6_mend_37 (by decide) ?_
          refine lv_istore (lv' := [(5, .int (nI 0)), (4, .int (nI 0)), (3, .int (nI (tkN σ (sR σ) (sR σ ^^^ nI (2 ^ q))))), (0, .ref ym), (1, .int (nI q)), (2, .int w)]) hx hb dX6_mend_38 hl (by decide) rfl (fun ls hl => ?_)
          refine wloop (α := Nat) (fun v => sC σ - v) (fun v => [(0, .ref ym), (1, .int (nI q)), (2, .int w), (4, .int (nI (cnt (ctq σ (sR σ) (sR σ ^^^ nI (2 ^ q))) v))), (5, .int (nI v))]) (fun v => (v ≤ sC σ) ∧ (w = 1 ∨ v = 0)) 6 (fun v hv ih40 ls hl => ?_) 0 ⟨(show 0 ≤ sC σ from Nat.zero_le _), (show w = 1 ∨ 0 = 0 from Or.inr rfl)⟩ ls (lv_sub hl [3, 4, 5, 1, 0] rfl)
          obtain ⟨i, rfl⟩ : ∃ z : Nat, z = v := ⟨_, rfl⟩
          obtain ⟨hi, hz⟩ := hv
          have hi : i ≤ sC σ := hi
          have hz : w = 1 ∨ i = 0 := hz
          have hl : lv_has ls 6 [(0, .ref ym), (1, .int (nI q)), (2, .int w), (4, .int (nI (cnt (ctq σ (sR σ) (sR σ ^^^ nI (2 ^ q))) i))), (5, .int (nI i))] := hl
          refine lv_iload hx hb dX6_mend_40 (lv_at hl 4 rfl) ?_
          refine lv_aload_n hx hb dX6_mend_42 rfl (lv_at hl 0 rfl) ?_
          refine va_get (D := D) (ci := 6) (v := .int (nI (sC σ))) (C := RX6) (T := TX6) (N := 21) hx hb hts hiX6 hown hK hP 7 rfl rfl 12 (by decide) hf76 (fun _ h9 => h9) rfl dX6_mend_43 ?_
          refine lv_icmp_ge (tgt := 77) hx hb dX6_mend_46 (by decide) (fun c46 => ?_) (fun c46 => ?_)
          · skip
            have c46 := (nI_leI (by omega) (by omega)).mp c46
            have hl : lv_has ls 6 [(0, .ref ym), (1, .int (nI q)), (2, .int w), (4, .int (nI (if w = 1 then ctN σ (sR σ) (sR σ ^^^ nI (2 ^ q)) else 0))), (5, .int (nI i))] := by rw [← (show nI (cnt (ctq σ (sR σ) (sR σ ^^^ nI (2 ^ q))) i) = nI (if w = 1 then ctN σ (sR σ) (sR σ ^^^ nI (2 ^ q)) else 0) from md_a hz (by omega))]; exact hl
            exact J77 ls (lv_sub hl [0, 1, 2, 3] rfl)
          · skip
            have c46 := Nat.lt_of_not_le (fun z => c46 ((nI_leI (by omega) (by omega)).mpr z))
            refine lv_iload_n hx hb dX6_mend_49 rfl (lv_at hl 2 rfl) ?_
            refine lv_iconst (v := 1) hx hb dX6_mend_50 (by decide) ?_
            refine lv_icmp_ne (tgt := 77) hx hb dX6_mend_51 (by decide) (fun c51 => ?_) (fun c51 => ?_)
            · skip
              have hl : lv_has ls 6 [(0, .ref ym), (1, .int (nI q)), (2, .int w), (4, .int (nI (if w = 1 then ctN σ (sR σ) (sR σ ^^^ nI (2 ^ q)) else 0))), (5, .int (nI i))] := by rw [← (show nI (cnt (ctq σ (sR σ) (sR σ ^^^ nI (2 ^ q))) i) = nI (if w = 1 then ctN σ (sR σ) (sR σ ^^^ nI (2 ^ q)) else 0) from md_b hz c51)]; exact hl
              exact J77 ls (lv_sub hl [0, 1, 2, 3] rfl)
            · skip
              refine lv_iload hx hb dX6_mend_54 (lv_at hl 3 rfl) ?_
              refine lv_aload_n hx hb dX6_mend_56 rfl (lv_at hl 0 rfl) ?_
              refine va_get (D := D) (ci := 6) (v := .ref ymO) (C := RX6) (T := TX6) (N := 21) hx hb hts hiX6 hown hK hP 7 rfl rfl 17 (by decide) hf54 (fun _ h9 => h9) rfl dX6_mend_57 ?_
              refine lv_aload_n hx hb dX6_mend_60 rfl (lv_at hl 0 rfl) ?_
              refine va_get (D := D) (ci := 6) (v := .ref ymQ) (C := RX6) (T := TX6) (N := 21) hx hb hts hiX6 hown hK hP 7 rfl rfl 13 (by decide) hf42 (fun _ h9 => h9) rfl dX6_mend_61 ?_
              refine lv_iload hx hb dX6_mend_64 (lv_at hl 4 rfl) ?_
              obtain ⟨a, ha, ea⟩ := hok.ck c46
              have ka := clp ha hk2
              refine xald (k := i) hx hb hK hP 3 rfl (by omega) (by decide) dX6_mend_66 ?_
              refine lv_asi (show rCk σ i = nI a from ea) ?_
              refine xald (k := a) hx hb hK hP 14 rfl (by omega) (by decide) dX6_mend_67 ?_
              refine lv_asi (show ob2 a = b2 (ctq σ (sR σ) (sR σ ^^^ nI (2 ^ q)) i) from (hob2 a ha).trans (by rw [ctq, ea, ka])) ?_
              refine lv_iadd hx hb dX6_mend_68 ?_
              refine lv_asi (show (nI (cnt (ctq σ (sR σ) (sR σ ^^^ nI (2 ^ q))) i)) + (b2 (ctq σ (sR σ) (sR σ ^^^ nI (2 ^ q)) i)) = nI (cnt (ctq σ (sR σ) (sR σ ^^^ nI (2 ^ q))) (i + 1)) from cnt_b2 _ _) ?_
              refine lv_istore (lv' := [(4, .int (nI (cnt (ctq σ (sR σ) (sR σ ^^^ nI (2 ^ q))) (i + 1)))), (0, .ref ym), (1, .int (nI q)), (2, .int w), (5, .int (nI i))]) hx hb dX6_mend_69 hl (by decide) rfl (fun ls hl => ?_)
              refine lv_iinc (k := 4) (x := nI i) (v := nI (i + 1)) (lv' := [(5, .int (nI (i + 1))), (4, .int (nI (cnt (ctq σ (sR σ) (sR σ ^^^ nI (2 ^ q))) (i + 1)))), (0, .ref ym), (1, .int (nI q)), (2, .int w)]) hx hb dX6_mend_71 hl rfl (show (nI i) + Int32.ofInt 1 = nI (i + 1) from nI_1 _) (by decide) rfl (fun ls hl => ?_)
              refine lv_goto (tgt := 40) hx hb dX6_mend_74 (by decide) ?_
              exact ih40 (i + 1) ⟨(show (i + 1) ≤ sC σ from (by omega)), (show w = 1 ∨ (i + 1) = 0 from Or.inl c51)⟩ (by show sC σ - (i + 1) < sC σ - i; omega) ls (lv_sub hl [2, 3, 4, 1, 0] rfl)
      · skip
        refine lv_iload_n hx hb dX6_mend_32 rfl (lv_at hl 0 rfl) ?_
        have hP9 := hP.sub (ws' := [(ym, .inr (6, [.int (nI (sF σ)), .ref ymB, .int (nI (sN σ)), .ref ymU, .ref ymV, .ref ymR, .ref ymI, .ref ymE, .int (nI (sM σ)), .ref ymS, .ref ymT, .ref ymD, .int (nI (sC σ)), .ref ymQ, .ref ymP, .ref ymN, .int (nI (sG σ)), .ref ymO, .ref ymY, .ref ymZ, .ref ymX])), (ymB, .inl (cI, 7, .inl (rB σ))), (ymU, .inl (cI, 12, .inl (rMu σ))), (ymV, .inl (cI, 12, .inl (rMn σ))), (ymR, .inl (cI, 12, .inl (rRu σ))), (ymI, .inl (cZ, 12, .inl ir2)), (ymE, .inl (cI, 12, .inl (rEr σ))), (ymS, .inl (cI, 90, .inl (rTs σ))), (ymT, .inl (cI, 90, .inl (rTn σ))), (ymD, .inl (cI, 30, .inl (rRd σ))), (ymQ, .inl (cI, 12, .inl (rCk σ))), (ymP, .inl (cI, 12, .inl (rCr σ))), (ymN, .inl (cI, 12, .inl (rCn σ))), (ymO, .inl (cI, 128, .inl ob2)), (ymY, .inl (cI, 30, .inl ov))]) [7, 8, 9, 10, 11, 12, 13, 0, 1, 2, 3, 4, 5, 14, 6] rfl
        have hD9 := hD.sub (ws' := [(ym, .inr (6, [.int (nI (sF σ)), .ref ymB, .int (nI (sN σ)), .ref ymU, .ref ymV, .ref ymR, .ref ymI, .ref ymE, .int (nI (sM σ)), .ref ymS, .ref ymT, .ref ymD, .int (nI (sC σ)), .ref ymQ, .ref ymP, .ref ymN, .int (nI (sG σ)), .ref ymO, .ref ymY, .ref ymZ, .ref ymX])), (ymB, .inl (cI, 7, .inl (rB σ))), (ymU, .inl (cI, 12, .inl (rMu σ))), (ymV, .inl (cI, 12, .inl (rMn σ))), (ymR, .inl (cI, 12, .inl (rRu σ))), (ymI, .inl (cZ, 12, .inl ir2)), (ymE, .inl (cI, 12, .inl (rEr σ))), (ymS, .inl (cI, 90, .inl (rTs σ))), (ymT, .inl (cI, 90, .inl (rTn σ))), (ymD, .inl (cI, 30, .inl (rRd σ))), (ymQ, .inl (cI, 12, .inl (rCk σ))), (ymP, .inl (cI, 12, .inl (rCr σ))), (ymN, .inl (cI, 12, .inl (rCn σ))), (ymO, .inl (cI, 128, .inl ob2)), (ymY, .inl (cI, 30, .inl ov))]) [7, 8, 9, 10, 11, 12, 13, 0, 1, 2, 3, 4, 5, 14, 6] (by decide) rfl
        exact W.iret (v := nI (tkN σ (sR σ) (sR σ ^^^ nI (2 ^ q)))) hx hb hr (fun t ht hW => ⟨⟨nI (tkN σ (sR σ) (sR σ ^^^ nI (2 ^ q))), (ir2, ob2, ov), rfl, ⟨by rw [oMend, if_neg (by rw [c5]; decide), if_neg (by rw [c16]; decide), if_pos c29, flS, kq], hir2⟩, ⟨⟨by rw [ht]; exact hP9, va_K.moved hW.alike hK, NW.warm hW hN⟩, hD9⟩⟩, hS.F ht⟩) hS.2.2 dX6_mend_33
    · skip
      have c16 := b2_0 c16
      refine lv_bipush (v := (-2)) hx hb dX6_mend_19 (by decide) ?_
      have hP9 := hP
      have hD9 := hD
      exact W.iret (v := (-2)) hx hb hr (fun t ht hW => ⟨⟨(-2), (ir, ob, ov), rfl, ⟨by rw [oMend, if_neg (by rw [c5]; decide), if_pos c16], hir⟩, ⟨⟨by rw [ht]; exact hP9, va_K.moved hW.alike hK, NW.warm hW hN⟩, hD9⟩⟩, hS.F ht⟩) hS.2.2 dX6_mend_21
  · skip
    have c5 := b2_0 c5
    refine lv_iconst (v := (-1)) hx hb dX6_mend_8 (by decide) ?_
    have hP9 := hP
    have hD9 := hD
    exact W.iret (v := (-1)) hx hb hr (fun t ht hW => ⟨⟨(-1), (ir, ob, ov), rfl, ⟨by rw [oMend, if_pos c5], hir⟩, ⟨⟨by rw [ht]; exact hP9, va_K.moved hW.alike hK, NW.warm hW hN⟩, hD9⟩⟩, hS.F ht⟩) hS.2.2 dX6_mend_9

set_option maxHeartbeats 4000000 in
set_option maxRecDepth 100000 in
theorem c_X6_goal (l : Launch) (D : va_G) (cI cZ : ClassId) (sz : Nat) (ym : Nat) (ymB : Nat) (ymU : Nat) (ymV : Nat) (ymR : Nat) (ymI : Nat) (ymE : Nat) (ymS : Nat) (ymT : Nat) (ymD : Nat) (ymQ : Nat) (ymP : Nat) (ymN : Nat) (ymO : Nat) (ymY : Nat) (ymZ : Nat) (ymX : Nat) (σ : ST) (x : Int32) (hok : Ok σ) : Met l yX6_goal wsX6_goal ({ frames := 1, cells := 0, slots := 0, locals := 22 }) (va_Pc [.ref ym, .int x] (XW D cI cZ [(ym, .inr (6, [.int (nI (sF σ)), .ref ymB, .int (nI (sN σ)), .ref ymU, .ref ymV, .ref ymR, .ref ymI, .ref ymE, .int (nI (sM σ)), .ref ymS, .ref ymT, .ref ymD, .int (nI (sC σ)), .ref ymQ, .ref ymP, .ref ymN, .int (nI (sG σ)), .ref ymO, .ref ymY, .ref ymZ, .ref ymX]))] sz)) (va_Qi (fun (r : Int32) (u : Unit) => r = oGoal σ x) (fun u => XB D cI cZ (va_A [(ym, .inr (6, [.int (nI (sF σ)), .ref ymB, .int (nI (sN σ)), .ref ymU, .ref ymV, .ref ymR, .ref ymI, .ref ymE, .int (nI (sM σ)), .ref ymS, .ref ymT, .ref ymD, .int (nI (sC σ)), .ref ymQ, .ref ymP, .ref ymN, .int (nI (sG σ)), .ref ymO, .ref ymY, .ref ymZ, .ref ymX]))] sz) [(ym, .inr (6, [.int (nI (sF (nGoal σ x))), .ref ymB, .int (nI (sN (nGoal σ x))), .ref ymU, .ref ymV, .ref ymR, .ref ymI, .ref ymE, .int (nI (sM (nGoal σ x))), .ref ymS, .ref ymT, .ref ymD, .int (nI (sC (nGoal σ x))), .ref ymQ, .ref ymP, .ref ymN, .int (nI (sG (nGoal σ x))), .ref ymO, .ref ymY, .ref ymZ, .ref ymX]))]) (va_A [(ym, .inr (6, [.int (nI (sF σ)), .ref ymB, .int (nI (sN σ)), .ref ymU, .ref ymV, .ref ymR, .ref ymI, .ref ymE, .int (nI (sM σ)), .ref ymS, .ref ymT, .ref ymD, .int (nI (sC σ)), .ref ymQ, .ref ymP, .ref ymN, .int (nI (sG σ)), .ref ymO, .ref ymY, .ref ymZ, .ref ymX]))] sz)) 0 0 (va_A [(ym, .inr (6, [.int (nI (sF σ)), .ref ymB, .int (nI (sN σ)), .ref ymU, .ref ymV, .ref ymR, .ref ymI, .ref ymE, .int (nI (sM σ)), .ref ymS, .ref ymT, .ref ymD, .int (nI (sC σ)), .ref ymQ, .ref ymP, .ref ymN, .int (nI (sG σ)), .ref ymO, .ref ymY, .ref ymZ, .ref ymX]))] sz) := by
  refine Met.ofW (cc := cX6_goal) (maxL := 3) (ret := (some .int)) (by decide) rfl ?_
  intro p e s m args below meth c s₁ B hml hv
  obtain ⟨rfl, hsz, ⟨hP, hK, hN⟩, hD0⟩ := hv
  have hx := B.exec
  have hb := B.bytes
  have hr := B.returns
  have hts := atoms_spec (ws := wsX6_goal) B.pre
  have hown : s.vm.findClass RX6 = some m.cls := findClass_of_methodNamed B.named
  have hlocks := B.notSynchronized
  subst hsz
  have hD := hD0.self (sz := s.heap.size)
  generalize hAe : va_A [(ym, .inr (6, [.int (nI (sF σ)), .ref ymB, .int (nI (sN σ)), .ref ymU, .ref ymV, .ref ymR, .ref ymI, .ref ymE, .int (nI (sM σ)), .ref ymS, .ref ymT, .ref ymD, .int (nI (sC σ)), .ref ymQ, .ref ymP, .ref ymN, .int (nI (sG σ)), .ref ymO, .ref ymY, .ref ymZ, .ref ymX]))] s.heap.size = A at hD ⊢
  have hA : ∀ q : Nat, s.heap.size ≤ q → A q := fun q h => by rw [← hAe]; exact Or.inr h
  have hS : va_S A s.heap s.heap [] := va_S.rf
  have ho := hok.1
  have hk2 := hok.k
  have hp2 : 1 ≤ 2 ^ sF σ := Nat.two_pow_pos _
  have hf51 := hts (.fieldLink RX6 51 "BallCourtModel" "goal" "I") (List.mem_of_getElem? (i := 1) (by decide +kernel))
  have hiX6 : ∀ w ∈ wsX60, w ∈ wsX6_goal := fun w h => List.mem_cons_of_mem _ (List.mem_append_right _ h)
  have hl := lv_entry ([.ref ym, .int x]) (n := 3) (Nat.le_of_ble_eq_true rfl)
  rw [lg_entry_eq]
  generalize (lg_sl ([.ref ym, .int x]) ++ List.replicate (3 - (lg_sl ([.ref ym, .int x])).length) Slot.unset).toArray = ls at hl ⊢
  have hl : lv_has ls 3 [(0, .ref ym), (1, .int x)] := hl
  refine lv_iload_n hx hb dX6_goal_0 rfl (lv_at hl 1 rfl) ?_
  refine lv_iconst (v := 1) hx hb dX6_goal_1 (by decide) ?_
  refine lv_bipush (v := 20) hx hb dX6_goal_2 (by decide) ?_
  refine xpS (rest := []) ⟨hx, hb, hml, hown, hts⟩ (c_X6_in l D cI cZ x 1 20) (va_cwS 3 hts gX6_goal_X6_in rfl rfl rfl (by decide +kernel) ⟨Nat.le_of_ble_eq_true rfl, Nat.le_of_ble_eq_true rfl⟩) hP [] rfl hK hN rfl hl.1 rfl (Nat.le_of_ble_eq_true rfl) dX6_goal_4 ⟨Nat.zero_le _, Nat.zero_le _⟩ (fun r4 e4 => ?_)
  subst e4
  refine lv_if_ne (tgt := 13) hx hb dX6_goal_7 (by decide) (fun c7 => ?_) (fun c7 => ?_)
  · skip
    have c7 := b2_1 c7
    obtain ⟨q, hq, rfl⟩ := rng1 (a := 1) (b := 20) (by omega) c7
    have kq : (nI q).toNatClampNeg = q := nI_clamp (by omega)
    refine lv_aload_n hx hb dX6_goal_13 rfl (lv_at hl 0 rfl) ?_
    refine va_get (D := D) (ci := 6) (v := .int (nI (sG σ))) (C := RX6) (T := TX6) (N := 21) hx hb hts hiX6 hown hK hP 0 rfl rfl 16 (by decide) hf51 (fun _ h9 => h9) rfl dX6_goal_14 ?_
    refine lv_istore_n (lv' := [(2, .int (nI (sG σ))), (0, .ref ym), (1, .int (nI q))]) hx hb dX6_goal_17 rfl hl (by decide) rfl (fun ls hl => ?_)
    refine lv_aload_n hx hb dX6_goal_18 rfl (lv_at hl 1 rfl) ?_
    refine lv_iload_n hx hb dX6_goal_19 rfl (lv_at hl 2 rfl) ?_
    refine va_put (D := D) (ci := 6) (v := .int (nI q)) (ty := .int) (C := RX6) (T := TX6) (N := 21) hx hb hts hiX6 tyX6 tyX6_ok nmX6 hown hK hP hD hS 0 rfl rfl 16 (by decide) hf51 (fun _ h9 => h9) rfl (by decide +kernel) rfl rfl (Nat.le_of_ble_eq_true rfl) dX6_goal_20 (fun H locs hP hD hS => ?_)
    have hP : va_P D vwCl [(ym, .inr (6, [.int (nI (sF σ)), .ref ymB, .int (nI (sN σ)), .ref ymU, .ref ymV, .ref ymR, .ref ymI, .ref ymE, .int (nI (sM σ)), .ref ymS, .ref ymT, .ref ymD, .int (nI (sC σ)), .ref ymQ, .ref ymP, .ref ymN, .int (nI q), .ref ymO, .ref ymY, .ref ymZ, .ref ymX]))] H := hP
    have hD : va_D A [(ym, .inr (6, [.int (nI (sF σ)), .ref ymB, .int (nI (sN σ)), .ref ymU, .ref ymV, .ref ymR, .ref ymI, .ref ymE, .int (nI (sM σ)), .ref ymS, .ref ymT, .ref ymD, .int (nI (sC σ)), .ref ymQ, .ref ymP, .ref ymN, .int (nI q), .ref ymO, .ref ymY, .ref ymZ, .ref ymX]))] := hD
    refine lv_iload_n hx hb dX6_goal_23 rfl (lv_at hl 0 rfl) ?_
    have hP9 := hP
    have hD9 := hD
    have eN : nGoal σ (nI q) = goS σ q := by rw [nGoal, if_neg (by rw [c7]; decide), kq]
    exact W.iret (v := nI (sG σ)) hx hb hr (fun t ht hW => ⟨⟨nI (sG σ), (), rfl, (by rw [oGoal, if_neg (by rw [c7]; decide)]), ⟨⟨by rw [ht, eN]; exact hP9, va_K.moved hW.alike hK, NW.warm hW hN⟩, by rw [eN]; exact hD9⟩⟩, hS.F ht⟩) hS.2.2 dX6_goal_24
  · skip
    have c7 := b2_0 c7
    refine lv_bipush (v := (-2)) hx hb dX6_goal_10 (by decide) ?_
    have hP9 := hP
    have hD9 := hD
    have eN : nGoal σ x = σ := by rw [nGoal, if_pos c7]
    exact W.iret (v := (-2)) hx hb hr (fun t ht hW => ⟨⟨(-2), (), rfl, (by rw [oGoal, if_pos c7]), ⟨⟨by rw [ht, eN]; exact hP9, va_K.moved hW.alike hK, NW.warm hW hN⟩, by rw [eN]; exact hD9⟩⟩, hS.F ht⟩) hS.2.2 dX6_goal_12

set_option maxHeartbeats 4000000 in
set_option maxRecDepth 100000 in
theorem c_X6_begin (l : Launch) (D : va_G) (cI cZ : ClassId) (sz : Nat) (ym : Nat) (ymB : Nat) (ymU : Nat) (ymV : Nat) (ymR : Nat) (ymI : Nat) (ymE : Nat) (ymS : Nat) (ymT : Nat) (ymD : Nat) (ymQ : Nat) (ymP : Nat) (ymN : Nat) (ymO : Nat) (ymY : Nat) (ymZ : Nat) (ymX : Nat) (σ : ST) (oz : Nat → Int32) (hok : Ok σ) : Met l yX6_begin wsX6_begin ({ frames := 0, cells := 0, slots := 0, locals := 0 }) (va_Pc [.ref ym] (XW D cI cZ [(ym, .inr (6, [.int (nI (sF σ)), .ref ymB, .int (nI (sN σ)), .ref ymU, .ref ymV, .ref ymR, .ref ymI, .ref ymE, .int (nI (sM σ)), .ref ymS, .ref ymT, .ref ymD, .int (nI (sC σ)), .ref ymQ, .ref ymP, .ref ymN, .int (nI (sG σ)), .ref ymO, .ref ymY, .ref ymZ, .ref ymX])), (ymZ, .inl (cI, 4, .inl oz))] sz)) (va_Qv (fun u : Nat → Int32 => stR (sG σ) (0, 0, 0) u) (fun u => XB D cI cZ (va_A [(ym, .inr (6, [.int (nI (sF σ)), .ref ymB, .int (nI (sN σ)), .ref ymU, .ref ymV, .ref ymR, .ref ymI, .ref ymE, .int (nI (sM σ)), .ref ymS, .ref ymT, .ref ymD, .int (nI (sC σ)), .ref ymQ, .ref ymP, .ref ymN, .int (nI (sG σ)), .ref ymO, .ref ymY, .ref ymZ, .ref ymX])), (ymZ, .inl (cI, 4, .inl oz))] sz) [(ym, .inr (6, [.int (nI (sF σ)), .ref ymB, .int (nI (sN σ)), .ref ymU, .ref ymV, .ref ymR, .ref ymI, .ref ymE, .int (nI (sM σ)), .ref ymS, .ref ymT, .ref ymD, .int (nI (sC σ)), .ref ymQ, .ref ymP, .ref ymN, .int (nI (sG σ)), .ref ymO, .ref ymY, .ref ymZ, .ref ymX])), (ymZ, .inl (cI, 4, .inl u))]) (va_A [(ym, .inr (6, [.int (nI (sF σ)), .ref ymB, .int (nI (sN σ)), .ref ymU, .ref ymV, .ref ymR, .ref ymI, .ref ymE, .int (nI (sM σ)), .ref ymS, .ref ymT, .ref ymD, .int (nI (sC σ)), .ref ymQ, .ref ymP, .ref ymN, .int (nI (sG σ)), .ref ymO, .ref ymY, .ref ymZ, .ref ymX])), (ymZ, .inl (cI, 4, .inl oz))] sz)) 0 0 (va_A [(ym, .inr (6, [.int (nI (sF σ)), .ref ymB, .int (nI (sN σ)), .ref ymU, .ref ymV, .ref ymR, .ref ymI, .ref ymE, .int (nI (sM σ)), .ref ymS, .ref ymT, .ref ymD, .int (nI (sC σ)), .ref ymQ, .ref ymP, .ref ymN, .int (nI (sG σ)), .ref ymO, .ref ymY, .ref ymZ, .ref ymX])), (ymZ, .inl (cI, 4, .inl oz))] sz) := by
  refine Met.ofW (cc := cX6_begin) (maxL := 1) (ret := none) (by decide) rfl ?_
  intro p e s m args below meth c s₁ B hml hv
  obtain ⟨rfl, hsz, ⟨hP, hK, hN⟩, hD0⟩ := hv
  have hx := B.exec
  have hb := B.bytes
  have hr := B.returns
  have hts := atoms_spec (ws := wsX6_begin) B.pre
  have hown : s.vm.findClass RX6 = some m.cls := findClass_of_methodNamed B.named
  have hlocks := B.notSynchronized
  subst hsz
  have hD := hD0.self (sz := s.heap.size)
  generalize hAe : va_A [(ym, .inr (6, [.int (nI (sF σ)), .ref ymB, .int (nI (sN σ)), .ref ymU, .ref ymV, .ref ymR, .ref ymI, .ref ymE, .int (nI (sM σ)), .ref ymS, .ref ymT, .ref ymD, .int (nI (sC σ)), .ref ymQ, .ref ymP, .ref ymN, .int (nI (sG σ)), .ref ymO, .ref ymY, .ref ymZ, .ref ymX])), (ymZ, .inl (cI, 4, .inl oz))] s.heap.size = A at hD ⊢
  have hA : ∀ q : Nat, s.heap.size ≤ q → A q := fun q h => by rw [← hAe]; exact Or.inr h
  have hS : va_S A s.heap s.heap [] := va_S.rf
  have ho := hok.1
  have hk2 := hok.k
  have hp2 : 1 ≤ 2 ^ sF σ := Nat.two_pow_pos _
  have hf60 := hts (.fieldLink RX6 60 "BallCourtModel" "state" "[I") (List.mem_of_getElem? (i := 1) (by decide +kernel))
  have hiX6 : ∀ w ∈ wsX60, w ∈ wsX6_begin := fun w h => List.mem_cons_of_mem _ (List.mem_append_right _ h)
  have hl := lv_entry ([.ref ym]) (n := 1) (Nat.le_of_ble_eq_true rfl)
  rw [lg_entry_eq]
  generalize (lg_sl ([.ref ym]) ++ List.replicate (1 - (lg_sl ([.ref ym])).length) Slot.unset).toArray = ls at hl ⊢
  have hl : lv_has ls 1 [(0, .ref ym)] := hl
  refine lv_aload_n hx hb dX6_begin_0 rfl (lv_at hl 0 rfl) ?_
  refine va_get (D := D) (ci := 6) (v := .ref ymZ) (C := RX6) (T := TX6) (N := 21) hx hb hts hiX6 hown hK hP 0 rfl rfl 19 (by decide) hf60 (fun _ h9 => h9) rfl dX6_begin_1 ?_
  refine lv_iconst (v := nI 0) hx hb dX6_begin_4 (by decide) ?_
  refine lv_iconst (v := 0) hx hb dX6_begin_5 (by decide) ?_
  refine xast (k := 0) hx hb hK hP hD hS 1 rfl (by omega) (by decide) dX6_begin_6 (fun H locs hP hD hS => ?_)
  have hP : va_P D vwCl [(ym, .inr (6, [.int (nI (sF σ)), .ref ymB, .int (nI (sN σ)), .ref ymU, .ref ymV, .ref ymR, .ref ymI, .ref ymE, .int (nI (sM σ)), .ref ymS, .ref ymT, .ref ymD, .int (nI (sC σ)), .ref ymQ, .ref ymP, .ref ymN, .int (nI (sG σ)), .ref ymO, .ref ymY, .ref ymZ, .ref ymX])), (ymZ, .inl (cI, 4, .inl (upd oz 0 0)))] H := hP
  have hD : va_D A [(ym, .inr (6, [.int (nI (sF σ)), .ref ymB, .int (nI (sN σ)), .ref ymU, .ref ymV, .ref ymR, .ref ymI, .ref ymE, .int (nI (sM σ)), .ref ymS, .ref ymT, .ref ymD, .int (nI (sC σ)), .ref ymQ, .ref ymP, .ref ymN, .int (nI (sG σ)), .ref ymO, .ref ymY, .ref ymZ, .ref ymX])), (ymZ, .inl (cI, 4, .inl (upd oz 0 0)))] := hD
  refine lv_aload_n hx hb dX6_begin_7 rfl (lv_at hl 0 rfl) ?_
  refine va_get (D := D) (ci := 6) (v := .ref ymZ) (C := RX6) (T := TX6) (N := 21) hx hb hts hiX6 hown hK hP 0 rfl rfl 19 (by decide) hf60 (fun _ h9 => h9) rfl dX6_begin_8 ?_
  refine lv_iconst (v := nI 1) hx hb dX6_begin_11 (by decide) ?_
  refine lv_iconst (v := 0) hx hb dX6_begin_12 (by decide) ?_
  refine xast (k := 1) hx hb hK hP hD hS 1 rfl (by omega) (by decide) dX6_begin_13 (fun H locs hP hD hS => ?_)
  have hP : va_P D vwCl [(ym, .inr (6, [.int (nI (sF σ)), .ref ymB, .int (nI (sN σ)), .ref ymU, .ref ymV, .ref ymR, .ref ymI, .ref ymE, .int (nI (sM σ)), .ref ymS, .ref ymT, .ref ymD, .int (nI (sC σ)), .ref ymQ, .ref ymP, .ref ymN, .int (nI (sG σ)), .ref ymO, .ref ymY, .ref ymZ, .ref ymX])), (ymZ, .inl (cI, 4, .inl (upd (upd oz 0 0) 1 0)))] H := hP
  have hD : va_D A [(ym, .inr (6, [.int (nI (sF σ)), .ref ymB, .int (nI (sN σ)), .ref ymU, .ref ymV, .ref ymR, .ref ymI, .ref ymE, .int (nI (sM σ)), .ref ymS, .ref ymT, .ref ymD, .int (nI (sC σ)), .ref ymQ, .ref ymP, .ref ymN, .int (nI (sG σ)), .ref ymO, .ref ymY, .ref ymZ, .ref ymX])), (ymZ, .inl (cI, 4, .inl (upd (upd oz 0 0) 1 0)))] := hD
  refine lv_aload_n hx hb dX6_begin_14 rfl (lv_at hl 0 rfl) ?_
  refine va_get (D := D) (ci := 6) (v := .ref ymZ) (C := RX6) (T := TX6) (N := 21) hx hb hts hiX6 hown hK hP 0 rfl rfl 19 (by decide) hf60 (fun _ h9 => h9) rfl dX6_begin_15 ?_
  refine lv_iconst (v := nI 2) hx hb dX6_begin_18 (by decide) ?_
  refine lv_iconst (v := 0) hx hb dX6_begin_19 (by decide) ?_
  refine xast (k := 2) hx hb hK hP hD hS 1 rfl (by omega) (by decide) dX6_begin_20 (fun H locs hP hD hS => ?_)
  have hP : va_P D vwCl [(ym, .inr (6, [.int (nI (sF σ)), .ref ymB, .int (nI (sN σ)), .ref ymU, .ref ymV, .ref ymR, .ref ymI, .ref ymE, .int (nI (sM σ)), .ref ymS, .ref ymT, .ref ymD, .int (nI (sC σ)), .ref ymQ, .ref ymP, .ref ymN, .int (nI (sG σ)), .ref ymO, .ref ymY, .ref ymZ, .ref ymX])), (ymZ, .inl (cI, 4, .inl (upd (upd (upd oz 0 0) 1 0) 2 0)))] H := hP
  have hD : va_D A [(ym, .inr (6, [.int (nI (sF σ)), .ref ymB, .int (nI (sN σ)), .ref ymU, .ref ymV, .ref ymR, .ref ymI, .ref ymE, .int (nI (sM σ)), .ref ymS, .ref ymT, .ref ymD, .int (nI (sC σ)), .ref ymQ, .ref ymP, .ref ymN, .int (nI (sG σ)), .ref ymO, .ref ymY, .ref ymZ, .ref ymX])), (ymZ, .inl (cI, 4, .inl (upd (upd (upd oz 0 0) 1 0) 2 0)))] := hD
  refine lv_aload_n hx hb dX6_begin_21 rfl (lv_at hl 0 rfl) ?_
  refine va_get (D := D) (ci := 6) (v := .ref ymZ) (C := RX6) (T := TX6) (N := 21) hx hb hts hiX6 hown hK hP 0 rfl rfl 19 (by decide) hf60 (fun _ h9 => h9) rfl dX6_begin_22 ?_
  refine lv_iconst (v := nI 3) hx hb dX6_begin_25 (by decide) ?_
  refine lv_bipush (v := (-6)) hx hb dX6_begin_26 (by decide) ?_
  refine xast (k := 3) hx hb hK hP hD hS 1 rfl (by omega) (by decide) dX6_begin_28 (fun H locs hP hD hS => ?_)
  have hP : va_P D vwCl [(ym, .inr (6, [.int (nI (sF σ)), .ref ymB, .int (nI (sN σ)), .ref ymU, .ref ymV, .ref ymR, .ref ymI, .ref ymE, .int (nI (sM σ)), .ref ymS, .ref ymT, .ref ymD, .int (nI (sC σ)), .ref ymQ, .ref ymP, .ref ymN, .int (nI (sG σ)), .ref ymO, .ref ymY, .ref ymZ, .ref ymX])), (ymZ, .inl (cI, 4, .inl (upd (upd (upd (upd oz 0 0) 1 0) 2 0) 3 (-6))))] H := hP
  have hD : va_D A [(ym, .inr (6, [.int (nI (sF σ)), .ref ymB, .int (nI (sN σ)), .ref ymU, .ref ymV, .ref ymR, .ref ymI, .ref ymE, .int (nI (sM σ)), .ref ymS, .ref ymT, .ref ymD, .int (nI (sC σ)), .ref ymQ, .ref ymP, .ref ymN, .int (nI (sG σ)), .ref ymO, .ref ymY, .ref ymZ, .ref ymX])), (ymZ, .inl (cI, 4, .inl (upd (upd (upd (upd oz 0 0) 1 0) 2 0) 3 (-6))))] := hD
  have hP9 := hP
  have hD9 := hD
  exact W.vret hx hb hr (fun t ht hW => ⟨⟨upd (upd (upd (upd oz 0 0) 1 0) 2 0) 3 (-6), rfl, st_0 (by omega) oz, ⟨⟨by rw [ht]; exact hP9, va_K.moved hW.alike hK, NW.warm hW hN⟩, hD9⟩⟩, hS.F ht⟩) hS.2.2 dX6_begin_29

set_option maxHeartbeats 4000000 in
set_option maxRecDepth 100000 in
theorem c_X6_play (l : Launch) (D : va_G) (cI cZ : ClassId) (sz : Nat) (ym : Nat) (ymB : Nat) (ymU : Nat) (ymV : Nat) (ymR : Nat) (ymI : Nat) (ymE : Nat) (ymS : Nat) (ymT : Nat) (ymD : Nat) (ymQ : Nat) (ymP : Nat) (ymN : Nat) (ymO : Nat) (ymY : Nat) (ymZ : Nat) (ymX : Nat) (σ : ST) (oz : Nat → Int32) (pa : Nat) (pb : Nat) (ps : Nat) (r0 : Int32) (hok : Ok σ) (hz : stR (sG σ) (pa, pb, ps) oz) (hs : pa ≤ 31 ∧ pb ≤ 31 ∧ ps < 2) : Met l yX6_play wsX6_play ({ frames := 0, cells := 0, slots := 0, locals := 0 }) (va_Pc [.ref ym, .int r0] (XW D cI cZ [(ym, .inr (6, [.int (nI (sF σ)), .ref ymB, .int (nI (sN σ)), .ref ymU, .ref ymV, .ref ymR, .ref ymI, .ref ymE, .int (nI (sM σ)), .ref ymS, .ref ymT, .ref ymD, .int (nI (sC σ)), .ref ymQ, .ref ymP, .ref ymN, .int (nI (sG σ)), .ref ymO, .ref ymY, .ref ymZ, .ref ymX])), (ymZ, .inl (cI, 4, .inl oz))] sz)) (va_Qv (fun u : Nat → Int32 => stR (sG σ) (gst (sG σ) (pa, pb, ps) r0) u) (fun u => XB D cI cZ (va_A [(ym, .inr (6, [.int (nI (sF σ)), .ref ymB, .int (nI (sN σ)), .ref ymU, .ref ymV, .ref ymR, .ref ymI, .ref ymE, .int (nI (sM σ)), .ref ymS, .ref ymT, .ref ymD, .int (nI (sC σ)), .ref ymQ, .ref ymP, .ref ymN, .int (nI (sG σ)), .ref ymO, .ref ymY, .ref ymZ, .ref ymX])), (ymZ, .inl (cI, 4, .inl oz))] sz) [(ym, .inr (6, [.int (nI (sF σ)), .ref ymB, .int (nI (sN σ)), .ref ymU, .ref ymV, .ref ymR, .ref ymI, .ref ymE, .int (nI (sM σ)), .ref ymS, .ref ymT, .ref ymD, .int (nI (sC σ)), .ref ymQ, .ref ymP, .ref ymN, .int (nI (sG σ)), .ref ymO, .ref ymY, .ref ymZ, .ref ymX])), (ymZ, .inl (cI, 4, .inl u))]) (va_A [(ym, .inr (6, [.int (nI (sF σ)), .ref ymB, .int (nI (sN σ)), .ref ymU, .ref ymV, .ref ymR, .ref ymI, .ref ymE, .int (nI (sM σ)), .ref ymS, .ref ymT, .ref ymD, .int (nI (sC σ)), .ref ymQ, .ref ymP, .ref ymN, .int (nI (sG σ)), .ref ymO, .ref ymY, .ref ymZ, .ref ymX])), (ymZ, .inl (cI, 4, .inl oz))] sz)) 0 0 (va_A [(ym, .inr (6, [.int (nI (sF σ)), .ref ymB, .int (nI (sN σ)), .ref ymU, .ref ymV, .ref ymR, .ref ymI, .ref ymE, .int (nI (sM σ)), .ref ymS, .ref ymT, .ref ymD, .int (nI (sC σ)), .ref ymQ, .ref ymP, .ref ymN, .int (nI (sG σ)), .ref ymO, .ref ymY, .ref ymZ, .ref ymX])), (ymZ, .inl (cI, 4, .inl oz))] sz) := by
  refine Met.ofW (cc := cX6_play) (maxL := 3) (ret := none) (by decide) rfl ?_
  intro p e s m args below meth c s₁ B hml hv
  obtain ⟨rfl, hsz, ⟨hP, hK, hN⟩, hD0⟩ := hv
  have hx := B.exec
  have hb := B.bytes
  have hr := B.returns
  have hts := atoms_spec (ws := wsX6_play) B.pre
  have hown : s.vm.findClass RX6 = some m.cls := findClass_of_methodNamed B.named
  have hlocks := B.notSynchronized
  subst hsz
  have hD := hD0.self (sz := s.heap.size)
  generalize hAe : va_A [(ym, .inr (6, [.int (nI (sF σ)), .ref ymB, .int (nI (sN σ)), .ref ymU, .ref ymV, .ref ymR, .ref ymI, .ref ymE, .int (nI (sM σ)), .ref ymS, .ref ymT, .ref ymD, .int (nI (sC σ)), .ref ymQ, .ref ymP, .ref ymN, .int (nI (sG σ)), .ref ymO, .ref ymY, .ref ymZ, .ref ymX])), (ymZ, .inl (cI, 4, .inl oz))] s.heap.size = A at hD ⊢
  have hA : ∀ q : Nat, s.heap.size ≤ q → A q := fun q h => by rw [← hAe]; exact Or.inr h
  have hS : va_S A s.heap s.heap [] := va_S.rf
  have ho := hok.1
  have hk2 := hok.k
  have hp2 : 1 ≤ 2 ^ sF σ := Nat.two_pow_pos _
  have hf60 := hts (.fieldLink RX6 60 "BallCourtModel" "state" "[I") (List.mem_of_getElem? (i := 1) (by decide +kernel))
  have hiX6 : ∀ w ∈ wsX60, w ∈ wsX6_play := fun w h => List.mem_cons_of_mem _ (List.mem_append_right _ h)
  have hf51 := hts (.fieldLink RX6 51 "BallCourtModel" "goal" "I") (List.mem_of_getElem? (i := 2) (by decide +kernel))
  have hl := lv_entry ([.ref ym, .int r0]) (n := 3) (Nat.le_of_ble_eq_true rfl)
  rw [lg_entry_eq]
  generalize (lg_sl ([.ref ym, .int r0]) ++ List.replicate (3 - (lg_sl ([.ref ym, .int r0])).length) Slot.unset).toArray = ls at hl ⊢
  have hl : lv_has ls 3 [(0, .ref ym), (1, .int r0)] := hl
  refine lv_aload_n hx hb dX6_play_0 rfl (lv_at hl 0 rfl) ?_
  refine va_get (D := D) (ci := 6) (v := .ref ymZ) (C := RX6) (T := TX6) (N := 21) hx hb hts hiX6 hown hK hP 0 rfl rfl 19 (by decide) hf60 (fun _ h9 => h9) rfl dX6_play_1 ?_
  refine lv_iconst (v := nI 3) hx hb dX6_play_4 (by decide) ?_
  refine xald (k := 3) hx hb hK hP 1 rfl (by omega) (by decide) dX6_play_5 ?_
  refine lv_asi (show oz 3 = gwin (sG σ) pa pb from hz.2.2.2) ?_
  refine lv_if_lt (tgt := 10) hx hb dX6_play_6 (by decide) (fun c6 => ?_) (fun c6 => ?_)
  · skip
    have c6 := gwin_n.mp c6
    refine lv_aload_n hx hb dX6_play_10 rfl (lv_at hl 0 rfl) ?_
    refine va_get (D := D) (ci := 6) (v := .ref ymZ) (C := RX6) (T := TX6) (N := 21) hx hb hts hiX6 hown hK hP 0 rfl rfl 19 (by decide) hf60 (fun _ h9 => h9) rfl dX6_play_11 ?_
    refine lv_iconst (v := nI 2) hx hb dX6_play_14 (by decide) ?_
    refine xald (k := 2) hx hb hK hP 1 rfl (by omega) (by decide) dX6_play_15 ?_
    refine lv_asi (show oz 2 = nI ps from hz.2.2.1) ?_
    refine lv_istore_n (lv' := [(2, .int (nI ps)), (0, .ref ym), (1, .int r0)]) hx hb dX6_play_16 rfl hl (by decide) rfl (fun ls hl => ?_)
    refine lv_aload_n hx hb dX6_play_17 rfl (lv_at hl 1 rfl) ?_
    refine va_get (D := D) (ci := 6) (v := .ref ymZ) (C := RX6) (T := TX6) (N := 21) hx hb hts hiX6 hown hK hP 0 rfl rfl 19 (by decide) hf60 (fun _ h9 => h9) rfl dX6_play_18 ?_
    refine lv_iload_n hx hb dX6_play_21 rfl (lv_at hl 0 rfl) ?_
    refine lv_dup2_11 hx hb dX6_play_22 rfl rfl ?_
    refine xald (k := ps) hx hb hK hP 1 rfl (by omega) (by decide) dX6_play_23 ?_
    refine wjoin (pcJ := 34) (lv := [(2, .int (nI ps)), (0, .ref ym), (1, .int r0)]) (nL := 3) (st := [.int (if r0 = 1 then 1 else 0), .int (oz ps), .int (nI ps), .ref ymZ]) (fun ls hl => ?_) (fun J34 => ?_)
    · skip
      refine lv_iadd hx hb dX6_play_34 ?_
      refine xast (k := ps) hx hb hK hP hD hS 1 rfl (by omega) (by decide) dX6_play_35 (fun H locs hP hD hS => ?_)
      have hP : va_P D vwCl [(ym, .inr (6, [.int (nI (sF σ)), .ref ymB, .int (nI (sN σ)), .ref ymU, .ref ymV, .ref ymR, .ref ymI, .ref ymE, .int (nI (sM σ)), .ref ymS, .ref ymT, .ref ymD, .int (nI (sC σ)), .ref ymQ, .ref ymP, .ref ymN, .int (nI (sG σ)), .ref ymO, .ref ymY, .ref ymZ, .ref ymX])), (ymZ, .inl (cI, 4, .inl (upd oz ps ((oz ps) + (if r0 = 1 then 1 else 0)))))] H := hP
      have hD : va_D A [(ym, .inr (6, [.int (nI (sF σ)), .ref ymB, .int (nI (sN σ)), .ref ymU, .ref ymV, .ref ymR, .ref ymI, .ref ymE, .int (nI (sM σ)), .ref ymS, .ref ymT, .ref ymD, .int (nI (sC σ)), .ref ymQ, .ref ymP, .ref ymN, .int (nI (sG σ)), .ref ymO, .ref ymY, .ref ymZ, .ref ymX])), (ymZ, .inl (cI, 4, .inl (upd oz ps ((oz ps) + (if r0 = 1 then 1 else 0)))))] := hD
      refine lv_aload_n hx hb dX6_play_36 rfl (lv_at hl 1 rfl) ?_
      refine va_get (D := D) (ci := 6) (v := .ref ymZ) (C := RX6) (T := TX6) (N := 21) hx hb hts hiX6 hown hK hP 0 rfl rfl 19 (by decide) hf60 (fun _ h9 => h9) rfl dX6_play_37 ?_
      refine lv_iconst (v := nI 1) hx hb dX6_play_40 (by decide) ?_
      refine lv_iload_n hx hb dX6_play_41 rfl (lv_at hl 0 rfl) ?_
      refine lv_isub hx hb dX6_play_42 ?_
      refine lv_asi (show (nI 1) - (nI ps) = nI (1 - ps) from pk_sub (by omega)) ?_
      refine lv_dup2_11 hx hb dX6_play_43 rfl rfl ?_
      refine xald (k := (1 - ps)) hx hb hK hP 1 rfl (by omega) (by decide) dX6_play_44 ?_
      refine wjoin (pcJ := 55) (lv := [(2, .int (nI ps)), (0, .ref ym), (1, .int r0)]) (nL := 3) (st := [.int (if r0 = 3 then 1 else 0), .int ((upd oz ps ((oz ps) + (if r0 = 1 then 1 else 0))) (1 - ps)), .int (nI (1 - ps)), .ref ymZ]) (fun ls hl => ?_) (fun J55 => ?_)
      · skip
        refine lv_iadd hx hb dX6_play_55 ?_
        refine xast (k := (1 - ps)) hx hb hK hP hD hS 1 rfl (by omega) (by decide) dX6_play_56 (fun H locs hP hD hS => ?_)
        have hP : va_P D vwCl [(ym, .inr (6, [.int (nI (sF σ)), .ref ymB, .int (nI (sN σ)), .ref ymU, .ref ymV, .ref ymR, .ref ymI, .ref ymE, .int (nI (sM σ)), .ref ymS, .ref ymT, .ref ymD, .int (nI (sC σ)), .ref ymQ, .ref ymP, .ref ymN, .int (nI (sG σ)), .ref ymO, .ref ymY, .ref ymZ, .ref ymX])), (ymZ, .inl (cI, 4, .inl (upd (upd oz ps ((oz ps) + (if r0 = 1 then 1 else 0))) (1 - ps) (((upd oz ps ((oz ps) + (if r0 = 1 then 1 else 0))) (1 - ps)) + (if r0 = 3 then 1 else 0)))))] H := hP
        have hD : va_D A [(ym, .inr (6, [.int (nI (sF σ)), .ref ymB, .int (nI (sN σ)), .ref ymU, .ref ymV, .ref ymR, .ref ymI, .ref ymE, .int (nI (sM σ)), .ref ymS, .ref ymT, .ref ymD, .int (nI (sC σ)), .ref ymQ, .ref ymP, .ref ymN, .int (nI (sG σ)), .ref ymO, .ref ymY, .ref ymZ, .ref ymX])), (ymZ, .inl (cI, 4, .inl (upd (upd oz ps ((oz ps) + (if r0 = 1 then 1 else 0))) (1 - ps) (((upd oz ps ((oz ps) + (if r0 = 1 then 1 else 0))) (1 - ps)) + (if r0 = 3 then 1 else 0)))))] := hD
        refine lv_aload_n hx hb dX6_play_57 rfl (lv_at hl 1 rfl) ?_
        refine va_get (D := D) (ci := 6) (v := .ref ymZ) (C := RX6) (T := TX6) (N := 21) hx hb hts hiX6 hown hK hP 0 rfl rfl 19 (by decide) hf60 (fun _ h9 => h9) rfl dX6_play_58 ?_
        refine lv_iconst (v := nI 2) hx hb dX6_play_61 (by decide) ?_
        refine wjoin (pcJ := 79) (lv := [(2, .int (nI ps)), (0, .ref ym), (1, .int r0)]) (nL := 3) (st := [.int (if r0 = 2 ∨ r0 = 3 then nI (1 - ps) else nI ps), .int (nI 2), .ref ymZ]) (fun ls hl => ?_) (fun J79 => ?_)
        · skip
          refine xast (k := 2) hx hb hK hP hD hS 1 rfl (by omega) (by decide) dX6_play_79 (fun H locs hP hD hS => ?_)
          have hP : va_P D vwCl [(ym, .inr (6, [.int (nI (sF σ)), .ref ymB, .int (nI (sN σ)), .ref ymU, .ref ymV, .ref ymR, .ref ymI, .ref ymE, .int (nI (sM σ)), .ref ymS, .ref ymT, .ref ymD, .int (nI (sC σ)), .ref ymQ, .ref ymP, .ref ymN, .int (nI (sG σ)), .ref ymO, .ref ymY, .ref ymZ, .ref ymX])), (ymZ, .inl (cI, 4, .inl (upd (upd (upd oz ps ((oz ps) + (if r0 = 1 then 1 else 0))) (1 - ps) (((upd oz ps ((oz ps) + (if r0 = 1 then 1 else 0))) (1 - ps)) + (if r0 = 3 then 1 else 0))) 2 (if r0 = 2 ∨ r0 = 3 then nI (1 - ps) else nI ps))))] H := hP
          have hD : va_D A [(ym, .inr (6, [.int (nI (sF σ)), .ref ymB, .int (nI (sN σ)), .ref ymU, .ref ymV, .ref ymR, .ref ymI, .ref ymE, .int (nI (sM σ)), .ref ymS, .ref ymT, .ref ymD, .int (nI (sC σ)), .ref ymQ, .ref ymP, .ref ymN, .int (nI (sG σ)), .ref ymO, .ref ymY, .ref ymZ, .ref ymX])), (ymZ, .inl (cI, 4, .inl (upd (upd (upd oz ps ((oz ps) + (if r0 = 1 then 1 else 0))) (1 - ps) (((upd oz ps ((oz ps) + (if r0 = 1 then 1 else 0))) (1 - ps)) + (if r0 = 3 then 1 else 0))) 2 (if r0 = 2 ∨ r0 = 3 then nI (1 - ps) else nI ps))))] := hD
          have e_rw : (upd (upd (upd oz ps ((oz ps) + (if r0 = 1 then 1 else 0))) (1 - ps) (((upd oz ps ((oz ps) + (if r0 = 1 then 1 else 0))) (1 - ps)) + (if r0 = 3 then 1 else 0))) 2 (if r0 = 2 ∨ r0 = 3 then nI (1 - ps) else nI ps) : Nat → Int32) = plE oz ps r0 := rfl
          have hP : va_P D vwCl [(ym, .inr (6, [.int (nI (sF σ)), .ref ymB, .int (nI (sN σ)), .ref ymU, .ref ymV, .ref ymR, .ref ymI, .ref ymE, .int (nI (sM σ)), .ref ymS, .ref ymT, .ref ymD, .int (nI (sC σ)), .ref ymQ, .ref ymP, .ref ymN, .int (nI (sG σ)), .ref ymO, .ref ymY, .ref ymZ, .ref ymX])), (ymZ, .inl (cI, 4, .inl (plE oz ps r0)))] H := by rw [← e_rw]; exact hP
          have hD : va_D A [(ym, .inr (6, [.int (nI (sF σ)), .ref ymB, .int (nI (sN σ)), .ref ymU, .ref ymV, .ref ymR, .ref ymI, .ref ymE, .int (nI (sM σ)), .ref ymS, .ref ymT, .ref ymD, .int (nI (sC σ)), .ref ymQ, .ref ymP, .ref ymN, .int (nI (sG σ)), .ref ymO, .ref ymY, .ref ymZ, .ref ymX])), (ymZ, .inl (cI, 4, .inl (plE oz ps r0)))] := by rw [← e_rw]; exact hD
          clear e_rw
          have hp := plE_eq (r := r0) hz hs.2.2 c6
          have hle := gst_le (tw := sG σ) (r := r0) (n := 31) (s := (pa, pb, ps)) hs
          refine lv_aload_n hx hb dX6_play_80 rfl (lv_at hl 1 rfl) ?_
          refine va_get (D := D) (ci := 6) (v := .ref ymZ) (C := RX6) (T := TX6) (N := 21) hx hb hts hiX6 hown hK hP 0 rfl rfl 19 (by decide) hf60 (fun _ h9 => h9) rfl dX6_play_81 ?_
          refine lv_iconst (v := nI 3) hx hb dX6_play_84 (by decide) ?_
          refine wjoin (pcJ := 121) (lv := [(2, .int (nI ps)), (0, .ref ym), (1, .int r0)]) (nL := 3) (st := [.int (gwin (sG σ) (gst (sG σ) (pa, pb, ps) r0).1 (gst (sG σ) (pa, pb, ps) r0).2.1), .int (nI 3), .ref ymZ]) (fun ls hl => ?_) (fun J121 => ?_)
          · skip
            refine xast (k := 3) hx hb hK hP hD hS 1 rfl (by omega) (by decide) dX6_play_121 (fun H locs hP hD hS => ?_)
            have hP : va_P D vwCl [(ym, .inr (6, [.int (nI (sF σ)), .ref ymB, .int (nI (sN σ)), .ref ymU, .ref ymV, .ref ymR, .ref ymI, .ref ymE, .int (nI (sM σ)), .ref ymS, .ref ymT, .ref ymD, .int (nI (sC σ)), .ref ymQ, .ref ymP, .ref ymN, .int (nI (sG σ)), .ref ymO, .ref ymY, .ref ymZ, .ref ymX])), (ymZ, .inl (cI, 4, .inl (upd (plE oz ps r0) 3 (gwin (sG σ) (gst (sG σ) (pa, pb, ps) r0).1 (gst (sG σ) (pa, pb, ps) r0).2.1))))] H := hP
            have hD : va_D A [(ym, .inr (6, [.int (nI (sF σ)), .ref ymB, .int (nI (sN σ)), .ref ymU, .ref ymV, .ref ymR, .ref ymI, .ref ymE, .int (nI (sM σ)), .ref ymS, .ref ymT, .ref ymD, .int (nI (sC σ)), .ref ymQ, .ref ymP, .ref ymN, .int (nI (sG σ)), .ref ymO, .ref ymY, .ref ymZ, .ref ymX])), (ymZ, .inl (cI, 4, .inl (upd (plE oz ps r0) 3 (gwin (sG σ) (gst (sG σ) (pa, pb, ps) r0).1 (gst (sG σ) (pa, pb, ps) r0).2.1))))] := hD
            have hP9 := hP
            have hD9 := hD
            exact W.vret hx hb hr (fun t ht hW => ⟨⟨upd (plE oz ps r0) 3 (gwin (sG σ) (gst (sG σ) (pa, pb, ps) r0).1 (gst (sG σ) (pa, pb, ps) r0).2.1), rfl, st_up hp, ⟨⟨by rw [ht]; exact hP9, va_K.moved hW.alike hK, NW.warm hW hN⟩, hD9⟩⟩, hS.F ht⟩) hS.2.2 dX6_play_122
          · skip
            refine lv_aload_n hx hb dX6_play_85 rfl (lv_at hl 1 rfl) ?_
            refine va_get (D := D) (ci := 6) (v := .ref ymZ) (C := RX6) (T := TX6) (N := 21) hx hb hts hiX6 hown hK hP 0 rfl rfl 19 (by decide) hf60 (fun _ h9 => h9) rfl dX6_play_86 ?_
            refine lv_iconst (v := nI 0) hx hb dX6_play_89 (by decide) ?_
            refine xald (k := 0) hx hb hK hP 1 rfl (by omega) (by decide) dX6_play_90 ?_
            refine lv_asi (show plE oz ps r0 0 = nI (gst (sG σ) (pa, pb, ps) r0).1 from hp.1) ?_
            refine lv_aload_n hx hb dX6_play_91 rfl (lv_at hl 1 rfl) ?_
            refine va_get (D := D) (ci := 6) (v := .int (nI (sG σ))) (C := RX6) (T := TX6) (N := 21) hx hb hts hiX6 hown hK hP 0 rfl rfl 16 (by decide) hf51 (fun _ h9 => h9) rfl dX6_play_92 ?_
            refine lv_icmp_lt (tgt := 102) hx hb dX6_play_95 (by decide) (fun c95 => ?_) (fun c95 => ?_)
            · skip
              have c95 := (nI_ltI (by omega) (by omega)).mp c95
              refine lv_aload_n hx hb dX6_play_102 rfl (lv_at hl 1 rfl) ?_
              refine va_get (D := D) (ci := 6) (v := .ref ymZ) (C := RX6) (T := TX6) (N := 21) hx hb hts hiX6 hown hK hP 0 rfl rfl 19 (by decide) hf60 (fun _ h9 => h9) rfl dX6_play_103 ?_
              refine lv_iconst (v := nI 1) hx hb dX6_play_106 (by decide) ?_
              refine xald (k := 1) hx hb hK hP 1 rfl (by omega) (by decide) dX6_play_107 ?_
              refine lv_asi (show plE oz ps r0 1 = nI (gst (sG σ) (pa, pb, ps) r0).2.1 from hp.2.1) ?_
              refine lv_aload_n hx hb dX6_play_108 rfl (lv_at hl 1 rfl) ?_
              refine va_get (D := D) (ci := 6) (v := .int (nI (sG σ))) (C := RX6) (T := TX6) (N := 21) hx hb hts hiX6 hown hK hP 0 rfl rfl 16 (by decide) hf51 (fun _ h9 => h9) rfl dX6_play_109 ?_
              refine lv_icmp_lt (tgt := 119) hx hb dX6_play_112 (by decide) (fun c112 => ?_) (fun c112 => ?_)
              · skip
                have c112 := (nI_ltI (by omega) (by omega)).mp c112
                refine lv_bipush (v := (-6)) hx hb dX6_play_119 (by decide) ?_
                refine lv_asi (show ((-6) : Int32) = gwin (sG σ) (gst (sG σ) (pa, pb, ps) r0).1 (gst (sG σ) (pa, pb, ps) r0).2.1 from by rw [gwin, if_neg (by omega), if_neg (by omega)]) ?_
                exact J121 ls (lv_sub hl [0, 1, 2] rfl)
              · skip
                have c112 := Nat.le_of_not_lt (fun z => c112 ((nI_ltI (by omega) (by omega)).mpr z))
                refine lv_iconst (v := 1) hx hb dX6_play_115 (by decide) ?_
                refine lv_goto (tgt := 121) hx hb dX6_play_116 (by decide) ?_
                refine lv_asi (show (1 : Int32) = gwin (sG σ) (gst (sG σ) (pa, pb, ps) r0).1 (gst (sG σ) (pa, pb, ps) r0).2.1 from by rw [gwin, if_neg (by omega), if_pos c112]) ?_
                exact J121 ls (lv_sub hl [0, 1, 2] rfl)
            · skip
              have c95 := Nat.le_of_not_lt (fun z => c95 ((nI_ltI (by omega) (by omega)).mpr z))
              refine lv_iconst (v := 0) hx hb dX6_play_98 (by decide) ?_
              refine lv_goto (tgt := 121) hx hb dX6_play_99 (by decide) ?_
              refine lv_asi (show (0 : Int32) = gwin (sG σ) (gst (sG σ) (pa, pb, ps) r0).1 (gst (sG σ) (pa, pb, ps) r0).2.1 from by rw [gwin, if_pos c95]) ?_
              exact J121 ls (lv_sub hl [0, 1, 2] rfl)
        · skip
          refine lv_iload_n hx hb dX6_play_62 rfl (lv_at hl 2 rfl) ?_
          refine lv_iconst (v := 2) hx hb dX6_play_63 (by decide) ?_
          refine lv_icmp_eq (tgt := 72) hx hb dX6_play_64 (by decide) (fun c64 => ?_) (fun c64 => ?_)
          · skip
            refine lv_iconst (v := nI 1) hx hb dX6_play_72 (by decide) ?_
            refine lv_iload_n hx hb dX6_play_73 rfl (lv_at hl 0 rfl) ?_
            refine lv_isub hx hb dX6_play_74 ?_
            refine lv_asi (show (nI 1) - (nI ps) = nI (1 - ps) from pk_sub (by omega)) ?_
            refine lv_goto (tgt := 79) hx hb dX6_play_75 (by decide) ?_
            refine lv_asi (show (nI (1 - ps) : Int32) = if r0 = 2 ∨ r0 = 3 then nI (1 - ps) else nI ps from by rw [if_pos (Or.inl c64)]) ?_
            exact J79 ls (lv_sub hl [0, 1, 2] rfl)
          · skip
            refine lv_iload_n hx hb dX6_play_67 rfl (lv_at hl 2 rfl) ?_
            refine lv_iconst (v := 3) hx hb dX6_play_68 (by decide) ?_
            refine lv_icmp_ne (tgt := 78) hx hb dX6_play_69 (by decide) (fun c69 => ?_) (fun c69 => ?_)
            · skip
              refine lv_iload_n hx hb dX6_play_78 rfl (lv_at hl 0 rfl) ?_
              refine lv_asi (show (nI ps : Int32) = if r0 = 2 ∨ r0 = 3 then nI (1 - ps) else nI ps from by rw [if_neg (fun z => z.elim c64 c69)]) ?_
              exact J79 ls (lv_sub hl [0, 1, 2] rfl)
            · skip
              refine lv_iconst (v := nI 1) hx hb dX6_play_72 (by decide) ?_
              refine lv_iload_n hx hb dX6_play_73 rfl (lv_at hl 0 rfl) ?_
              refine lv_isub hx hb dX6_play_74 ?_
              refine lv_asi (show (nI 1) - (nI ps) = nI (1 - ps) from pk_sub (by omega)) ?_
              refine lv_goto (tgt := 79) hx hb dX6_play_75 (by decide) ?_
              refine lv_asi (show (nI (1 - ps) : Int32) = if r0 = 2 ∨ r0 = 3 then nI (1 - ps) else nI ps from by rw [if_pos (Or.inr c69)]) ?_
              exact J79 ls (lv_sub hl [0, 1, 2] rfl)
      · skip
        refine lv_iload_n hx hb dX6_play_45 rfl (lv_at hl 2 rfl) ?_
        refine lv_iconst (v := 3) hx hb dX6_play_46 (by decide) ?_
        refine lv_icmp_ne (tgt := 54) hx hb dX6_play_47 (by decide) (fun c47 => ?_) (fun c47 => ?_)
        · skip
          refine lv_iconst (v := 0) hx hb dX6_play_54 (by decide) ?_
          refine lv_asi (show (0 : Int32) = if r0 = 3 then 1 else 0 from by rw [if_neg c47]) ?_
          exact J55 ls (lv_sub hl [0, 1, 2] rfl)
        · skip
          refine lv_iconst (v := 1) hx hb dX6_play_50 (by decide) ?_
          refine lv_goto (tgt := 55) hx hb dX6_play_51 (by decide) ?_
          refine lv_asi (show (1 : Int32) = if r0 = 3 then 1 else 0 from by rw [if_pos c47]) ?_
          exact J55 ls (lv_sub hl [0, 1, 2] rfl)
    · skip
      refine lv_iload_n hx hb dX6_play_24 rfl (lv_at hl 2 rfl) ?_
      refine lv_iconst (v := 1) hx hb dX6_play_25 (by decide) ?_
      refine lv_icmp_ne (tgt := 33) hx hb dX6_play_26 (by decide) (fun c26 => ?_) (fun c26 => ?_)
      · skip
        refine lv_iconst (v := 0) hx hb dX6_play_33 (by decide) ?_
        refine lv_asi (show (0 : Int32) = if r0 = 1 then 1 else 0 from by rw [if_neg c26]) ?_
        exact J34 ls (lv_sub hl [0, 1, 2] rfl)
      · skip
        refine lv_iconst (v := 1) hx hb dX6_play_29 (by decide) ?_
        refine lv_goto (tgt := 34) hx hb dX6_play_30 (by decide) ?_
        refine lv_asi (show (1 : Int32) = if r0 = 1 then 1 else 0 from by rw [if_pos c26]) ?_
        exact J34 ls (lv_sub hl [0, 1, 2] rfl)
  · skip
    have c6 := Classical.byContradiction (fun z => c6 (gwin_n.mpr z))
    have hP9 := hP
    have hD9 := hD
    exact W.vret hx hb hr (fun t ht hW => ⟨⟨oz, rfl, (by rw [gst_w c6]; exact hz), ⟨⟨by rw [ht]; exact hP9, va_K.moved hW.alike hK, NW.warm hW hN⟩, hD9⟩⟩, hS.F ht⟩) hS.2.2 dX6_play_9

set_option maxHeartbeats 4000000 in
set_option maxRecDepth 100000 in
theorem c_X6_packed (l : Launch) (D : va_G) (cI cZ : ClassId) (ym : Nat) (ymB : Nat) (ymU : Nat) (ymV : Nat) (ymR : Nat) (ymI : Nat) (ymE : Nat) (ymS : Nat) (ymT : Nat) (ymD : Nat) (ymQ : Nat) (ymP : Nat) (ymN : Nat) (ymO : Nat) (ymY : Nat) (ymZ : Nat) (ymX : Nat) (σ : ST) (oz : Nat → Int32) (pa : Nat) (pb : Nat) (ps : Nat) (hz : stR (sG σ) (pa, pb, ps) oz) : Met l yX6_packed wsX6_packed ({ frames := 0, cells := 0, slots := 0, locals := 0 }) (va_Pc [.ref ym] (XP D cI cZ [(ym, .inr (6, [.int (nI (sF σ)), .ref ymB, .int (nI (sN σ)), .ref ymU, .ref ymV, .ref ymR, .ref ymI, .ref ymE, .int (nI (sM σ)), .ref ymS, .ref ymT, .ref ymD, .int (nI (sC σ)), .ref ymQ, .ref ymP, .ref ymN, .int (nI (sG σ)), .ref ymO, .ref ymY, .ref ymZ, .ref ymX])), (ymZ, .inl (cI, 4, .inl oz))])) (vp_Si (fun r => r = pkI (sG σ) (pa, pb, ps))) 0 0 (fun _ => False) := by
  refine Met.ofW (cc := cX6_packed) (maxL := 1) (ret := (some .int)) (by decide) rfl ?_
  intro p e s m args below meth c s₁ B hml hv
  obtain ⟨rfl, hP, hK, hN⟩ := hv
  have hx := B.exec
  have hb := B.bytes
  have hr := B.returns
  have hts := atoms_spec (ws := wsX6_packed) B.pre
  have hown : s.vm.findClass RX6 = some m.cls := findClass_of_methodNamed B.named
  have hlocks := B.notSynchronized
  have hf60 := hts (.fieldLink RX6 60 "BallCourtModel" "state" "[I") (List.mem_of_getElem? (i := 1) (by decide +kernel))
  have hiX6 : ∀ w ∈ wsX60, w ∈ wsX6_packed := fun w h => List.mem_cons_of_mem _ (List.mem_append_right _ h)
  have hl := lv_entry ([.ref ym]) (n := 1) (Nat.le_of_ble_eq_true rfl)
  rw [lg_entry_eq]
  generalize (lg_sl ([.ref ym]) ++ List.replicate (1 - (lg_sl ([.ref ym])).length) Slot.unset).toArray = ls at hl ⊢
  have hl : lv_has ls 1 [(0, .ref ym)] := hl
  refine lv_aload_n hx hb dX6_packed_0 rfl (lv_at hl 0 rfl) ?_
  refine va_get (D := D) (ci := 6) (v := .ref ymZ) (C := RX6) (T := TX6) (N := 21) hx hb hts hiX6 hown hK hP 0 rfl rfl 19 (by decide) hf60 (fun _ h9 => h9) rfl dX6_packed_1 ?_
  refine lv_iconst (v := nI 0) hx hb dX6_packed_4 (by decide) ?_
  refine xald (k := 0) hx hb hK hP 1 rfl (by omega) (by decide) dX6_packed_5 ?_
  refine lv_asi (show oz 0 = nI pa from hz.1) ?_
  refine lv_bipush (v := nI 32) hx hb dX6_packed_6 (by decide) ?_
  refine lv_imul hx hb dX6_packed_8 ?_
  refine lv_aload_n hx hb dX6_packed_9 rfl (lv_at hl 0 rfl) ?_
  refine va_get (D := D) (ci := 6) (v := .ref ymZ) (C := RX6) (T := TX6) (N := 21) hx hb hts hiX6 hown hK hP 0 rfl rfl 19 (by decide) hf60 (fun _ h9 => h9) rfl dX6_packed_10 ?_
  refine lv_iconst (v := nI 1) hx hb dX6_packed_13 (by decide) ?_
  refine xald (k := 1) hx hb hK hP 1 rfl (by omega) (by decide) dX6_packed_14 ?_
  refine lv_asi (show oz 1 = nI pb from hz.2.1) ?_
  refine lv_iadd hx hb dX6_packed_15 ?_
  refine lv_iconst (v := nI 2) hx hb dX6_packed_16 (by decide) ?_
  refine lv_imul hx hb dX6_packed_17 ?_
  refine lv_aload_n hx hb dX6_packed_18 rfl (lv_at hl 0 rfl) ?_
  refine va_get (D := D) (ci := 6) (v := .ref ymZ) (C := RX6) (T := TX6) (N := 21) hx hb hts hiX6 hown hK hP 0 rfl rfl 19 (by decide) hf60 (fun _ h9 => h9) rfl dX6_packed_19 ?_
  refine lv_iconst (v := nI 2) hx hb dX6_packed_22 (by decide) ?_
  refine xald (k := 2) hx hb hK hP 1 rfl (by omega) (by decide) dX6_packed_23 ?_
  refine lv_asi (show oz 2 = nI ps from hz.2.2.1) ?_
  refine lv_iadd hx hb dX6_packed_24 ?_
  refine lv_bipush (v := nI 8) hx hb dX6_packed_25 (by decide) ?_
  refine lv_imul hx hb dX6_packed_27 ?_
  refine lv_aload_n hx hb dX6_packed_28 rfl (lv_at hl 0 rfl) ?_
  refine va_get (D := D) (ci := 6) (v := .ref ymZ) (C := RX6) (T := TX6) (N := 21) hx hb hts hiX6 hown hK hP 0 rfl rfl 19 (by decide) hf60 (fun _ h9 => h9) rfl dX6_packed_29 ?_
  refine lv_iconst (v := nI 3) hx hb dX6_packed_32 (by decide) ?_
  refine xald (k := 3) hx hb hK hP 1 rfl (by omega) (by decide) dX6_packed_33 ?_
  refine lv_asi (show oz 3 = gwin (sG σ) pa pb from hz.2.2.2) ?_
  refine lv_iadd hx hb dX6_packed_34 ?_
  refine lv_bipush (v := nI 6) hx hb dX6_packed_35 (by decide) ?_
  refine lv_iadd hx hb dX6_packed_37 ?_
  exact W.iret (v := (((((((nI pa) * (nI 32)) + (nI pb)) * (nI 2)) + (nI ps)) * (nI 8)) + (gwin (sG σ) pa pb)) + (nI 6)) hx hb hr (fun t ht hW => ⟨_, rfl, rfl, ht⟩) (fun _ h => absurd h List.not_mem_nil) dX6_packed_38

set_option maxHeartbeats 4000000 in
set_option maxRecDepth 100000 in
theorem c_X6_score (l : Launch) (D : va_G) (cI cZ : ClassId) (sz : Nat) (ym : Nat) (ymB : Nat) (ymU : Nat) (ymV : Nat) (ymR : Nat) (ymI : Nat) (ymE : Nat) (ymS : Nat) (ymT : Nat) (ymD : Nat) (ymQ : Nat) (ymP : Nat) (ymN : Nat) (ymO : Nat) (ymY : Nat) (ymZ : Nat) (ymX : Nat) (σ : ST) (ir : Nat → Int32) (oz : Nat → Int32) (x : Int32) (w : Int32) (hok : Ok σ) (hir : ∀ l, l < sN σ → ir l = b2 (bit (sR σ) (nI l))) : Met l yX6_score wsX6_score ({ frames := 5, cells := 0, slots := 0, locals := 118 }) (va_Pc [.ref ym, .int x, .int w] (XW D cI cZ [(ym, .inr (6, [.int (nI (sF σ)), .ref ymB, .int (nI (sN σ)), .ref ymU, .ref ymV, .ref ymR, .ref ymI, .ref ymE, .int (nI (sM σ)), .ref ymS, .ref ymT, .ref ymD, .int (nI (sC σ)), .ref ymQ, .ref ymP, .ref ymN, .int (nI (sG σ)), .ref ymO, .ref ymY, .ref ymZ, .ref ymX])), (ymB, .inl (cI, 7, .inl (rB σ))), (ymU, .inl (cI, 12, .inl (rMu σ))), (ymV, .inl (cI, 12, .inl (rMn σ))), (ymR, .inl (cI, 12, .inl (rRu σ))), (ymI, .inl (cZ, 12, .inl ir)), (ymE, .inl (cI, 12, .inl (rEr σ))), (ymS, .inl (cI, 90, .inl (rTs σ))), (ymT, .inl (cI, 90, .inl (rTn σ))), (ymD, .inl (cI, 30, .inl (rRd σ))), (ymQ, .inl (cI, 12, .inl (rCk σ))), (ymP, .inl (cI, 12, .inl (rCr σ))), (ymN, .inl (cI, 12, .inl (rCn σ))), (ymZ, .inl (cI, 4, .inl oz))] sz)) (va_Qi (fun (r : Int32) (u : Nat → Int32) => r = oScore σ x w) (fun u => XB D cI cZ (va_A [(ym, .inr (6, [.int (nI (sF σ)), .ref ymB, .int (nI (sN σ)), .ref ymU, .ref ymV, .ref ymR, .ref ymI, .ref ymE, .int (nI (sM σ)), .ref ymS, .ref ymT, .ref ymD, .int (nI (sC σ)), .ref ymQ, .ref ymP, .ref ymN, .int (nI (sG σ)), .ref ymO, .ref ymY, .ref ymZ, .ref ymX])), (ymB, .inl (cI, 7, .inl (rB σ))), (ymU, .inl (cI, 12, .inl (rMu σ))), (ymV, .inl (cI, 12, .inl (rMn σ))), (ymR, .inl (cI, 12, .inl (rRu σ))), (ymI, .inl (cZ, 12, .inl ir)), (ymE, .inl (cI, 12, .inl (rEr σ))), (ymS, .inl (cI, 90, .inl (rTs σ))), (ymT, .inl (cI, 90, .inl (rTn σ))), (ymD, .inl (cI, 30, .inl (rRd σ))), (ymQ, .inl (cI, 12, .inl (rCk σ))), (ymP, .inl (cI, 12, .inl (rCr σ))), (ymN, .inl (cI, 12, .inl (rCn σ))), (ymZ, .inl (cI, 4, .inl oz))] sz) [(ym, .inr (6, [.int (nI (sF σ)), .ref ymB, .int (nI (sN σ)), .ref ymU, .ref ymV, .ref ymR, .ref ymI, .ref ymE, .int (nI (sM σ)), .ref ymS, .ref ymT, .ref ymD, .int (nI (sC σ)), .ref ymQ, .ref ymP, .ref ymN, .int (nI (sG σ)), .ref ymO, .ref ymY, .ref ymZ, .ref ymX])), (ymB, .inl (cI, 7, .inl (rB σ))), (ymU, .inl (cI, 12, .inl (rMu σ))), (ymV, .inl (cI, 12, .inl (rMn σ))), (ymR, .inl (cI, 12, .inl (rRu σ))), (ymI, .inl (cZ, 12, .inl ir)), (ymE, .inl (cI, 12, .inl (rEr σ))), (ymS, .inl (cI, 90, .inl (rTs σ))), (ymT, .inl (cI, 90, .inl (rTn σ))), (ymD, .inl (cI, 30, .inl (rRd σ))), (ymQ, .inl (cI, 12, .inl (rCk σ))), (ymP, .inl (cI, 12, .inl (rCr σ))), (ymN, .inl (cI, 12, .inl (rCn σ))), (ymZ, .inl (cI, 4, .inl u))]) (va_A [(ym, .inr (6, [.int (nI (sF σ)), .ref ymB, .int (nI (sN σ)), .ref ymU, .ref ymV, .ref ymR, .ref ymI, .ref ymE, .int (nI (sM σ)), .ref ymS, .ref ymT, .ref ymD, .int (nI (sC σ)), .ref ymQ, .ref ymP, .ref ymN, .int (nI (sG σ)), .ref ymO, .ref ymY, .ref ymZ, .ref ymX])), (ymB, .inl (cI, 7, .inl (rB σ))), (ymU, .inl (cI, 12, .inl (rMu σ))), (ymV, .inl (cI, 12, .inl (rMn σ))), (ymR, .inl (cI, 12, .inl (rRu σ))), (ymI, .inl (cZ, 12, .inl ir)), (ymE, .inl (cI, 12, .inl (rEr σ))), (ymS, .inl (cI, 90, .inl (rTs σ))), (ymT, .inl (cI, 90, .inl (rTn σ))), (ymD, .inl (cI, 30, .inl (rRd σ))), (ymQ, .inl (cI, 12, .inl (rCk σ))), (ymP, .inl (cI, 12, .inl (rCr σ))), (ymN, .inl (cI, 12, .inl (rCn σ))), (ymZ, .inl (cI, 4, .inl oz))] sz)) 0 0 (va_A [(ym, .inr (6, [.int (nI (sF σ)), .ref ymB, .int (nI (sN σ)), .ref ymU, .ref ymV, .ref ymR, .ref ymI, .ref ymE, .int (nI (sM σ)), .ref ymS, .ref ymT, .ref ymD, .int (nI (sC σ)), .ref ymQ, .ref ymP, .ref ymN, .int (nI (sG σ)), .ref ymO, .ref ymY, .ref ymZ, .ref ymX])), (ymB, .inl (cI, 7, .inl (rB σ))), (ymU, .inl (cI, 12, .inl (rMu σ))), (ymV, .inl (cI, 12, .inl (rMn σ))), (ymR, .inl (cI, 12, .inl (rRu σ))), (ymI, .inl (cZ, 12, .inl ir)), (ymE, .inl (cI, 12, .inl (rEr σ))), (ymS, .inl (cI, 90, .inl (rTs σ))), (ymT, .inl (cI, 90, .inl (rTn σ))), (ymD, .inl (cI, 30, .inl (rRd σ))), (ymQ, .inl (cI, 12, .inl (rCk σ))), (ymP, .inl (cI, 12, .inl (rCr σ))), (ymN, .inl (cI, 12, .inl (rCn σ))), (ymZ, .inl (cI, 4, .inl oz))] sz) := by
  refine Met.ofW (cc := cX6_score) (maxL := 4) (ret := (some .int)) (by decide) rfl ?_
  intro p e s m args below meth c s₁ B hml hv
  obtain ⟨rfl, hsz, ⟨hP, hK, hN⟩, hD0⟩ := hv
  have hx := B.exec
  have hb := B.bytes
  have hr := B.returns
  have hts := atoms_spec (ws := wsX6_score) B.pre
  have hown : s.vm.findClass RX6 = some m.cls := findClass_of_methodNamed B.named
  have hlocks := B.notSynchronized
  subst hsz
  have hD := hD0.self (sz := s.heap.size)
  generalize hAe : va_A [(ym, .inr (6, [.int (nI (sF σ)), .ref ymB, .int (nI (sN σ)), .ref ymU, .ref ymV, .ref ymR, .ref ymI, .ref ymE, .int (nI (sM σ)), .ref ymS, .ref ymT, .ref ymD, .int (nI (sC σ)), .ref ymQ, .ref ymP, .ref ymN, .int (nI (sG σ)), .ref ymO, .ref ymY, .ref ymZ, .ref ymX])), (ymB, .inl (cI, 7, .inl (rB σ))), (ymU, .inl (cI, 12, .inl (rMu σ))), (ymV, .inl (cI, 12, .inl (rMn σ))), (ymR, .inl (cI, 12, .inl (rRu σ))), (ymI, .inl (cZ, 12, .inl ir)), (ymE, .inl (cI, 12, .inl (rEr σ))), (ymS, .inl (cI, 90, .inl (rTs σ))), (ymT, .inl (cI, 90, .inl (rTn σ))), (ymD, .inl (cI, 30, .inl (rRd σ))), (ymQ, .inl (cI, 12, .inl (rCk σ))), (ymP, .inl (cI, 12, .inl (rCr σ))), (ymN, .inl (cI, 12, .inl (rCn σ))), (ymZ, .inl (cI, 4, .inl oz))] s.heap.size = A at hD ⊢
  have hA : ∀ q : Nat, s.heap.size ≤ q → A q := fun q h => by rw [← hAe]; exact Or.inr h
  have hS : va_S A s.heap s.heap [] := va_S.rf
  have ho := hok.1
  have hk2 := hok.k
  have hp2 : 1 ≤ 2 ^ sF σ := Nat.two_pow_pos _
  have hf73 := hts (.fieldLink RX6 73 "BallCourtModel" "moments" "I") (List.mem_of_getElem? (i := 1) (by decide +kernel))
  have hiX6 : ∀ w ∈ wsX60, w ∈ wsX6_score := fun w h => List.mem_cons_of_mem _ (List.mem_append_right _ h)
  have hf60 := hts (.fieldLink RX6 60 "BallCourtModel" "state" "[I") (List.mem_of_getElem? (i := 2) (by decide +kernel))
  have hl := lv_entry ([.ref ym, .int x, .int w]) (n := 4) (Nat.le_of_ble_eq_true rfl)
  rw [lg_entry_eq]
  generalize (lg_sl ([.ref ym, .int x, .int w]) ++ List.replicate (4 - (lg_sl ([.ref ym, .int x, .int w])).length) Slot.unset).toArray = ls at hl ⊢
  have hl : lv_has ls 4 [(0, .ref ym), (1, .int x), (2, .int w)] := hl
  refine lv_iload_n hx hb dX6_score_0 rfl (lv_at hl 1 rfl) ?_
  refine lv_iconst (v := 0) hx hb dX6_score_1 (by decide) ?_
  refine lv_aload_n hx hb dX6_score_2 rfl (lv_at hl 0 rfl) ?_
  refine va_get (D := D) (ci := 6) (v := .int (nI (sM σ))) (C := RX6) (T := TX6) (N := 21) hx hb hts hiX6 hown hK hP 0 rfl rfl 8 (by decide) hf73 (fun _ h9 => h9) rfl dX6_score_3 ?_
  refine xpS (rest := []) ⟨hx, hb, hml, hown, hts⟩ (c_X6_in l D cI cZ x 0 (nI (sM σ))) (va_cwS 3 hts gX6_score_X6_in rfl rfl rfl (by decide +kernel) ⟨Nat.le_of_ble_eq_true rfl, Nat.le_of_ble_eq_true rfl⟩) hP [] rfl hK hN rfl hl.1 rfl (Nat.le_of_ble_eq_true rfl) dX6_score_6 ⟨Nat.zero_le _, Nat.zero_le _⟩ (fun r6 e6 => ?_)
  subst e6
  refine lv_if_eq (tgt := 21) hx hb dX6_score_9 (by decide) (fun c9 => ?_) (fun c9 => ?_)
  · skip
    have c9 := b2_0 c9
    refine lv_bipush (v := (-2)) hx hb dX6_score_21 (by decide) ?_
    have hP9 := hP
    have hD9 := hD
    exact W.iret (v := (-2)) hx hb hr (fun t ht hW => ⟨⟨(-2), oz, rfl, (by rw [oScore, if_pos c9]), ⟨⟨by rw [ht]; exact hP9, va_K.moved hW.alike hK, NW.warm hW hN⟩, hD9⟩⟩, hS.F ht⟩) hS.2.2 dX6_score_23
  · skip
    have c9 := b2_1 c9
    refine lv_iload_n hx hb dX6_score_12 rfl (lv_at hl 2 rfl) ?_
    refine lv_iconst (v := 0) hx hb dX6_score_13 (by decide) ?_
    refine lv_iconst (v := 3) hx hb dX6_score_14 (by decide) ?_
    refine xpS (rest := []) ⟨hx, hb, hml, hown, hts⟩ (c_X6_in l D cI cZ w 0 3) (va_cwS 3 hts gX6_score_X6_in rfl rfl rfl (by decide +kernel) ⟨Nat.le_of_ble_eq_true rfl, Nat.le_of_ble_eq_true rfl⟩) hP [] rfl hK hN rfl hl.1 rfl (Nat.le_of_ble_eq_true rfl) dX6_score_15 ⟨Nat.zero_le _, Nat.zero_le _⟩ (fun r15 e15 => ?_)
    subst e15
    refine lv_if_ne (tgt := 24) hx hb dX6_score_18 (by decide) (fun c18 => ?_) (fun c18 => ?_)
    · skip
      have c18 := b2_1 c18
      obtain ⟨q, hq, rfl⟩ := rng1 (a := 0) (b := sM σ) (by omega) c9
      have kq : (nI q).toNatClampNeg = q := nI_clamp (by omega)
      obtain ⟨w0, hw, rfl⟩ := rng1 (a := 0) (b := 3) (by omega) c18
      refine lv_aload_n hx hb dX6_score_24 rfl (lv_at hl 0 rfl) ?_
      refine xwVv (rest := []) (wr := [(ymB, .inl (cI, 7, .inl (rB σ))), (ymU, .inl (cI, 12, .inl (rMu σ))), (ymV, .inl (cI, 12, .inl (rMn σ))), (ymR, .inl (cI, 12, .inl (rRu σ))), (ymI, .inl (cZ, 12, .inl ir)), (ymE, .inl (cI, 12, .inl (rEr σ))), (ymS, .inl (cI, 90, .inl (rTs σ))), (ymT, .inl (cI, 90, .inl (rTn σ))), (ymD, .inl (cI, 30, .inl (rRd σ))), (ymQ, .inl (cI, 12, .inl (rCk σ))), (ymP, .inl (cI, 12, .inl (rCr σ))), (ymN, .inl (cI, 12, .inl (rCn σ)))]) ⟨hx, hb, hml, hown, hts⟩ (c_X6_begin l D cI cZ s.heap.size ym ymB ymU ymV ymR ymI ymE ymS ymT ymD ymQ ymP ymN ymO ymY ymZ ymX σ oz hok) (cwV 0 hts gX6_score_X6_begin rfl rfl rfl (by decide +kernel) ⟨Nat.le_of_ble_eq_true rfl, Nat.le_of_ble_eq_true rfl⟩) hP hD hS hA [0, 13] [1, 2, 3, 4, 5, 6, 7, 8, 9, 10, 11, 12] rfl rfl (by decide) (by decide) (by decide) hK hN (ci := 6) (q0 := 0) rfl rfl rfl hl.1 rfl (Nat.le_of_ble_eq_true rfl) dX6_score_25 ⟨Nat.zero_le _, Nat.zero_le _⟩ (fun u25 H locs e25 hP hD hS => ?_)
      obtain ⟨z0, rfl⟩ : ∃ z, z = u25 := ⟨_, rfl⟩
      have hP : va_P D vwCl [(ymB, .inl (cI, 7, .inl (rB σ))), (ymU, .inl (cI, 12, .inl (rMu σ))), (ymV, .inl (cI, 12, .inl (rMn σ))), (ymR, .inl (cI, 12, .inl (rRu σ))), (ymI, .inl (cZ, 12, .inl ir)), (ymE, .inl (cI, 12, .inl (rEr σ))), (ymS, .inl (cI, 90, .inl (rTs σ))), (ymT, .inl (cI, 90, .inl (rTn σ))), (ymD, .inl (cI, 30, .inl (rRd σ))), (ymQ, .inl (cI, 12, .inl (rCk σ))), (ymP, .inl (cI, 12, .inl (rCr σ))), (ymN, .inl (cI, 12, .inl (rCn σ))), (ym, .inr (6, [.int (nI (sF σ)), .ref ymB, .int (nI (sN σ)), .ref ymU, .ref ymV, .ref ymR, .ref ymI, .ref ymE, .int (nI (sM σ)), .ref ymS, .ref ymT, .ref ymD, .int (nI (sC σ)), .ref ymQ, .ref ymP, .ref ymN, .int (nI (sG σ)), .ref ymO, .ref ymY, .ref ymZ, .ref ymX])), (ymZ, .inl (cI, 4, .inl z0))] H := hP
      have hD : va_D A [(ymB, .inl (cI, 7, .inl (rB σ))), (ymU, .inl (cI, 12, .inl (rMu σ))), (ymV, .inl (cI, 12, .inl (rMn σ))), (ymR, .inl (cI, 12, .inl (rRu σ))), (ymI, .inl (cZ, 12, .inl ir)), (ymE, .inl (cI, 12, .inl (rEr σ))), (ymS, .inl (cI, 90, .inl (rTs σ))), (ymT, .inl (cI, 90, .inl (rTn σ))), (ymD, .inl (cI, 30, .inl (rRd σ))), (ymQ, .inl (cI, 12, .inl (rCk σ))), (ymP, .inl (cI, 12, .inl (rCr σ))), (ymN, .inl (cI, 12, .inl (rCn σ))), (ym, .inr (6, [.int (nI (sF σ)), .ref ymB, .int (nI (sN σ)), .ref ymU, .ref ymV, .ref ymR, .ref ymI, .ref ymE, .int (nI (sM σ)), .ref ymS, .ref ymT, .ref ymD, .int (nI (sC σ)), .ref ymQ, .ref ymP, .ref ymN, .int (nI (sG σ)), .ref ymO, .ref ymY, .ref ymZ, .ref ymX])), (ymZ, .inl (cI, 4, .inl z0))] := hD
      refine lv_iconst (v := nI 0) hx hb dX6_score_28 (by decide) ?_
      refine lv_istore_n (lv' := [(3, .int (nI 0)), (0, .ref ym), (1, .int (nI q)), (2, .int (nI w0))]) hx hb dX6_score_29 rfl hl (by decide) rfl (fun ls hl => ?_)
      refine wloopW (α := Nat × (Nat → Int32)) (fun v => q - v.1) (fun v => [(ymB, .inl (cI, 7, .inl (rB σ))), (ymU, .inl (cI, 12, .inl (rMu σ))), (ymV, .inl (cI, 12, .inl (rMn σ))), (ymR, .inl (cI, 12, .inl (rRu σ))), (ymI, .inl (cZ, 12, .inl ir)), (ymE, .inl (cI, 12, .inl (rEr σ))), (ymS, .inl (cI, 90, .inl (rTs σ))), (ymT, .inl (cI, 90, .inl (rTn σ))), (ymD, .inl (cI, 30, .inl (rRd σ))), (ymQ, .inl (cI, 12, .inl (rCk σ))), (ymP, .inl (cI, 12, .inl (rCr σ))), (ymN, .inl (cI, 12, .inl (rCn σ))), (ym, .inr (6, [.int (nI (sF σ)), .ref ymB, .int (nI (sN σ)), .ref ymU, .ref ymV, .ref ymR, .ref ymI, .ref ymE, .int (nI (sM σ)), .ref ymS, .ref ymT, .ref ymD, .int (nI (sC σ)), .ref ymQ, .ref ymP, .ref ymN, .int (nI (sG σ)), .ref ymO, .ref ymY, .ref ymZ, .ref ymX])), (ymZ, .inl (cI, 4, .inl v.2))]) (fun v => [(0, .ref ym), (1, .int (nI q)), (2, .int (nI w0)), (3, .int (nI v.1))]) (fun v => (v.1 ≤ q) ∧ (stR (sG σ) (grn σ v.1) v.2)) 4 (fun v hv ih30 H locs hP hD hS ls hl => ?_) (0, z0) ⟨(show 0 ≤ q from Nat.zero_le _), (show stR (sG σ) (grn σ 0) z0 from e25)⟩ hP hD hS ls (lv_sub hl [1, 2, 3, 0] rfl)
      obtain ⟨i, z⟩ := v
      obtain ⟨hi, hz⟩ := hv
      have hi : i ≤ q := hi
      have hz : stR (sG σ) (grn σ i) z := hz
      have hl : lv_has ls 4 [(0, .ref ym), (1, .int (nI q)), (2, .int (nI w0)), (3, .int (nI i))] := hl
      have hP : va_P D vwCl [(ymB, .inl (cI, 7, .inl (rB σ))), (ymU, .inl (cI, 12, .inl (rMu σ))), (ymV, .inl (cI, 12, .inl (rMn σ))), (ymR, .inl (cI, 12, .inl (rRu σ))), (ymI, .inl (cZ, 12, .inl ir)), (ymE, .inl (cI, 12, .inl (rEr σ))), (ymS, .inl (cI, 90, .inl (rTs σ))), (ymT, .inl (cI, 90, .inl (rTn σ))), (ymD, .inl (cI, 30, .inl (rRd σ))), (ymQ, .inl (cI, 12, .inl (rCk σ))), (ymP, .inl (cI, 12, .inl (rCr σ))), (ymN, .inl (cI, 12, .inl (rCn σ))), (ym, .inr (6, [.int (nI (sF σ)), .ref ymB, .int (nI (sN σ)), .ref ymU, .ref ymV, .ref ymR, .ref ymI, .ref ymE, .int (nI (sM σ)), .ref ymS, .ref ymT, .ref ymD, .int (nI (sC σ)), .ref ymQ, .ref ymP, .ref ymN, .int (nI (sG σ)), .ref ymO, .ref ymY, .ref ymZ, .ref ymX])), (ymZ, .inl (cI, 4, .inl z))] H := hP
      have hD : va_D A [(ymB, .inl (cI, 7, .inl (rB σ))), (ymU, .inl (cI, 12, .inl (rMu σ))), (ymV, .inl (cI, 12, .inl (rMn σ))), (ymR, .inl (cI, 12, .inl (rRu σ))), (ymI, .inl (cZ, 12, .inl ir)), (ymE, .inl (cI, 12, .inl (rEr σ))), (ymS, .inl (cI, 90, .inl (rTs σ))), (ymT, .inl (cI, 90, .inl (rTn σ))), (ymD, .inl (cI, 30, .inl (rRd σ))), (ymQ, .inl (cI, 12, .inl (rCk σ))), (ymP, .inl (cI, 12, .inl (rCr σ))), (ymN, .inl (cI, 12, .inl (rCn σ))), (ym, .inr (6, [.int (nI (sF σ)), .ref ymB, .int (nI (sN σ)), .ref ymU, .ref ymV, .ref ymR, .ref ymI, .ref ymE, .int (nI (sM σ)), .ref ymS, .ref ymT, .ref ymD, .int (nI (sC σ)), .ref ymQ, .ref ymP, .ref ymN, .int (nI (sG σ)), .ref ymO, .ref ymY, .ref ymZ, .ref ymX])), (ymZ, .inl (cI, 4, .inl z))] := hD
      refine lv_iload_n hx hb dX6_score_30 rfl (lv_at hl 3 rfl) ?_
      refine lv_iload_n hx hb dX6_score_31 rfl (lv_at hl 1 rfl) ?_
      refine lv_icmp_ge (tgt := 50) hx hb dX6_score_32 (by decide) (fun c32 => ?_) (fun c32 => ?_)
      · skip
        have c32 := (nI_leI (by omega) (by omega)).mp c32
        refine lv_aload_n hx hb dX6_score_50 rfl (lv_at hl 0 rfl) ?_
        refine va_get (D := D) (ci := 6) (v := .ref ymZ) (C := RX6) (T := TX6) (N := 21) hx hb hts hiX6 hown hK hP 12 rfl rfl 19 (by decide) hf60 (fun _ h9 => h9) rfl dX6_score_51 ?_
        refine lv_iload_n hx hb dX6_score_54 rfl (lv_at hl 2 rfl) ?_
        refine xald (k := w0) hx hb hK hP 13 rfl (by omega) (by decide) dX6_score_55 ?_
        have hP9 := hP.sub (ws' := [(ym, .inr (6, [.int (nI (sF σ)), .ref ymB, .int (nI (sN σ)), .ref ymU, .ref ymV, .ref ymR, .ref ymI, .ref ymE, .int (nI (sM σ)), .ref ymS, .ref ymT, .ref ymD, .int (nI (sC σ)), .ref ymQ, .ref ymP, .ref ymN, .int (nI (sG σ)), .ref ymO, .ref ymY, .ref ymZ, .ref ymX])), (ymB, .inl (cI, 7, .inl (rB σ))), (ymU, .inl (cI, 12, .inl (rMu σ))), (ymV, .inl (cI, 12, .inl (rMn σ))), (ymR, .inl (cI, 12, .inl (rRu σ))), (ymI, .inl (cZ, 12, .inl ir)), (ymE, .inl (cI, 12, .inl (rEr σ))), (ymS, .inl (cI, 90, .inl (rTs σ))), (ymT, .inl (cI, 90, .inl (rTn σ))), (ymD, .inl (cI, 30, .inl (rRd σ))), (ymQ, .inl (cI, 12, .inl (rCk σ))), (ymP, .inl (cI, 12, .inl (rCr σ))), (ymN, .inl (cI, 12, .inl (rCn σ))), (ymZ, .inl (cI, 4, .inl z))]) [12, 0, 1, 2, 3, 4, 5, 6, 7, 8, 9, 10, 11, 13] rfl
        have hD9 := hD.sub (ws' := [(ym, .inr (6, [.int (nI (sF σ)), .ref ymB, .int (nI (sN σ)), .ref ymU, .ref ymV, .ref ymR, .ref ymI, .ref ymE, .int (nI (sM σ)), .ref ymS, .ref ymT, .ref ymD, .int (nI (sC σ)), .ref ymQ, .ref ymP, .ref ymN, .int (nI (sG σ)), .ref ymO, .ref ymY, .ref ymZ, .ref ymX])), (ymB, .inl (cI, 7, .inl (rB σ))), (ymU, .inl (cI, 12, .inl (rMu σ))), (ymV, .inl (cI, 12, .inl (rMn σ))), (ymR, .inl (cI, 12, .inl (rRu σ))), (ymI, .inl (cZ, 12, .inl ir)), (ymE, .inl (cI, 12, .inl (rEr σ))), (ymS, .inl (cI, 90, .inl (rTs σ))), (ymT, .inl (cI, 90, .inl (rTn σ))), (ymD, .inl (cI, 30, .inl (rRd σ))), (ymQ, .inl (cI, 12, .inl (rCk σ))), (ymP, .inl (cI, 12, .inl (rCr σ))), (ymN, .inl (cI, 12, .inl (rCn σ))), (ymZ, .inl (cI, 4, .inl z))]) [12, 0, 1, 2, 3, 4, 5, 6, 7, 8, 9, 10, 11, 13] (by decide) rfl
        exact W.iret (v := z w0) hx hb hr (fun t ht hW => ⟨⟨z w0, z, rfl, (by rw [show i = q by omega] at hz; exact sc_ret hz hw.2 c9 c18 kq), ⟨⟨by rw [ht]; exact hP9, va_K.moved hW.alike hK, NW.warm hW hN⟩, hD9⟩⟩, hS.F ht⟩) hS.2.2 dX6_score_56
      · skip
        have c32 := Nat.lt_of_not_le (fun z => c32 ((nI_leI (by omega) (by omega)).mpr z))
        refine lv_aload_n hx hb dX6_score_35 rfl (lv_at hl 0 rfl) ?_
        refine lv_aload_n hx hb dX6_score_36 rfl (lv_at hl 0 rfl) ?_
        refine lv_iload_n hx hb dX6_score_37 rfl (lv_at hl 3 rfl) ?_
        refine xpV (rest := [.ref ym]) ⟨hx, hb, hml, hown, hts⟩ (c_X6_verdictOf l D cI cZ ym ymB ymU ymV ymR ymI ymE ymS ymT ymD ymQ ymP ymN ymO ymY ymZ ymX σ ir (sR σ) i hok (by omega) hir) (cwV 1 hts gX6_score_X6_verdictOf rfl rfl rfl (by decide +kernel) ⟨Nat.le_of_ble_eq_true rfl, Nat.le_of_ble_eq_true rfl⟩) hP [12, 0, 1, 2, 3, 4, 5, 6, 7, 8, 9, 10, 11] rfl hK hN (ci := 6) (q0 := 12) rfl rfl rfl hl.1 rfl (Nat.le_of_ble_eq_true rfl) dX6_score_38 ⟨Nat.zero_le _, Nat.zero_le _⟩ (fun r38 e38 => ?_)
        subst e38
        refine xwVv (rest := []) (wr := [(ymB, .inl (cI, 7, .inl (rB σ))), (ymU, .inl (cI, 12, .inl (rMu σ))), (ymV, .inl (cI, 12, .inl (rMn σ))), (ymR, .inl (cI, 12, .inl (rRu σ))), (ymI, .inl (cZ, 12, .inl ir)), (ymE, .inl (cI, 12, .inl (rEr σ))), (ymS, .inl (cI, 90, .inl (rTs σ))), (ymT, .inl (cI, 90, .inl (rTn σ))), (ymD, .inl (cI, 30, .inl (rRd σ))), (ymQ, .inl (cI, 12, .inl (rCk σ))), (ymP, .inl (cI, 12, .inl (rCr σ))), (ymN, .inl (cI, 12, .inl (rCn σ)))]) ⟨hx, hb, hml, hown, hts⟩ (c_X6_play l D cI cZ H.size ym ymB ymU ymV ymR ymI ymE ymS ymT ymD ymQ ymP ymN ymO ymY ymZ ymX σ z ((grn σ i).1) ((grn σ i).2.1) ((grn σ i).2.2) (verI σ (sR σ) i) hok hz (by have := grn_le σ i; omega)) (cwV 1 hts gX6_score_X6_play rfl rfl rfl (by decide +kernel) ⟨Nat.le_of_ble_eq_true rfl, Nat.le_of_ble_eq_true rfl⟩) hP hD hS hA [12, 13] [0, 1, 2, 3, 4, 5, 6, 7, 8, 9, 10, 11] rfl rfl (by decide) (by decide) (by decide) hK hN (ci := 6) (q0 := 12) rfl rfl rfl hl.1 rfl (Nat.le_of_ble_eq_true rfl) dX6_score_41 ⟨Nat.zero_le _, Nat.zero_le _⟩ (fun u41 H locs e41 hP hD hS => ?_)
        obtain ⟨z2, rfl⟩ : ∃ z, z = u41 := ⟨_, rfl⟩
        have hP : va_P D vwCl [(ymB, .inl (cI, 7, .inl (rB σ))), (ymU, .inl (cI, 12, .inl (rMu σ))), (ymV, .inl (cI, 12, .inl (rMn σ))), (ymR, .inl (cI, 12, .inl (rRu σ))), (ymI, .inl (cZ, 12, .inl ir)), (ymE, .inl (cI, 12, .inl (rEr σ))), (ymS, .inl (cI, 90, .inl (rTs σ))), (ymT, .inl (cI, 90, .inl (rTn σ))), (ymD, .inl (cI, 30, .inl (rRd σ))), (ymQ, .inl (cI, 12, .inl (rCk σ))), (ymP, .inl (cI, 12, .inl (rCr σ))), (ymN, .inl (cI, 12, .inl (rCn σ))), (ym, .inr (6, [.int (nI (sF σ)), .ref ymB, .int (nI (sN σ)), .ref ymU, .ref ymV, .ref ymR, .ref ymI, .ref ymE, .int (nI (sM σ)), .ref ymS, .ref ymT, .ref ymD, .int (nI (sC σ)), .ref ymQ, .ref ymP, .ref ymN, .int (nI (sG σ)), .ref ymO, .ref ymY, .ref ymZ, .ref ymX])), (ymZ, .inl (cI, 4, .inl z2))] H := hP
        have hD : va_D A [(ymB, .inl (cI, 7, .inl (rB σ))), (ymU, .inl (cI, 12, .inl (rMu σ))), (ymV, .inl (cI, 12, .inl (rMn σ))), (ymR, .inl (cI, 12, .inl (rRu σ))), (ymI, .inl (cZ, 12, .inl ir)), (ymE, .inl (cI, 12, .inl (rEr σ))), (ymS, .inl (cI, 90, .inl (rTs σ))), (ymT, .inl (cI, 90, .inl (rTn σ))), (ymD, .inl (cI, 30, .inl (rRd σ))), (ymQ, .inl (cI, 12, .inl (rCk σ))), (ymP, .inl (cI, 12, .inl (rCr σ))), (ymN, .inl (cI, 12, .inl (rCn σ))), (ym, .inr (6, [.int (nI (sF σ)), .ref ymB, .int (nI (sN σ)), .ref ymU, .ref ymV, .ref ymR, .ref ymI, .ref ymE, .int (nI (sM σ)), .ref ymS, .ref ymT, .ref ymD, .int (nI (sC σ)), .ref ymQ, .ref ymP, .ref ymN, .int (nI (sG σ)), .ref ymO, .ref ymY, .ref ymZ, .ref ymX])), (ymZ, .inl (cI, 4, .inl z2))] := hD
        refine lv_iinc (k := 3) (x := nI i) (v := nI (i + 1)) (lv' := [(3, .int (nI (i + 1))), (0, .ref ym), (1, .int (nI q)), (2, .int (nI w0))]) hx hb dX6_score_44 hl rfl (show (nI i) + Int32.ofInt 1 = nI (i + 1) from nI_1 _) (by decide) rfl (fun ls hl => ?_)
        refine lv_goto (tgt := 30) hx hb dX6_score_47 (by decide) ?_
        exact ih30 (i + 1, z2) ⟨(show (i + 1) ≤ q from (by omega)), (show stR (sG σ) (grn σ (i + 1)) z2 from e41)⟩ (by show q - (i + 1) < q - i; omega) _ _ hP hD hS ls (lv_sub hl [1, 2, 3, 0] rfl)
    · skip
      have c18 := b2_0 c18
      refine lv_bipush (v := (-2)) hx hb dX6_score_21 (by decide) ?_
      have hP9 := hP
      have hD9 := hD
      exact W.iret (v := (-2)) hx hb hr (fun t ht hW => ⟨⟨(-2), oz, rfl, (by rw [oScore, if_neg (by rw [c9]; decide), if_pos c18]), ⟨⟨by rw [ht]; exact hP9, va_K.moved hW.alike hK, NW.warm hW hN⟩, hD9⟩⟩, hS.F ht⟩) hS.2.2 dX6_score_23

set_option maxHeartbeats 4000000 in
set_option maxRecDepth 100000 in
theorem c_X6_appeal (l : Launch) (D : va_G) (cI cZ : ClassId) (sz : Nat) (ym : Nat) (ymB : Nat) (ymU : Nat) (ymV : Nat) (ymR : Nat) (ymI : Nat) (ymE : Nat) (ymS : Nat) (ymT : Nat) (ymD : Nat) (ymQ : Nat) (ymP : Nat) (ymN : Nat) (ymO : Nat) (ymY : Nat) (ymZ : Nat) (ymX : Nat) (σ : ST) (ir : Nat → Int32) (ov : Nat → Int32) (oz : Nat → Int32) (oc : Nat → Int32) (x : Int32) (y : Int32) (hok : Ok σ) (hir : ∀ l, l < sN σ → ir l = b2 (bit (sR σ) (nI l))) : Met l yX6_appeal wsX6_appeal ({ frames := 5, cells := 0, slots := 0, locals := 118 }) (va_Pc [.ref ym, .int x, .int y] (XW D cI cZ [(ym, .inr (6, [.int (nI (sF σ)), .ref ymB, .int (nI (sN σ)), .ref ymU, .ref ymV, .ref ymR, .ref ymI, .ref ymE, .int (nI (sM σ)), .ref ymS, .ref ymT, .ref ymD, .int (nI (sC σ)), .ref ymQ, .ref ymP, .ref ymN, .int (nI (sG σ)), .ref ymO, .ref ymY, .ref ymZ, .ref ymX])), (ymB, .inl (cI, 7, .inl (rB σ))), (ymU, .inl (cI, 12, .inl (rMu σ))), (ymV, .inl (cI, 12, .inl (rMn σ))), (ymR, .inl (cI, 12, .inl (rRu σ))), (ymI, .inl (cZ, 12, .inl ir)), (ymE, .inl (cI, 12, .inl (rEr σ))), (ymS, .inl (cI, 90, .inl (rTs σ))), (ymT, .inl (cI, 90, .inl (rTn σ))), (ymD, .inl (cI, 30, .inl (rRd σ))), (ymQ, .inl (cI, 12, .inl (rCk σ))), (ymP, .inl (cI, 12, .inl (rCr σ))), (ymN, .inl (cI, 12, .inl (rCn σ))), (ymY, .inl (cI, 30, .inl ov)), (ymZ, .inl (cI, 4, .inl oz)), (ymX, .inl (cI, 30, .inl oc))] sz)) (va_Qi (fun (r : Int32) (u : (Nat → Int32) × (Nat → Int32) × (Nat → Int32)) => r = oAppeal σ x y) (fun u => XB D cI cZ (va_A [(ym, .inr (6, [.int (nI (sF σ)), .ref ymB, .int (nI (sN σ)), .ref ymU, .ref ymV, .ref ymR, .ref ymI, .ref ymE, .int (nI (sM σ)), .ref ymS, .ref ymT, .ref ymD, .int (nI (sC σ)), .ref ymQ, .ref ymP, .ref ymN, .int (nI (sG σ)), .ref ymO, .ref ymY, .ref ymZ, .ref ymX])), (ymB, .inl (cI, 7, .inl (rB σ))), (ymU, .inl (cI, 12, .inl (rMu σ))), (ymV, .inl (cI, 12, .inl (rMn σ))), (ymR, .inl (cI, 12, .inl (rRu σ))), (ymI, .inl (cZ, 12, .inl ir)), (ymE, .inl (cI, 12, .inl (rEr σ))), (ymS, .inl (cI, 90, .inl (rTs σ))), (ymT, .inl (cI, 90, .inl (rTn σ))), (ymD, .inl (cI, 30, .inl (rRd σ))), (ymQ, .inl (cI, 12, .inl (rCk σ))), (ymP, .inl (cI, 12, .inl (rCr σ))), (ymN, .inl (cI, 12, .inl (rCn σ))), (ymY, .inl (cI, 30, .inl ov)), (ymZ, .inl (cI, 4, .inl oz)), (ymX, .inl (cI, 30, .inl oc))] sz) [(ym, .inr (6, [.int (nI (sF σ)), .ref ymB, .int (nI (sN σ)), .ref ymU, .ref ymV, .ref ymR, .ref ymI, .ref ymE, .int (nI (sM σ)), .ref ymS, .ref ymT, .ref ymD, .int (nI (sC σ)), .ref ymQ, .ref ymP, .ref ymN, .int (nI (sG σ)), .ref ymO, .ref ymY, .ref ymZ, .ref ymX])), (ymB, .inl (cI, 7, .inl (rB σ))), (ymU, .inl (cI, 12, .inl (rMu σ))), (ymV, .inl (cI, 12, .inl (rMn σ))), (ymR, .inl (cI, 12, .inl (rRu σ))), (ymI, .inl (cZ, 12, .inl ir)), (ymE, .inl (cI, 12, .inl (rEr σ))), (ymS, .inl (cI, 90, .inl (rTs σ))), (ymT, .inl (cI, 90, .inl (rTn σ))), (ymD, .inl (cI, 30, .inl (rRd σ))), (ymQ, .inl (cI, 12, .inl (rCk σ))), (ymP, .inl (cI, 12, .inl (rCr σ))), (ymN, .inl (cI, 12, .inl (rCn σ))), (ymY, .inl (cI, 30, .inl u.1)), (ymZ, .inl (cI, 4, .inl u.2.1)), (ymX, .inl (cI, 30, .inl u.2.2))]) (va_A [(ym, .inr (6, [.int (nI (sF σ)), .ref ymB, .int (nI (sN σ)), .ref ymU, .ref ymV, .ref ymR, .ref ymI, .ref ymE, .int (nI (sM σ)), .ref ymS, .ref ymT, .ref ymD, .int (nI (sC σ)), .ref ymQ, .ref ymP, .ref ymN, .int (nI (sG σ)), .ref ymO, .ref ymY, .ref ymZ, .ref ymX])), (ymB, .inl (cI, 7, .inl (rB σ))), (ymU, .inl (cI, 12, .inl (rMu σ))), (ymV, .inl (cI, 12, .inl (rMn σ))), (ymR, .inl (cI, 12, .inl (rRu σ))), (ymI, .inl (cZ, 12, .inl ir)), (ymE, .inl (cI, 12, .inl (rEr σ))), (ymS, .inl (cI, 90, .inl (rTs σ))), (ymT, .inl (cI, 90, .inl (rTn σ))), (ymD, .inl (cI, 30, .inl (rRd σ))), (ymQ, .inl (cI, 12, .inl (rCk σ))), (ymP, .inl (cI, 12, .inl (rCr σ))), (ymN, .inl (cI, 12, .inl (rCn σ))), (ymY, .inl (cI, 30, .inl ov)), (ymZ, .inl (cI, 4, .inl oz)), (ymX, .inl (cI, 30, .inl oc))] sz)) 0 0 (va_A [(ym, .inr (6, [.int (nI (sF σ)), .ref ymB, .int (nI (sN σ)), .ref ymU, .ref ymV, .ref ymR, .ref ymI, .ref ymE, .int (nI (sM σ)), .ref ymS, .ref ymT, .ref ymD, .int (nI (sC σ)), .ref ymQ, .ref ymP, .ref ymN, .int (nI (sG σ)), .ref ymO, .ref ymY, .ref ymZ, .ref ymX])), (ymB, .inl (cI, 7, .inl (rB σ))), (ymU, .inl (cI, 12, .inl (rMu σ))), (ymV, .inl (cI, 12, .inl (rMn σ))), (ymR, .inl (cI, 12, .inl (rRu σ))), (ymI, .inl (cZ, 12, .inl ir)), (ymE, .inl (cI, 12, .inl (rEr σ))), (ymS, .inl (cI, 90, .inl (rTs σ))), (ymT, .inl (cI, 90, .inl (rTn σ))), (ymD, .inl (cI, 30, .inl (rRd σ))), (ymQ, .inl (cI, 12, .inl (rCk σ))), (ymP, .inl (cI, 12, .inl (rCr σ))), (ymN, .inl (cI, 12, .inl (rCn σ))), (ymY, .inl (cI, 30, .inl ov)), (ymZ, .inl (cI, 4, .inl oz)), (ymX, .inl (cI, 30, .inl oc))] sz) := by
  refine Met.ofW (cc := cX6_appeal) (maxL := 4) (ret := (some .int)) (by decide) rfl ?_
  intro p e s m args below meth c s₁ B hml hv
  obtain ⟨rfl, hsz, ⟨hP, hK, hN⟩, hD0⟩ := hv
  have hx := B.exec
  have hb := B.bytes
  have hr := B.returns
  have hts := atoms_spec (ws := wsX6_appeal) B.pre
  have hown : s.vm.findClass RX6 = some m.cls := findClass_of_methodNamed B.named
  have hlocks := B.notSynchronized
  subst hsz
  have hD := hD0.self (sz := s.heap.size)
  generalize hAe : va_A [(ym, .inr (6, [.int (nI (sF σ)), .ref ymB, .int (nI (sN σ)), .ref ymU, .ref ymV, .ref ymR, .ref ymI, .ref ymE, .int (nI (sM σ)), .ref ymS, .ref ymT, .ref ymD, .int (nI (sC σ)), .ref ymQ, .ref ymP, .ref ymN, .int (nI (sG σ)), .ref ymO, .ref ymY, .ref ymZ, .ref ymX])), (ymB, .inl (cI, 7, .inl (rB σ))), (ymU, .inl (cI, 12, .inl (rMu σ))), (ymV, .inl (cI, 12, .inl (rMn σ))), (ymR, .inl (cI, 12, .inl (rRu σ))), (ymI, .inl (cZ, 12, .inl ir)), (ymE, .inl (cI, 12, .inl (rEr σ))), (ymS, .inl (cI, 90, .inl (rTs σ))), (ymT, .inl (cI, 90, .inl (rTn σ))), (ymD, .inl (cI, 30, .inl (rRd σ))), (ymQ, .inl (cI, 12, .inl (rCk σ))), (ymP, .inl (cI, 12, .inl (rCr σ))), (ymN, .inl (cI, 12, .inl (rCn σ))), (ymY, .inl (cI, 30, .inl ov)), (ymZ, .inl (cI, 4, .inl oz)), (ymX, .inl (cI, 30, .inl oc))] s.heap.size = A at hD ⊢
  have hA : ∀ q : Nat, s.heap.size ≤ q → A q := fun q h => by rw [← hAe]; exact Or.inr h
  have hS : va_S A s.heap s.heap [] := va_S.rf
  have ho := hok.1
  have hk2 := hok.k
  have hp2 : 1 ≤ 2 ^ sF σ := Nat.two_pow_pos _
  have hf73 := hts (.fieldLink RX6 73 "BallCourtModel" "moments" "I") (List.mem_of_getElem? (i := 1) (by decide +kernel))
  have hiX6 : ∀ w ∈ wsX60, w ∈ wsX6_appeal := fun w h => List.mem_cons_of_mem _ (List.mem_append_right _ h)
  have hf63 := hts (.fieldLink RX6 63 "BallCourtModel" "course" "[I") (List.mem_of_getElem? (i := 3) (by decide +kernel))
  have hf57 := hts (.fieldLink RX6 57 "BallCourtModel" "verdict" "[I") (List.mem_of_getElem? (i := 2) (by decide +kernel))
  have hl := lv_entry ([.ref ym, .int x, .int y]) (n := 4) (Nat.le_of_ble_eq_true rfl)
  rw [lg_entry_eq]
  generalize (lg_sl ([.ref ym, .int x, .int y]) ++ List.replicate (4 - (lg_sl ([.ref ym, .int x, .int y])).length) Slot.unset).toArray = ls at hl ⊢
  have hl : lv_has ls 4 [(0, .ref ym), (1, .int x), (2, .int y)] := hl
  refine lv_aload_n hx hb dX6_appeal_0 rfl (lv_at hl 0 rfl) ?_
  refine lv_iload_n hx hb dX6_appeal_1 rfl (lv_at hl 1 rfl) ?_
  refine xpV (rest := []) ⟨hx, hb, hml, hown, hts⟩ (c_X6_isMoment l D cI cZ ym ymB ymU ymV ymR ymI ymE ymS ymT ymD ymQ ymP ymN ymO ymY ymZ ymX σ x hok) (cwV 1 hts gX6_appeal_X6_isMoment rfl rfl rfl (by decide +kernel) ⟨Nat.le_of_ble_eq_true rfl, Nat.le_of_ble_eq_true rfl⟩) hP [0] rfl hK hN (ci := 6) (q0 := 0) rfl rfl rfl hl.1 rfl (Nat.le_of_ble_eq_true rfl) dX6_appeal_2 ⟨Nat.zero_le _, Nat.zero_le _⟩ (fun r2 e2 => ?_)
  subst e2
  refine lv_if_ne (tgt := 10) hx hb dX6_appeal_5 (by decide) (fun c5 => ?_) (fun c5 => ?_)
  · skip
    have c5 := b2_1 c5
    obtain ⟨q, hq, rfl⟩ := inN_t c5 (by omega)
    have kq := clp hq (show sM σ ≤ 128 by omega)
    refine lv_iload_n hx hb dX6_appeal_10 rfl (lv_at hl 2 rfl) ?_
    refine xpS (rest := []) ⟨hx, hb, hml, hown, hts⟩ (c_X6_isRuling l D cI cZ y) (va_cwS 1 hts gX6_appeal_X6_isRuling rfl rfl rfl (by decide +kernel) ⟨Nat.le_of_ble_eq_true rfl, Nat.le_of_ble_eq_true rfl⟩) hP [] rfl hK hN rfl hl.1 rfl (Nat.le_of_ble_eq_true rfl) dX6_appeal_11 ⟨Nat.zero_le _, Nat.zero_le _⟩ (fun r11 e11 => ?_)
    subst e11
    refine lv_if_ne (tgt := 20) hx hb dX6_appeal_14 (by decide) (fun c14 => ?_) (fun c14 => ?_)
    · skip
      have c14 := b2_1 c14
      refine lv_aload_n hx hb dX6_appeal_20 rfl (lv_at hl 0 rfl) ?_
      refine xwVv (rest := []) (wr := [(ymB, .inl (cI, 7, .inl (rB σ))), (ymU, .inl (cI, 12, .inl (rMu σ))), (ymV, .inl (cI, 12, .inl (rMn σ))), (ymR, .inl (cI, 12, .inl (rRu σ))), (ymI, .inl (cZ, 12, .inl ir)), (ymE, .inl (cI, 12, .inl (rEr σ))), (ymS, .inl (cI, 90, .inl (rTs σ))), (ymT, .inl (cI, 90, .inl (rTn σ))), (ymD, .inl (cI, 30, .inl (rRd σ))), (ymQ, .inl (cI, 12, .inl (rCk σ))), (ymP, .inl (cI, 12, .inl (rCr σ))), (ymN, .inl (cI, 12, .inl (rCn σ))), (ymY, .inl (cI, 30, .inl ov)), (ymX, .inl (cI, 30, .inl oc))]) ⟨hx, hb, hml, hown, hts⟩ (c_X6_begin l D cI cZ s.heap.size ym ymB ymU ymV ymR ymI ymE ymS ymT ymD ymQ ymP ymN ymO ymY ymZ ymX σ oz hok) (cwV 0 hts gX6_appeal_X6_begin rfl rfl rfl (by decide +kernel) ⟨Nat.le_of_ble_eq_true rfl, Nat.le_of_ble_eq_true rfl⟩) hP hD hS hA [0, 14] [1, 2, 3, 4, 5, 6, 7, 8, 9, 10, 11, 12, 13, 15] rfl rfl (by decide) (by decide) (by decide) hK hN (ci := 6) (q0 := 0) rfl rfl rfl hl.1 rfl (Nat.le_of_ble_eq_true rfl) dX6_appeal_21 ⟨Nat.zero_le _, Nat.zero_le _⟩ (fun u21 H locs e21 hP hD hS => ?_)
      obtain ⟨z0, rfl⟩ : ∃ z, z = u21 := ⟨_, rfl⟩
      have hP : va_P D vwCl [(ymB, .inl (cI, 7, .inl (rB σ))), (ymU, .inl (cI, 12, .inl (rMu σ))), (ymV, .inl (cI, 12, .inl (rMn σ))), (ymR, .inl (cI, 12, .inl (rRu σ))), (ymI, .inl (cZ, 12, .inl ir)), (ymE, .inl (cI, 12, .inl (rEr σ))), (ymS, .inl (cI, 90, .inl (rTs σ))), (ymT, .inl (cI, 90, .inl (rTn σ))), (ymD, .inl (cI, 30, .inl (rRd σ))), (ymQ, .inl (cI, 12, .inl (rCk σ))), (ymP, .inl (cI, 12, .inl (rCr σ))), (ymN, .inl (cI, 12, .inl (rCn σ))), (ymY, .inl (cI, 30, .inl ov)), (ymX, .inl (cI, 30, .inl oc)), (ym, .inr (6, [.int (nI (sF σ)), .ref ymB, .int (nI (sN σ)), .ref ymU, .ref ymV, .ref ymR, .ref ymI, .ref ymE, .int (nI (sM σ)), .ref ymS, .ref ymT, .ref ymD, .int (nI (sC σ)), .ref ymQ, .ref ymP, .ref ymN, .int (nI (sG σ)), .ref ymO, .ref ymY, .ref ymZ, .ref ymX])), (ymZ, .inl (cI, 4, .inl z0))] H := hP
      have hD : va_D A [(ymB, .inl (cI, 7, .inl (rB σ))), (ymU, .inl (cI, 12, .inl (rMu σ))), (ymV, .inl (cI, 12, .inl (rMn σ))), (ymR, .inl (cI, 12, .inl (rRu σ))), (ymI, .inl (cZ, 12, .inl ir)), (ymE, .inl (cI, 12, .inl (rEr σ))), (ymS, .inl (cI, 90, .inl (rTs σ))), (ymT, .inl (cI, 90, .inl (rTn σ))), (ymD, .inl (cI, 30, .inl (rRd σ))), (ymQ, .inl (cI, 12, .inl (rCk σ))), (ymP, .inl (cI, 12, .inl (rCr σ))), (ymN, .inl (cI, 12, .inl (rCn σ))), (ymY, .inl (cI, 30, .inl ov)), (ymX, .inl (cI, 30, .inl oc)), (ym, .inr (6, [.int (nI (sF σ)), .ref ymB, .int (nI (sN σ)), .ref ymU, .ref ymV, .ref ymR, .ref ymI, .ref ymE, .int (nI (sM σ)), .ref ymS, .ref ymT, .ref ymD, .int (nI (sC σ)), .ref ymQ, .ref ymP, .ref ymN, .int (nI (sG σ)), .ref ymO, .ref ymY, .ref ymZ, .ref ymX])), (ymZ, .inl (cI, 4, .inl z0))] := hD
      refine lv_iconst (v := nI 0) hx hb dX6_appeal_24 (by decide) ?_
      refine lv_istore_n (lv' := [(3, .int (nI 0)), (0, .ref ym), (1, .int (nI q)), (2, .int y)]) hx hb dX6_appeal_25 rfl hl (by decide) rfl (fun ls hl => ?_)
      refine wloopW (α := Nat × (Nat → Int32) × (Nat → Int32) × (Nat → Int32)) (fun v => sM σ - v.1) (fun v => [(ymB, .inl (cI, 7, .inl (rB σ))), (ymU, .inl (cI, 12, .inl (rMu σ))), (ymV, .inl (cI, 12, .inl (rMn σ))), (ymR, .inl (cI, 12, .inl (rRu σ))), (ymI, .inl (cZ, 12, .inl ir)), (ymE, .inl (cI, 12, .inl (rEr σ))), (ymS, .inl (cI, 90, .inl (rTs σ))), (ymT, .inl (cI, 90, .inl (rTn σ))), (ymD, .inl (cI, 30, .inl (rRd σ))), (ymQ, .inl (cI, 12, .inl (rCk σ))), (ymP, .inl (cI, 12, .inl (rCr σ))), (ymN, .inl (cI, 12, .inl (rCn σ))), (ymY, .inl (cI, 30, .inl v.2.2.1)), (ymX, .inl (cI, 30, .inl v.2.2.2)), (ym, .inr (6, [.int (nI (sF σ)), .ref ymB, .int (nI (sN σ)), .ref ymU, .ref ymV, .ref ymR, .ref ymI, .ref ymE, .int (nI (sM σ)), .ref ymS, .ref ymT, .ref ymD, .int (nI (sC σ)), .ref ymQ, .ref ymP, .ref ymN, .int (nI (sG σ)), .ref ymO, .ref ymY, .ref ymZ, .ref ymX])), (ymZ, .inl (cI, 4, .inl v.2.1))]) (fun v => [(0, .ref ym), (1, .int (nI q)), (2, .int y), (3, .int (nI v.1))]) (fun v => (v.1 ≤ sM σ) ∧ (stR (sG σ) (grn σ v.1) v.2.1) ∧ (∀ j, j < v.1 → v.2.2.1 j = verI σ (sR σ) j) ∧ (∀ j, j < v.1 → v.2.2.2 j = pkI (sG σ) (grn σ (j + 1)))) 4 (fun v hv ih26 H locs hP hD hS ls hl => ?_) (0, z0, ov, oc) ⟨(show 0 ≤ sM σ from Nat.zero_le _), (show stR (sG σ) (grn σ 0) z0 from e21), (show ∀ j, j < 0 → ov j = verI σ (sR σ) j from fun j hj => absurd hj (Nat.not_lt_zero _)), (show ∀ j, j < 0 → oc j = pkI (sG σ) (grn σ (j + 1)) from fun j hj => absurd hj (Nat.not_lt_zero _))⟩ hP hD hS ls (lv_sub hl [1, 2, 3, 0] rfl)
      obtain ⟨i, z, ry, rx⟩ := v
      obtain ⟨hi, hz, hy, hxx⟩ := hv
      have hi : i ≤ sM σ := hi
      have hz : stR (sG σ) (grn σ i) z := hz
      have hy : ∀ j, j < i → ry j = verI σ (sR σ) j := hy
      have hxx : ∀ j, j < i → rx j = pkI (sG σ) (grn σ (j + 1)) := hxx
      have hl : lv_has ls 4 [(0, .ref ym), (1, .int (nI q)), (2, .int y), (3, .int (nI i))] := hl
      have hP : va_P D vwCl [(ymB, .inl (cI, 7, .inl (rB σ))), (ymU, .inl (cI, 12, .inl (rMu σ))), (ymV, .inl (cI, 12, .inl (rMn σ))), (ymR, .inl (cI, 12, .inl (rRu σ))), (ymI, .inl (cZ, 12, .inl ir)), (ymE, .inl (cI, 12, .inl (rEr σ))), (ymS, .inl (cI, 90, .inl (rTs σ))), (ymT, .inl (cI, 90, .inl (rTn σ))), (ymD, .inl (cI, 30, .inl (rRd σ))), (ymQ, .inl (cI, 12, .inl (rCk σ))), (ymP, .inl (cI, 12, .inl (rCr σ))), (ymN, .inl (cI, 12, .inl (rCn σ))), (ymY, .inl (cI, 30, .inl ry)), (ymX, .inl (cI, 30, .inl rx)), (ym, .inr (6, [.int (nI (sF σ)), .ref ymB, .int (nI (sN σ)), .ref ymU, .ref ymV, .ref ymR, .ref ymI, .ref ymE, .int (nI (sM σ)), .ref ymS, .ref ymT, .ref ymD, .int (nI (sC σ)), .ref ymQ, .ref ymP, .ref ymN, .int (nI (sG σ)), .ref ymO, .ref ymY, .ref ymZ, .ref ymX])), (ymZ, .inl (cI, 4, .inl z))] H := hP
      have hD : va_D A [(ymB, .inl (cI, 7, .inl (rB σ))), (ymU, .inl (cI, 12, .inl (rMu σ))), (ymV, .inl (cI, 12, .inl (rMn σ))), (ymR, .inl (cI, 12, .inl (rRu σ))), (ymI, .inl (cZ, 12, .inl ir)), (ymE, .inl (cI, 12, .inl (rEr σ))), (ymS, .inl (cI, 90, .inl (rTs σ))), (ymT, .inl (cI, 90, .inl (rTn σ))), (ymD, .inl (cI, 30, .inl (rRd σ))), (ymQ, .inl (cI, 12, .inl (rCk σ))), (ymP, .inl (cI, 12, .inl (rCr σ))), (ymN, .inl (cI, 12, .inl (rCn σ))), (ymY, .inl (cI, 30, .inl ry)), (ymX, .inl (cI, 30, .inl rx)), (ym, .inr (6, [.int (nI (sF σ)), .ref ymB, .int (nI (sN σ)), .ref ymU, .ref ymV, .ref ymR, .ref ymI, .ref ymE, .int (nI (sM σ)), .ref ymS, .ref ymT, .ref ymD, .int (nI (sC σ)), .ref ymQ, .ref ymP, .ref ymN, .int (nI (sG σ)), .ref ymO, .ref ymY, .ref ymZ, .ref ymX])), (ymZ, .inl (cI, 4, .inl z))] := hD
      refine lv_iload_n hx hb dX6_appeal_26 rfl (lv_at hl 3 rfl) ?_
      refine lv_aload_n hx hb dX6_appeal_27 rfl (lv_at hl 0 rfl) ?_
      refine va_get (D := D) (ci := 6) (v := .int (nI (sM σ))) (C := RX6) (T := TX6) (N := 21) hx hb hts hiX6 hown hK hP 14 rfl rfl 8 (by decide) hf73 (fun _ h9 => h9) rfl dX6_appeal_28 ?_
      refine lv_icmp_ge (tgt := 71) hx hb dX6_appeal_31 (by decide) (fun c31 => ?_) (fun c31 => ?_)
      · skip
        have c31 := (nI_leI (by omega) (by omega)).mp c31
        refine lv_aload_n hx hb dX6_appeal_71 rfl (lv_at hl 0 rfl) ?_
        refine xwVv (rest := []) (wr := [(ymB, .inl (cI, 7, .inl (rB σ))), (ymU, .inl (cI, 12, .inl (rMu σ))), (ymV, .inl (cI, 12, .inl (rMn σ))), (ymR, .inl (cI, 12, .inl (rRu σ))), (ymI, .inl (cZ, 12, .inl ir)), (ymE, .inl (cI, 12, .inl (rEr σ))), (ymS, .inl (cI, 90, .inl (rTs σ))), (ymT, .inl (cI, 90, .inl (rTn σ))), (ymD, .inl (cI, 30, .inl (rRd σ))), (ymQ, .inl (cI, 12, .inl (rCk σ))), (ymP, .inl (cI, 12, .inl (rCr σ))), (ymN, .inl (cI, 12, .inl (rCn σ))), (ymY, .inl (cI, 30, .inl ry)), (ymX, .inl (cI, 30, .inl rx))]) ⟨hx, hb, hml, hown, hts⟩ (c_X6_begin l D cI cZ H.size ym ymB ymU ymV ymR ymI ymE ymS ymT ymD ymQ ymP ymN ymO ymY ymZ ymX σ z hok) (cwV 0 hts gX6_appeal_X6_begin rfl rfl rfl (by decide +kernel) ⟨Nat.le_of_ble_eq_true rfl, Nat.le_of_ble_eq_true rfl⟩) hP hD hS hA [14, 15] [0, 1, 2, 3, 4, 5, 6, 7, 8, 9, 10, 11, 12, 13] rfl rfl (by decide) (by decide) (by decide) hK hN (ci := 6) (q0 := 14) rfl rfl rfl hl.1 rfl (Nat.le_of_ble_eq_true rfl) dX6_appeal_72 ⟨Nat.zero_le _, Nat.zero_le _⟩ (fun u72 H locs e72 hP hD hS => ?_)
        obtain ⟨z3, rfl⟩ : ∃ z, z = u72 := ⟨_, rfl⟩
        have hP : va_P D vwCl [(ymB, .inl (cI, 7, .inl (rB σ))), (ymU, .inl (cI, 12, .inl (rMu σ))), (ymV, .inl (cI, 12, .inl (rMn σ))), (ymR, .inl (cI, 12, .inl (rRu σ))), (ymI, .inl (cZ, 12, .inl ir)), (ymE, .inl (cI, 12, .inl (rEr σ))), (ymS, .inl (cI, 90, .inl (rTs σ))), (ymT, .inl (cI, 90, .inl (rTn σ))), (ymD, .inl (cI, 30, .inl (rRd σ))), (ymQ, .inl (cI, 12, .inl (rCk σ))), (ymP, .inl (cI, 12, .inl (rCr σ))), (ymN, .inl (cI, 12, .inl (rCn σ))), (ymY, .inl (cI, 30, .inl ry)), (ymX, .inl (cI, 30, .inl rx)), (ym, .inr (6, [.int (nI (sF σ)), .ref ymB, .int (nI (sN σ)), .ref ymU, .ref ymV, .ref ymR, .ref ymI, .ref ymE, .int (nI (sM σ)), .ref ymS, .ref ymT, .ref ymD, .int (nI (sC σ)), .ref ymQ, .ref ymP, .ref ymN, .int (nI (sG σ)), .ref ymO, .ref ymY, .ref ymZ, .ref ymX])), (ymZ, .inl (cI, 4, .inl z3))] H := hP
        have hD : va_D A [(ymB, .inl (cI, 7, .inl (rB σ))), (ymU, .inl (cI, 12, .inl (rMu σ))), (ymV, .inl (cI, 12, .inl (rMn σ))), (ymR, .inl (cI, 12, .inl (rRu σ))), (ymI, .inl (cZ, 12, .inl ir)), (ymE, .inl (cI, 12, .inl (rEr σ))), (ymS, .inl (cI, 90, .inl (rTs σ))), (ymT, .inl (cI, 90, .inl (rTn σ))), (ymD, .inl (cI, 30, .inl (rRd σ))), (ymQ, .inl (cI, 12, .inl (rCk σ))), (ymP, .inl (cI, 12, .inl (rCr σ))), (ymN, .inl (cI, 12, .inl (rCn σ))), (ymY, .inl (cI, 30, .inl ry)), (ymX, .inl (cI, 30, .inl rx)), (ym, .inr (6, [.int (nI (sF σ)), .ref ymB, .int (nI (sN σ)), .ref ymU, .ref ymV, .ref ymR, .ref ymI, .ref ymE, .int (nI (sM σ)), .ref ymS, .ref ymT, .ref ymD, .int (nI (sC σ)), .ref ymQ, .ref ymP, .ref ymN, .int (nI (sG σ)), .ref ymO, .ref ymY, .ref ymZ, .ref ymX])), (ymZ, .inl (cI, 4, .inl z3))] := hD
        refine lv_iconst (v := nI 0) hx hb dX6_appeal_75 (by decide) ?_
        refine lv_istore_n (lv' := [(3, .int (nI 0)), (0, .ref ym), (1, .int (nI q)), (2, .int y)]) hx hb dX6_appeal_76 rfl hl (by decide) rfl (fun ls hl => ?_)
        refine wloopW (α := Nat × (Nat → Int32)) (fun v => sM σ - v.1) (fun v => [(ymB, .inl (cI, 7, .inl (rB σ))), (ymU, .inl (cI, 12, .inl (rMu σ))), (ymV, .inl (cI, 12, .inl (rMn σ))), (ymR, .inl (cI, 12, .inl (rRu σ))), (ymI, .inl (cZ, 12, .inl ir)), (ymE, .inl (cI, 12, .inl (rEr σ))), (ymS, .inl (cI, 90, .inl (rTs σ))), (ymT, .inl (cI, 90, .inl (rTn σ))), (ymD, .inl (cI, 30, .inl (rRd σ))), (ymQ, .inl (cI, 12, .inl (rCk σ))), (ymP, .inl (cI, 12, .inl (rCr σ))), (ymN, .inl (cI, 12, .inl (rCn σ))), (ymY, .inl (cI, 30, .inl ry)), (ymX, .inl (cI, 30, .inl rx)), (ym, .inr (6, [.int (nI (sF σ)), .ref ymB, .int (nI (sN σ)), .ref ymU, .ref ymV, .ref ymR, .ref ymI, .ref ymE, .int (nI (sM σ)), .ref ymS, .ref ymT, .ref ymD, .int (nI (sC σ)), .ref ymQ, .ref ymP, .ref ymN, .int (nI (sG σ)), .ref ymO, .ref ymY, .ref ymZ, .ref ymX])), (ymZ, .inl (cI, 4, .inl v.2))]) (fun v => [(0, .ref ym), (1, .int (nI q)), (2, .int y), (3, .int (nI v.1))]) (fun v => (v.1 ≤ sM σ) ∧ (stR (sG σ) (grA σ q y v.1) v.2) ∧ (∀ j, j < v.1 → apq σ q y j = false)) 4 (fun v hv ih77 H locs hP hD hS ls hl => ?_) (0, z3) ⟨(show 0 ≤ sM σ from Nat.zero_le _), (show stR (sG σ) (grA σ q y 0) z3 from e72), (show ∀ j, j < 0 → apq σ q y j = false from fun j hj => absurd hj (Nat.not_lt_zero _))⟩ hP hD hS ls (lv_sub hl [1, 2, 3, 0] rfl)
        obtain ⟨k, z4⟩ := v
        obtain ⟨hk, hz4, hn⟩ := hv
        have hk : k ≤ sM σ := hk
        have hz4 : stR (sG σ) (grA σ q y k) z4 := hz4
        have hn : ∀ j, j < k → apq σ q y j = false := hn
        have hl : lv_has ls 4 [(0, .ref ym), (1, .int (nI q)), (2, .int y), (3, .int (nI k))] := hl
        have hP : va_P D vwCl [(ymB, .inl (cI, 7, .inl (rB σ))), (ymU, .inl (cI, 12, .inl (rMu σ))), (ymV, .inl (cI, 12, .inl (rMn σ))), (ymR, .inl (cI, 12, .inl (rRu σ))), (ymI, .inl (cZ, 12, .inl ir)), (ymE, .inl (cI, 12, .inl (rEr σ))), (ymS, .inl (cI, 90, .inl (rTs σ))), (ymT, .inl (cI, 90, .inl (rTn σ))), (ymD, .inl (cI, 30, .inl (rRd σ))), (ymQ, .inl (cI, 12, .inl (rCk σ))), (ymP, .inl (cI, 12, .inl (rCr σ))), (ymN, .inl (cI, 12, .inl (rCn σ))), (ymY, .inl (cI, 30, .inl ry)), (ymX, .inl (cI, 30, .inl rx)), (ym, .inr (6, [.int (nI (sF σ)), .ref ymB, .int (nI (sN σ)), .ref ymU, .ref ymV, .ref ymR, .ref ymI, .ref ymE, .int (nI (sM σ)), .ref ymS, .ref ymT, .ref ymD, .int (nI (sC σ)), .ref ymQ, .ref ymP, .ref ymN, .int (nI (sG σ)), .ref ymO, .ref ymY, .ref ymZ, .ref ymX])), (ymZ, .inl (cI, 4, .inl z4))] H := hP
        have hD : va_D A [(ymB, .inl (cI, 7, .inl (rB σ))), (ymU, .inl (cI, 12, .inl (rMu σ))), (ymV, .inl (cI, 12, .inl (rMn σ))), (ymR, .inl (cI, 12, .inl (rRu σ))), (ymI, .inl (cZ, 12, .inl ir)), (ymE, .inl (cI, 12, .inl (rEr σ))), (ymS, .inl (cI, 90, .inl (rTs σ))), (ymT, .inl (cI, 90, .inl (rTn σ))), (ymD, .inl (cI, 30, .inl (rRd σ))), (ymQ, .inl (cI, 12, .inl (rCk σ))), (ymP, .inl (cI, 12, .inl (rCr σ))), (ymN, .inl (cI, 12, .inl (rCn σ))), (ymY, .inl (cI, 30, .inl ry)), (ymX, .inl (cI, 30, .inl rx)), (ym, .inr (6, [.int (nI (sF σ)), .ref ymB, .int (nI (sN σ)), .ref ymU, .ref ymV, .ref ymR, .ref ymI, .ref ymE, .int (nI (sM σ)), .ref ymS, .ref ymT, .ref ymD, .int (nI (sC σ)), .ref ymQ, .ref ymP, .ref ymN, .int (nI (sG σ)), .ref ymO, .ref ymY, .ref ymZ, .ref ymX])), (ymZ, .inl (cI, 4, .inl z4))] := hD
        refine lv_iload_n hx hb dX6_appeal_77 rfl (lv_at hl 3 rfl) ?_
        refine lv_aload_n hx hb dX6_appeal_78 rfl (lv_at hl 0 rfl) ?_
        refine va_get (D := D) (ci := 6) (v := .int (nI (sM σ))) (C := RX6) (T := TX6) (N := 21) hx hb hts hiX6 hown hK hP 14 rfl rfl 8 (by decide) hf73 (fun _ h9 => h9) rfl dX6_appeal_79 ?_
        refine lv_icmp_ge (tgt := 125) hx hb dX6_appeal_82 (by decide) (fun c82 => ?_) (fun c82 => ?_)
        · skip
          have c82 := (nI_leI (by omega) (by omega)).mp c82
          refine lv_bipush (v := (-6)) hx hb dX6_appeal_125 (by decide) ?_
          have hP9 := hP.sub (ws' := [(ym, .inr (6, [.int (nI (sF σ)), .ref ymB, .int (nI (sN σ)), .ref ymU, .ref ymV, .ref ymR, .ref ymI, .ref ymE, .int (nI (sM σ)), .ref ymS, .ref ymT, .ref ymD, .int (nI (sC σ)), .ref ymQ, .ref ymP, .ref ymN, .int (nI (sG σ)), .ref ymO, .ref ymY, .ref ymZ, .ref ymX])), (ymB, .inl (cI, 7, .inl (rB σ))), (ymU, .inl (cI, 12, .inl (rMu σ))), (ymV, .inl (cI, 12, .inl (rMn σ))), (ymR, .inl (cI, 12, .inl (rRu σ))), (ymI, .inl (cZ, 12, .inl ir)), (ymE, .inl (cI, 12, .inl (rEr σ))), (ymS, .inl (cI, 90, .inl (rTs σ))), (ymT, .inl (cI, 90, .inl (rTn σ))), (ymD, .inl (cI, 30, .inl (rRd σ))), (ymQ, .inl (cI, 12, .inl (rCk σ))), (ymP, .inl (cI, 12, .inl (rCr σ))), (ymN, .inl (cI, 12, .inl (rCn σ))), (ymY, .inl (cI, 30, .inl ry)), (ymZ, .inl (cI, 4, .inl z4)), (ymX, .inl (cI, 30, .inl rx))]) [14, 0, 1, 2, 3, 4, 5, 6, 7, 8, 9, 10, 11, 12, 15, 13] rfl
          have hD9 := hD.sub (ws' := [(ym, .inr (6, [.int (nI (sF σ)), .ref ymB, .int (nI (sN σ)), .ref ymU, .ref ymV, .ref ymR, .ref ymI, .ref ymE, .int (nI (sM σ)), .ref ymS, .ref ymT, .ref ymD, .int (nI (sC σ)), .ref ymQ, .ref ymP, .ref ymN, .int (nI (sG σ)), .ref ymO, .ref ymY, .ref ymZ, .ref ymX])), (ymB, .inl (cI, 7, .inl (rB σ))), (ymU, .inl (cI, 12, .inl (rMu σ))), (ymV, .inl (cI, 12, .inl (rMn σ))), (ymR, .inl (cI, 12, .inl (rRu σ))), (ymI, .inl (cZ, 12, .inl ir)), (ymE, .inl (cI, 12, .inl (rEr σ))), (ymS, .inl (cI, 90, .inl (rTs σ))), (ymT, .inl (cI, 90, .inl (rTn σ))), (ymD, .inl (cI, 30, .inl (rRd σ))), (ymQ, .inl (cI, 12, .inl (rCk σ))), (ymP, .inl (cI, 12, .inl (rCr σ))), (ymN, .inl (cI, 12, .inl (rCn σ))), (ymY, .inl (cI, 30, .inl ry)), (ymZ, .inl (cI, 4, .inl z4)), (ymX, .inl (cI, 30, .inl rx))]) [14, 0, 1, 2, 3, 4, 5, 6, 7, 8, 9, 10, 11, 12, 15, 13] (by decide) rfl
          exact W.iret (v := (-6)) hx hb hr (fun t ht hW => ⟨⟨(-6), (ry, z4, rx), rfl, (by rw [oAppeal, if_neg (by rw [c5]; decide), if_neg (by rw [c14]; decide), kq, apN, fst_no (fun j hj => hn j (by omega)), if_neg (Nat.lt_irrefl _)]), ⟨⟨by rw [ht]; exact hP9, va_K.moved hW.alike hK, NW.warm hW hN⟩, hD9⟩⟩, hS.F ht⟩) hS.2.2 dX6_appeal_127
        · skip
          have c82 := Nat.lt_of_not_le (fun z => c82 ((nI_leI (by omega) (by omega)).mpr z))
          refine lv_aload_n hx hb dX6_appeal_85 rfl (lv_at hl 0 rfl) ?_
          refine wjoin (pcJ := 101) (lv := [(0, .ref ym), (1, .int (nI q)), (2, .int y), (3, .int (nI k))]) (nL := 4) (st := [.int (if k = q then y else verI σ (sR σ) k), .ref ym]) (fun ls hl => ?_) (fun J101 => ?_)
          · skip
            refine xwVv (rest := []) (wr := [(ymB, .inl (cI, 7, .inl (rB σ))), (ymU, .inl (cI, 12, .inl (rMu σ))), (ymV, .inl (cI, 12, .inl (rMn σ))), (ymR, .inl (cI, 12, .inl (rRu σ))), (ymI, .inl (cZ, 12, .inl ir)), (ymE, .inl (cI, 12, .inl (rEr σ))), (ymS, .inl (cI, 90, .inl (rTs σ))), (ymT, .inl (cI, 90, .inl (rTn σ))), (ymD, .inl (cI, 30, .inl (rRd σ))), (ymQ, .inl (cI, 12, .inl (rCk σ))), (ymP, .inl (cI, 12, .inl (rCr σ))), (ymN, .inl (cI, 12, .inl (rCn σ))), (ymY, .inl (cI, 30, .inl ry)), (ymX, .inl (cI, 30, .inl rx))]) ⟨hx, hb, hml, hown, hts⟩ (c_X6_play l D cI cZ H.size ym ymB ymU ymV ymR ymI ymE ymS ymT ymD ymQ ymP ymN ymO ymY ymZ ymX σ z4 ((grA σ q y k).1) ((grA σ q y k).2.1) ((grA σ q y k).2.2) (if k = q then y else verI σ (sR σ) k) hok hz4 (by have := grA_le σ q y k; omega)) (cwV 1 hts gX6_appeal_X6_play rfl rfl rfl (by decide +kernel) ⟨Nat.le_of_ble_eq_true rfl, Nat.le_of_ble_eq_true rfl⟩) hP hD hS hA [14, 15] [0, 1, 2, 3, 4, 5, 6, 7, 8, 9, 10, 11, 12, 13] rfl rfl (by decide) (by decide) (by decide) hK hN (ci := 6) (q0 := 14) rfl rfl rfl hl.1 rfl (Nat.le_of_ble_eq_true rfl) dX6_appeal_101 ⟨Nat.zero_le _, Nat.zero_le _⟩ (fun u101 H locs e101 hP hD hS => ?_)
            obtain ⟨z5, rfl⟩ : ∃ z, z = u101 := ⟨_, rfl⟩
            have hP : va_P D vwCl [(ymB, .inl (cI, 7, .inl (rB σ))), (ymU, .inl (cI, 12, .inl (rMu σ))), (ymV, .inl (cI, 12, .inl (rMn σ))), (ymR, .inl (cI, 12, .inl (rRu σ))), (ymI, .inl (cZ, 12, .inl ir)), (ymE, .inl (cI, 12, .inl (rEr σ))), (ymS, .inl (cI, 90, .inl (rTs σ))), (ymT, .inl (cI, 90, .inl (rTn σ))), (ymD, .inl (cI, 30, .inl (rRd σ))), (ymQ, .inl (cI, 12, .inl (rCk σ))), (ymP, .inl (cI, 12, .inl (rCr σ))), (ymN, .inl (cI, 12, .inl (rCn σ))), (ymY, .inl (cI, 30, .inl ry)), (ymX, .inl (cI, 30, .inl rx)), (ym, .inr (6, [.int (nI (sF σ)), .ref ymB, .int (nI (sN σ)), .ref ymU, .ref ymV, .ref ymR, .ref ymI, .ref ymE, .int (nI (sM σ)), .ref ymS, .ref ymT, .ref ymD, .int (nI (sC σ)), .ref ymQ, .ref ymP, .ref ymN, .int (nI (sG σ)), .ref ymO, .ref ymY, .ref ymZ, .ref ymX])), (ymZ, .inl (cI, 4, .inl z5))] H := hP
            have hD : va_D A [(ymB, .inl (cI, 7, .inl (rB σ))), (ymU, .inl (cI, 12, .inl (rMu σ))), (ymV, .inl (cI, 12, .inl (rMn σ))), (ymR, .inl (cI, 12, .inl (rRu σ))), (ymI, .inl (cZ, 12, .inl ir)), (ymE, .inl (cI, 12, .inl (rEr σ))), (ymS, .inl (cI, 90, .inl (rTs σ))), (ymT, .inl (cI, 90, .inl (rTn σ))), (ymD, .inl (cI, 30, .inl (rRd σ))), (ymQ, .inl (cI, 12, .inl (rCk σ))), (ymP, .inl (cI, 12, .inl (rCr σ))), (ymN, .inl (cI, 12, .inl (rCn σ))), (ymY, .inl (cI, 30, .inl ry)), (ymX, .inl (cI, 30, .inl rx)), (ym, .inr (6, [.int (nI (sF σ)), .ref ymB, .int (nI (sN σ)), .ref ymU, .ref ymV, .ref ymR, .ref ymI, .ref ymE, .int (nI (sM σ)), .ref ymS, .ref ymT, .ref ymD, .int (nI (sC σ)), .ref ymQ, .ref ymP, .ref ymN, .int (nI (sG σ)), .ref ymO, .ref ymY, .ref ymZ, .ref ymX])), (ymZ, .inl (cI, 4, .inl z5))] := hD
            have hz5 : stR (sG σ) (grA σ q y (k + 1)) z5 := e101
            refine lv_aload_n hx hb dX6_appeal_104 rfl (lv_at hl 0 rfl) ?_
            refine xpV (rest := []) ⟨hx, hb, hml, hown, hts⟩ (c_X6_packed l D cI cZ ym ymB ymU ymV ymR ymI ymE ymS ymT ymD ymQ ymP ymN ymO ymY ymZ ymX σ z5 ((grA σ q y (k + 1)).1) ((grA σ q y (k + 1)).2.1) ((grA σ q y (k + 1)).2.2) hz5) (cwV 0 hts gX6_appeal_X6_packed rfl rfl rfl (by decide +kernel) ⟨Nat.le_of_ble_eq_true rfl, Nat.le_of_ble_eq_true rfl⟩) hP [14, 15] rfl hK hN (ci := 6) (q0 := 14) rfl rfl rfl hl.1 rfl (Nat.le_of_ble_eq_true rfl) dX6_appeal_105 ⟨Nat.zero_le _, Nat.zero_le _⟩ (fun r105 e105 => ?_)
            subst e105
            refine lv_asi (show pkI (sG σ) (((grA σ q y (k + 1)).1), ((grA σ q y (k + 1)).2.1), ((grA σ q y (k + 1)).2.2)) = pkI (sG σ) (grA σ q y (k + 1)) from rfl) ?_
            refine lv_aload_n hx hb dX6_appeal_108 rfl (lv_at hl 0 rfl) ?_
            refine va_get (D := D) (ci := 6) (v := .ref ymX) (C := RX6) (T := TX6) (N := 21) hx hb hts hiX6 hown hK hP 14 rfl rfl 20 (by decide) hf63 (fun _ h9 => h9) rfl dX6_appeal_109 ?_
            refine lv_iload_n hx hb dX6_appeal_112 rfl (lv_at hl 3 rfl) ?_
            refine xald (k := k) hx hb hK hP 13 rfl (by omega) (by decide) dX6_appeal_113 ?_
            refine lv_asi (show rx k = pkI (sG σ) (grn σ (k + 1)) from hxx k (by omega)) ?_
            refine lv_icmp_eq (tgt := 119) hx hb dX6_appeal_114 (by decide) (fun c114 => ?_) (fun c114 => ?_)
            · skip
              have c114 : grn σ (k + 1) = grA σ q y (k + 1) := ((pk_inj (by have := grA_le σ q y (k + 1); omega) (by have := grn_le σ (k + 1); omega)).mp c114).symm
              refine lv_iinc (k := 3) (x := nI k) (v := nI (k + 1)) (lv' := [(3, .int (nI (k + 1))), (0, .ref ym), (1, .int (nI q)), (2, .int y)]) hx hb dX6_appeal_119 hl rfl (show (nI k) + Int32.ofInt 1 = nI (k + 1) from nI_1 _) (by decide) rfl (fun ls hl => ?_)
              refine lv_goto (tgt := 77) hx hb dX6_appeal_122 (by decide) ?_
              exact ih77 (k + 1, z5) ⟨(show (k + 1) ≤ sM σ from (by omega)), (show stR (sG σ) (grA σ q y (k + 1)) z5 from hz5), (show ∀ j, j < (k + 1) → apq σ q y j = false from lt_s hn (by rw [apq, decide_eq_true c114]; rfl))⟩ (by show sM σ - (k + 1) < sM σ - k; omega) _ _ hP hD hS ls (lv_sub hl [1, 2, 3, 0] rfl)
            · skip
              have c114 : ¬ grn σ (k + 1) = grA σ q y (k + 1) := fun z => c114 (by rw [z])
              refine lv_iload_n hx hb dX6_appeal_117 rfl (lv_at hl 3 rfl) ?_
              have hP9 := hP.sub (ws' := [(ym, .inr (6, [.int (nI (sF σ)), .ref ymB, .int (nI (sN σ)), .ref ymU, .ref ymV, .ref ymR, .ref ymI, .ref ymE, .int (nI (sM σ)), .ref ymS, .ref ymT, .ref ymD, .int (nI (sC σ)), .ref ymQ, .ref ymP, .ref ymN, .int (nI (sG σ)), .ref ymO, .ref ymY, .ref ymZ, .ref ymX])), (ymB, .inl (cI, 7, .inl (rB σ))), (ymU, .inl (cI, 12, .inl (rMu σ))), (ymV, .inl (cI, 12, .inl (rMn σ))), (ymR, .inl (cI, 12, .inl (rRu σ))), (ymI, .inl (cZ, 12, .inl ir)), (ymE, .inl (cI, 12, .inl (rEr σ))), (ymS, .inl (cI, 90, .inl (rTs σ))), (ymT, .inl (cI, 90, .inl (rTn σ))), (ymD, .inl (cI, 30, .inl (rRd σ))), (ymQ, .inl (cI, 12, .inl (rCk σ))), (ymP, .inl (cI, 12, .inl (rCr σ))), (ymN, .inl (cI, 12, .inl (rCn σ))), (ymY, .inl (cI, 30, .inl ry)), (ymZ, .inl (cI, 4, .inl z5)), (ymX, .inl (cI, 30, .inl rx))]) [14, 0, 1, 2, 3, 4, 5, 6, 7, 8, 9, 10, 11, 12, 15, 13] rfl
              have hD9 := hD.sub (ws' := [(ym, .inr (6, [.int (nI (sF σ)), .ref ymB, .int (nI (sN σ)), .ref ymU, .ref ymV, .ref ymR, .ref ymI, .ref ymE, .int (nI (sM σ)), .ref ymS, .ref ymT, .ref ymD, .int (nI (sC σ)), .ref ymQ, .ref ymP, .ref ymN, .int (nI (sG σ)), .ref ymO, .ref ymY, .ref ymZ, .ref ymX])), (ymB, .inl (cI, 7, .inl (rB σ))), (ymU, .inl (cI, 12, .inl (rMu σ))), (ymV, .inl (cI, 12, .inl (rMn σ))), (ymR, .inl (cI, 12, .inl (rRu σ))), (ymI, .inl (cZ, 12, .inl ir)), (ymE, .inl (cI, 12, .inl (rEr σ))), (ymS, .inl (cI, 90, .inl (rTs σ))), (ymT, .inl (cI, 90, .inl (rTn σ))), (ymD, .inl (cI, 30, .inl (rRd σ))), (ymQ, .inl (cI, 12, .inl (rCk σ))), (ymP, .inl (cI, 12, .inl (rCr σ))), (ymN, .inl (cI, 12, .inl (rCn σ))), (ymY, .inl (cI, 30, .inl ry)), (ymZ, .inl (cI, 4, .inl z5)), (ymX, .inl (cI, 30, .inl rx))]) [14, 0, 1, 2, 3, 4, 5, 6, 7, 8, 9, 10, 11, 12, 15, 13] (by decide) rfl
              exact W.iret (v := nI k) hx hb hr (fun t ht hW => ⟨⟨nI k, (ry, z5, rx), rfl, (by rw [oAppeal, if_neg (by rw [c5]; decide), if_neg (by rw [c14]; decide), kq, apN, fst_at (by rw [apq, decide_eq_false c114]; rfl) hn c82, if_pos c82]), ⟨⟨by rw [ht]; exact hP9, va_K.moved hW.alike hK, NW.warm hW hN⟩, hD9⟩⟩, hS.F ht⟩) hS.2.2 dX6_appeal_118
          · skip
            refine lv_iload_n hx hb dX6_appeal_86 rfl (lv_at hl 3 rfl) ?_
            refine lv_iload_n hx hb dX6_appeal_87 rfl (lv_at hl 1 rfl) ?_
            refine lv_icmp_ne (tgt := 95) hx hb dX6_appeal_88 (by decide) (fun c88 => ?_) (fun c88 => ?_)
            · skip
              have c88 := mt (nI_eq (by omega) (by omega)).mpr c88
              refine lv_aload_n hx hb dX6_appeal_95 rfl (lv_at hl 0 rfl) ?_
              refine va_get (D := D) (ci := 6) (v := .ref ymY) (C := RX6) (T := TX6) (N := 21) hx hb hts hiX6 hown hK hP 14 rfl rfl 18 (by decide) hf57 (fun _ h9 => h9) rfl dX6_appeal_96 ?_
              refine lv_iload_n hx hb dX6_appeal_99 rfl (lv_at hl 3 rfl) ?_
              refine xald (k := k) hx hb hK hP 12 rfl (by omega) (by decide) dX6_appeal_100 ?_
              refine lv_asi (show ry k = verI σ (sR σ) k from hy k (by omega)) ?_
              refine lv_asi (show (verI σ (sR σ) k : Int32) = if k = q then y else verI σ (sR σ) k from by rw [if_neg c88]) ?_
              exact J101 ls (lv_sub hl [0, 1, 2, 3] rfl)
            · skip
              have c88 := (nI_eq (by omega) (by omega)).mp c88
              refine lv_iload_n hx hb dX6_appeal_91 rfl (lv_at hl 2 rfl) ?_
              refine lv_goto (tgt := 101) hx hb dX6_appeal_92 (by decide) ?_
              refine lv_asi (show (y : Int32) = if k = q then y else verI σ (sR σ) k from by rw [if_pos c88]) ?_
              exact J101 ls (lv_sub hl [0, 1, 2, 3] rfl)
      · skip
        have c31 := Nat.lt_of_not_le (fun z => c31 ((nI_leI (by omega) (by omega)).mpr z))
        refine lv_aload_n hx hb dX6_appeal_34 rfl (lv_at hl 0 rfl) ?_
        refine va_get (D := D) (ci := 6) (v := .ref ymY) (C := RX6) (T := TX6) (N := 21) hx hb hts hiX6 hown hK hP 14 rfl rfl 18 (by decide) hf57 (fun _ h9 => h9) rfl dX6_appeal_35 ?_
        refine lv_iload_n hx hb dX6_appeal_38 rfl (lv_at hl 3 rfl) ?_
        refine lv_aload_n hx hb dX6_appeal_39 rfl (lv_at hl 0 rfl) ?_
        refine lv_iload_n hx hb dX6_appeal_40 rfl (lv_at hl 3 rfl) ?_
        refine xpV (rest := [.int (nI i), .ref ymY]) ⟨hx, hb, hml, hown, hts⟩ (c_X6_verdictOf l D cI cZ ym ymB ymU ymV ymR ymI ymE ymS ymT ymD ymQ ymP ymN ymO ymY ymZ ymX σ ir (sR σ) i hok c31 hir) (cwV 1 hts gX6_appeal_X6_verdictOf rfl rfl rfl (by decide +kernel) ⟨Nat.le_of_ble_eq_true rfl, Nat.le_of_ble_eq_true rfl⟩) hP [14, 0, 1, 2, 3, 4, 5, 6, 7, 8, 9, 10, 11] rfl hK hN (ci := 6) (q0 := 14) rfl rfl rfl hl.1 rfl (Nat.le_of_ble_eq_true rfl) dX6_appeal_41 ⟨Nat.zero_le _, Nat.zero_le _⟩ (fun r41 e41 => ?_)
        subst e41
        refine xast (k := i) hx hb hK hP hD hS 12 rfl (by omega) (by decide) dX6_appeal_44 (fun H locs hP hD hS => ?_)
        have hP : va_P D vwCl [(ymB, .inl (cI, 7, .inl (rB σ))), (ymU, .inl (cI, 12, .inl (rMu σ))), (ymV, .inl (cI, 12, .inl (rMn σ))), (ymR, .inl (cI, 12, .inl (rRu σ))), (ymI, .inl (cZ, 12, .inl ir)), (ymE, .inl (cI, 12, .inl (rEr σ))), (ymS, .inl (cI, 90, .inl (rTs σ))), (ymT, .inl (cI, 90, .inl (rTn σ))), (ymD, .inl (cI, 30, .inl (rRd σ))), (ymQ, .inl (cI, 12, .inl (rCk σ))), (ymP, .inl (cI, 12, .inl (rCr σ))), (ymN, .inl (cI, 12, .inl (rCn σ))), (ymY, .inl (cI, 30, .inl (upd ry i (verI σ (sR σ) i)))), (ymX, .inl (cI, 30, .inl rx)), (ym, .inr (6, [.int (nI (sF σ)), .ref ymB, .int (nI (sN σ)), .ref ymU, .ref ymV, .ref ymR, .ref ymI, .ref ymE, .int (nI (sM σ)), .ref ymS, .ref ymT, .ref ymD, .int (nI (sC σ)), .ref ymQ, .ref ymP, .ref ymN, .int (nI (sG σ)), .ref ymO, .ref ymY, .ref ymZ, .ref ymX])), (ymZ, .inl (cI, 4, .inl z))] H := hP
        have hD : va_D A [(ymB, .inl (cI, 7, .inl (rB σ))), (ymU, .inl (cI, 12, .inl (rMu σ))), (ymV, .inl (cI, 12, .inl (rMn σ))), (ymR, .inl (cI, 12, .inl (rRu σ))), (ymI, .inl (cZ, 12, .inl ir)), (ymE, .inl (cI, 12, .inl (rEr σ))), (ymS, .inl (cI, 90, .inl (rTs σ))), (ymT, .inl (cI, 90, .inl (rTn σ))), (ymD, .inl (cI, 30, .inl (rRd σ))), (ymQ, .inl (cI, 12, .inl (rCk σ))), (ymP, .inl (cI, 12, .inl (rCr σ))), (ymN, .inl (cI, 12, .inl (rCn σ))), (ymY, .inl (cI, 30, .inl (upd ry i (verI σ (sR σ) i)))), (ymX, .inl (cI, 30, .inl rx)), (ym, .inr (6, [.int (nI (sF σ)), .ref ymB, .int (nI (sN σ)), .ref ymU, .ref ymV, .ref ymR, .ref ymI, .ref ymE, .int (nI (sM σ)), .ref ymS, .ref ymT, .ref ymD, .int (nI (sC σ)), .ref ymQ, .ref ymP, .ref ymN, .int (nI (sG σ)), .ref ymO, .ref ymY, .ref ymZ, .ref ymX])), (ymZ, .inl (cI, 4, .inl z))] := hD
        refine lv_aload_n hx hb dX6_appeal_45 rfl (lv_at hl 0 rfl) ?_
        refine lv_aload_n hx hb dX6_appeal_46 rfl (lv_at hl 0 rfl) ?_
        refine va_get (D := D) (ci := 6) (v := .ref ymY) (C := RX6) (T := TX6) (N := 21) hx hb hts hiX6 hown hK hP 14 rfl rfl 18 (by decide) hf57 (fun _ h9 => h9) rfl dX6_appeal_47 ?_
        refine lv_iload_n hx hb dX6_appeal_50 rfl (lv_at hl 3 rfl) ?_
        refine xald (k := i) hx hb hK hP 12 rfl (by omega) (by decide) dX6_appeal_51 ?_
        refine lv_asi (show (upd ry i (verI σ (sR σ) i)) i = verI σ (sR σ) i from by rw [pk_us]) ?_
        refine xwVv (rest := []) (wr := [(ymB, .inl (cI, 7, .inl (rB σ))), (ymU, .inl (cI, 12, .inl (rMu σ))), (ymV, .inl (cI, 12, .inl (rMn σ))), (ymR, .inl (cI, 12, .inl (rRu σ))), (ymI, .inl (cZ, 12, .inl ir)), (ymE, .inl (cI, 12, .inl (rEr σ))), (ymS, .inl (cI, 90, .inl (rTs σ))), (ymT, .inl (cI, 90, .inl (rTn σ))), (ymD, .inl (cI, 30, .inl (rRd σ))), (ymQ, .inl (cI, 12, .inl (rCk σ))), (ymP, .inl (cI, 12, .inl (rCr σ))), (ymN, .inl (cI, 12, .inl (rCn σ))), (ymY, .inl (cI, 30, .inl (upd ry i (verI σ (sR σ) i)))), (ymX, .inl (cI, 30, .inl rx))]) ⟨hx, hb, hml, hown, hts⟩ (c_X6_play l D cI cZ H.size ym ymB ymU ymV ymR ymI ymE ymS ymT ymD ymQ ymP ymN ymO ymY ymZ ymX σ z ((grn σ i).1) ((grn σ i).2.1) ((grn σ i).2.2) (verI σ (sR σ) i) hok hz (by have := grn_le σ i; omega)) (cwV 1 hts gX6_appeal_X6_play rfl rfl rfl (by decide +kernel) ⟨Nat.le_of_ble_eq_true rfl, Nat.le_of_ble_eq_true rfl⟩) hP hD hS hA [14, 15] [0, 1, 2, 3, 4, 5, 6, 7, 8, 9, 10, 11, 12, 13] rfl rfl (by decide) (by decide) (by decide) hK hN (ci := 6) (q0 := 14) rfl rfl rfl hl.1 rfl (Nat.le_of_ble_eq_true rfl) dX6_appeal_52 ⟨Nat.zero_le _, Nat.zero_le _⟩ (fun u52 H locs e52 hP hD hS => ?_)
        obtain ⟨z2, rfl⟩ : ∃ z, z = u52 := ⟨_, rfl⟩
        have hP : va_P D vwCl [(ymB, .inl (cI, 7, .inl (rB σ))), (ymU, .inl (cI, 12, .inl (rMu σ))), (ymV, .inl (cI, 12, .inl (rMn σ))), (ymR, .inl (cI, 12, .inl (rRu σ))), (ymI, .inl (cZ, 12, .inl ir)), (ymE, .inl (cI, 12, .inl (rEr σ))), (ymS, .inl (cI, 90, .inl (rTs σ))), (ymT, .inl (cI, 90, .inl (rTn σ))), (ymD, .inl (cI, 30, .inl (rRd σ))), (ymQ, .inl (cI, 12, .inl (rCk σ))), (ymP, .inl (cI, 12, .inl (rCr σ))), (ymN, .inl (cI, 12, .inl (rCn σ))), (ymY, .inl (cI, 30, .inl (upd ry i (verI σ (sR σ) i)))), (ymX, .inl (cI, 30, .inl rx)), (ym, .inr (6, [.int (nI (sF σ)), .ref ymB, .int (nI (sN σ)), .ref ymU, .ref ymV, .ref ymR, .ref ymI, .ref ymE, .int (nI (sM σ)), .ref ymS, .ref ymT, .ref ymD, .int (nI (sC σ)), .ref ymQ, .ref ymP, .ref ymN, .int (nI (sG σ)), .ref ymO, .ref ymY, .ref ymZ, .ref ymX])), (ymZ, .inl (cI, 4, .inl z2))] H := hP
        have hD : va_D A [(ymB, .inl (cI, 7, .inl (rB σ))), (ymU, .inl (cI, 12, .inl (rMu σ))), (ymV, .inl (cI, 12, .inl (rMn σ))), (ymR, .inl (cI, 12, .inl (rRu σ))), (ymI, .inl (cZ, 12, .inl ir)), (ymE, .inl (cI, 12, .inl (rEr σ))), (ymS, .inl (cI, 90, .inl (rTs σ))), (ymT, .inl (cI, 90, .inl (rTn σ))), (ymD, .inl (cI, 30, .inl (rRd σ))), (ymQ, .inl (cI, 12, .inl (rCk σ))), (ymP, .inl (cI, 12, .inl (rCr σ))), (ymN, .inl (cI, 12, .inl (rCn σ))), (ymY, .inl (cI, 30, .inl (upd ry i (verI σ (sR σ) i)))), (ymX, .inl (cI, 30, .inl rx)), (ym, .inr (6, [.int (nI (sF σ)), .ref ymB, .int (nI (sN σ)), .ref ymU, .ref ymV, .ref ymR, .ref ymI, .ref ymE, .int (nI (sM σ)), .ref ymS, .ref ymT, .ref ymD, .int (nI (sC σ)), .ref ymQ, .ref ymP, .ref ymN, .int (nI (sG σ)), .ref ymO, .ref ymY, .ref ymZ, .ref ymX])), (ymZ, .inl (cI, 4, .inl z2))] := hD
        have hz2 : stR (sG σ) (grn σ (i + 1)) z2 := e52
        refine lv_aload_n hx hb dX6_appeal_55 rfl (lv_at hl 0 rfl) ?_
        refine va_get (D := D) (ci := 6) (v := .ref ymX) (C := RX6) (T := TX6) (N := 21) hx hb hts hiX6 hown hK hP 14 rfl rfl 20 (by decide) hf63 (fun _ h9 => h9) rfl dX6_appeal_56 ?_
        refine lv_iload_n hx hb dX6_appeal_59 rfl (lv_at hl 3 rfl) ?_
        refine lv_aload_n hx hb dX6_appeal_60 rfl (lv_at hl 0 rfl) ?_
        refine xpV (rest := [.int (nI i), .ref ymX]) ⟨hx, hb, hml, hown, hts⟩ (c_X6_packed l D cI cZ ym ymB ymU ymV ymR ymI ymE ymS ymT ymD ymQ ymP ymN ymO ymY ymZ ymX σ z2 ((grn σ (i + 1)).1) ((grn σ (i + 1)).2.1) ((grn σ (i + 1)).2.2) hz2) (cwV 0 hts gX6_appeal_X6_packed rfl rfl rfl (by decide +kernel) ⟨Nat.le_of_ble_eq_true rfl, Nat.le_of_ble_eq_true rfl⟩) hP [14, 15] rfl hK hN (ci := 6) (q0 := 14) rfl rfl rfl hl.1 rfl (Nat.le_of_ble_eq_true rfl) dX6_appeal_61 ⟨Nat.zero_le _, Nat.zero_le _⟩ (fun r61 e61 => ?_)
        subst e61
        refine lv_asi (show pkI (sG σ) (((grn σ (i + 1)).1), ((grn σ (i + 1)).2.1), ((grn σ (i + 1)).2.2)) = pkI (sG σ) (grn σ (i + 1)) from rfl) ?_
        refine xast (k := i) hx hb hK hP hD hS 13 rfl (by omega) (by decide) dX6_appeal_64 (fun H locs hP hD hS => ?_)
        have hP : va_P D vwCl [(ymB, .inl (cI, 7, .inl (rB σ))), (ymU, .inl (cI, 12, .inl (rMu σ))), (ymV, .inl (cI, 12, .inl (rMn σ))), (ymR, .inl (cI, 12, .inl (rRu σ))), (ymI, .inl (cZ, 12, .inl ir)), (ymE, .inl (cI, 12, .inl (rEr σ))), (ymS, .inl (cI, 90, .inl (rTs σ))), (ymT, .inl (cI, 90, .inl (rTn σ))), (ymD, .inl (cI, 30, .inl (rRd σ))), (ymQ, .inl (cI, 12, .inl (rCk σ))), (ymP, .inl (cI, 12, .inl (rCr σ))), (ymN, .inl (cI, 12, .inl (rCn σ))), (ymY, .inl (cI, 30, .inl (upd ry i (verI σ (sR σ) i)))), (ymX, .inl (cI, 30, .inl (upd rx i (pkI (sG σ) (grn σ (i + 1)))))), (ym, .inr (6, [.int (nI (sF σ)), .ref ymB, .int (nI (sN σ)), .ref ymU, .ref ymV, .ref ymR, .ref ymI, .ref ymE, .int (nI (sM σ)), .ref ymS, .ref ymT, .ref ymD, .int (nI (sC σ)), .ref ymQ, .ref ymP, .ref ymN, .int (nI (sG σ)), .ref ymO, .ref ymY, .ref ymZ, .ref ymX])), (ymZ, .inl (cI, 4, .inl z2))] H := hP
        have hD : va_D A [(ymB, .inl (cI, 7, .inl (rB σ))), (ymU, .inl (cI, 12, .inl (rMu σ))), (ymV, .inl (cI, 12, .inl (rMn σ))), (ymR, .inl (cI, 12, .inl (rRu σ))), (ymI, .inl (cZ, 12, .inl ir)), (ymE, .inl (cI, 12, .inl (rEr σ))), (ymS, .inl (cI, 90, .inl (rTs σ))), (ymT, .inl (cI, 90, .inl (rTn σ))), (ymD, .inl (cI, 30, .inl (rRd σ))), (ymQ, .inl (cI, 12, .inl (rCk σ))), (ymP, .inl (cI, 12, .inl (rCr σ))), (ymN, .inl (cI, 12, .inl (rCn σ))), (ymY, .inl (cI, 30, .inl (upd ry i (verI σ (sR σ) i)))), (ymX, .inl (cI, 30, .inl (upd rx i (pkI (sG σ) (grn σ (i + 1)))))), (ym, .inr (6, [.int (nI (sF σ)), .ref ymB, .int (nI (sN σ)), .ref ymU, .ref ymV, .ref ymR, .ref ymI, .ref ymE, .int (nI (sM σ)), .ref ymS, .ref ymT, .ref ymD, .int (nI (sC σ)), .ref ymQ, .ref ymP, .ref ymN, .int (nI (sG σ)), .ref ymO, .ref ymY, .ref ymZ, .ref ymX])), (ymZ, .inl (cI, 4, .inl z2))] := hD
        refine lv_iinc (k := 3) (x := nI i) (v := nI (i + 1)) (lv' := [(3, .int (nI (i + 1))), (0, .ref ym), (1, .int (nI q)), (2, .int y)]) hx hb dX6_appeal_65 hl rfl (show (nI i) + Int32.ofInt 1 = nI (i + 1) from nI_1 _) (by decide) rfl (fun ls hl => ?_)
        refine lv_goto (tgt := 26) hx hb dX6_appeal_68 (by decide) ?_
        exact ih26 (i + 1, z2, upd ry i (verI σ (sR σ) i), upd rx i (pkI (sG σ) (grn σ (i + 1)))) ⟨(show (i + 1) ≤ sM σ from (by omega)), (show stR (sG σ) (grn σ (i + 1)) z2 from hz2), (show ∀ j, j < (i + 1) → (upd ry i (verI σ (sR σ) i)) j = verI σ (sR σ) j from lt_s (fun j hj => by rw [pk_un (by omega)]; exact hy j hj) (by rw [pk_us])), (show ∀ j, j < (i + 1) → (upd rx i (pkI (sG σ) (grn σ (i + 1)))) j = pkI (sG σ) (grn σ (j + 1)) from lt_s (fun j hj => by rw [pk_un (by omega)]; exact hxx j hj) (by rw [pk_us]))⟩ (by show sM σ - (i + 1) < sM σ - i; omega) _ _ hP hD hS ls (lv_sub hl [1, 2, 3, 0] rfl)
    · skip
      have c14 := b2_0 c14
      refine lv_bipush (v := (-2)) hx hb dX6_appeal_17 (by decide) ?_
      have hP9 := hP
      have hD9 := hD
      exact W.iret (v := (-2)) hx hb hr (fun t ht hW => ⟨⟨(-2), (ov, oz, oc), rfl, (by rw [oAppeal, if_neg (by rw [c5]; decide), if_pos c14]), ⟨⟨by rw [ht]; exact hP9, va_K.moved hW.alike hK, NW.warm hW hN⟩, hD9⟩⟩, hS.F ht⟩) hS.2.2 dX6_appeal_19
  · skip
    have c5 := b2_0 c5
    refine lv_iconst (v := (-1)) hx hb dX6_appeal_8 (by decide) ?_
    have hP9 := hP
    have hD9 := hD
    exact W.iret (v := (-1)) hx hb hr (fun t ht hW => ⟨⟨(-1), (ov, oz, oc), rfl, (by rw [oAppeal, if_pos c5]), ⟨⟨by rw [ht]; exact hP9, va_K.moved hW.alike hK, NW.warm hW hN⟩, hD9⟩⟩, hS.F ht⟩) hS.2.2 dX6_appeal_9

set_option maxHeartbeats 4000000 in
set_option maxRecDepth 100000 in
theorem c_X6_init (l : Launch) (D : va_G) (cI cZ : ClassId) (sz : Nat) (ym : Nat) : Met l yX6_init wsX6_init ({ frames := 1, cells := 16, slots := 505, locals := 12 }) (va_Pc [.ref ym] (XW D cI cZ [(ym, .inr (6, [.int 0, .null, .int 0, .null, .null, .null, .null, .null, .int 0, .null, .null, .null, .int 0, .null, .null, .null, .int 0, .null, .null, .null, .null]))] sz)) (va_Qv (fun u : Nat × Nat × Nat × Nat × Nat × Nat × Nat × Nat × Nat × Nat × Nat × Nat × Nat × Nat × Nat × Nat => True) (fun u => XB D cI cZ (va_A [(ym, .inr (6, [.int 0, .null, .int 0, .null, .null, .null, .null, .null, .int 0, .null, .null, .null, .int 0, .null, .null, .null, .int 0, .null, .null, .null, .null]))] sz) [(ym, .inr (6, [.int (nI (sF σ1)), .ref u.1, .int (nI (sN σ1)), .ref u.2.1, .ref u.2.2.1, .ref u.2.2.2.1, .ref u.2.2.2.2.1, .ref u.2.2.2.2.2.1, .int (nI (sM σ1)), .ref u.2.2.2.2.2.2.1, .ref u.2.2.2.2.2.2.2.1, .ref u.2.2.2.2.2.2.2.2.1, .int (nI (sC σ1)), .ref u.2.2.2.2.2.2.2.2.2.1, .ref u.2.2.2.2.2.2.2.2.2.2.1, .ref u.2.2.2.2.2.2.2.2.2.2.2.1, .int (nI (sG σ1)), .ref u.2.2.2.2.2.2.2.2.2.2.2.2.1, .ref u.2.2.2.2.2.2.2.2.2.2.2.2.2.1, .ref u.2.2.2.2.2.2.2.2.2.2.2.2.2.2.1, .ref u.2.2.2.2.2.2.2.2.2.2.2.2.2.2.2])), (u.1, .inl (cI, 7, .inl (rB σ1))), (u.2.1, .inl (cI, 12, .inl (rMu σ1))), (u.2.2.1, .inl (cI, 12, .inl (rMn σ1))), (u.2.2.2.1, .inl (cI, 12, .inl (rRu σ1))), (u.2.2.2.2.1, .inl (cZ, 12, .inl (fun _ => 0))), (u.2.2.2.2.2.1, .inl (cI, 12, .inl (rEr σ1))), (u.2.2.2.2.2.2.1, .inl (cI, 90, .inl (rTs σ1))), (u.2.2.2.2.2.2.2.1, .inl (cI, 90, .inl (rTn σ1))), (u.2.2.2.2.2.2.2.2.1, .inl (cI, 30, .inl (rRd σ1))), (u.2.2.2.2.2.2.2.2.2.1, .inl (cI, 12, .inl (rCk σ1))), (u.2.2.2.2.2.2.2.2.2.2.1, .inl (cI, 12, .inl (rCr σ1))), (u.2.2.2.2.2.2.2.2.2.2.2.1, .inl (cI, 12, .inl (rCn σ1))), (u.2.2.2.2.2.2.2.2.2.2.2.2.1, .inl (cI, 128, .inl (fun _ => 0))), (u.2.2.2.2.2.2.2.2.2.2.2.2.2.1, .inl (cI, 30, .inl (fun _ => 0))), (u.2.2.2.2.2.2.2.2.2.2.2.2.2.2.1, .inl (cI, 4, .inl (fun _ => 0))), (u.2.2.2.2.2.2.2.2.2.2.2.2.2.2.2, .inl (cI, 30, .inl (fun _ => 0)))]) (va_A [(ym, .inr (6, [.int 0, .null, .int 0, .null, .null, .null, .null, .null, .int 0, .null, .null, .null, .int 0, .null, .null, .null, .int 0, .null, .null, .null, .null]))] sz)) 16 505 (va_A [(ym, .inr (6, [.int 0, .null, .int 0, .null, .null, .null, .null, .null, .int 0, .null, .null, .null, .int 0, .null, .null, .null, .int 0, .null, .null, .null, .null]))] sz) := by
  refine Met.ofW (cc := cX6_init) (maxL := 1) (ret := none) (by decide) rfl ?_
  intro p e s m args below meth c s₁ B hml hv
  obtain ⟨rfl, hsz, ⟨hP, hK, hN⟩, hD0⟩ := hv
  have hx := B.exec
  have hb := B.bytes
  have hr := B.returns
  have hts := atoms_spec (ws := wsX6_init) B.pre
  have hown : s.vm.findClass RX6 = some m.cls := findClass_of_methodNamed B.named
  have hlocks := B.notSynchronized
  have hin : meth.name = "<init>" := (name_of_methodNamed B.named B.method).1
  subst hsz
  have hD := hD0.self (sz := s.heap.size)
  generalize hAe : va_A [(ym, .inr (6, [.int 0, .null, .int 0, .null, .null, .null, .null, .null, .int 0, .null, .null, .null, .int 0, .null, .null, .null, .int 0, .null, .null, .null, .null]))] s.heap.size = A at hD ⊢
  have hA : ∀ q : Nat, s.heap.size ≤ q → A q := fun q h => by rw [← hAe]; exact Or.inr h
  have hS : va_S A s.heap s.heap [] := va_S.rf
  have hf7 := hts (.fieldLink RX6 7 "BallCourtModel" "facts" "I") (List.mem_of_getElem? (i := 4) (by decide +kernel))
  have hiX6 : ∀ w ∈ wsX60, w ∈ wsX6_init := fun w h => List.mem_cons_of_mem _ (List.mem_append_right _ h)
  have hf13 := hts (.fieldLink RX6 13 "BallCourtModel" "bars" "[I") (List.mem_of_getElem? (i := 6) (by decide +kernel))
  have hf17 := hts (.fieldLink RX6 17 "BallCourtModel" "must" "[I") (List.mem_of_getElem? (i := 7) (by decide +kernel))
  have hf20 := hts (.fieldLink RX6 20 "BallCourtModel" "mustNot" "[I") (List.mem_of_getElem? (i := 8) (by decide +kernel))
  have hf23 := hts (.fieldLink RX6 23 "BallCourtModel" "ruling" "[I") (List.mem_of_getElem? (i := 9) (by decide +kernel))
  have hf26 := hts (.fieldLink RX6 26 "BallCourtModel" "isRepealed" "[Z") (List.mem_of_getElem? (i := 11) (by decide +kernel))
  have hf30 := hts (.fieldLink RX6 30 "BallCourtModel" "excepts" "[I") (List.mem_of_getElem? (i := 12) (by decide +kernel))
  have hf33 := hts (.fieldLink RX6 33 "BallCourtModel" "toldSo" "[I") (List.mem_of_getElem? (i := 13) (by decide +kernel))
  have hf36 := hts (.fieldLink RX6 36 "BallCourtModel" "toldNot" "[I") (List.mem_of_getElem? (i := 14) (by decide +kernel))
  have hf39 := hts (.fieldLink RX6 39 "BallCourtModel" "ruled" "[I") (List.mem_of_getElem? (i := 15) (by decide +kernel))
  have hf42 := hts (.fieldLink RX6 42 "BallCourtModel" "caseKind" "[I") (List.mem_of_getElem? (i := 16) (by decide +kernel))
  have hf45 := hts (.fieldLink RX6 45 "BallCourtModel" "caseRuling" "[I") (List.mem_of_getElem? (i := 17) (by decide +kernel))
  have hf48 := hts (.fieldLink RX6 48 "BallCourtModel" "caseNames" "[I") (List.mem_of_getElem? (i := 18) (by decide +kernel))
  have hf51 := hts (.fieldLink RX6 51 "BallCourtModel" "goal" "I") (List.mem_of_getElem? (i := 19) (by decide +kernel))
  have hf54 := hts (.fieldLink RX6 54 "BallCourtModel" "before" "[I") (List.mem_of_getElem? (i := 20) (by decide +kernel))
  have hf57 := hts (.fieldLink RX6 57 "BallCourtModel" "verdict" "[I") (List.mem_of_getElem? (i := 21) (by decide +kernel))
  have hf60 := hts (.fieldLink RX6 60 "BallCourtModel" "state" "[I") (List.mem_of_getElem? (i := 22) (by decide +kernel))
  have hf63 := hts (.fieldLink RX6 63 "BallCourtModel" "course" "[I") (List.mem_of_getElem? (i := 23) (by decide +kernel))
  have hl := lv_entry ([.ref ym]) (n := 1) (Nat.le_of_ble_eq_true rfl)
  rw [lg_entry_eq]
  generalize (lg_sl ([.ref ym]) ++ List.replicate (1 - (lg_sl ([.ref ym])).length) Slot.unset).toArray = ls at hl ⊢
  have hl : lv_has ls 1 [(0, .ref ym)] := hl
  refine lv_aload_n hx hb dX6_init_0 rfl (lv_at hl 0 rfl) ?_
  refine W.objInit hx hb hown (hts (.methodLink RX6 1 objectInit) (List.mem_of_getElem? (i := 1) (by decide +kernel))) (hts (.instanceMethod objectInit) (List.mem_of_getElem? (i := 2) (by decide +kernel))) (hts _ (List.mem_of_getElem? (i := 3) rfl)) rfl (by rw [hml]; exact hl.1) rfl dX6_init_1 (Nat.le_of_ble_eq_true rfl) (Nat.le_of_ble_eq_true rfl) ?_
  refine W.eq (g2 := F0 m 4 ls []) rfl ?_
  refine lv_aload_n hx hb dX6_init_4 rfl (lv_at hl 0 rfl) ?_
  refine lv_iconst (v := nI 4) hx hb dX6_init_5 (by decide) ?_
  refine va_put (D := D) (ci := 6) (v := .int (nI 4)) (ty := .int) (C := RX6) (T := TX6) (N := 21) hx hb hts hiX6 tyX6 tyX6_ok nmX6 hown hK hP hD hS 0 rfl rfl 0 (by decide) hf7 (fun _ h9 => h9) rfl (by decide +kernel) rfl rfl (Nat.le_of_ble_eq_true rfl) dX6_init_6 (fun H locs hP hD hS => ?_)
  have hP : va_P D vwCl [(ym, .inr (6, [.int (nI 4), .null, .int 0, .null, .null, .null, .null, .null, .int 0, .null, .null, .null, .int 0, .null, .null, .null, .int 0, .null, .null, .null, .null]))] H := hP
  have hD : va_D A [(ym, .inr (6, [.int (nI 4), .null, .int 0, .null, .null, .null, .null, .null, .int 0, .null, .null, .null, .int 0, .null, .null, .null, .int 0, .null, .null, .null, .null]))] := hD
  refine lv_aload_n hx hb dX6_init_9 rfl (lv_at hl 0 rfl) ?_
  refine lv_bipush (v := 7) hx hb dX6_init_10 (by decide) ?_
  refine xnewI (n := 7) hx hb (hts (.arrayClass .int) (List.mem_of_getElem? (i := 5) (by decide +kernel))) hK hP hD hS hA rfl (by decide) (Nat.le_of_ble_eq_true rfl) (Nat.le_of_ble_eq_true rfl) dX6_init_12 (fun q12 H hP hD hS => ?_)
  have hP : va_P D vwCl [(ym, .inr (6, [.int (nI 4), .null, .int 0, .null, .null, .null, .null, .null, .int 0, .null, .null, .null, .int 0, .null, .null, .null, .int 0, .null, .null, .null, .null])), (q12, .inl (cI, 7, .inl (fun _ => 0)))] H := hP
  have hD : va_D A [(ym, .inr (6, [.int (nI 4), .null, .int 0, .null, .null, .null, .null, .null, .int 0, .null, .null, .null, .int 0, .null, .null, .null, .int 0, .null, .null, .null, .null])), (q12, .inl (cI, 7, .inl (fun _ => 0)))] := hD
  refine va_putF (D := D) (ci := 6) (v := .ref q12) (ty := .array .int) (C := RX6) (T := TX6) (N := 21) hx hb hts hiX6 tyX6 tyX6_ok nmX6 hown hK hP hD hS 0 rfl rfl 1 (by decide) hf13 (fun _ h9 => h9) rfl hin rfl (by decide +kernel) rfl rfl (Nat.le_of_ble_eq_true rfl) dX6_init_14 (fun H locs hP hD hS => ?_)
  have hP : va_P D vwCl [(ym, .inr (6, [.int (nI 4), .ref q12, .int 0, .null, .null, .null, .null, .null, .int 0, .null, .null, .null, .int 0, .null, .null, .null, .int 0, .null, .null, .null, .null])), (q12, .inl (cI, 7, .inl (fun _ => 0)))] H := hP
  have hD : va_D A [(ym, .inr (6, [.int (nI 4), .ref q12, .int 0, .null, .null, .null, .null, .null, .int 0, .null, .null, .null, .int 0, .null, .null, .null, .int 0, .null, .null, .null, .null])), (q12, .inl (cI, 7, .inl (fun _ => 0)))] := hD
  refine lv_aload_n hx hb dX6_init_17 rfl (lv_at hl 0 rfl) ?_
  refine lv_bipush (v := 12) hx hb dX6_init_18 (by decide) ?_
  refine xnewI (n := 12) hx hb (hts (.arrayClass .int) (List.mem_of_getElem? (i := 5) (by decide +kernel))) hK hP hD hS hA rfl (by decide) (Nat.le_of_ble_eq_true rfl) (Nat.le_of_ble_eq_true rfl) dX6_init_20 (fun q20 H hP hD hS => ?_)
  have hP : va_P D vwCl [(ym, .inr (6, [.int (nI 4), .ref q12, .int 0, .null, .null, .null, .null, .null, .int 0, .null, .null, .null, .int 0, .null, .null, .null, .int 0, .null, .null, .null, .null])), (q12, .inl (cI, 7, .inl (fun _ => 0))), (q20, .inl (cI, 12, .inl (fun _ => 0)))] H := hP
  have hD : va_D A [(ym, .inr (6, [.int (nI 4), .ref q12, .int 0, .null, .null, .null, .null, .null, .int 0, .null, .null, .null, .int 0, .null, .null, .null, .int 0, .null, .null, .null, .null])), (q12, .inl (cI, 7, .inl (fun _ => 0))), (q20, .inl (cI, 12, .inl (fun _ => 0)))] := hD
  refine va_putF (D := D) (ci := 6) (v := .ref q20) (ty := .array .int) (C := RX6) (T := TX6) (N := 21) hx hb hts hiX6 tyX6 tyX6_ok nmX6 hown hK hP hD hS 0 rfl rfl 3 (by decide) hf17 (fun _ h9 => h9) rfl hin rfl (by decide +kernel) rfl rfl (Nat.le_of_ble_eq_true rfl) dX6_init_22 (fun H locs hP hD hS => ?_)
  have hP : va_P D vwCl [(ym, .inr (6, [.int (nI 4), .ref q12, .int 0, .ref q20, .null, .null, .null, .null, .int 0, .null, .null, .null, .int 0, .null, .null, .null, .int 0, .null, .null, .null, .null])), (q12, .inl (cI, 7, .inl (fun _ => 0))), (q20, .inl (cI, 12, .inl (fun _ => 0)))] H := hP
  have hD : va_D A [(ym, .inr (6, [.int (nI 4), .ref q12, .int 0, .ref q20, .null, .null, .null, .null, .int 0, .null, .null, .null, .int 0, .null, .null, .null, .int 0, .null, .null, .null, .null])), (q12, .inl (cI, 7, .inl (fun _ => 0))), (q20, .inl (cI, 12, .inl (fun _ => 0)))] := hD
  refine lv_aload_n hx hb dX6_init_25 rfl (lv_at hl 0 rfl) ?_
  refine lv_bipush (v := 12) hx hb dX6_init_26 (by decide) ?_
  refine xnewI (n := 12) hx hb (hts (.arrayClass .int) (List.mem_of_getElem? (i := 5) (by decide +kernel))) hK hP hD hS hA rfl (by decide) (Nat.le_of_ble_eq_true rfl) (Nat.le_of_ble_eq_true rfl) dX6_init_28 (fun q28 H hP hD hS => ?_)
  have hP : va_P D vwCl [(ym, .inr (6, [.int (nI 4), .ref q12, .int 0, .ref q20, .null, .null, .null, .null, .int 0, .null, .null, .null, .int 0, .null, .null, .null, .int 0, .null, .null, .null, .null])), (q12, .inl (cI, 7, .inl (fun _ => 0))), (q20, .inl (cI, 12, .inl (fun _ => 0))), (q28, .inl (cI, 12, .inl (fun _ => 0)))] H := hP
  have hD : va_D A [(ym, .inr (6, [.int (nI 4), .ref q12, .int 0, .ref q20, .null, .null, .null, .null, .int 0, .null, .null, .null, .int 0, .null, .null, .null, .int 0, .null, .null, .null, .null])), (q12, .inl (cI, 7, .inl (fun _ => 0))), (q20, .inl (cI, 12, .inl (fun _ => 0))), (q28, .inl (cI, 12, .inl (fun _ => 0)))] := hD
  refine va_putF (D := D) (ci := 6) (v := .ref q28) (ty := .array .int) (C := RX6) (T := TX6) (N := 21) hx hb hts hiX6 tyX6 tyX6_ok nmX6 hown hK hP hD hS 0 rfl rfl 4 (by decide) hf20 (fun _ h9 => h9) rfl hin rfl (by decide +kernel) rfl rfl (Nat.le_of_ble_eq_true rfl) dX6_init_30 (fun H locs hP hD hS => ?_)
  have hP : va_P D vwCl [(ym, .inr (6, [.int (nI 4), .ref q12, .int 0, .ref q20, .ref q28, .null, .null, .null, .int 0, .null, .null, .null, .int 0, .null, .null, .null, .int 0, .null, .null, .null, .null])), (q12, .inl (cI, 7, .inl (fun _ => 0))), (q20, .inl (cI, 12, .inl (fun _ => 0))), (q28, .inl (cI, 12, .inl (fun _ => 0)))] H := hP
  have hD : va_D A [(ym, .inr (6, [.int (nI 4), .ref q12, .int 0, .ref q20, .ref q28, .null, .null, .null, .int 0, .null, .null, .null, .int 0, .null, .null, .null, .int 0, .null, .null, .null, .null])), (q12, .inl (cI, 7, .inl (fun _ => 0))), (q20, .inl (cI, 12, .inl (fun _ => 0))), (q28, .inl (cI, 12, .inl (fun _ => 0)))] := hD
  refine lv_aload_n hx hb dX6_init_33 rfl (lv_at hl 0 rfl) ?_
  refine lv_bipush (v := 12) hx hb dX6_init_34 (by decide) ?_
  refine xnewI (n := 12) hx hb (hts (.arrayClass .int) (List.mem_of_getElem? (i := 5) (by decide +kernel))) hK hP hD hS hA rfl (by decide) (Nat.le_of_ble_eq_true rfl) (Nat.le_of_ble_eq_true rfl) dX6_init_36 (fun q36 H hP hD hS => ?_)
  have hP : va_P D vwCl [(ym, .inr (6, [.int (nI 4), .ref q12, .int 0, .ref q20, .ref q28, .null, .null, .null, .int 0, .null, .null, .null, .int 0, .null, .null, .null, .int 0, .null, .null, .null, .null])), (q12, .inl (cI, 7, .inl (fun _ => 0))), (q20, .inl (cI, 12, .inl (fun _ => 0))), (q28, .inl (cI, 12, .inl (fun _ => 0))), (q36, .inl (cI, 12, .inl (fun _ => 0)))] H := hP
  have hD : va_D A [(ym, .inr (6, [.int (nI 4), .ref q12, .int 0, .ref q20, .ref q28, .null, .null, .null, .int 0, .null, .null, .null, .int 0, .null, .null, .null, .int 0, .null, .null, .null, .null])), (q12, .inl (cI, 7, .inl (fun _ => 0))), (q20, .inl (cI, 12, .inl (fun _ => 0))), (q28, .inl (cI, 12, .inl (fun _ => 0))), (q36, .inl (cI, 12, .inl (fun _ => 0)))] := hD
  refine va_putF (D := D) (ci := 6) (v := .ref q36) (ty := .array .int) (C := RX6) (T := TX6) (N := 21) hx hb hts hiX6 tyX6 tyX6_ok nmX6 hown hK hP hD hS 0 rfl rfl 5 (by decide) hf23 (fun _ h9 => h9) rfl hin rfl (by decide +kernel) rfl rfl (Nat.le_of_ble_eq_true rfl) dX6_init_38 (fun H locs hP hD hS => ?_)
  have hP : va_P D vwCl [(ym, .inr (6, [.int (nI 4), .ref q12, .int 0, .ref q20, .ref q28, .ref q36, .null, .null, .int 0, .null, .null, .null, .int 0, .null, .null, .null, .int 0, .null, .null, .null, .null])), (q12, .inl (cI, 7, .inl (fun _ => 0))), (q20, .inl (cI, 12, .inl (fun _ => 0))), (q28, .inl (cI, 12, .inl (fun _ => 0))), (q36, .inl (cI, 12, .inl (fun _ => 0)))] H := hP
  have hD : va_D A [(ym, .inr (6, [.int (nI 4), .ref q12, .int 0, .ref q20, .ref q28, .ref q36, .null, .null, .int 0, .null, .null, .null, .int 0, .null, .null, .null, .int 0, .null, .null, .null, .null])), (q12, .inl (cI, 7, .inl (fun _ => 0))), (q20, .inl (cI, 12, .inl (fun _ => 0))), (q28, .inl (cI, 12, .inl (fun _ => 0))), (q36, .inl (cI, 12, .inl (fun _ => 0)))] := hD
  refine lv_aload_n hx hb dX6_init_41 rfl (lv_at hl 0 rfl) ?_
  refine lv_bipush (v := 12) hx hb dX6_init_42 (by decide) ?_
  refine xnewZ (n := 12) hx hb (hts (.arrayClass .boolean) (List.mem_of_getElem? (i := 10) (by decide +kernel))) hK hP hD hS hA rfl (by decide) (Nat.le_of_ble_eq_true rfl) (Nat.le_of_ble_eq_true rfl) dX6_init_44 (fun q44 H hP hD hS => ?_)
  have hP : va_P D vwCl [(ym, .inr (6, [.int (nI 4), .ref q12, .int 0, .ref q20, .ref q28, .ref q36, .null, .null, .int 0, .null, .null, .null, .int 0, .null, .null, .null, .int 0, .null, .null, .null, .null])), (q12, .inl (cI, 7, .inl (fun _ => 0))), (q20, .inl (cI, 12, .inl (fun _ => 0))), (q28, .inl (cI, 12, .inl (fun _ => 0))), (q36, .inl (cI, 12, .inl (fun _ => 0))), (q44, .inl (cZ, 12, .inl (fun _ => 0)))] H := hP
  have hD : va_D A [(ym, .inr (6, [.int (nI 4), .ref q12, .int 0, .ref q20, .ref q28, .ref q36, .null, .null, .int 0, .null, .null, .null, .int 0, .null, .null, .null, .int 0, .null, .null, .null, .null])), (q12, .inl (cI, 7, .inl (fun _ => 0))), (q20, .inl (cI, 12, .inl (fun _ => 0))), (q28, .inl (cI, 12, .inl (fun _ => 0))), (q36, .inl (cI, 12, .inl (fun _ => 0))), (q44, .inl (cZ, 12, .inl (fun _ => 0)))] := hD
  refine va_putF (D := D) (ci := 6) (v := .ref q44) (ty := .array .boolean) (C := RX6) (T := TX6) (N := 21) hx hb hts hiX6 tyX6 tyX6_ok nmX6 hown hK hP hD hS 0 rfl rfl 6 (by decide) hf26 (fun _ h9 => h9) rfl hin rfl (by decide +kernel) rfl rfl (Nat.le_of_ble_eq_true rfl) dX6_init_46 (fun H locs hP hD hS => ?_)
  have hP : va_P D vwCl [(ym, .inr (6, [.int (nI 4), .ref q12, .int 0, .ref q20, .ref q28, .ref q36, .ref q44, .null, .int 0, .null, .null, .null, .int 0, .null, .null, .null, .int 0, .null, .null, .null, .null])), (q12, .inl (cI, 7, .inl (fun _ => 0))), (q20, .inl (cI, 12, .inl (fun _ => 0))), (q28, .inl (cI, 12, .inl (fun _ => 0))), (q36, .inl (cI, 12, .inl (fun _ => 0))), (q44, .inl (cZ, 12, .inl (fun _ => 0)))] H := hP
  have hD : va_D A [(ym, .inr (6, [.int (nI 4), .ref q12, .int 0, .ref q20, .ref q28, .ref q36, .ref q44, .null, .int 0, .null, .null, .null, .int 0, .null, .null, .null, .int 0, .null, .null, .null, .null])), (q12, .inl (cI, 7, .inl (fun _ => 0))), (q20, .inl (cI, 12, .inl (fun _ => 0))), (q28, .inl (cI, 12, .inl (fun _ => 0))), (q36, .inl (cI, 12, .inl (fun _ => 0))), (q44, .inl (cZ, 12, .inl (fun _ => 0)))] := hD
  refine lv_aload_n hx hb dX6_init_49 rfl (lv_at hl 0 rfl) ?_
  refine lv_bipush (v := 12) hx hb dX6_init_50 (by decide) ?_
  refine xnewI (n := 12) hx hb (hts (.arrayClass .int) (List.mem_of_getElem? (i := 5) (by decide +kernel))) hK hP hD hS hA rfl (by decide) (Nat.le_of_ble_eq_true rfl) (Nat.le_of_ble_eq_true rfl) dX6_init_52 (fun q52 H hP hD hS => ?_)
  have hP : va_P D vwCl [(ym, .inr (6, [.int (nI 4), .ref q12, .int 0, .ref q20, .ref q28, .ref q36, .ref q44, .null, .int 0, .null, .null, .null, .int 0, .null, .null, .null, .int 0, .null, .null, .null, .null])), (q12, .inl (cI, 7, .inl (fun _ => 0))), (q20, .inl (cI, 12, .inl (fun _ => 0))), (q28, .inl (cI, 12, .inl (fun _ => 0))), (q36, .inl (cI, 12, .inl (fun _ => 0))), (q44, .inl (cZ, 12, .inl (fun _ => 0))), (q52, .inl (cI, 12, .inl (fun _ => 0)))] H := hP
  have hD : va_D A [(ym, .inr (6, [.int (nI 4), .ref q12, .int 0, .ref q20, .ref q28, .ref q36, .ref q44, .null, .int 0, .null, .null, .null, .int 0, .null, .null, .null, .int 0, .null, .null, .null, .null])), (q12, .inl (cI, 7, .inl (fun _ => 0))), (q20, .inl (cI, 12, .inl (fun _ => 0))), (q28, .inl (cI, 12, .inl (fun _ => 0))), (q36, .inl (cI, 12, .inl (fun _ => 0))), (q44, .inl (cZ, 12, .inl (fun _ => 0))), (q52, .inl (cI, 12, .inl (fun _ => 0)))] := hD
  refine va_putF (D := D) (ci := 6) (v := .ref q52) (ty := .array .int) (C := RX6) (T := TX6) (N := 21) hx hb hts hiX6 tyX6 tyX6_ok nmX6 hown hK hP hD hS 0 rfl rfl 7 (by decide) hf30 (fun _ h9 => h9) rfl hin rfl (by decide +kernel) rfl rfl (Nat.le_of_ble_eq_true rfl) dX6_init_54 (fun H locs hP hD hS => ?_)
  have hP : va_P D vwCl [(ym, .inr (6, [.int (nI 4), .ref q12, .int 0, .ref q20, .ref q28, .ref q36, .ref q44, .ref q52, .int 0, .null, .null, .null, .int 0, .null, .null, .null, .int 0, .null, .null, .null, .null])), (q12, .inl (cI, 7, .inl (fun _ => 0))), (q20, .inl (cI, 12, .inl (fun _ => 0))), (q28, .inl (cI, 12, .inl (fun _ => 0))), (q36, .inl (cI, 12, .inl (fun _ => 0))), (q44, .inl (cZ, 12, .inl (fun _ => 0))), (q52, .inl (cI, 12, .inl (fun _ => 0)))] H := hP
  have hD : va_D A [(ym, .inr (6, [.int (nI 4), .ref q12, .int 0, .ref q20, .ref q28, .ref q36, .ref q44, .ref q52, .int 0, .null, .null, .null, .int 0, .null, .null, .null, .int 0, .null, .null, .null, .null])), (q12, .inl (cI, 7, .inl (fun _ => 0))), (q20, .inl (cI, 12, .inl (fun _ => 0))), (q28, .inl (cI, 12, .inl (fun _ => 0))), (q36, .inl (cI, 12, .inl (fun _ => 0))), (q44, .inl (cZ, 12, .inl (fun _ => 0))), (q52, .inl (cI, 12, .inl (fun _ => 0)))] := hD
  refine lv_aload_n hx hb dX6_init_57 rfl (lv_at hl 0 rfl) ?_
  refine lv_bipush (v := 90) hx hb dX6_init_58 (by decide) ?_
  refine xnewI (n := 90) hx hb (hts (.arrayClass .int) (List.mem_of_getElem? (i := 5) (by decide +kernel))) hK hP hD hS hA rfl (by decide) (Nat.le_of_ble_eq_true rfl) (Nat.le_of_ble_eq_true rfl) dX6_init_60 (fun q60 H hP hD hS => ?_)
  have hP : va_P D vwCl [(ym, .inr (6, [.int (nI 4), .ref q12, .int 0, .ref q20, .ref q28, .ref q36, .ref q44, .ref q52, .int 0, .null, .null, .null, .int 0, .null, .null, .null, .int 0, .null, .null, .null, .null])), (q12, .inl (cI, 7, .inl (fun _ => 0))), (q20, .inl (cI, 12, .inl (fun _ => 0))), (q28, .inl (cI, 12, .inl (fun _ => 0))), (q36, .inl (cI, 12, .inl (fun _ => 0))), (q44, .inl (cZ, 12, .inl (fun _ => 0))), (q52, .inl (cI, 12, .inl (fun _ => 0))), (q60, .inl (cI, 90, .inl (fun _ => 0)))] H := hP
  have hD : va_D A [(ym, .inr (6, [.int (nI 4), .ref q12, .int 0, .ref q20, .ref q28, .ref q36, .ref q44, .ref q52, .int 0, .null, .null, .null, .int 0, .null, .null, .null, .int 0, .null, .null, .null, .null])), (q12, .inl (cI, 7, .inl (fun _ => 0))), (q20, .inl (cI, 12, .inl (fun _ => 0))), (q28, .inl (cI, 12, .inl (fun _ => 0))), (q36, .inl (cI, 12, .inl (fun _ => 0))), (q44, .inl (cZ, 12, .inl (fun _ => 0))), (q52, .inl (cI, 12, .inl (fun _ => 0))), (q60, .inl (cI, 90, .inl (fun _ => 0)))] := hD
  refine va_putF (D := D) (ci := 6) (v := .ref q60) (ty := .array .int) (C := RX6) (T := TX6) (N := 21) hx hb hts hiX6 tyX6 tyX6_ok nmX6 hown hK hP hD hS 0 rfl rfl 9 (by decide) hf33 (fun _ h9 => h9) rfl hin rfl (by decide +kernel) rfl rfl (Nat.le_of_ble_eq_true rfl) dX6_init_62 (fun H locs hP hD hS => ?_)
  have hP : va_P D vwCl [(ym, .inr (6, [.int (nI 4), .ref q12, .int 0, .ref q20, .ref q28, .ref q36, .ref q44, .ref q52, .int 0, .ref q60, .null, .null, .int 0, .null, .null, .null, .int 0, .null, .null, .null, .null])), (q12, .inl (cI, 7, .inl (fun _ => 0))), (q20, .inl (cI, 12, .inl (fun _ => 0))), (q28, .inl (cI, 12, .inl (fun _ => 0))), (q36, .inl (cI, 12, .inl (fun _ => 0))), (q44, .inl (cZ, 12, .inl (fun _ => 0))), (q52, .inl (cI, 12, .inl (fun _ => 0))), (q60, .inl (cI, 90, .inl (fun _ => 0)))] H := hP
  have hD : va_D A [(ym, .inr (6, [.int (nI 4), .ref q12, .int 0, .ref q20, .ref q28, .ref q36, .ref q44, .ref q52, .int 0, .ref q60, .null, .null, .int 0, .null, .null, .null, .int 0, .null, .null, .null, .null])), (q12, .inl (cI, 7, .inl (fun _ => 0))), (q20, .inl (cI, 12, .inl (fun _ => 0))), (q28, .inl (cI, 12, .inl (fun _ => 0))), (q36, .inl (cI, 12, .inl (fun _ => 0))), (q44, .inl (cZ, 12, .inl (fun _ => 0))), (q52, .inl (cI, 12, .inl (fun _ => 0))), (q60, .inl (cI, 90, .inl (fun _ => 0)))] := hD
  refine lv_aload_n hx hb dX6_init_65 rfl (lv_at hl 0 rfl) ?_
  refine lv_bipush (v := 90) hx hb dX6_init_66 (by decide) ?_
  refine xnewI (n := 90) hx hb (hts (.arrayClass .int) (List.mem_of_getElem? (i := 5) (by decide +kernel))) hK hP hD hS hA rfl (by decide) (Nat.le_of_ble_eq_true rfl) (Nat.le_of_ble_eq_true rfl) dX6_init_68 (fun q68 H hP hD hS => ?_)
  have hP : va_P D vwCl [(ym, .inr (6, [.int (nI 4), .ref q12, .int 0, .ref q20, .ref q28, .ref q36, .ref q44, .ref q52, .int 0, .ref q60, .null, .null, .int 0, .null, .null, .null, .int 0, .null, .null, .null, .null])), (q12, .inl (cI, 7, .inl (fun _ => 0))), (q20, .inl (cI, 12, .inl (fun _ => 0))), (q28, .inl (cI, 12, .inl (fun _ => 0))), (q36, .inl (cI, 12, .inl (fun _ => 0))), (q44, .inl (cZ, 12, .inl (fun _ => 0))), (q52, .inl (cI, 12, .inl (fun _ => 0))), (q60, .inl (cI, 90, .inl (fun _ => 0))), (q68, .inl (cI, 90, .inl (fun _ => 0)))] H := hP
  have hD : va_D A [(ym, .inr (6, [.int (nI 4), .ref q12, .int 0, .ref q20, .ref q28, .ref q36, .ref q44, .ref q52, .int 0, .ref q60, .null, .null, .int 0, .null, .null, .null, .int 0, .null, .null, .null, .null])), (q12, .inl (cI, 7, .inl (fun _ => 0))), (q20, .inl (cI, 12, .inl (fun _ => 0))), (q28, .inl (cI, 12, .inl (fun _ => 0))), (q36, .inl (cI, 12, .inl (fun _ => 0))), (q44, .inl (cZ, 12, .inl (fun _ => 0))), (q52, .inl (cI, 12, .inl (fun _ => 0))), (q60, .inl (cI, 90, .inl (fun _ => 0))), (q68, .inl (cI, 90, .inl (fun _ => 0)))] := hD
  refine va_putF (D := D) (ci := 6) (v := .ref q68) (ty := .array .int) (C := RX6) (T := TX6) (N := 21) hx hb hts hiX6 tyX6 tyX6_ok nmX6 hown hK hP hD hS 0 rfl rfl 10 (by decide) hf36 (fun _ h9 => h9) rfl hin rfl (by decide +kernel) rfl rfl (Nat.le_of_ble_eq_true rfl) dX6_init_70 (fun H locs hP hD hS => ?_)
  have hP : va_P D vwCl [(ym, .inr (6, [.int (nI 4), .ref q12, .int 0, .ref q20, .ref q28, .ref q36, .ref q44, .ref q52, .int 0, .ref q60, .ref q68, .null, .int 0, .null, .null, .null, .int 0, .null, .null, .null, .null])), (q12, .inl (cI, 7, .inl (fun _ => 0))), (q20, .inl (cI, 12, .inl (fun _ => 0))), (q28, .inl (cI, 12, .inl (fun _ => 0))), (q36, .inl (cI, 12, .inl (fun _ => 0))), (q44, .inl (cZ, 12, .inl (fun _ => 0))), (q52, .inl (cI, 12, .inl (fun _ => 0))), (q60, .inl (cI, 90, .inl (fun _ => 0))), (q68, .inl (cI, 90, .inl (fun _ => 0)))] H := hP
  have hD : va_D A [(ym, .inr (6, [.int (nI 4), .ref q12, .int 0, .ref q20, .ref q28, .ref q36, .ref q44, .ref q52, .int 0, .ref q60, .ref q68, .null, .int 0, .null, .null, .null, .int 0, .null, .null, .null, .null])), (q12, .inl (cI, 7, .inl (fun _ => 0))), (q20, .inl (cI, 12, .inl (fun _ => 0))), (q28, .inl (cI, 12, .inl (fun _ => 0))), (q36, .inl (cI, 12, .inl (fun _ => 0))), (q44, .inl (cZ, 12, .inl (fun _ => 0))), (q52, .inl (cI, 12, .inl (fun _ => 0))), (q60, .inl (cI, 90, .inl (fun _ => 0))), (q68, .inl (cI, 90, .inl (fun _ => 0)))] := hD
  refine lv_aload_n hx hb dX6_init_73 rfl (lv_at hl 0 rfl) ?_
  refine lv_bipush (v := 30) hx hb dX6_init_74 (by decide) ?_
  refine xnewI (n := 30) hx hb (hts (.arrayClass .int) (List.mem_of_getElem? (i := 5) (by decide +kernel))) hK hP hD hS hA rfl (by decide) (Nat.le_of_ble_eq_true rfl) (Nat.le_of_ble_eq_true rfl) dX6_init_76 (fun q76 H hP hD hS => ?_)
  have hP : va_P D vwCl [(ym, .inr (6, [.int (nI 4), .ref q12, .int 0, .ref q20, .ref q28, .ref q36, .ref q44, .ref q52, .int 0, .ref q60, .ref q68, .null, .int 0, .null, .null, .null, .int 0, .null, .null, .null, .null])), (q12, .inl (cI, 7, .inl (fun _ => 0))), (q20, .inl (cI, 12, .inl (fun _ => 0))), (q28, .inl (cI, 12, .inl (fun _ => 0))), (q36, .inl (cI, 12, .inl (fun _ => 0))), (q44, .inl (cZ, 12, .inl (fun _ => 0))), (q52, .inl (cI, 12, .inl (fun _ => 0))), (q60, .inl (cI, 90, .inl (fun _ => 0))), (q68, .inl (cI, 90, .inl (fun _ => 0))), (q76, .inl (cI, 30, .inl (fun _ => 0)))] H := hP
  have hD : va_D A [(ym, .inr (6, [.int (nI 4), .ref q12, .int 0, .ref q20, .ref q28, .ref q36, .ref q44, .ref q52, .int 0, .ref q60, .ref q68, .null, .int 0, .null, .null, .null, .int 0, .null, .null, .null, .null])), (q12, .inl (cI, 7, .inl (fun _ => 0))), (q20, .inl (cI, 12, .inl (fun _ => 0))), (q28, .inl (cI, 12, .inl (fun _ => 0))), (q36, .inl (cI, 12, .inl (fun _ => 0))), (q44, .inl (cZ, 12, .inl (fun _ => 0))), (q52, .inl (cI, 12, .inl (fun _ => 0))), (q60, .inl (cI, 90, .inl (fun _ => 0))), (q68, .inl (cI, 90, .inl (fun _ => 0))), (q76, .inl (cI, 30, .inl (fun _ => 0)))] := hD
  refine va_putF (D := D) (ci := 6) (v := .ref q76) (ty := .array .int) (C := RX6) (T := TX6) (N := 21) hx hb hts hiX6 tyX6 tyX6_ok nmX6 hown hK hP hD hS 0 rfl rfl 11 (by decide) hf39 (fun _ h9 => h9) rfl hin rfl (by decide +kernel) rfl rfl (Nat.le_of_ble_eq_true rfl) dX6_init_78 (fun H locs hP hD hS => ?_)
  have hP : va_P D vwCl [(ym, .inr (6, [.int (nI 4), .ref q12, .int 0, .ref q20, .ref q28, .ref q36, .ref q44, .ref q52, .int 0, .ref q60, .ref q68, .ref q76, .int 0, .null, .null, .null, .int 0, .null, .null, .null, .null])), (q12, .inl (cI, 7, .inl (fun _ => 0))), (q20, .inl (cI, 12, .inl (fun _ => 0))), (q28, .inl (cI, 12, .inl (fun _ => 0))), (q36, .inl (cI, 12, .inl (fun _ => 0))), (q44, .inl (cZ, 12, .inl (fun _ => 0))), (q52, .inl (cI, 12, .inl (fun _ => 0))), (q60, .inl (cI, 90, .inl (fun _ => 0))), (q68, .inl (cI, 90, .inl (fun _ => 0))), (q76, .inl (cI, 30, .inl (fun _ => 0)))] H := hP
  have hD : va_D A [(ym, .inr (6, [.int (nI 4), .ref q12, .int 0, .ref q20, .ref q28, .ref q36, .ref q44, .ref q52, .int 0, .ref q60, .ref q68, .ref q76, .int 0, .null, .null, .null, .int 0, .null, .null, .null, .null])), (q12, .inl (cI, 7, .inl (fun _ => 0))), (q20, .inl (cI, 12, .inl (fun _ => 0))), (q28, .inl (cI, 12, .inl (fun _ => 0))), (q36, .inl (cI, 12, .inl (fun _ => 0))), (q44, .inl (cZ, 12, .inl (fun _ => 0))), (q52, .inl (cI, 12, .inl (fun _ => 0))), (q60, .inl (cI, 90, .inl (fun _ => 0))), (q68, .inl (cI, 90, .inl (fun _ => 0))), (q76, .inl (cI, 30, .inl (fun _ => 0)))] := hD
  refine lv_aload_n hx hb dX6_init_81 rfl (lv_at hl 0 rfl) ?_
  refine lv_bipush (v := 12) hx hb dX6_init_82 (by decide) ?_
  refine xnewI (n := 12) hx hb (hts (.arrayClass .int) (List.mem_of_getElem? (i := 5) (by decide +kernel))) hK hP hD hS hA rfl (by decide) (Nat.le_of_ble_eq_true rfl) (Nat.le_of_ble_eq_true rfl) dX6_init_84 (fun q84 H hP hD hS => ?_)
  have hP : va_P D vwCl [(ym, .inr (6, [.int (nI 4), .ref q12, .int 0, .ref q20, .ref q28, .ref q36, .ref q44, .ref q52, .int 0, .ref q60, .ref q68, .ref q76, .int 0, .null, .null, .null, .int 0, .null, .null, .null, .null])), (q12, .inl (cI, 7, .inl (fun _ => 0))), (q20, .inl (cI, 12, .inl (fun _ => 0))), (q28, .inl (cI, 12, .inl (fun _ => 0))), (q36, .inl (cI, 12, .inl (fun _ => 0))), (q44, .inl (cZ, 12, .inl (fun _ => 0))), (q52, .inl (cI, 12, .inl (fun _ => 0))), (q60, .inl (cI, 90, .inl (fun _ => 0))), (q68, .inl (cI, 90, .inl (fun _ => 0))), (q76, .inl (cI, 30, .inl (fun _ => 0))), (q84, .inl (cI, 12, .inl (fun _ => 0)))] H := hP
  have hD : va_D A [(ym, .inr (6, [.int (nI 4), .ref q12, .int 0, .ref q20, .ref q28, .ref q36, .ref q44, .ref q52, .int 0, .ref q60, .ref q68, .ref q76, .int 0, .null, .null, .null, .int 0, .null, .null, .null, .null])), (q12, .inl (cI, 7, .inl (fun _ => 0))), (q20, .inl (cI, 12, .inl (fun _ => 0))), (q28, .inl (cI, 12, .inl (fun _ => 0))), (q36, .inl (cI, 12, .inl (fun _ => 0))), (q44, .inl (cZ, 12, .inl (fun _ => 0))), (q52, .inl (cI, 12, .inl (fun _ => 0))), (q60, .inl (cI, 90, .inl (fun _ => 0))), (q68, .inl (cI, 90, .inl (fun _ => 0))), (q76, .inl (cI, 30, .inl (fun _ => 0))), (q84, .inl (cI, 12, .inl (fun _ => 0)))] := hD
  refine va_putF (D := D) (ci := 6) (v := .ref q84) (ty := .array .int) (C := RX6) (T := TX6) (N := 21) hx hb hts hiX6 tyX6 tyX6_ok nmX6 hown hK hP hD hS 0 rfl rfl 13 (by decide) hf42 (fun _ h9 => h9) rfl hin rfl (by decide +kernel) rfl rfl (Nat.le_of_ble_eq_true rfl) dX6_init_86 (fun H locs hP hD hS => ?_)
  have hP : va_P D vwCl [(ym, .inr (6, [.int (nI 4), .ref q12, .int 0, .ref q20, .ref q28, .ref q36, .ref q44, .ref q52, .int 0, .ref q60, .ref q68, .ref q76, .int 0, .ref q84, .null, .null, .int 0, .null, .null, .null, .null])), (q12, .inl (cI, 7, .inl (fun _ => 0))), (q20, .inl (cI, 12, .inl (fun _ => 0))), (q28, .inl (cI, 12, .inl (fun _ => 0))), (q36, .inl (cI, 12, .inl (fun _ => 0))), (q44, .inl (cZ, 12, .inl (fun _ => 0))), (q52, .inl (cI, 12, .inl (fun _ => 0))), (q60, .inl (cI, 90, .inl (fun _ => 0))), (q68, .inl (cI, 90, .inl (fun _ => 0))), (q76, .inl (cI, 30, .inl (fun _ => 0))), (q84, .inl (cI, 12, .inl (fun _ => 0)))] H := hP
  have hD : va_D A [(ym, .inr (6, [.int (nI 4), .ref q12, .int 0, .ref q20, .ref q28, .ref q36, .ref q44, .ref q52, .int 0, .ref q60, .ref q68, .ref q76, .int 0, .ref q84, .null, .null, .int 0, .null, .null, .null, .null])), (q12, .inl (cI, 7, .inl (fun _ => 0))), (q20, .inl (cI, 12, .inl (fun _ => 0))), (q28, .inl (cI, 12, .inl (fun _ => 0))), (q36, .inl (cI, 12, .inl (fun _ => 0))), (q44, .inl (cZ, 12, .inl (fun _ => 0))), (q52, .inl (cI, 12, .inl (fun _ => 0))), (q60, .inl (cI, 90, .inl (fun _ => 0))), (q68, .inl (cI, 90, .inl (fun _ => 0))), (q76, .inl (cI, 30, .inl (fun _ => 0))), (q84, .inl (cI, 12, .inl (fun _ => 0)))] := hD
  refine lv_aload_n hx hb dX6_init_89 rfl (lv_at hl 0 rfl) ?_
  refine lv_bipush (v := 12) hx hb dX6_init_90 (by decide) ?_
  refine xnewI (n := 12) hx hb (hts (.arrayClass .int) (List.mem_of_getElem? (i := 5) (by decide +kernel))) hK hP hD hS hA rfl (by decide) (Nat.le_of_ble_eq_true rfl) (Nat.le_of_ble_eq_true rfl) dX6_init_92 (fun q92 H hP hD hS => ?_)
  have hP : va_P D vwCl [(ym, .inr (6, [.int (nI 4), .ref q12, .int 0, .ref q20, .ref q28, .ref q36, .ref q44, .ref q52, .int 0, .ref q60, .ref q68, .ref q76, .int 0, .ref q84, .null, .null, .int 0, .null, .null, .null, .null])), (q12, .inl (cI, 7, .inl (fun _ => 0))), (q20, .inl (cI, 12, .inl (fun _ => 0))), (q28, .inl (cI, 12, .inl (fun _ => 0))), (q36, .inl (cI, 12, .inl (fun _ => 0))), (q44, .inl (cZ, 12, .inl (fun _ => 0))), (q52, .inl (cI, 12, .inl (fun _ => 0))), (q60, .inl (cI, 90, .inl (fun _ => 0))), (q68, .inl (cI, 90, .inl (fun _ => 0))), (q76, .inl (cI, 30, .inl (fun _ => 0))), (q84, .inl (cI, 12, .inl (fun _ => 0))), (q92, .inl (cI, 12, .inl (fun _ => 0)))] H := hP
  have hD : va_D A [(ym, .inr (6, [.int (nI 4), .ref q12, .int 0, .ref q20, .ref q28, .ref q36, .ref q44, .ref q52, .int 0, .ref q60, .ref q68, .ref q76, .int 0, .ref q84, .null, .null, .int 0, .null, .null, .null, .null])), (q12, .inl (cI, 7, .inl (fun _ => 0))), (q20, .inl (cI, 12, .inl (fun _ => 0))), (q28, .inl (cI, 12, .inl (fun _ => 0))), (q36, .inl (cI, 12, .inl (fun _ => 0))), (q44, .inl (cZ, 12, .inl (fun _ => 0))), (q52, .inl (cI, 12, .inl (fun _ => 0))), (q60, .inl (cI, 90, .inl (fun _ => 0))), (q68, .inl (cI, 90, .inl (fun _ => 0))), (q76, .inl (cI, 30, .inl (fun _ => 0))), (q84, .inl (cI, 12, .inl (fun _ => 0))), (q92, .inl (cI, 12, .inl (fun _ => 0)))] := hD
  refine va_putF (D := D) (ci := 6) (v := .ref q92) (ty := .array .int) (C := RX6) (T := TX6) (N := 21) hx hb hts hiX6 tyX6 tyX6_ok nmX6 hown hK hP hD hS 0 rfl rfl 14 (by decide) hf45 (fun _ h9 => h9) rfl hin rfl (by decide +kernel) rfl rfl (Nat.le_of_ble_eq_true rfl) dX6_init_94 (fun H locs hP hD hS => ?_)
  have hP : va_P D vwCl [(ym, .inr (6, [.int (nI 4), .ref q12, .int 0, .ref q20, .ref q28, .ref q36, .ref q44, .ref q52, .int 0, .ref q60, .ref q68, .ref q76, .int 0, .ref q84, .ref q92, .null, .int 0, .null, .null, .null, .null])), (q12, .inl (cI, 7, .inl (fun _ => 0))), (q20, .inl (cI, 12, .inl (fun _ => 0))), (q28, .inl (cI, 12, .inl (fun _ => 0))), (q36, .inl (cI, 12, .inl (fun _ => 0))), (q44, .inl (cZ, 12, .inl (fun _ => 0))), (q52, .inl (cI, 12, .inl (fun _ => 0))), (q60, .inl (cI, 90, .inl (fun _ => 0))), (q68, .inl (cI, 90, .inl (fun _ => 0))), (q76, .inl (cI, 30, .inl (fun _ => 0))), (q84, .inl (cI, 12, .inl (fun _ => 0))), (q92, .inl (cI, 12, .inl (fun _ => 0)))] H := hP
  have hD : va_D A [(ym, .inr (6, [.int (nI 4), .ref q12, .int 0, .ref q20, .ref q28, .ref q36, .ref q44, .ref q52, .int 0, .ref q60, .ref q68, .ref q76, .int 0, .ref q84, .ref q92, .null, .int 0, .null, .null, .null, .null])), (q12, .inl (cI, 7, .inl (fun _ => 0))), (q20, .inl (cI, 12, .inl (fun _ => 0))), (q28, .inl (cI, 12, .inl (fun _ => 0))), (q36, .inl (cI, 12, .inl (fun _ => 0))), (q44, .inl (cZ, 12, .inl (fun _ => 0))), (q52, .inl (cI, 12, .inl (fun _ => 0))), (q60, .inl (cI, 90, .inl (fun _ => 0))), (q68, .inl (cI, 90, .inl (fun _ => 0))), (q76, .inl (cI, 30, .inl (fun _ => 0))), (q84, .inl (cI, 12, .inl (fun _ => 0))), (q92, .inl (cI, 12, .inl (fun _ => 0)))] := hD
  refine lv_aload_n hx hb dX6_init_97 rfl (lv_at hl 0 rfl) ?_
  refine lv_bipush (v := 12) hx hb dX6_init_98 (by decide) ?_
  refine xnewI (n := 12) hx hb (hts (.arrayClass .int) (List.mem_of_getElem? (i := 5) (by decide +kernel))) hK hP hD hS hA rfl (by decide) (Nat.le_of_ble_eq_true rfl) (Nat.le_of_ble_eq_true rfl) dX6_init_100 (fun q100 H hP hD hS => ?_)
  have hP : va_P D vwCl [(ym, .inr (6, [.int (nI 4), .ref q12, .int 0, .ref q20, .ref q28, .ref q36, .ref q44, .ref q52, .int 0, .ref q60, .ref q68, .ref q76, .int 0, .ref q84, .ref q92, .null, .int 0, .null, .null, .null, .null])), (q12, .inl (cI, 7, .inl (fun _ => 0))), (q20, .inl (cI, 12, .inl (fun _ => 0))), (q28, .inl (cI, 12, .inl (fun _ => 0))), (q36, .inl (cI, 12, .inl (fun _ => 0))), (q44, .inl (cZ, 12, .inl (fun _ => 0))), (q52, .inl (cI, 12, .inl (fun _ => 0))), (q60, .inl (cI, 90, .inl (fun _ => 0))), (q68, .inl (cI, 90, .inl (fun _ => 0))), (q76, .inl (cI, 30, .inl (fun _ => 0))), (q84, .inl (cI, 12, .inl (fun _ => 0))), (q92, .inl (cI, 12, .inl (fun _ => 0))), (q100, .inl (cI, 12, .inl (fun _ => 0)))] H := hP
  have hD : va_D A [(ym, .inr (6, [.int (nI 4), .ref q12, .int 0, .ref q20, .ref q28, .ref q36, .ref q44, .ref q52, .int 0, .ref q60, .ref q68, .ref q76, .int 0, .ref q84, .ref q92, .null, .int 0, .null, .null, .null, .null])), (q12, .inl (cI, 7, .inl (fun _ => 0))), (q20, .inl (cI, 12, .inl (fun _ => 0))), (q28, .inl (cI, 12, .inl (fun _ => 0))), (q36, .inl (cI, 12, .inl (fun _ => 0))), (q44, .inl (cZ, 12, .inl (fun _ => 0))), (q52, .inl (cI, 12, .inl (fun _ => 0))), (q60, .inl (cI, 90, .inl (fun _ => 0))), (q68, .inl (cI, 90, .inl (fun _ => 0))), (q76, .inl (cI, 30, .inl (fun _ => 0))), (q84, .inl (cI, 12, .inl (fun _ => 0))), (q92, .inl (cI, 12, .inl (fun _ => 0))), (q100, .inl (cI, 12, .inl (fun _ => 0)))] := hD
  refine va_putF (D := D) (ci := 6) (v := .ref q100) (ty := .array .int) (C := RX6) (T := TX6) (N := 21) hx hb hts hiX6 tyX6 tyX6_ok nmX6 hown hK hP hD hS 0 rfl rfl 15 (by decide) hf48 (fun _ h9 => h9) rfl hin rfl (by decide +kernel) rfl rfl (Nat.le_of_ble_eq_true rfl) dX6_init_102 (fun H locs hP hD hS => ?_)
  have hP : va_P D vwCl [(ym, .inr (6, [.int (nI 4), .ref q12, .int 0, .ref q20, .ref q28, .ref q36, .ref q44, .ref q52, .int 0, .ref q60, .ref q68, .ref q76, .int 0, .ref q84, .ref q92, .ref q100, .int 0, .null, .null, .null, .null])), (q12, .inl (cI, 7, .inl (fun _ => 0))), (q20, .inl (cI, 12, .inl (fun _ => 0))), (q28, .inl (cI, 12, .inl (fun _ => 0))), (q36, .inl (cI, 12, .inl (fun _ => 0))), (q44, .inl (cZ, 12, .inl (fun _ => 0))), (q52, .inl (cI, 12, .inl (fun _ => 0))), (q60, .inl (cI, 90, .inl (fun _ => 0))), (q68, .inl (cI, 90, .inl (fun _ => 0))), (q76, .inl (cI, 30, .inl (fun _ => 0))), (q84, .inl (cI, 12, .inl (fun _ => 0))), (q92, .inl (cI, 12, .inl (fun _ => 0))), (q100, .inl (cI, 12, .inl (fun _ => 0)))] H := hP
  have hD : va_D A [(ym, .inr (6, [.int (nI 4), .ref q12, .int 0, .ref q20, .ref q28, .ref q36, .ref q44, .ref q52, .int 0, .ref q60, .ref q68, .ref q76, .int 0, .ref q84, .ref q92, .ref q100, .int 0, .null, .null, .null, .null])), (q12, .inl (cI, 7, .inl (fun _ => 0))), (q20, .inl (cI, 12, .inl (fun _ => 0))), (q28, .inl (cI, 12, .inl (fun _ => 0))), (q36, .inl (cI, 12, .inl (fun _ => 0))), (q44, .inl (cZ, 12, .inl (fun _ => 0))), (q52, .inl (cI, 12, .inl (fun _ => 0))), (q60, .inl (cI, 90, .inl (fun _ => 0))), (q68, .inl (cI, 90, .inl (fun _ => 0))), (q76, .inl (cI, 30, .inl (fun _ => 0))), (q84, .inl (cI, 12, .inl (fun _ => 0))), (q92, .inl (cI, 12, .inl (fun _ => 0))), (q100, .inl (cI, 12, .inl (fun _ => 0)))] := hD
  refine lv_aload_n hx hb dX6_init_105 rfl (lv_at hl 0 rfl) ?_
  refine lv_iconst (v := nI 5) hx hb dX6_init_106 (by decide) ?_
  refine va_put (D := D) (ci := 6) (v := .int (nI 5)) (ty := .int) (C := RX6) (T := TX6) (N := 21) hx hb hts hiX6 tyX6 tyX6_ok nmX6 hown hK hP hD hS 0 rfl rfl 16 (by decide) hf51 (fun _ h9 => h9) rfl (by decide +kernel) rfl rfl (Nat.le_of_ble_eq_true rfl) dX6_init_107 (fun H locs hP hD hS => ?_)
  have hP : va_P D vwCl [(ym, .inr (6, [.int (nI 4), .ref q12, .int 0, .ref q20, .ref q28, .ref q36, .ref q44, .ref q52, .int 0, .ref q60, .ref q68, .ref q76, .int 0, .ref q84, .ref q92, .ref q100, .int (nI 5), .null, .null, .null, .null])), (q12, .inl (cI, 7, .inl (fun _ => 0))), (q20, .inl (cI, 12, .inl (fun _ => 0))), (q28, .inl (cI, 12, .inl (fun _ => 0))), (q36, .inl (cI, 12, .inl (fun _ => 0))), (q44, .inl (cZ, 12, .inl (fun _ => 0))), (q52, .inl (cI, 12, .inl (fun _ => 0))), (q60, .inl (cI, 90, .inl (fun _ => 0))), (q68, .inl (cI, 90, .inl (fun _ => 0))), (q76, .inl (cI, 30, .inl (fun _ => 0))), (q84, .inl (cI, 12, .inl (fun _ => 0))), (q92, .inl (cI, 12, .inl (fun _ => 0))), (q100, .inl (cI, 12, .inl (fun _ => 0)))] H := hP
  have hD : va_D A [(ym, .inr (6, [.int (nI 4), .ref q12, .int 0, .ref q20, .ref q28, .ref q36, .ref q44, .ref q52, .int 0, .ref q60, .ref q68, .ref q76, .int 0, .ref q84, .ref q92, .ref q100, .int (nI 5), .null, .null, .null, .null])), (q12, .inl (cI, 7, .inl (fun _ => 0))), (q20, .inl (cI, 12, .inl (fun _ => 0))), (q28, .inl (cI, 12, .inl (fun _ => 0))), (q36, .inl (cI, 12, .inl (fun _ => 0))), (q44, .inl (cZ, 12, .inl (fun _ => 0))), (q52, .inl (cI, 12, .inl (fun _ => 0))), (q60, .inl (cI, 90, .inl (fun _ => 0))), (q68, .inl (cI, 90, .inl (fun _ => 0))), (q76, .inl (cI, 30, .inl (fun _ => 0))), (q84, .inl (cI, 12, .inl (fun _ => 0))), (q92, .inl (cI, 12, .inl (fun _ => 0))), (q100, .inl (cI, 12, .inl (fun _ => 0)))] := hD
  refine lv_aload_n hx hb dX6_init_110 rfl (lv_at hl 0 rfl) ?_
  refine lv_sipush (v := 128) hx hb dX6_init_111 (by decide) ?_
  refine xnewI (n := 128) hx hb (hts (.arrayClass .int) (List.mem_of_getElem? (i := 5) (by decide +kernel))) hK hP hD hS hA rfl (by decide) (Nat.le_of_ble_eq_true rfl) (Nat.le_of_ble_eq_true rfl) dX6_init_114 (fun q114 H hP hD hS => ?_)
  have hP : va_P D vwCl [(ym, .inr (6, [.int (nI 4), .ref q12, .int 0, .ref q20, .ref q28, .ref q36, .ref q44, .ref q52, .int 0, .ref q60, .ref q68, .ref q76, .int 0, .ref q84, .ref q92, .ref q100, .int (nI 5), .null, .null, .null, .null])), (q12, .inl (cI, 7, .inl (fun _ => 0))), (q20, .inl (cI, 12, .inl (fun _ => 0))), (q28, .inl (cI, 12, .inl (fun _ => 0))), (q36, .inl (cI, 12, .inl (fun _ => 0))), (q44, .inl (cZ, 12, .inl (fun _ => 0))), (q52, .inl (cI, 12, .inl (fun _ => 0))), (q60, .inl (cI, 90, .inl (fun _ => 0))), (q68, .inl (cI, 90, .inl (fun _ => 0))), (q76, .inl (cI, 30, .inl (fun _ => 0))), (q84, .inl (cI, 12, .inl (fun _ => 0))), (q92, .inl (cI, 12, .inl (fun _ => 0))), (q100, .inl (cI, 12, .inl (fun _ => 0))), (q114, .inl (cI, 128, .inl (fun _ => 0)))] H := hP
  have hD : va_D A [(ym, .inr (6, [.int (nI 4), .ref q12, .int 0, .ref q20, .ref q28, .ref q36, .ref q44, .ref q52, .int 0, .ref q60, .ref q68, .ref q76, .int 0, .ref q84, .ref q92, .ref q100, .int (nI 5), .null, .null, .null, .null])), (q12, .inl (cI, 7, .inl (fun _ => 0))), (q20, .inl (cI, 12, .inl (fun _ => 0))), (q28, .inl (cI, 12, .inl (fun _ => 0))), (q36, .inl (cI, 12, .inl (fun _ => 0))), (q44, .inl (cZ, 12, .inl (fun _ => 0))), (q52, .inl (cI, 12, .inl (fun _ => 0))), (q60, .inl (cI, 90, .inl (fun _ => 0))), (q68, .inl (cI, 90, .inl (fun _ => 0))), (q76, .inl (cI, 30, .inl (fun _ => 0))), (q84, .inl (cI, 12, .inl (fun _ => 0))), (q92, .inl (cI, 12, .inl (fun _ => 0))), (q100, .inl (cI, 12, .inl (fun _ => 0))), (q114, .inl (cI, 128, .inl (fun _ => 0)))] := hD
  refine va_putF (D := D) (ci := 6) (v := .ref q114) (ty := .array .int) (C := RX6) (T := TX6) (N := 21) hx hb hts hiX6 tyX6 tyX6_ok nmX6 hown hK hP hD hS 0 rfl rfl 17 (by decide) hf54 (fun _ h9 => h9) rfl hin rfl (by decide +kernel) rfl rfl (Nat.le_of_ble_eq_true rfl) dX6_init_116 (fun H locs hP hD hS => ?_)
  have hP : va_P D vwCl [(ym, .inr (6, [.int (nI 4), .ref q12, .int 0, .ref q20, .ref q28, .ref q36, .ref q44, .ref q52, .int 0, .ref q60, .ref q68, .ref q76, .int 0, .ref q84, .ref q92, .ref q100, .int (nI 5), .ref q114, .null, .null, .null])), (q12, .inl (cI, 7, .inl (fun _ => 0))), (q20, .inl (cI, 12, .inl (fun _ => 0))), (q28, .inl (cI, 12, .inl (fun _ => 0))), (q36, .inl (cI, 12, .inl (fun _ => 0))), (q44, .inl (cZ, 12, .inl (fun _ => 0))), (q52, .inl (cI, 12, .inl (fun _ => 0))), (q60, .inl (cI, 90, .inl (fun _ => 0))), (q68, .inl (cI, 90, .inl (fun _ => 0))), (q76, .inl (cI, 30, .inl (fun _ => 0))), (q84, .inl (cI, 12, .inl (fun _ => 0))), (q92, .inl (cI, 12, .inl (fun _ => 0))), (q100, .inl (cI, 12, .inl (fun _ => 0))), (q114, .inl (cI, 128, .inl (fun _ => 0)))] H := hP
  have hD : va_D A [(ym, .inr (6, [.int (nI 4), .ref q12, .int 0, .ref q20, .ref q28, .ref q36, .ref q44, .ref q52, .int 0, .ref q60, .ref q68, .ref q76, .int 0, .ref q84, .ref q92, .ref q100, .int (nI 5), .ref q114, .null, .null, .null])), (q12, .inl (cI, 7, .inl (fun _ => 0))), (q20, .inl (cI, 12, .inl (fun _ => 0))), (q28, .inl (cI, 12, .inl (fun _ => 0))), (q36, .inl (cI, 12, .inl (fun _ => 0))), (q44, .inl (cZ, 12, .inl (fun _ => 0))), (q52, .inl (cI, 12, .inl (fun _ => 0))), (q60, .inl (cI, 90, .inl (fun _ => 0))), (q68, .inl (cI, 90, .inl (fun _ => 0))), (q76, .inl (cI, 30, .inl (fun _ => 0))), (q84, .inl (cI, 12, .inl (fun _ => 0))), (q92, .inl (cI, 12, .inl (fun _ => 0))), (q100, .inl (cI, 12, .inl (fun _ => 0))), (q114, .inl (cI, 128, .inl (fun _ => 0)))] := hD
  refine lv_aload_n hx hb dX6_init_119 rfl (lv_at hl 0 rfl) ?_
  refine lv_bipush (v := 30) hx hb dX6_init_120 (by decide) ?_
  refine xnewI (n := 30) hx hb (hts (.arrayClass .int) (List.mem_of_getElem? (i := 5) (by decide +kernel))) hK hP hD hS hA rfl (by decide) (Nat.le_of_ble_eq_true rfl) (Nat.le_of_ble_eq_true rfl) dX6_init_122 (fun q122 H hP hD hS => ?_)
  have hP : va_P D vwCl [(ym, .inr (6, [.int (nI 4), .ref q12, .int 0, .ref q20, .ref q28, .ref q36, .ref q44, .ref q52, .int 0, .ref q60, .ref q68, .ref q76, .int 0, .ref q84, .ref q92, .ref q100, .int (nI 5), .ref q114, .null, .null, .null])), (q12, .inl (cI, 7, .inl (fun _ => 0))), (q20, .inl (cI, 12, .inl (fun _ => 0))), (q28, .inl (cI, 12, .inl (fun _ => 0))), (q36, .inl (cI, 12, .inl (fun _ => 0))), (q44, .inl (cZ, 12, .inl (fun _ => 0))), (q52, .inl (cI, 12, .inl (fun _ => 0))), (q60, .inl (cI, 90, .inl (fun _ => 0))), (q68, .inl (cI, 90, .inl (fun _ => 0))), (q76, .inl (cI, 30, .inl (fun _ => 0))), (q84, .inl (cI, 12, .inl (fun _ => 0))), (q92, .inl (cI, 12, .inl (fun _ => 0))), (q100, .inl (cI, 12, .inl (fun _ => 0))), (q114, .inl (cI, 128, .inl (fun _ => 0))), (q122, .inl (cI, 30, .inl (fun _ => 0)))] H := hP
  have hD : va_D A [(ym, .inr (6, [.int (nI 4), .ref q12, .int 0, .ref q20, .ref q28, .ref q36, .ref q44, .ref q52, .int 0, .ref q60, .ref q68, .ref q76, .int 0, .ref q84, .ref q92, .ref q100, .int (nI 5), .ref q114, .null, .null, .null])), (q12, .inl (cI, 7, .inl (fun _ => 0))), (q20, .inl (cI, 12, .inl (fun _ => 0))), (q28, .inl (cI, 12, .inl (fun _ => 0))), (q36, .inl (cI, 12, .inl (fun _ => 0))), (q44, .inl (cZ, 12, .inl (fun _ => 0))), (q52, .inl (cI, 12, .inl (fun _ => 0))), (q60, .inl (cI, 90, .inl (fun _ => 0))), (q68, .inl (cI, 90, .inl (fun _ => 0))), (q76, .inl (cI, 30, .inl (fun _ => 0))), (q84, .inl (cI, 12, .inl (fun _ => 0))), (q92, .inl (cI, 12, .inl (fun _ => 0))), (q100, .inl (cI, 12, .inl (fun _ => 0))), (q114, .inl (cI, 128, .inl (fun _ => 0))), (q122, .inl (cI, 30, .inl (fun _ => 0)))] := hD
  refine va_putF (D := D) (ci := 6) (v := .ref q122) (ty := .array .int) (C := RX6) (T := TX6) (N := 21) hx hb hts hiX6 tyX6 tyX6_ok nmX6 hown hK hP hD hS 0 rfl rfl 18 (by decide) hf57 (fun _ h9 => h9) rfl hin rfl (by decide +kernel) rfl rfl (Nat.le_of_ble_eq_true rfl) dX6_init_124 (fun H locs hP hD hS => ?_)
  have hP : va_P D vwCl [(ym, .inr (6, [.int (nI 4), .ref q12, .int 0, .ref q20, .ref q28, .ref q36, .ref q44, .ref q52, .int 0, .ref q60, .ref q68, .ref q76, .int 0, .ref q84, .ref q92, .ref q100, .int (nI 5), .ref q114, .ref q122, .null, .null])), (q12, .inl (cI, 7, .inl (fun _ => 0))), (q20, .inl (cI, 12, .inl (fun _ => 0))), (q28, .inl (cI, 12, .inl (fun _ => 0))), (q36, .inl (cI, 12, .inl (fun _ => 0))), (q44, .inl (cZ, 12, .inl (fun _ => 0))), (q52, .inl (cI, 12, .inl (fun _ => 0))), (q60, .inl (cI, 90, .inl (fun _ => 0))), (q68, .inl (cI, 90, .inl (fun _ => 0))), (q76, .inl (cI, 30, .inl (fun _ => 0))), (q84, .inl (cI, 12, .inl (fun _ => 0))), (q92, .inl (cI, 12, .inl (fun _ => 0))), (q100, .inl (cI, 12, .inl (fun _ => 0))), (q114, .inl (cI, 128, .inl (fun _ => 0))), (q122, .inl (cI, 30, .inl (fun _ => 0)))] H := hP
  have hD : va_D A [(ym, .inr (6, [.int (nI 4), .ref q12, .int 0, .ref q20, .ref q28, .ref q36, .ref q44, .ref q52, .int 0, .ref q60, .ref q68, .ref q76, .int 0, .ref q84, .ref q92, .ref q100, .int (nI 5), .ref q114, .ref q122, .null, .null])), (q12, .inl (cI, 7, .inl (fun _ => 0))), (q20, .inl (cI, 12, .inl (fun _ => 0))), (q28, .inl (cI, 12, .inl (fun _ => 0))), (q36, .inl (cI, 12, .inl (fun _ => 0))), (q44, .inl (cZ, 12, .inl (fun _ => 0))), (q52, .inl (cI, 12, .inl (fun _ => 0))), (q60, .inl (cI, 90, .inl (fun _ => 0))), (q68, .inl (cI, 90, .inl (fun _ => 0))), (q76, .inl (cI, 30, .inl (fun _ => 0))), (q84, .inl (cI, 12, .inl (fun _ => 0))), (q92, .inl (cI, 12, .inl (fun _ => 0))), (q100, .inl (cI, 12, .inl (fun _ => 0))), (q114, .inl (cI, 128, .inl (fun _ => 0))), (q122, .inl (cI, 30, .inl (fun _ => 0)))] := hD
  refine lv_aload_n hx hb dX6_init_127 rfl (lv_at hl 0 rfl) ?_
  refine lv_iconst (v := 4) hx hb dX6_init_128 (by decide) ?_
  refine xnewI (n := 4) hx hb (hts (.arrayClass .int) (List.mem_of_getElem? (i := 5) (by decide +kernel))) hK hP hD hS hA rfl (by decide) (Nat.le_of_ble_eq_true rfl) (Nat.le_of_ble_eq_true rfl) dX6_init_129 (fun q129 H hP hD hS => ?_)
  have hP : va_P D vwCl [(ym, .inr (6, [.int (nI 4), .ref q12, .int 0, .ref q20, .ref q28, .ref q36, .ref q44, .ref q52, .int 0, .ref q60, .ref q68, .ref q76, .int 0, .ref q84, .ref q92, .ref q100, .int (nI 5), .ref q114, .ref q122, .null, .null])), (q12, .inl (cI, 7, .inl (fun _ => 0))), (q20, .inl (cI, 12, .inl (fun _ => 0))), (q28, .inl (cI, 12, .inl (fun _ => 0))), (q36, .inl (cI, 12, .inl (fun _ => 0))), (q44, .inl (cZ, 12, .inl (fun _ => 0))), (q52, .inl (cI, 12, .inl (fun _ => 0))), (q60, .inl (cI, 90, .inl (fun _ => 0))), (q68, .inl (cI, 90, .inl (fun _ => 0))), (q76, .inl (cI, 30, .inl (fun _ => 0))), (q84, .inl (cI, 12, .inl (fun _ => 0))), (q92, .inl (cI, 12, .inl (fun _ => 0))), (q100, .inl (cI, 12, .inl (fun _ => 0))), (q114, .inl (cI, 128, .inl (fun _ => 0))), (q122, .inl (cI, 30, .inl (fun _ => 0))), (q129, .inl (cI, 4, .inl (fun _ => 0)))] H := hP
  have hD : va_D A [(ym, .inr (6, [.int (nI 4), .ref q12, .int 0, .ref q20, .ref q28, .ref q36, .ref q44, .ref q52, .int 0, .ref q60, .ref q68, .ref q76, .int 0, .ref q84, .ref q92, .ref q100, .int (nI 5), .ref q114, .ref q122, .null, .null])), (q12, .inl (cI, 7, .inl (fun _ => 0))), (q20, .inl (cI, 12, .inl (fun _ => 0))), (q28, .inl (cI, 12, .inl (fun _ => 0))), (q36, .inl (cI, 12, .inl (fun _ => 0))), (q44, .inl (cZ, 12, .inl (fun _ => 0))), (q52, .inl (cI, 12, .inl (fun _ => 0))), (q60, .inl (cI, 90, .inl (fun _ => 0))), (q68, .inl (cI, 90, .inl (fun _ => 0))), (q76, .inl (cI, 30, .inl (fun _ => 0))), (q84, .inl (cI, 12, .inl (fun _ => 0))), (q92, .inl (cI, 12, .inl (fun _ => 0))), (q100, .inl (cI, 12, .inl (fun _ => 0))), (q114, .inl (cI, 128, .inl (fun _ => 0))), (q122, .inl (cI, 30, .inl (fun _ => 0))), (q129, .inl (cI, 4, .inl (fun _ => 0)))] := hD
  refine va_putF (D := D) (ci := 6) (v := .ref q129) (ty := .array .int) (C := RX6) (T := TX6) (N := 21) hx hb hts hiX6 tyX6 tyX6_ok nmX6 hown hK hP hD hS 0 rfl rfl 19 (by decide) hf60 (fun _ h9 => h9) rfl hin rfl (by decide +kernel) rfl rfl (Nat.le_of_ble_eq_true rfl) dX6_init_131 (fun H locs hP hD hS => ?_)
  have hP : va_P D vwCl [(ym, .inr (6, [.int (nI 4), .ref q12, .int 0, .ref q20, .ref q28, .ref q36, .ref q44, .ref q52, .int 0, .ref q60, .ref q68, .ref q76, .int 0, .ref q84, .ref q92, .ref q100, .int (nI 5), .ref q114, .ref q122, .ref q129, .null])), (q12, .inl (cI, 7, .inl (fun _ => 0))), (q20, .inl (cI, 12, .inl (fun _ => 0))), (q28, .inl (cI, 12, .inl (fun _ => 0))), (q36, .inl (cI, 12, .inl (fun _ => 0))), (q44, .inl (cZ, 12, .inl (fun _ => 0))), (q52, .inl (cI, 12, .inl (fun _ => 0))), (q60, .inl (cI, 90, .inl (fun _ => 0))), (q68, .inl (cI, 90, .inl (fun _ => 0))), (q76, .inl (cI, 30, .inl (fun _ => 0))), (q84, .inl (cI, 12, .inl (fun _ => 0))), (q92, .inl (cI, 12, .inl (fun _ => 0))), (q100, .inl (cI, 12, .inl (fun _ => 0))), (q114, .inl (cI, 128, .inl (fun _ => 0))), (q122, .inl (cI, 30, .inl (fun _ => 0))), (q129, .inl (cI, 4, .inl (fun _ => 0)))] H := hP
  have hD : va_D A [(ym, .inr (6, [.int (nI 4), .ref q12, .int 0, .ref q20, .ref q28, .ref q36, .ref q44, .ref q52, .int 0, .ref q60, .ref q68, .ref q76, .int 0, .ref q84, .ref q92, .ref q100, .int (nI 5), .ref q114, .ref q122, .ref q129, .null])), (q12, .inl (cI, 7, .inl (fun _ => 0))), (q20, .inl (cI, 12, .inl (fun _ => 0))), (q28, .inl (cI, 12, .inl (fun _ => 0))), (q36, .inl (cI, 12, .inl (fun _ => 0))), (q44, .inl (cZ, 12, .inl (fun _ => 0))), (q52, .inl (cI, 12, .inl (fun _ => 0))), (q60, .inl (cI, 90, .inl (fun _ => 0))), (q68, .inl (cI, 90, .inl (fun _ => 0))), (q76, .inl (cI, 30, .inl (fun _ => 0))), (q84, .inl (cI, 12, .inl (fun _ => 0))), (q92, .inl (cI, 12, .inl (fun _ => 0))), (q100, .inl (cI, 12, .inl (fun _ => 0))), (q114, .inl (cI, 128, .inl (fun _ => 0))), (q122, .inl (cI, 30, .inl (fun _ => 0))), (q129, .inl (cI, 4, .inl (fun _ => 0)))] := hD
  refine lv_aload_n hx hb dX6_init_134 rfl (lv_at hl 0 rfl) ?_
  refine lv_bipush (v := 30) hx hb dX6_init_135 (by decide) ?_
  refine xnewI (n := 30) hx hb (hts (.arrayClass .int) (List.mem_of_getElem? (i := 5) (by decide +kernel))) hK hP hD hS hA rfl (by decide) (Nat.le_of_ble_eq_true rfl) (Nat.le_of_ble_eq_true rfl) dX6_init_137 (fun q137 H hP hD hS => ?_)
  have hP : va_P D vwCl [(ym, .inr (6, [.int (nI 4), .ref q12, .int 0, .ref q20, .ref q28, .ref q36, .ref q44, .ref q52, .int 0, .ref q60, .ref q68, .ref q76, .int 0, .ref q84, .ref q92, .ref q100, .int (nI 5), .ref q114, .ref q122, .ref q129, .null])), (q12, .inl (cI, 7, .inl (fun _ => 0))), (q20, .inl (cI, 12, .inl (fun _ => 0))), (q28, .inl (cI, 12, .inl (fun _ => 0))), (q36, .inl (cI, 12, .inl (fun _ => 0))), (q44, .inl (cZ, 12, .inl (fun _ => 0))), (q52, .inl (cI, 12, .inl (fun _ => 0))), (q60, .inl (cI, 90, .inl (fun _ => 0))), (q68, .inl (cI, 90, .inl (fun _ => 0))), (q76, .inl (cI, 30, .inl (fun _ => 0))), (q84, .inl (cI, 12, .inl (fun _ => 0))), (q92, .inl (cI, 12, .inl (fun _ => 0))), (q100, .inl (cI, 12, .inl (fun _ => 0))), (q114, .inl (cI, 128, .inl (fun _ => 0))), (q122, .inl (cI, 30, .inl (fun _ => 0))), (q129, .inl (cI, 4, .inl (fun _ => 0))), (q137, .inl (cI, 30, .inl (fun _ => 0)))] H := hP
  have hD : va_D A [(ym, .inr (6, [.int (nI 4), .ref q12, .int 0, .ref q20, .ref q28, .ref q36, .ref q44, .ref q52, .int 0, .ref q60, .ref q68, .ref q76, .int 0, .ref q84, .ref q92, .ref q100, .int (nI 5), .ref q114, .ref q122, .ref q129, .null])), (q12, .inl (cI, 7, .inl (fun _ => 0))), (q20, .inl (cI, 12, .inl (fun _ => 0))), (q28, .inl (cI, 12, .inl (fun _ => 0))), (q36, .inl (cI, 12, .inl (fun _ => 0))), (q44, .inl (cZ, 12, .inl (fun _ => 0))), (q52, .inl (cI, 12, .inl (fun _ => 0))), (q60, .inl (cI, 90, .inl (fun _ => 0))), (q68, .inl (cI, 90, .inl (fun _ => 0))), (q76, .inl (cI, 30, .inl (fun _ => 0))), (q84, .inl (cI, 12, .inl (fun _ => 0))), (q92, .inl (cI, 12, .inl (fun _ => 0))), (q100, .inl (cI, 12, .inl (fun _ => 0))), (q114, .inl (cI, 128, .inl (fun _ => 0))), (q122, .inl (cI, 30, .inl (fun _ => 0))), (q129, .inl (cI, 4, .inl (fun _ => 0))), (q137, .inl (cI, 30, .inl (fun _ => 0)))] := hD
  refine va_putF (D := D) (ci := 6) (v := .ref q137) (ty := .array .int) (C := RX6) (T := TX6) (N := 21) hx hb hts hiX6 tyX6 tyX6_ok nmX6 hown hK hP hD hS 0 rfl rfl 20 (by decide) hf63 (fun _ h9 => h9) rfl hin rfl (by decide +kernel) rfl rfl (Nat.le_of_ble_eq_true rfl) dX6_init_139 (fun H locs hP hD hS => ?_)
  have hP : va_P D vwCl [(ym, .inr (6, [.int (nI 4), .ref q12, .int 0, .ref q20, .ref q28, .ref q36, .ref q44, .ref q52, .int 0, .ref q60, .ref q68, .ref q76, .int 0, .ref q84, .ref q92, .ref q100, .int (nI 5), .ref q114, .ref q122, .ref q129, .ref q137])), (q12, .inl (cI, 7, .inl (fun _ => 0))), (q20, .inl (cI, 12, .inl (fun _ => 0))), (q28, .inl (cI, 12, .inl (fun _ => 0))), (q36, .inl (cI, 12, .inl (fun _ => 0))), (q44, .inl (cZ, 12, .inl (fun _ => 0))), (q52, .inl (cI, 12, .inl (fun _ => 0))), (q60, .inl (cI, 90, .inl (fun _ => 0))), (q68, .inl (cI, 90, .inl (fun _ => 0))), (q76, .inl (cI, 30, .inl (fun _ => 0))), (q84, .inl (cI, 12, .inl (fun _ => 0))), (q92, .inl (cI, 12, .inl (fun _ => 0))), (q100, .inl (cI, 12, .inl (fun _ => 0))), (q114, .inl (cI, 128, .inl (fun _ => 0))), (q122, .inl (cI, 30, .inl (fun _ => 0))), (q129, .inl (cI, 4, .inl (fun _ => 0))), (q137, .inl (cI, 30, .inl (fun _ => 0)))] H := hP
  have hD : va_D A [(ym, .inr (6, [.int (nI 4), .ref q12, .int 0, .ref q20, .ref q28, .ref q36, .ref q44, .ref q52, .int 0, .ref q60, .ref q68, .ref q76, .int 0, .ref q84, .ref q92, .ref q100, .int (nI 5), .ref q114, .ref q122, .ref q129, .ref q137])), (q12, .inl (cI, 7, .inl (fun _ => 0))), (q20, .inl (cI, 12, .inl (fun _ => 0))), (q28, .inl (cI, 12, .inl (fun _ => 0))), (q36, .inl (cI, 12, .inl (fun _ => 0))), (q44, .inl (cZ, 12, .inl (fun _ => 0))), (q52, .inl (cI, 12, .inl (fun _ => 0))), (q60, .inl (cI, 90, .inl (fun _ => 0))), (q68, .inl (cI, 90, .inl (fun _ => 0))), (q76, .inl (cI, 30, .inl (fun _ => 0))), (q84, .inl (cI, 12, .inl (fun _ => 0))), (q92, .inl (cI, 12, .inl (fun _ => 0))), (q100, .inl (cI, 12, .inl (fun _ => 0))), (q114, .inl (cI, 128, .inl (fun _ => 0))), (q122, .inl (cI, 30, .inl (fun _ => 0))), (q129, .inl (cI, 4, .inl (fun _ => 0))), (q137, .inl (cI, 30, .inl (fun _ => 0)))] := hD
  have e_rw : ((fun _ => 0) : Nat → Int32) = rB σ1 := zf_z
  have hP : va_P D vwCl [(ym, .inr (6, [.int (nI 4), .ref q12, .int 0, .ref q20, .ref q28, .ref q36, .ref q44, .ref q52, .int 0, .ref q60, .ref q68, .ref q76, .int 0, .ref q84, .ref q92, .ref q100, .int (nI 5), .ref q114, .ref q122, .ref q129, .ref q137])), (q12, .inl (cI, 7, .inl (rB σ1))), (q20, .inl (cI, 12, .inl (fun _ => 0))), (q28, .inl (cI, 12, .inl (fun _ => 0))), (q36, .inl (cI, 12, .inl (fun _ => 0))), (q44, .inl (cZ, 12, .inl (fun _ => 0))), (q52, .inl (cI, 12, .inl (fun _ => 0))), (q60, .inl (cI, 90, .inl (fun _ => 0))), (q68, .inl (cI, 90, .inl (fun _ => 0))), (q76, .inl (cI, 30, .inl (fun _ => 0))), (q84, .inl (cI, 12, .inl (fun _ => 0))), (q92, .inl (cI, 12, .inl (fun _ => 0))), (q100, .inl (cI, 12, .inl (fun _ => 0))), (q114, .inl (cI, 128, .inl (fun _ => 0))), (q122, .inl (cI, 30, .inl (fun _ => 0))), (q129, .inl (cI, 4, .inl (fun _ => 0))), (q137, .inl (cI, 30, .inl (fun _ => 0)))] H := by rw [← e_rw]; exact hP
  have hD : va_D A [(ym, .inr (6, [.int (nI 4), .ref q12, .int 0, .ref q20, .ref q28, .ref q36, .ref q44, .ref q52, .int 0, .ref q60, .ref q68, .ref q76, .int 0, .ref q84, .ref q92, .ref q100, .int (nI 5), .ref q114, .ref q122, .ref q129, .ref q137])), (q12, .inl (cI, 7, .inl (rB σ1))), (q20, .inl (cI, 12, .inl (fun _ => 0))), (q28, .inl (cI, 12, .inl (fun _ => 0))), (q36, .inl (cI, 12, .inl (fun _ => 0))), (q44, .inl (cZ, 12, .inl (fun _ => 0))), (q52, .inl (cI, 12, .inl (fun _ => 0))), (q60, .inl (cI, 90, .inl (fun _ => 0))), (q68, .inl (cI, 90, .inl (fun _ => 0))), (q76, .inl (cI, 30, .inl (fun _ => 0))), (q84, .inl (cI, 12, .inl (fun _ => 0))), (q92, .inl (cI, 12, .inl (fun _ => 0))), (q100, .inl (cI, 12, .inl (fun _ => 0))), (q114, .inl (cI, 128, .inl (fun _ => 0))), (q122, .inl (cI, 30, .inl (fun _ => 0))), (q129, .inl (cI, 4, .inl (fun _ => 0))), (q137, .inl (cI, 30, .inl (fun _ => 0)))] := by rw [← e_rw]; exact hD
  clear e_rw
  have hP9 := hP
  have hD9 := hD
  refine W.widen (k := 16) (n := 505) (Nat.le_of_ble_eq_true rfl) (Nat.le_of_ble_eq_true rfl) ?_
  exact W.vret hx hb hr (fun t ht hW => ⟨⟨(q12, q20, q28, q36, q44, q52, q60, q68, q76, q84, q92, q100, q114, q122, q129, q137), rfl, trivial, ⟨⟨by rw [ht]; exact hP9, va_K.moved hW.alike hK, NW.warm hW hN⟩, hD9⟩⟩, hS.F ht⟩) hS.2.2 dX6_init_142
