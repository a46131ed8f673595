set_option maxHeartbeats 4000000 in
set_option maxRecDepth 100000 in
theorem c_X6_in (l : Launch) (D : va_G) (cI cZ : ClassId) (v : Int32) (lo1 : Int32) (hi1 : Int32) : Met l yX6_in wsX6_in ({ frames := 0, cells := 0, slots := 0, locals := 0 }) (va_Pc [.int v, .int lo1, .int hi1] (XP D cI cZ [])) (vp_Si (fun r => r = b2 (inI v lo1 hi1))) 0 0 (fun _ => False) := by
  refine Met.ofW (cc := cX6_in) (maxL := 3) (ret := (some .boolean)) (by decide) rfl ?_
  intro p e s m args below meth c s₁ B hml hv
  obtain ⟨rfl, hP, hK, hN⟩ := hv
  have hx := B.exec
  have hb := B.bytes
  have hr := B.returns
  have hts := atoms_spec (ws := wsX6_in) B.pre
  have hown : s.vm.findClass RX6 = some m.cls := findClass_of_methodNamed B.named
  have hlocks := B.notSynchronized
  have hl := lv_entry ([.int v, .int lo1, .int hi1]) (n := 3) (Nat.le_of_ble_eq_true rfl)
  rw [lg_entry_eq]
  generalize (lg_sl ([.int v, .int lo1, .int hi1]) ++ List.replicate (3 - (lg_sl ([.int v, .int lo1, .int hi1])).length) Slot.unset).toArray = ls at hl ⊢
  have hl : lv_has ls 3 [(0, .int v), (1, .int lo1), (2, .int hi1)] := hl
  refine lv_iload_n hx hb dX6_in_0 rfl (lv_at hl 0 rfl) ?_
  refine lv_iload_n hx hb dX6_in_1 rfl (lv_at hl 1 rfl) ?_
  refine lv_icmp_lt (tgt := 14) hx hb dX6_in_2 (by decide) (fun c2 => ?_) (fun c2 => ?_)
  · skip
    refine lv_iconst (v := 0) hx hb dX6_in_14 (by decide) ?_
    exact W.zret (v := 0) (ty := .boolean) hx hb hr rfl (fun t ht hW => ⟨_, rfl, by simp [c2, b2, inI], ht⟩) (fun _ h => absurd h List.not_mem_nil) dX6_in_15
  · skip
    refine lv_iload_n hx hb dX6_in_5 rfl (lv_at hl 0 rfl) ?_
    refine lv_iload_n hx hb dX6_in_6 rfl (lv_at hl 2 rfl) ?_
    refine lv_icmp_gt (tgt := 14) hx hb dX6_in_7 (by decide) (fun c7 => ?_) (fun c7 => ?_)
    · skip
      refine lv_iconst (v := 0) hx hb dX6_in_14 (by decide) ?_
      exact W.zret (v := 0) (ty := .boolean) hx hb hr rfl (fun t ht hW => ⟨_, rfl, by simp [c2, c7, b2, inI], ht⟩) (fun _ h => absurd h List.not_mem_nil) dX6_in_15
    · skip
      refine lv_iconst (v := 1) hx hb dX6_in_10 (by decide) ?_
      refine lv_goto (tgt := 15) hx hb dX6_in_11 (by decide) ?_
      exact W.zret (v := 1) (ty := .boolean) hx hb hr rfl (fun t ht hW => ⟨_, rfl, by simp [c2, c7, b2, inI], ht⟩) (fun _ h => absurd h List.not_mem_nil) dX6_in_15

set_option maxHeartbeats 4000000 in
set_option maxRecDepth 100000 in
theorem c_X6_isFact (l : Launch) (D : va_G) (cI cZ : ClassId) (ym : Nat) (ymB : Nat) (ymU : Nat) (ymV : Nat) (ymR : Nat) (ymI : Nat) (ymE : Nat) (ymS : Nat) (ymT : Nat) (ymD : Nat) (ymQ : Nat) (ymP : Nat) (ymN : Nat) (ymO : Nat) (ymY : Nat) (ymZ : Nat) (ymX : Nat) (σ : ST) (x : Int32) (hok : Ok σ) : Met l yX6_isFact wsX6_isFact ({ frames := 1, cells := 0, slots := 0, locals := 22 }) (va_Pc [.ref ym, .int x] (XP D cI cZ [(ym, .inr (6, [.int (nI (sF σ)), .ref ymB, .int (nI (sN σ)), .ref ymU, .ref ymV, .ref ymR, .ref ymI, .ref ymE, .int (nI (sM σ)), .ref ymS, .ref ymT, .ref ymD, .int (nI (sC σ)), .ref ymQ, .ref ymP, .ref ymN, .int (nI (sG σ)), .ref ymO, .ref ymY, .ref ymZ, .ref ymX]))])) (vp_Si (fun r => r = b2 (inN x (sF σ)))) 0 0 (fun _ => False) := by
  refine Met.ofW (cc := cX6_isFact) (maxL := 2) (ret := (some .boolean)) (by decide) rfl ?_
  intro p e s m args below meth c s₁ B hml hv
  obtain ⟨rfl, hP, hK, hN⟩ := hv
  have hx := B.exec
  have hb := B.bytes
  have hr := B.returns
  have hts := atoms_spec (ws := wsX6_isFact) B.pre
  have hown : s.vm.findClass RX6 = some m.cls := findClass_of_methodNamed B.named
  have hlocks := B.notSynchronized
  have ho := hok.1
  have hk2 := hok.k
  have hp2 : 1 ≤ 2 ^ sF σ := Nat.two_pow_pos _
  have hf7 := hts (.fieldLink RX6 7 "BallCourtModel" "facts" "I") (List.mem_of_getElem? (i := 1) (by decide +kernel))
  have hiX6 : ∀ w ∈ wsX60, w ∈ wsX6_isFact := fun w h => List.mem_cons_of_mem _ (List.mem_append_right _ h)
  have hl := lv_entry ([.ref ym, .int x]) (n := 2) (Nat.le_of_ble_eq_true rfl)
  rw [lg_entry_eq]
  generalize (lg_sl ([.ref ym, .int x]) ++ List.replicate (2 - (lg_sl ([.ref ym, .int x])).length) Slot.unset).toArray = ls at hl ⊢
  have hl : lv_has ls 2 [(0, .ref ym), (1, .int x)] := hl
  refine lv_iload_n hx hb dX6_isFact_0 rfl (lv_at hl 1 rfl) ?_
  refine lv_iconst (v := 0) hx hb dX6_isFact_1 (by decide) ?_
  refine lv_aload_n hx hb dX6_isFact_2 rfl (lv_at hl 0 rfl) ?_
  refine va_get (D := D) (ci := 6) (v := .int (nI (sF σ))) (C := RX6) (T := TX6) (N := 21) hx hb hts hiX6 hown hK hP 0 rfl rfl 0 (by decide) hf7 (fun _ h9 => h9) rfl dX6_isFact_3 ?_
  refine lv_iconst (v := 1) hx hb dX6_isFact_6 (by decide) ?_
  refine lv_isub hx hb dX6_isFact_7 ?_
  refine xpS (rest := []) ⟨hx, hb, hml, hown, hts⟩ (c_X6_in l D cI cZ x 0 ((nI (sF σ)) - 1)) (va_cwS 3 hts gX6_isFact_X6_in rfl rfl rfl (by decide +kernel) ⟨Nat.le_of_ble_eq_true rfl, Nat.le_of_ble_eq_true rfl⟩) hP [] rfl hK hN rfl hl.1 rfl (Nat.le_of_ble_eq_true rfl) dX6_isFact_8 ⟨Nat.zero_le _, Nat.zero_le _⟩ (fun r8 e8 => ?_)
  subst e8
  refine lv_asi (show b2 (inI x 0 ((nI (sF σ)) - 1)) = b2 (inN x (sF σ)) from congrArg b2 (inI_n x _ (by omega))) ?_
  exact W.zret (v := b2 (inN x (sF σ))) (ty := .boolean) hx hb hr (nab2 _) (fun t ht hW => ⟨_, rfl, rfl, ht⟩) (fun _ h => absurd h List.not_mem_nil) dX6_isFact_11

set_option maxHeartbeats 4000000 in
set_option maxRecDepth 100000 in
theorem c_X6_isLine (l : Launch) (D : va_G) (cI cZ : ClassId) (ym : Nat) (ymB : Nat) (ymU : Nat) (ymV : Nat) (ymR : Nat) (ymI : Nat) (ymE : Nat) (ymS : Nat) (ymT : Nat) (ymD : Nat) (ymQ : Nat) (ymP : Nat) (ymN : Nat) (ymO : Nat) (ymY : Nat) (ymZ : Nat) (ymX : Nat) (σ : ST) (x : Int32) (hok : Ok σ) : Met l yX6_isLine wsX6_isLine ({ frames := 1, cells := 0, slots := 0, locals := 22 }) (va_Pc [.ref ym, .int x] (XP D cI cZ [(ym, .inr (6, [.int (nI (sF σ)), .ref ymB, .int (nI (sN σ)), .ref ymU, .ref ymV, .ref ymR, .ref ymI, .ref ymE, .int (nI (sM σ)), .ref ymS, .ref ymT, .ref ymD, .int (nI (sC σ)), .ref ymQ, .ref ymP, .ref ymN, .int (nI (sG σ)), .ref ymO, .ref ymY, .ref ymZ, .ref ymX]))])) (vp_Si (fun r => r = b2 (inN x (sN σ)))) 0 0 (fun _ => False) := by
  refine Met.ofW (cc := cX6_isLine) (maxL := 2) (ret := (some .boolean)) (by decide) rfl ?_
  intro p e s m args below meth c s₁ B hml hv
  obtain ⟨rfl, hP, hK, hN⟩ := hv
  have hx := B.exec
  have hb := B.bytes
  have hr := B.returns
  have hts := atoms_spec (ws := wsX6_isLine) B.pre
  have hown : s.vm.findClass RX6 = some m.cls := findClass_of_methodNamed B.named
  have hlocks := B.notSynchronized
  have ho := hok.1
  have hk2 := hok.k
  have hp2 : 1 ≤ 2 ^ sF σ := Nat.two_pow_pos _
  have hf70 := hts (.fieldLink RX6 70 "BallCourtModel" "lines" "I") (List.mem_of_getElem? (i := 1) (by decide +kernel))
  have hiX6 : ∀ w ∈ wsX60, w ∈ wsX6_isLine := fun w h => List.mem_cons_of_mem _ (List.mem_append_right _ h)
  have hl := lv_entry ([.ref ym, .int x]) (n := 2) (Nat.le_of_ble_eq_true rfl)
  rw [lg_entry_eq]
  generalize (lg_sl ([.ref ym, .int x]) ++ List.replicate (2 - (lg_sl ([.ref ym, .int x])).length) Slot.unset).toArray = ls at hl ⊢
  have hl : lv_has ls 2 [(0, .ref ym), (1, .int x)] := hl
  refine lv_iload_n hx hb dX6_isLine_0 rfl (lv_at hl 1 rfl) ?_
  refine lv_iconst (v := 0) hx hb dX6_isLine_1 (by decide) ?_
  refine lv_aload_n hx hb dX6_isLine_2 rfl (lv_at hl 0 rfl) ?_
  refine va_get (D := D) (ci := 6) (v := .int (nI (sN σ))) (C := RX6) (T := TX6) (N := 21) hx hb hts hiX6 hown hK hP 0 rfl rfl 2 (by decide) hf70 (fun _ h9 => h9) rfl dX6_isLine_3 ?_
  refine lv_iconst (v := 1) hx hb dX6_isLine_6 (by decide) ?_
  refine lv_isub hx hb dX6_isLine_7 ?_
  refine xpS (rest := []) ⟨hx, hb, hml, hown, hts⟩ (c_X6_in l D cI cZ x 0 ((nI (sN σ)) - 1)) (va_cwS 3 hts gX6_isLine_X6_in rfl rfl rfl (by decide +kernel) ⟨Nat.le_of_ble_eq_true rfl, Nat.le_of_ble_eq_true rfl⟩) hP [] rfl hK hN rfl hl.1 rfl (Nat.le_of_ble_eq_true rfl) dX6_isLine_8 ⟨Nat.zero_le _, Nat.zero_le _⟩ (fun r8 e8 => ?_)
  subst e8
  refine lv_asi (show b2 (inI x 0 ((nI (sN σ)) - 1)) = b2 (inN x (sN σ)) from congrArg b2 (inI_n x _ (by omega))) ?_
  exact W.zret (v := b2 (inN x (sN σ))) (ty := .boolean) hx hb hr (nab2 _) (fun t ht hW => ⟨_, rfl, rfl, ht⟩) (fun _ h => absurd h List.not_mem_nil) dX6_isLine_11

set_option maxHeartbeats 4000000 in
set_option maxRecDepth 100000 in
theorem c_X6_isMoment (l : Launch) (D : va_G) (cI cZ : ClassId) (ym : Nat) (ymB : Nat) (ymU : Nat) (ymV : Nat) (ymR : Nat) (ymI : Nat) (ymE : Nat) (ymS : Nat) (ymT : Nat) (ymD : Nat) (ymQ : Nat) (ymP : Nat) (ymN : Nat) (ymO : Nat) (ymY : Nat) (ymZ : Nat) (ymX : Nat) (σ : ST) (x : Int32) (hok : Ok σ) : Met l yX6_isMoment wsX6_isMoment ({ frames := 1, cells := 0, slots := 0, locals := 22 }) (va_Pc [.ref ym, .int x] (XP D cI cZ [(ym, .inr (6, [.int (nI (sF σ)), .ref ymB, .int (nI (sN σ)), .ref ymU, .ref ymV, .ref ymR, .ref ymI, .ref ymE, .int (nI (sM σ)), .ref ymS, .ref ymT, .ref ymD, .int (nI (sC σ)), .ref ymQ, .ref ymP, .ref ymN, .int (nI (sG σ)), .ref ymO, .ref ymY, .ref ymZ, .ref ymX]))])) (vp_Si (fun r => r = b2 (inN x (sM σ)))) 0 0 (fun _ => False) := by
  refine Met.ofW (cc := cX6_isMoment) (maxL := 2) (ret := (some .boolean)) (by decide) rfl ?_
  intro p e s m args below meth c s₁ B hml hv
  obtain ⟨rfl, hP, hK, hN⟩ := hv
  have hx := B.exec
  have hb := B.bytes
  have hr := B.returns
  have hts := atoms_spec (ws := wsX6_isMoment) B.pre
  have hown : s.vm.findClass RX6 = some m.cls := findClass_of_methodNamed B.named
  have hlocks := B.notSynchronized
  have ho := hok.1
  have hk2 := hok.k
  have hp2 : 1 ≤ 2 ^ sF σ := Nat.two_pow_pos _
  have hf73 := hts (.fieldLink RX6 73 "BallCourtModel" "moments" "I") (List.mem_of_getElem? (i := 1) (by decide +kernel))
  have hiX6 : ∀ w ∈ wsX60, w ∈ wsX6_isMoment := fun w h => List.mem_cons_of_mem _ (List.mem_append_right _ h)
  have hl := lv_entry ([.ref ym, .int x]) (n := 2) (Nat.le_of_ble_eq_true rfl)
  rw [lg_entry_eq]
  generalize (lg_sl ([.ref ym, .int x]) ++ List.replicate (2 - (lg_sl ([.ref ym, .int x])).length) Slot.unset).toArray = ls at hl ⊢
  have hl : lv_has ls 2 [(0, .ref ym), (1, .int x)] := hl
  refine lv_iload_n hx hb dX6_isMoment_0 rfl (lv_at hl 1 rfl) ?_
  refine lv_iconst (v := 0) hx hb dX6_isMoment_1 (by decide) ?_
  refine lv_aload_n hx hb dX6_isMoment_2 rfl (lv_at hl 0 rfl) ?_
  refine va_get (D := D) (ci := 6) (v := .int (nI (sM σ))) (C := RX6) (T := TX6) (N := 21) hx hb hts hiX6 hown hK hP 0 rfl rfl 8 (by decide) hf73 (fun _ h9 => h9) rfl dX6_isMoment_3 ?_
  refine lv_iconst (v := 1) hx hb dX6_isMoment_6 (by decide) ?_
  refine lv_isub hx hb dX6_isMoment_7 ?_
  refine xpS (rest := []) ⟨hx, hb, hml, hown, hts⟩ (c_X6_in l D cI cZ x 0 ((nI (sM σ)) - 1)) (va_cwS 3 hts gX6_isMoment_X6_in rfl rfl rfl (by decide +kernel) ⟨Nat.le_of_ble_eq_true rfl, Nat.le_of_ble_eq_true rfl⟩) hP [] rfl hK hN rfl hl.1 rfl (Nat.le_of_ble_eq_true rfl) dX6_isMoment_8 ⟨Nat.zero_le _, Nat.zero_le _⟩ (fun r8 e8 => ?_)
  subst e8
  refine lv_asi (show b2 (inI x 0 ((nI (sM σ)) - 1)) = b2 (inN x (sM σ)) from congrArg b2 (inI_n x _ (by omega))) ?_
  exact W.zret (v := b2 (inN x (sM σ))) (ty := .boolean) hx hb hr (nab2 _) (fun t ht hW => ⟨_, rfl, rfl, ht⟩) (fun _ h => absurd h List.not_mem_nil) dX6_isMoment_11

set_option maxHeartbeats 4000000 in
set_option maxRecDepth 100000 in
theorem c_X6_isRuling (l : Launch) (D : va_G) (cI cZ : ClassId) (x : Int32) : Met l yX6_isRuling wsX6_isRuling ({ frames := 1, cells := 0, slots := 0, locals := 22 }) (va_Pc [.int x] (XP D cI cZ [])) (vp_Si (fun r => r = b2 (inI x 0 4))) 0 0 (fun _ => False) := by
  refine Met.ofW (cc := cX6_isRuling) (maxL := 1) (ret := (some .boolean)) (by decide) rfl ?_
  intro p e s m args below meth c s₁ B hml hv
  obtain ⟨rfl, hP, hK, hN⟩ := hv
  have hx := B.exec
  have hb := B.bytes
  have hr := B.returns
  have hts := atoms_spec (ws := wsX6_isRuling) B.pre
  have hown : s.vm.findClass RX6 = some m.cls := findClass_of_methodNamed B.named
  have hlocks := B.notSynchronized
  have hl := lv_entry ([.int x]) (n := 1) (Nat.le_of_ble_eq_true rfl)
  rw [lg_entry_eq]
  generalize (lg_sl ([.int x]) ++ List.replicate (1 - (lg_sl ([.int x])).length) Slot.unset).toArray = ls at hl ⊢
  have hl : lv_has ls 1 [(0, .int x)] := hl
  refine lv_iload_n hx hb dX6_isRuling_0 rfl (lv_at hl 0 rfl) ?_
  refine lv_iconst (v := 0) hx hb dX6_isRuling_1 (by decide) ?_
  refine lv_iconst (v := 4) hx hb dX6_isRuling_2 (by decide) ?_
  refine xpS (rest := []) ⟨hx, hb, hml, hown, hts⟩ (c_X6_in l D cI cZ x 0 4) (va_cwS 3 hts gX6_isRuling_X6_in rfl rfl rfl (by decide +kernel) ⟨Nat.le_of_ble_eq_true rfl, Nat.le_of_ble_eq_true rfl⟩) hP [] rfl hK hN rfl hl.1 rfl (Nat.le_of_ble_eq_true rfl) dX6_isRuling_3 ⟨Nat.zero_le _, Nat.zero_le _⟩ (fun r3 e3 => ?_)
  subst e3
  exact W.zret (v := b2 (inI x 0 4)) (ty := .boolean) hx hb hr (nab2 _) (fun t ht hW => ⟨_, rfl, rfl, ht⟩) (fun _ h => absurd h List.not_mem_nil) dX6_isRuling_6

set_option maxHeartbeats 4000000 in
set_option maxRecDepth 100000 in
theorem c_X6_allFacts (l : Launch) (D : va_G) (cI cZ : ClassId) (ym : Nat) (ymB : Nat) (ymU : Nat) (ymV : Nat) (ymR : Nat) (ymI : Nat) (ymE : Nat) (ymS : Nat) (ymT : Nat) (ymD : Nat) (ymQ : Nat) (ymP : Nat) (ymN : Nat) (ymO : Nat) (ymY : Nat) (ymZ : Nat) (ymX : Nat) (σ : ST) (hok : Ok σ) : Met l yX6_allFacts wsX6_allFacts ({ frames := 0, cells := 0, slots := 0, locals := 0 }) (va_Pc [.ref ym] (XP D cI cZ [(ym, .inr (6, [.int (nI (sF σ)), .ref ymB, .int (nI (sN σ)), .ref ymU, .ref ymV, .ref ymR, .ref ymI, .ref ymE, .int (nI (sM σ)), .ref ymS, .ref ymT, .ref ymD, .int (nI (sC σ)), .ref ymQ, .ref ymP, .ref ymN, .int (nI (sG σ)), .ref ymO, .ref ymY, .ref ymZ, .ref ymX]))])) (vp_Si (fun r => r = nI (2 ^ sF σ - 1))) 0 0 (fun _ => False) := by
  refine Met.ofW (cc := cX6_allFacts) (maxL := 1) (ret := (some .int)) (by decide) rfl ?_
  intro p e s m args below meth c s₁ B hml hv
  obtain ⟨rfl, hP, hK, hN⟩ := hv
  have hx := B.exec
  have hb := B.bytes
  have hr := B.returns
  have hts := atoms_spec (ws := wsX6_allFacts) B.pre
  have hown : s.vm.findClass RX6 = some m.cls := findClass_of_methodNamed B.named
  have hlocks := B.notSynchronized
  have ho := hok.1
  have hk2 := hok.k
  have hp2 : 1 ≤ 2 ^ sF σ := Nat.two_pow_pos _
  have hf7 := hts (.fieldLink RX6 7 "BallCourtModel" "facts" "I") (List.mem_of_getElem? (i := 1) (by decide +kernel))
  have hiX6 : ∀ w ∈ wsX60, w ∈ wsX6_allFacts := fun w h => List.mem_cons_of_mem _ (List.mem_append_right _ h)
  have hl := lv_entry ([.ref ym]) (n := 1) (Nat.le_of_ble_eq_true rfl)
  rw [lg_entry_eq]
  generalize (lg_sl ([.ref ym]) ++ List.replicate (1 - (lg_sl ([.ref ym])).length) Slot.unset).toArray = ls at hl ⊢
  have hl : lv_has ls 1 [(0, .ref ym)] := hl
  refine lv_iconst (v := 1) hx hb dX6_allFacts_0 (by decide) ?_
  refine lv_aload_n hx hb dX6_allFacts_1 rfl (lv_at hl 0 rfl) ?_
  refine va_get (D := D) (ci := 6) (v := .int (nI (sF σ))) (C := RX6) (T := TX6) (N := 21) hx hb hts hiX6 hown hK hP 0 rfl rfl 0 (by decide) hf7 (fun _ h9 => h9) rfl dX6_allFacts_2 ?_
  refine lv_ishl hx hb dX6_allFacts_5 ?_
  refine lv_asi (show (1 : Int32) <<< ((nI (sF σ)) &&& 31) = nI (2 ^ sF σ) from shl1 _ (by omega)) ?_
  refine lv_iconst (v := nI 1) hx hb dX6_allFacts_6 (by decide) ?_
  refine lv_isub hx hb dX6_allFacts_7 ?_
  refine lv_asi (show (nI (2 ^ sF σ)) - (nI 1) = nI (2 ^ sF σ - 1) from pk_sub (Nat.two_pow_pos _)) ?_
  exact W.iret (v := nI (2 ^ sF σ - 1)) hx hb hr (fun t ht hW => ⟨_, rfl, rfl, ht⟩) (fun _ h => absurd h List.not_mem_nil) dX6_allFacts_8

set_option maxHeartbeats 4000000 in
set_option maxRecDepth 100000 in
theorem c_X6_isKind (l : Launch) (D : va_G) (cI cZ : ClassId) (ym : Nat) (ymB : Nat) (ymU : Nat) (ymV : Nat) (ymR : Nat) (ymI : Nat) (ymE : Nat) (ymS : Nat) (ymT : Nat) (ymD : Nat) (ymQ : Nat) (ymP : Nat) (ymN : Nat) (ymO : Nat) (ymY : Nat) (ymZ : Nat) (ymX : Nat) (σ : ST) (x : Int32) (hok : Ok σ) : Met l yX6_isKind wsX6_isKind ({ frames := 1, cells := 0, slots := 0, locals := 22 }) (va_Pc [.ref ym, .int x] (XP D cI cZ [(ym, .inr (6, [.int (nI (sF σ)), .ref ymB, .int (nI (sN σ)), .ref ymU, .ref ymV, .ref ymR, .ref ymI, .ref ymE, .int (nI (sM σ)), .ref ymS, .ref ymT, .ref ymD, .int (nI (sC σ)), .ref ymQ, .ref ymP, .ref ymN, .int (nI (sG σ)), .ref ymO, .ref ymY, .ref ymZ, .ref ymX])), (ymB, .inl (cI, 7, .inl (rB σ)))])) (vp_Si (fun r => r = b2 (kin σ x))) 0 0 (fun _ => False) := by
  refine Met.ofW (cc := cX6_isKind) (maxL := 4) (ret := (some .boolean)) (by decide) rfl ?_
  intro p e s m args below meth c s₁ B hml hv
  obtain ⟨rfl, hP, hK, hN⟩ := hv
  have hx := B.exec
  have hb := B.bytes
  have hr := B.returns
  have hts := atoms_spec (ws := wsX6_isKind) B.pre
  have hown : s.vm.findClass RX6 = some m.cls := findClass_of_methodNamed B.named
  have hlocks := B.notSynchronized
  have ho := hok.1
  have hk2 := hok.k
  have hp2 : 1 ≤ 2 ^ sF σ := Nat.two_pow_pos _
  have hf7 := hts (.fieldLink RX6 7 "BallCourtModel" "facts" "I") (List.mem_of_getElem? (i := 1) (by decide +kernel))
  have hiX6 : ∀ w ∈ wsX60, w ∈ wsX6_isKind := fun w h => List.mem_cons_of_mem _ (List.mem_append_right _ h)
  have hf13 := hts (.fieldLink RX6 13 "BallCourtModel" "bars" "[I") (List.mem_of_getElem? (i := 2) (by decide +kernel))
  have hl := lv_entry ([.ref ym, .int x]) (n := 4) (Nat.le_of_ble_eq_true rfl)
  rw [lg_entry_eq]
  generalize (lg_sl ([.ref ym, .int x]) ++ List.replicate (4 - (lg_sl ([.ref ym, .int x])).length) Slot.unset).toArray = ls at hl ⊢
  have hl : lv_has ls 4 [(0, .ref ym), (1, .int x)] := hl
  refine lv_iload_n hx hb dX6_isKind_0 rfl (lv_at hl 1 rfl) ?_
  refine lv_iconst (v := 0) hx hb dX6_isKind_1 (by decide) ?_
  refine lv_aload_n hx hb dX6_isKind_2 rfl (lv_at hl 0 rfl) ?_
  refine xpV (rest := [.int 0, .int x]) ⟨hx, hb, hml, hown, hts⟩ (c_X6_allFacts l D cI cZ ym ymB ymU ymV ymR ymI ymE ymS ymT ymD ymQ ymP ymN ymO ymY ymZ ymX σ hok) (cwV 0 hts gX6_isKind_X6_allFacts rfl rfl rfl (by decide +kernel) ⟨Nat.le_of_ble_eq_true rfl, Nat.le_of_ble_eq_true rfl⟩) hP [0] rfl hK hN (ci := 6) (q0 := 0) rfl rfl rfl hl.1 rfl (Nat.le_of_ble_eq_true rfl) dX6_isKind_3 ⟨Nat.zero_le _, Nat.zero_le _⟩ (fun r3 e3 => ?_)
  subst e3
  refine xpS (rest := []) ⟨hx, hb, hml, hown, hts⟩ (c_X6_in l D cI cZ x 0 (nI (2 ^ sF σ - 1))) (va_cwS 3 hts gX6_isKind_X6_in rfl rfl rfl (by decide +kernel) ⟨Nat.le_of_ble_eq_true rfl, Nat.le_of_ble_eq_true rfl⟩) hP [] rfl hK hN rfl hl.1 rfl (Nat.le_of_ble_eq_true rfl) dX6_isKind_6 ⟨Nat.zero_le _, Nat.zero_le _⟩ (fun r6 e6 => ?_)
  subst e6
  refine lv_asi (show b2 (inI x 0 (nI (2 ^ sF σ - 1))) = b2 (inN x (2 ^ sF σ)) from congrArg b2 (inI_p x hp2 (by omega))) ?_
  refine lv_istore_n (lv' := [(2, .int (b2 (inN x (2 ^ sF σ)))), (0, .ref ym), (1, .int x)]) hx hb dX6_isKind_9 rfl hl (by decide) rfl (fun ls hl => ?_)
  refine lv_iconst (v := nI 0) hx hb dX6_isKind_10 (by decide) ?_
  refine lv_istore_n (lv' := [(3, .int (nI 0)), (2, .int (b2 (inN x (2 ^ sF σ)))), (0, .ref ym), (1, .int x)]) hx hb dX6_isKind_11 rfl hl (by decide) rfl (fun ls hl => ?_)
  have hl : lv_has ls 4 [(3, .int (nI 0)), (2, .int (b2 (kiE σ x 0))), (0, .ref ym), (1, .int x)] := by rw [← (show b2 (inN x (2 ^ sF σ)) = b2 (kiE σ x 0) from congrArg b2 (kiE_0 σ x))]; exact hl
  refine wloop (α := Nat) (fun v => sF σ - v) (fun v => [(0, .ref ym), (1, .int x), (2, .int (b2 (kiE σ x v))), (3, .int (nI v))]) (fun v => (v ≤ sF σ)) 4 (fun v hv ih12 ls hl => ?_) 0 (show 0 ≤ sF σ from Nat.zero_le _) ls (lv_sub hl [2, 3, 1, 0] rfl)
  obtain ⟨i, rfl⟩ : ∃ z : Nat, z = v := ⟨_, rfl⟩
  have hi : i ≤ sF σ := hv
  have hl : lv_has ls 4 [(0, .ref ym), (1, .int x), (2, .int (b2 (kiE σ x i))), (3, .int (nI i))] := hl
  refine lv_iload_n hx hb dX6_isKind_12 rfl (lv_at hl 3 rfl) ?_
  refine lv_aload_n hx hb dX6_isKind_13 rfl (lv_at hl 0 rfl) ?_
  refine va_get (D := D) (ci := 6) (v := .int (nI (sF σ))) (C := RX6) (T := TX6) (N := 21) hx hb hts hiX6 hown hK hP 0 rfl rfl 0 (by decide) hf7 (fun _ h9 => h9) rfl dX6_isKind_14 ?_
  refine lv_icmp_ge (tgt := 55) hx hb dX6_isKind_17 (by decide) (fun c17 => ?_) (fun c17 => ?_)
  · skip
    have c17 := (nI_leI (by omega) (by omega)).mp c17
    refine lv_iload_n hx hb dX6_isKind_55 rfl (lv_at hl 2 rfl) ?_
    exact W.zret (v := b2 (kiE σ x i)) (ty := .boolean) hx hb hr (nab2 _) (fun t ht hW => ⟨_, rfl, by rw [show i = sF σ by omega, kiE_F hok], ht⟩) (fun _ h => absurd h List.not_mem_nil) dX6_isKind_56
  · skip
    have c17 := Nat.lt_of_not_le (fun z => c17 ((nI_leI (by omega) (by omega)).mpr z))
    refine lv_iload_n hx hb dX6_isKind_20 rfl (lv_at hl 2 rfl) ?_
    refine lv_if_eq (tgt := 55) hx hb dX6_isKind_21 (by decide) (fun c21 => ?_) (fun c21 => ?_)
    · skip
      have c21 := b2_0 c21
      refine lv_iload_n hx hb dX6_isKind_55 rfl (lv_at hl 2 rfl) ?_
      exact W.zret (v := b2 (kiE σ x i)) (ty := .boolean) hx hb hr (nab2 _) (fun t ht hW => ⟨_, rfl, by rw [c21, kiE_f hok c21 (by omega)], ht⟩) (fun _ h => absurd h List.not_mem_nil) dX6_isKind_56
    · skip
      have c21 := b2_1 c21
      refine wjoin (pcJ := 48) (lv := [(0, .ref ym), (1, .int x), (2, .int (b2 (kiE σ x i))), (3, .int (nI i))]) (nL := 4) (st := [.int (b2 (kiE σ x (i + 1)))]) (fun ls hl => ?_) (fun J48 => ?_)
      · skip
        refine lv_istore_n (lv' := [(2, .int (b2 (kiE σ x (i + 1)))), (0, .ref ym), (1, .int x), (3, .int (nI i))]) hx hb dX6_isKind_48 rfl hl (by decide) rfl (fun ls hl => ?_)
        refine lv_iinc (k := 3) (x := nI i) (v := nI (i + 1)) (lv' := [(3, .int (nI (i + 1))), (2, .int (b2 (kiE σ x (i + 1)))), (0, .ref ym), (1, .int x)]) hx hb dX6_isKind_49 hl rfl (show (nI i) + Int32.ofInt 1 = nI (i + 1) from nI_1 _) (by decide) rfl (fun ls hl => ?_)
        refine lv_goto (tgt := 12) hx hb dX6_isKind_52 (by decide) ?_
        exact ih12 (i + 1) (show (i + 1) ≤ sF σ from (by omega)) (by show sF σ - (i + 1) < sF σ - i; omega) ls (lv_sub hl [2, 3, 1, 0] rfl)
      · skip
        refine lv_iload_n hx hb dX6_isKind_24 rfl (lv_at hl 1 rfl) ?_
        refine lv_iload_n hx hb dX6_isKind_25 rfl (lv_at hl 3 rfl) ?_
        refine lv_ishr hx hb dX6_isKind_26 ?_
        refine lv_iconst (v := 1) hx hb dX6_isKind_27 (by decide) ?_
        refine lv_iand hx hb dX6_isKind_28 ?_
        refine lv_asi (show (x >>> ((nI i) &&& 31)) &&& 1 = b2 (bit x (nI i)) from hb_b2 _ _) ?_
        refine lv_if_eq (tgt := 43) hx hb dX6_isKind_29 (by decide) (fun c29 => ?_) (fun c29 => ?_)
        · skip
          have c29 := b2_0 c29
          refine lv_iconst (v := 1) hx hb dX6_isKind_43 (by decide) ?_
          refine lv_goto (tgt := 48) hx hb dX6_isKind_44 (by decide) ?_
          refine lv_asi (show (1 : Int32) = b2 (kiE σ x (i + 1)) from by rw [← kiE_s c21, kbI, c29]; rfl) ?_
          exact J48 ls (lv_sub hl [0, 1, 2, 3] rfl)
        · skip
          have c29 := b2_1 c29
          refine lv_aload_n hx hb dX6_isKind_32 rfl (lv_at hl 0 rfl) ?_
          refine va_get (D := D) (ci := 6) (v := .ref ymB) (C := RX6) (T := TX6) (N := 21) hx hb hts hiX6 hown hK hP 0 rfl rfl 1 (by decide) hf13 (fun _ h9 => h9) rfl dX6_isKind_33 ?_
          refine lv_iload_n hx hb dX6_isKind_36 rfl (lv_at hl 3 rfl) ?_
          refine xald (k := i) hx hb hK hP 1 rfl (by omega) (by decide) dX6_isKind_37 ?_
          refine lv_iload_n hx hb dX6_isKind_38 rfl (lv_at hl 1 rfl) ?_
          refine lv_iand hx hb dX6_isKind_39 ?_
          refine lv_if_ne (tgt := 47) hx hb dX6_isKind_40 (by decide) (fun c40 => ?_) (fun c40 => ?_)
          · skip
            refine lv_iconst (v := 0) hx hb dX6_isKind_47 (by decide) ?_
            refine lv_asi (show (0 : Int32) = b2 (kiE σ x (i + 1)) from by rw [← kiE_s c21, kbI, c29, decide_eq_false c40]; rfl) ?_
            exact J48 ls (lv_sub hl [0, 1, 2, 3] rfl)
          · skip
            refine lv_iconst (v := 1) hx hb dX6_isKind_43 (by decide) ?_
            refine lv_goto (tgt := 48) hx hb dX6_isKind_44 (by decide) ?_
            refine lv_asi (show (1 : Int32) = b2 (kiE σ x (i + 1)) from by rw [← kiE_s c21, kbI, c29, decide_eq_true c40]; rfl) ?_
            exact J48 ls (lv_sub hl [0, 1, 2, 3] rfl)

set_option maxHeartbeats 4000000 in
set_option maxRecDepth 100000 in
theorem c_X6_bits (l : Launch) (D : va_G) (cI cZ : ClassId) (x : Int32) : Met l yX6_bits wsX6_bits ({ frames := 0, cells := 0, slots := 0, locals := 0 }) (va_Pc [.int x] (XP D cI cZ [])) (vp_Si (fun r => r = bcI x 12)) 0 0 (fun _ => False) := by
  refine Met.ofW (cc := cX6_bits) (maxL := 3) (ret := (some .int)) (by decide) rfl ?_
  intro p e s m args below meth c s₁ B hml hv
  obtain ⟨rfl, hP, hK, hN⟩ := hv
  have hx := B.exec
  have hb := B.bytes
  have hr := B.returns
  have hts := atoms_spec (ws := wsX6_bits) B.pre
  have hown : s.vm.findClass RX6 = some m.cls := findClass_of_methodNamed B.named
  have hlocks := B.notSynchronized
  have hl := lv_entry ([.int x]) (n := 3) (Nat.le_of_ble_eq_true rfl)
  rw [lg_entry_eq]
  generalize (lg_sl ([.int x]) ++ List.replicate (3 - (lg_sl ([.int x])).length) Slot.unset).toArray = ls at hl ⊢
  have hl : lv_has ls 3 [(0, .int x)] := hl
  refine lv_iconst (v := 0) hx hb dX6_bits_0 (by decide) ?_
  refine lv_istore_n (lv' := [(1, .int 0), (0, .int x)]) hx hb dX6_bits_1 rfl hl (by decide) rfl (fun ls hl => ?_)
  refine lv_iconst (v := nI 0) hx hb dX6_bits_2 (by decide) ?_
  refine lv_istore_n (lv' := [(2, .int (nI 0)), (1, .int 0), (0, .int x)]) hx hb dX6_bits_3 rfl hl (by decide) rfl (fun ls hl => ?_)
  have hl : lv_has ls 3 [(2, .int (nI 0)), (1, .int (bcI x 0)), (0, .int x)] := by rw [← (show 0 = bcI x 0 from rfl)]; exact hl
  refine wloop (α := Nat) (fun v => 12 - v) (fun v => [(0, .int x), (1, .int (bcI x v)), (2, .int (nI v))]) (fun v => (v ≤ 12)) 3 (fun v hv ih4 ls hl => ?_) 0 (show 0 ≤ 12 from Nat.zero_le _) ls (lv_sub hl [2, 1, 0] rfl)
  obtain ⟨i, rfl⟩ : ∃ z : Nat, z = v := ⟨_, rfl⟩
  have hi : i ≤ 12 := hv
  have hl : lv_has ls 3 [(0, .int x), (1, .int (bcI x i)), (2, .int (nI i))] := hl
  refine lv_iload_n hx hb dX6_bits_4 rfl (lv_at hl 2 rfl) ?_
  refine lv_bipush (v := nI 12) hx hb dX6_bits_5 (by decide) ?_
  refine lv_icmp_ge (tgt := 24) hx hb dX6_bits_7 (by decide) (fun c7 => ?_) (fun c7 => ?_)
  · skip
    have c7 := (nI_leI (by omega) (by omega)).mp c7
    refine lv_iload_n hx hb dX6_bits_24 rfl (lv_at hl 1 rfl) ?_
    exact W.iret (v := bcI x i) hx hb hr (fun t ht hW => ⟨_, rfl, by rw [show i = 12 by omega], ht⟩) (fun _ h => absurd h List.not_mem_nil) dX6_bits_25
  · skip
    have c7 := Nat.lt_of_not_le (fun z => c7 ((nI_leI (by omega) (by omega)).mpr z))
    refine lv_iload_n hx hb dX6_bits_10 rfl (lv_at hl 1 rfl) ?_
    refine lv_iload_n hx hb dX6_bits_11 rfl (lv_at hl 0 rfl) ?_
    refine lv_iload_n hx hb dX6_bits_12 rfl (lv_at hl 2 rfl) ?_
    refine lv_ishr hx hb dX6_bits_13 ?_
    refine lv_iconst (v := 1) hx hb dX6_bits_14 (by decide) ?_
    refine lv_iand hx hb dX6_bits_15 ?_
    refine lv_asi (show (x >>> ((nI i) &&& 31)) &&& 1 = b2 (bit x (nI i)) from hb_b2 _ _) ?_
    refine lv_iadd hx hb dX6_bits_16 ?_
    refine lv_asi (show (bcI x i) + (b2 (bit x (nI i))) = bcI x (i + 1) from rfl) ?_
    refine lv_istore_n (lv' := [(1, .int (bcI x (i + 1))), (0, .int x), (2, .int (nI i))]) hx hb dX6_bits_17 rfl hl (by decide) rfl (fun ls hl => ?_)
    refine lv_iinc (k := 2) (x := nI i) (v := nI (i + 1)) (lv' := [(2, .int (nI (i + 1))), (1, .int (bcI x (i + 1))), (0, .int x)]) hx hb dX6_bits_18 hl rfl (show (nI i) + Int32.ofInt 1 = nI (i + 1) from nI_1 _) (by decide) rfl (fun ls hl => ?_)
    refine lv_goto (tgt := 4) hx hb dX6_bits_21 (by decide) ?_
    exact ih4 (i + 1) (show (i + 1) ≤ 12 from (by omega)) (by show 12 - (i + 1) < 12 - i; omega) ls (lv_sub hl [2, 1, 0] rfl)

set_option maxHeartbeats 4000000 in
set_option maxRecDepth 100000 in
theorem c_X6_namedBy (l : Launch) (D : va_G) (cI cZ : ClassId) (ym : Nat) (ymB : Nat) (ymU : Nat) (ymV : Nat) (ymR : Nat) (ymI : Nat) (ymE : Nat) (ymS : Nat) (ymT : Nat) (ymD : Nat) (ymQ : Nat) (ymP : Nat) (ymN : Nat) (ymO : Nat) (ymY : Nat) (ymZ : Nat) (ymX : Nat) (σ : ST) (ir : Nat → Int32) (rp : Int32) (q : Nat) (hok : Ok σ) (hq : q < sN σ) (hir : ∀ l, l < sN σ → ir l = b2 (bit rp (nI l))) : Met l yX6_namedBy wsX6_namedBy ({ frames := 0, cells := 0, slots := 0, locals := 0 }) (va_Pc [.ref ym, .int (nI q)] (XP D cI cZ [(ym, .inr (6, [.int (nI (sF σ)), .ref ymB, .int (nI (sN σ)), .ref ymU, .ref ymV, .ref ymR, .ref ymI, .ref ymE, .int (nI (sM σ)), .ref ymS, .ref ymT, .ref ymD, .int (nI (sC σ)), .ref ymQ, .ref ymP, .ref ymN, .int (nI (sG σ)), .ref ymO, .ref ymY, .ref ymZ, .ref ymX])), (ymU, .inl (cI, 12, .inl (rMu σ))), (ymV, .inl (cI, 12, .inl (rMn σ))), (ymI, .inl (cZ, 12, .inl ir)), (ymE, .inl (cI, 12, .inl (rEr σ)))])) (vp_Si (fun r => r = nmI σ rp q)) 0 0 (fun _ => False) := by
  refine Met.ofW (cc := cX6_namedBy) (maxL := 5) (ret := (some .int)) (by decide) rfl ?_
  intro p e s m args below meth c s₁ B hml hv
  obtain ⟨rfl, hP, hK, hN⟩ := hv
  have hx := B.exec
  have hb := B.bytes
  have hr := B.returns
  have hts := atoms_spec (ws := wsX6_namedBy) B.pre
  have hown : s.vm.findClass RX6 = some m.cls := findClass_of_methodNamed B.named
  have hlocks := B.notSynchronized
  have ho := hok.1
  have hk2 := hok.k
  have hp2 : 1 ≤ 2 ^ sF σ := Nat.two_pow_pos _
  have hf70 := hts (.fieldLink RX6 70 "BallCourtModel" "lines" "I") (List.mem_of_getElem? (i := 1) (by decide +kernel))
  have hiX6 : ∀ w ∈ wsX60, w ∈ wsX6_namedBy := fun w h => List.mem_cons_of_mem _ (List.mem_append_right _ h)
  have hf17 := hts (.fieldLink RX6 17 "BallCourtModel" "must" "[I") (List.mem_of_getElem? (i := 3) (by decide +kernel))
  have hf20 := hts (.fieldLink RX6 20 "BallCourtModel" "mustNot" "[I") (List.mem_of_getElem? (i := 4) (by decide +kernel))
  have hf30 := hts (.fieldLink RX6 30 "BallCourtModel" "excepts" "[I") (List.mem_of_getElem? (i := 5) (by decide +kernel))
  have hf26 := hts (.fieldLink RX6 26 "BallCourtModel" "isRepealed" "[Z") (List.mem_of_getElem? (i := 2) (by decide +kernel))
  have hl := lv_entry ([.ref ym, .int (nI q)]) (n := 5) (Nat.le_of_ble_eq_true rfl)
  rw [lg_entry_eq]
  generalize (lg_sl ([.ref ym, .int (nI q)]) ++ List.replicate (5 - (lg_sl ([.ref ym, .int (nI q)])).length) Slot.unset).toArray = ls at hl ⊢
  have hl : lv_has ls 5 [(0, .ref ym), (1, .int (nI q))] := hl
  refine lv_iconst (v := 1) hx hb dX6_namedBy_0 (by decide) ?_
  refine lv_iload_n hx hb dX6_namedBy_1 rfl (lv_at hl 1 rfl) ?_
  refine lv_ishl hx hb dX6_namedBy_2 ?_
  refine lv_asi (show (1 : Int32) <<< ((nI q) &&& 31) = (mmR σ rp q 0).2 from shl1 q (by omega)) ?_
  refine lv_istore_n (lv' := [(2, .int ((mmR σ rp q 0).2)), (0, .ref ym), (1, .int (nI q))]) hx hb dX6_namedBy_3 rfl hl (by decide) rfl (fun ls hl => ?_)
  refine lv_iconst (v := 0) hx hb dX6_namedBy_4 (by decide) ?_
  refine lv_istore_n (lv' := [(3, .int 0), (2, .int ((mmR σ rp q 0).2)), (0, .ref ym), (1, .int (nI q))]) hx hb dX6_namedBy_5 rfl hl (by decide) rfl (fun ls hl => ?_)
  refine lv_iload_n hx hb dX6_namedBy_6 rfl (lv_at hl 3 rfl) ?_
  refine lv_istore (lv' := [(4, .int (nI q)), (3, .int 0), (2, .int ((mmR σ rp q 0).2)), (0, .ref ym), (1, .int (nI q))]) hx hb dX6_namedBy_7 hl (by decide) rfl (fun ls hl => ?_)
  have hl : lv_has ls 5 [(4, .int (nI q)), (3, .int ((mmR σ rp q 0).1)), (2, .int ((mmR σ rp q 0).2)), (0, .ref ym), (1, .int (nI q))] := by rw [← (show 0 = (mmR σ rp q 0).1 from rfl)]; exact hl
  have hl : lv_has ls 5 [(4, .int (nI (q + 0))), (3, .int ((mmR σ rp q 0).1)), (2, .int ((mmR σ rp q 0).2)), (0, .ref ym), (1, .int (nI q))] := by rw [← (show nI q = nI (q + 0) from rfl)]; exact hl
  refine wloop (α := Nat) (fun v => sN σ - v) (fun v => [(0, .ref ym), (1, .int (nI q)), (2, .int ((mmR σ rp q v).2)), (3, .int ((mmR σ rp q v).1)), (4, .int (nI (q + v)))]) (fun v => (q + v ≤ sN σ)) 5 (fun v hv ih9 ls hl => ?_) 0 (show q + 0 ≤ sN σ from (by omega)) ls (lv_sub hl [3, 4, 2, 1, 0] rfl)
  obtain ⟨j, rfl⟩ : ∃ z : Nat, z = v := ⟨_, rfl⟩
  have hj : q + j ≤ sN σ := hv
  have hl : lv_has ls 5 [(0, .ref ym), (1, .int (nI q)), (2, .int ((mmR σ rp q j).2)), (3, .int ((mmR σ rp q j).1)), (4, .int (nI (q + j)))] := hl
  refine lv_iload hx hb dX6_namedBy_9 (lv_at hl 4 rfl) ?_
  refine lv_aload_n hx hb dX6_namedBy_11 rfl (lv_at hl 0 rfl) ?_
  refine va_get (D := D) (ci := 6) (v := .int (nI (sN σ))) (C := RX6) (T := TX6) (N := 21) hx hb hts hiX6 hown hK hP 0 rfl rfl 2 (by decide) hf70 (fun _ h9 => h9) rfl dX6_namedBy_12 ?_
  refine lv_icmp_ge (tgt := 78) hx hb dX6_namedBy_15 (by decide) (fun c15 => ?_) (fun c15 => ?_)
  · skip
    have c15 := (nI_leI (by omega) (by omega)).mp c15
    refine lv_iload_n hx hb dX6_namedBy_78 rfl (lv_at hl 3 rfl) ?_
    exact W.iret (v := (mmR σ rp q j).1) hx hb hr (fun t ht hW => ⟨_, rfl, by rw [show j = sN σ - q by omega]; exact mm_nmI hok rp hq, ht⟩) (fun _ h => absurd h List.not_mem_nil) dX6_namedBy_79
  · skip
    have c15 := Nat.lt_of_not_le (fun z => c15 ((nI_leI (by omega) (by omega)).mpr z))
    refine lv_iload_n hx hb dX6_namedBy_18 rfl (lv_at hl 2 rfl) ?_
    refine lv_iload hx hb dX6_namedBy_19 (lv_at hl 4 rfl) ?_
    refine lv_ishr hx hb dX6_namedBy_21 ?_
    refine lv_iconst (v := 1) hx hb dX6_namedBy_22 (by decide) ?_
    refine lv_iand hx hb dX6_namedBy_23 ?_
    refine lv_asi (show (((mmR σ rp q j).2) >>> ((nI (q + j)) &&& 31)) &&& 1 = b2 (bit (mmR σ rp q j).2 (nI (q + j))) from hb_b2 _ _) ?_
    refine lv_iconst (v := 1) hx hb dX6_namedBy_24 (by decide) ?_
    refine lv_icmp_ne (tgt := 72) hx hb dX6_namedBy_25 (by decide) (fun c25 => ?_) (fun c25 => ?_)
    · skip
      have c25 := b2_n1 c25
      have hl : lv_has ls 5 [(0, .ref ym), (1, .int (nI q)), (2, .int ((mmR σ rp q j).2)), (3, .int ((mmR σ rp q (j + 1)).1)), (4, .int (nI (q + j)))] := by rw [← (show (mmR σ rp q j).1 = (mmR σ rp q (j + 1)).1 from (by rw [mmR_n (by rw [c25]; rfl)]))]; exact hl
      have hl : lv_has ls 5 [(0, .ref ym), (1, .int (nI q)), (2, .int ((mmR σ rp q (j + 1)).2)), (3, .int ((mmR σ rp q (j + 1)).1)), (4, .int (nI (q + j)))] := by rw [← (show (mmR σ rp q j).2 = (mmR σ rp q (j + 1)).2 from (by rw [mmR_n (by rw [c25]; rfl)]))]; exact hl
      refine lv_iinc (k := 4) (x := nI (q + j)) (v := nI (q + (j + 1))) (lv' := [(4, .int (nI (q + (j + 1)))), (0, .ref ym), (1, .int (nI q)), (2, .int ((mmR σ rp q (j + 1)).2)), (3, .int ((mmR σ rp q (j + 1)).1))]) hx hb dX6_namedBy_72 hl rfl (show (nI (q + j)) + Int32.ofInt 1 = nI (q + (j + 1)) from nI_1 _) (by decide) rfl (fun ls hl => ?_)
      refine lv_goto (tgt := 9) hx hb dX6_namedBy_75 (by decide) ?_
      exact ih9 (j + 1) (show q + (j + 1) ≤ sN σ from (by omega)) (by show sN σ - (j + 1) < sN σ - j; omega) ls (lv_sub hl [1, 2, 3, 4, 0] rfl)
    · skip
      have c25 := b2_e1 c25
      refine lv_iload hx hb dX6_namedBy_28 (lv_at hl 4 rfl) ?_
      refine lv_iload_n hx hb dX6_namedBy_30 rfl (lv_at hl 1 rfl) ?_
      refine lv_icmp_eq (tgt := 44) hx hb dX6_namedBy_31 (by decide) (fun c31 => ?_) (fun c31 => ?_)
      · skip
        have c31 := (nI_eq (by omega) (by omega)).mp c31
        refine lv_iload_n hx hb dX6_namedBy_44 rfl (lv_at hl 3 rfl) ?_
        refine lv_aload_n hx hb dX6_namedBy_45 rfl (lv_at hl 0 rfl) ?_
        refine va_get (D := D) (ci := 6) (v := .ref ymU) (C := RX6) (T := TX6) (N := 21) hx hb hts hiX6 hown hK hP 0 rfl rfl 3 (by decide) hf17 (fun _ h9 => h9) rfl dX6_namedBy_46 ?_
        refine lv_iload hx hb dX6_namedBy_49 (lv_at hl 4 rfl) ?_
        refine xald (k := (q + j)) hx hb hK hP 1 rfl (by omega) (by decide) dX6_namedBy_51 ?_
        refine lv_aload_n hx hb dX6_namedBy_52 rfl (lv_at hl 0 rfl) ?_
        refine va_get (D := D) (ci := 6) (v := .ref ymV) (C := RX6) (T := TX6) (N := 21) hx hb hts hiX6 hown hK hP 0 rfl rfl 4 (by decide) hf20 (fun _ h9 => h9) rfl dX6_namedBy_53 ?_
        refine lv_iload hx hb dX6_namedBy_56 (lv_at hl 4 rfl) ?_
        refine xald (k := (q + j)) hx hb hK hP 2 rfl (by omega) (by decide) dX6_namedBy_58 ?_
        refine lv_ior hx hb dX6_namedBy_59 ?_
        refine lv_ior hx hb dX6_namedBy_60 ?_
        refine lv_istore_n (lv' := [(3, .int (((mmR σ rp q j).1) ||| ((rMu σ (q + j)) ||| (rMn σ (q + j))))), (0, .ref ym), (1, .int (nI q)), (2, .int ((mmR σ rp q j).2)), (4, .int (nI (q + j)))]) hx hb dX6_namedBy_61 rfl hl (by decide) rfl (fun ls hl => ?_)
        refine lv_iload_n hx hb dX6_namedBy_62 rfl (lv_at hl 3 rfl) ?_
        refine lv_aload_n hx hb dX6_namedBy_63 rfl (lv_at hl 1 rfl) ?_
        refine va_get (D := D) (ci := 6) (v := .ref ymE) (C := RX6) (T := TX6) (N := 21) hx hb hts hiX6 hown hK hP 0 rfl rfl 7 (by decide) hf30 (fun _ h9 => h9) rfl dX6_namedBy_64 ?_
        refine lv_iload hx hb dX6_namedBy_67 (lv_at hl 4 rfl) ?_
        refine xald (k := (q + j)) hx hb hK hP 4 rfl (by omega) (by decide) dX6_namedBy_69 ?_
        refine lv_ior hx hb dX6_namedBy_70 ?_
        refine lv_istore_n (lv' := [(2, .int (((mmR σ rp q j).2) ||| (rEr σ (q + j)))), (3, .int (((mmR σ rp q j).1) ||| ((rMu σ (q + j)) ||| (rMn σ (q + j))))), (0, .ref ym), (1, .int (nI q)), (4, .int (nI (q + j)))]) hx hb dX6_namedBy_71 rfl hl (by decide) rfl (fun ls hl => ?_)
        have hl : lv_has ls 5 [(2, .int (((mmR σ rp q j).2) ||| (rEr σ (q + j)))), (3, .int ((mmR σ rp q (j + 1)).1)), (0, .ref ym), (1, .int (nI q)), (4, .int (nI (q + j)))] := by rw [← (show ((mmR σ rp q j).1) ||| ((rMu σ (q + j)) ||| (rMn σ (q + j))) = (mmR σ rp q (j + 1)).1 from (by rw [mmR_y (by rw [c25, decide_eq_true (show j = 0 by omega)]; rfl)]))]; exact hl
        have hl : lv_has ls 5 [(2, .int ((mmR σ rp q (j + 1)).2)), (3, .int ((mmR σ rp q (j + 1)).1)), (0, .ref ym), (1, .int (nI q)), (4, .int (nI (q + j)))] := by rw [← (show ((mmR σ rp q j).2) ||| (rEr σ (q + j)) = (mmR σ rp q (j + 1)).2 from (by rw [mmR_y (by rw [c25, decide_eq_true (show j = 0 by omega)]; rfl)]))]; exact hl
        refine lv_iinc (k := 4) (x := nI (q + j)) (v := nI (q + (j + 1))) (lv' := [(4, .int (nI (q + (j + 1)))), (2, .int ((mmR σ rp q (j + 1)).2)), (3, .int ((mmR σ rp q (j + 1)).1)), (0, .ref ym), (1, .int (nI q))]) hx hb dX6_namedBy_72 hl rfl (show (nI (q + j)) + Int32.ofInt 1 = nI (q + (j + 1)) from nI_1 _) (by decide) rfl (fun ls hl => ?_)
        refine lv_goto (tgt := 9) hx hb dX6_namedBy_75 (by decide) ?_
        exact ih9 (j + 1) (show q + (j + 1) ≤ sN σ from (by omega)) (by show sN σ - (j + 1) < sN σ - j; omega) ls (lv_sub hl [3, 4, 1, 2, 0] rfl)
      · skip
        have c31 := mt (nI_eq (by omega) (by omega)).mpr c31
        refine lv_aload_n hx hb dX6_namedBy_34 rfl (lv_at hl 0 rfl) ?_
        refine va_get (D := D) (ci := 6) (v := .ref ymI) (C := RX6) (T := TX6) (N := 21) hx hb hts hiX6 hown hK hP 0 rfl rfl 6 (by decide) hf26 (fun _ h9 => h9) rfl dX6_namedBy_35 ?_
        refine lv_iload hx hb dX6_namedBy_38 (lv_at hl 4 rfl) ?_
        refine xzld (k := (q + j)) hx hb hK hP 3 rfl (by omega) (by decide) dX6_namedBy_40 ?_
        refine lv_asi (show ir (q + j) = b2 (bit rp (nI (q + j))) from hir _ (by omega)) ?_
        refine lv_if_ne (tgt := 72) hx hb dX6_namedBy_41 (by decide) (fun c41 => ?_) (fun c41 => ?_)
        · skip
          have c41 := b2_1 c41
          have hl : lv_has ls 5 [(0, .ref ym), (1, .int (nI q)), (2, .int ((mmR σ rp q j).2)), (3, .int ((mmR σ rp q (j + 1)).1)), (4, .int (nI (q + j)))] := by rw [← (show (mmR σ rp q j).1 = (mmR σ rp q (j + 1)).1 from (by rw [mmR_n (by rw [c25, decide_eq_false (show ¬ j = 0 by omega), c41]; rfl)]))]; exact hl
          have hl : lv_has ls 5 [(0, .ref ym), (1, .int (nI q)), (2, .int ((mmR σ rp q (j + 1)).2)), (3, .int ((mmR σ rp q (j + 1)).1)), (4, .int (nI (q + j)))] := by rw [← (show (mmR σ rp q j).2 = (mmR σ rp q (j + 1)).2 from (by rw [mmR_n (by rw [c25, decide_eq_false (show ¬ j = 0 by omega), c41]; rfl)]))]; exact hl
          refine lv_iinc (k := 4) (x := nI (q + j)) (v := nI (q + (j + 1))) (lv' := [(4, .int (nI (q + (j + 1)))), (0, .ref ym), (1, .int (nI q)), (2, .int ((mmR σ rp q (j + 1)).2)), (3, .int ((mmR σ rp q (j + 1)).1))]) hx hb dX6_namedBy_72 hl rfl (show (nI (q + j)) + Int32.ofInt 1 = nI (q + (j + 1)) from nI_1 _) (by decide) rfl (fun ls hl => ?_)
          refine lv_goto (tgt := 9) hx hb dX6_namedBy_75 (by decide) ?_
          exact ih9 (j + 1) (show q + (j + 1) ≤ sN σ from (by omega)) (by show sN σ - (j + 1) < sN σ - j; omega) ls (lv_sub hl [1, 2, 3, 4, 0] rfl)
        · skip
          have c41 := b2_0 c41
          refine lv_iload_n hx hb dX6_namedBy_44 rfl (lv_at hl 3 rfl) ?_
          refine lv_aload_n hx hb dX6_namedBy_45 rfl (lv_at hl 0 rfl) ?_
          refine va_get (D := D) (ci := 6) (v := .ref ymU) (C := RX6) (T := TX6) (N := 21) hx hb hts hiX6 hown hK hP 0 rfl rfl 3 (by decide) hf17 (fun _ h9 => h9) rfl dX6_namedBy_46 ?_
          refine lv_iload hx hb dX6_namedBy_49 (lv_at hl 4 rfl) ?_
          refine xald (k := (q + j)) hx hb hK hP 1 rfl (by omega) (by decide) dX6_namedBy_51 ?_
          refine lv_aload_n hx hb dX6_namedBy_52 rfl (lv_at hl 0 rfl) ?_
          refine va_get (D := D) (ci := 6) (v := .ref ymV) (C := RX6) (T := TX6) (N := 21) hx hb hts hiX6 hown hK hP 0 rfl rfl 4 (by decide) hf20 (fun _ h9 => h9) rfl dX6_namedBy_53 ?_
          refine lv_iload hx hb dX6_namedBy_56 (lv_at hl 4 rfl) ?_
          refine xald (k := (q + j)) hx hb hK hP 2 rfl (by omega) (by decide) dX6_namedBy_58 ?_
          refine lv_ior hx hb dX6_namedBy_59 ?_
          refine lv_ior hx hb dX6_namedBy_60 ?_
          refine lv_istore_n (lv' := [(3, .int (((mmR σ rp q j).1) ||| ((rMu σ (q + j)) ||| (rMn σ (q + j))))), (0, .ref ym), (1, .int (nI q)), (2, .int ((mmR σ rp q j).2)), (4, .int (nI (q + j)))]) hx hb dX6_namedBy_61 rfl hl (by decide) rfl (fun ls hl => ?_)
          refine lv_iload_n hx hb dX6_namedBy_62 rfl (lv_at hl 3 rfl) ?_
          refine lv_aload_n hx hb dX6_namedBy_63 rfl (lv_at hl 1 rfl) ?_
          refine va_get (D := D) (ci := 6) (v := .ref ymE) (C := RX6) (T := TX6) (N := 21) hx hb hts hiX6 hown hK hP 0 rfl rfl 7 (by decide) hf30 (fun _ h9 => h9) rfl dX6_namedBy_64 ?_
          refine lv_iload hx hb dX6_namedBy_67 (lv_at hl 4 rfl) ?_
          refine xald (k := (q + j)) hx hb hK hP 4 rfl (by omega) (by decide) dX6_namedBy_69 ?_
          refine lv_ior hx hb dX6_namedBy_70 ?_
          refine lv_istore_n (lv' := [(2, .int (((mmR σ rp q j).2) ||| (rEr σ (q + j)))), (3, .int (((mmR σ rp q j).1) ||| ((rMu σ (q + j)) ||| (rMn σ (q + j))))), (0, .ref ym), (1, .int (nI q)), (4, .int (nI (q + j)))]) hx hb dX6_namedBy_71 rfl hl (by decide) rfl (fun ls hl => ?_)
          have hl : lv_has ls 5 [(2, .int (((mmR σ rp q j).2) ||| (rEr σ (q + j)))), (3, .int ((mmR σ rp q (j + 1)).1)), (0, .ref ym), (1, .int (nI q)), (4, .int (nI (q + j)))] := by rw [← (show ((mmR σ rp q j).1) ||| ((rMu σ (q + j)) ||| (rMn σ (q + j))) = (mmR σ rp q (j + 1)).1 from (by rw [mmR_y (by rw [c25, c41]; exact Bool.or_true _)]))]; exact hl
          have hl : lv_has ls 5 [(2, .int ((mmR σ rp q (j + 1)).2)), (3, .int ((mmR σ rp q (j + 1)).1)), (0, .ref ym), (1, .int (nI q)), (4, .int (nI (q + j)))] := by rw [← (show ((mmR σ rp q j).2) ||| (rEr σ (q + j)) = (mmR σ rp q (j + 1)).2 from (by rw [mmR_y (by rw [c25, c41]; exact Bool.or_true _)]))]; exact hl
          refine lv_iinc (k := 4) (x := nI (q + j)) (v := nI (q + (j + 1))) (lv' := [(4, .int (nI (q + (j + 1)))), (2, .int ((mmR σ rp q (j + 1)).2)), (3, .int ((mmR σ rp q (j + 1)).1)), (0, .ref ym), (1, .int (nI q))]) hx hb dX6_namedBy_72 hl rfl (show (nI (q + j)) + Int32.ofInt 1 = nI (q + (j + 1)) from nI_1 _) (by decide) rfl (fun ls hl => ?_)
          refine lv_goto (tgt := 9) hx hb dX6_namedBy_75 (by decide) ?_
          exact ih9 (j + 1) (show q + (j + 1) ≤ sN σ from (by omega)) (by show sN σ - (j + 1) < sN σ - j; omega) ls (lv_sub hl [3, 4, 1, 2, 0] rfl)

set_option maxHeartbeats 4000000 in
set_option maxRecDepth 100000 in
theorem c_X6_holding (l : Launch) (D : va_G) (cI cZ : ClassId) (ym : Nat) (ymB : Nat) (ymU : Nat) (ymV : Nat) (ymR : Nat) (ymI : Nat) (ymE : Nat) (ymS : Nat) (ymT : Nat) (ymD : Nat) (ymQ : Nat) (ymP : Nat) (ymN : Nat) (ymO : Nat) (ymY : Nat) (ymZ : Nat) (ymX : Nat) (σ : ST) (ir : Nat → Int32) (rp : Int32) (k : Nat) (hok : Ok σ) (hir : ∀ l, l < sN σ → ir l = b2 (bit rp (nI l))) : Met l yX6_holding wsX6_holding ({ frames := 0, cells := 0, slots := 0, locals := 0 }) (va_Pc [.ref ym, .int (nI k)] (XP D cI cZ [(ym, .inr (6, [.int (nI (sF σ)), .ref ymB, .int (nI (sN σ)), .ref ymU, .ref ymV, .ref ymR, .ref ymI, .ref ymE, .int (nI (sM σ)), .ref ymS, .ref ymT, .ref ymD, .int (nI (sC σ)), .ref ymQ, .ref ymP, .ref ymN, .int (nI (sG σ)), .ref ymO, .ref ymY, .ref ymZ, .ref ymX])), (ymU, .inl (cI, 12, .inl (rMu σ))), (ymV, .inl (cI, 12, .inl (rMn σ))), (ymI, .inl (cZ, 12, .inl ir)), (ymE, .inl (cI, 12, .inl (rEr σ)))])) (vp_Si (fun r => r = holdI σ rp k)) 0 0 (fun _ => False) := by
  refine Met.ofW (cc := cX6_holding) (maxL := 5) (ret := (some .int)) (by decide) rfl ?_
  intro p e s m args below meth c s₁ B hml hv
  obtain ⟨rfl, hP, hK, hN⟩ := hv
  have hx := B.exec
  have hb := B.bytes
  have hr := B.returns
  have hts := atoms_spec (ws := wsX6_holding) B.pre
  have hown : s.vm.findClass RX6 = some m.cls := findClass_of_methodNamed B.named
  have hlocks := B.notSynchronized
  have ho := hok.1
  have hk2 := hok.k
  have hp2 : 1 ≤ 2 ^ sF σ := Nat.two_pow_pos _
  have hf70 := hts (.fieldLink RX6 70 "BallCourtModel" "lines" "I") (List.mem_of_getElem? (i := 1) (by decide +kernel))
  have hiX6 : ∀ w ∈ wsX60, w ∈ wsX6_holding := fun w h => List.mem_cons_of_mem _ (List.mem_append_right _ h)
  have hf26 := hts (.fieldLink RX6 26 "BallCourtModel" "isRepealed" "[Z") (List.mem_of_getElem? (i := 2) (by decide +kernel))
  have hf17 := hts (.fieldLink RX6 17 "BallCourtModel" "must" "[I") (List.mem_of_getElem? (i := 3) (by decide +kernel))
  have hf20 := hts (.fieldLink RX6 20 "BallCourtModel" "mustNot" "[I") (List.mem_of_getElem? (i := 4) (by decide +kernel))
  have hf30 := hts (.fieldLink RX6 30 "BallCourtModel" "excepts" "[I") (List.mem_of_getElem? (i := 5) (by decide +kernel))
  have hl := lv_entry ([.ref ym, .int (nI k)]) (n := 5) (Nat.le_of_ble_eq_true rfl)
  rw [lg_entry_eq]
  generalize (lg_sl ([.ref ym, .int (nI k)]) ++ List.replicate (5 - (lg_sl ([.ref ym, .int (nI k)])).length) Slot.unset).toArray = ls at hl ⊢
  have hl : lv_has ls 5 [(0, .ref ym), (1, .int (nI k))] := hl
  refine lv_iconst (v := 0) hx hb dX6_holding_0 (by decide) ?_
  refine lv_istore_n (lv' := [(2, .int 0), (0, .ref ym), (1, .int (nI k))]) hx hb dX6_holding_1 rfl hl (by decide) rfl (fun ls hl => ?_)
  refine lv_aload_n hx hb dX6_holding_2 rfl (lv_at hl 1 rfl) ?_
  refine va_get (D := D) (ci := 6) (v := .int (nI (sN σ))) (C := RX6) (T := TX6) (N := 21) hx hb hts hiX6 hown hK hP 0 rfl rfl 2 (by decide) hf70 (fun _ h9 => h9) rfl dX6_holding_3 ?_
  refine lv_iconst (v := 1) hx hb dX6_holding_6 (by decide) ?_
  refine lv_isub hx hb dX6_holding_7 ?_
  refine lv_istore_n (lv' := [(3, .int ((nI (sN σ)) - 1)), (2, .int 0), (0, .ref ym), (1, .int (nI k))]) hx hb dX6_holding_8 rfl hl (by decide) rfl (fun ls hl => ?_)
  have hl : lv_has ls 5 [(3, .int ((nI (sN σ)) - 1)), (2, .int (hdR σ rp k (sN σ - sN σ))), (0, .ref ym), (1, .int (nI k))] := by rw [← (show 0 = hdR σ rp k (sN σ - sN σ) from (by rw [Nat.sub_self]; rfl))]; exact hl
  refine wloop (α := Nat) (fun v => v) (fun v => [(0, .ref ym), (1, .int (nI k)), (2, .int (hdR σ rp k (sN σ - v))), (3, .int (nI v - 1))]) (fun v => (v ≤ sN σ)) 5 (fun v hv ih9 ls hl => ?_) (sN σ) (show (sN σ) ≤ sN σ from Nat.le_refl _) ls (lv_sub hl [2, 3, 1, 0] rfl)
  obtain ⟨q, rfl⟩ : ∃ z : Nat, z = v := ⟨_, rfl⟩
  have hq : q ≤ sN σ := hv
  have hl : lv_has ls 5 [(0, .ref ym), (1, .int (nI k)), (2, .int (hdR σ rp k (sN σ - q))), (3, .int (nI q - 1))] := hl
  refine lv_iload_n hx hb dX6_holding_9 rfl (lv_at hl 3 rfl) ?_
  refine lv_if_lt (tgt := 85) hx hb dX6_holding_10 (by decide) (fun c10 => ?_) (fun c10 => ?_)
  · skip
    have c10 := m1_t (by omega) c10
    refine lv_iload_n hx hb dX6_holding_85 rfl (lv_at hl 2 rfl) ?_
    exact W.iret (v := hdR σ rp k (sN σ - q)) hx hb hr (fun t ht hW => ⟨_, rfl, by rw [c10]; rfl, ht⟩) (fun _ h => absurd h List.not_mem_nil) dX6_holding_86
  · skip
    obtain ⟨j, rfl⟩ : ∃ j, q = j + 1 := ⟨q - 1, by have := m1_f c10; omega⟩
    have hl : lv_has ls 5 [(0, .ref ym), (1, .int (nI k)), (2, .int (hdR σ rp k (sN σ - (j + 1)))), (3, .int (nI j))] := by rw [← (show nI (j + 1) - 1 = nI j from nI_pred j)]; exact hl
    refine wjoin (pcJ := 62) (lv := [(0, .ref ym), (1, .int (nI k)), (2, .int (hdR σ rp k (sN σ - (j + 1)))), (3, .int (nI j))]) (nL := 5) (st := [.int (b2 (cnd σ rp k j (hdR σ rp k (sN σ - (j + 1)))))]) (fun ls hl => ?_) (fun J62 => ?_)
    · skip
      refine lv_istore (lv' := [(4, .int (b2 (cnd σ rp k j (hdR σ rp k (sN σ - (j + 1)))))), (0, .ref ym), (1, .int (nI k)), (2, .int (hdR σ rp k (sN σ - (j + 1)))), (3, .int (nI j))]) hx hb dX6_holding_62 hl (by decide) rfl (fun ls hl => ?_)
      refine lv_iload_n hx hb dX6_holding_64 rfl (lv_at hl 3 rfl) ?_
      refine lv_iload hx hb dX6_holding_65 (lv_at hl 0 rfl) ?_
      refine lv_if_eq (tgt := 76) hx hb dX6_holding_67 (by decide) (fun c67 => ?_) (fun c67 => ?_)
      · skip
        have c67 := b2_0 c67
        refine lv_iconst (v := 0) hx hb dX6_holding_76 (by decide) ?_
        refine lv_ior hx hb dX6_holding_77 ?_
        refine lv_istore_n (lv' := [(2, .int ((hdR σ rp k (sN σ - (j + 1))) ||| 0)), (4, .int (b2 (cnd σ rp k j (hdR σ rp k (sN σ - (j + 1)))))), (0, .ref ym), (1, .int (nI k)), (3, .int (nI j))]) hx hb dX6_holding_78 rfl hl (by decide) rfl (fun ls hl => ?_)
        have hl : lv_has ls 5 [(2, .int (hdR σ rp k (sN σ - j))), (4, .int (b2 (cnd σ rp k j (hdR σ rp k (sN σ - (j + 1)))))), (0, .ref ym), (1, .int (nI k)), (3, .int (nI j))] := by rw [← (show (hdR σ rp k (sN σ - (j + 1))) ||| 0 = hdR σ rp k (sN σ - j) from ((or_0 _).trans (hd_n (by omega) c67).symm))]; exact hl
        refine lv_iinc (k := 4) (x := nI j) (v := nI j - 1) (lv' := [(3, .int (nI j - 1)), (2, .int (hdR σ rp k (sN σ - j))), (4, .int (b2 (cnd σ rp k j (hdR σ rp k (sN σ - (j + 1)))))), (0, .ref ym), (1, .int (nI k))]) hx hb dX6_holding_79 hl rfl (show (nI j) + Int32.ofInt (-1) = nI j - 1 from dec1 _) (by decide) rfl (fun ls hl => ?_)
        refine lv_goto (tgt := 9) hx hb dX6_holding_82 (by decide) ?_
        exact ih9 j (show j ≤ sN σ from (by omega)) (by show j < (j + 1); omega) ls (lv_sub hl [3, 4, 1, 0] rfl)
      · skip
        have c67 := b2_1 c67
        refine lv_iconst (v := 1) hx hb dX6_holding_70 (by decide) ?_
        refine lv_iload_n hx hb dX6_holding_71 rfl (lv_at hl 4 rfl) ?_
        refine lv_ishl hx hb dX6_holding_72 ?_
        refine lv_asi (show (1 : Int32) <<< ((nI j) &&& 31) = nI (2 ^ j) from shl1 j (by omega)) ?_
        refine lv_goto (tgt := 77) hx hb dX6_holding_73 (by decide) ?_
        refine lv_ior hx hb dX6_holding_77 ?_
        refine lv_istore_n (lv' := [(2, .int ((hdR σ rp k (sN σ - (j + 1))) ||| (nI (2 ^ j)))), (4, .int (b2 (cnd σ rp k j (hdR σ rp k (sN σ - (j + 1)))))), (0, .ref ym), (1, .int (nI k)), (3, .int (nI j))]) hx hb dX6_holding_78 rfl hl (by decide) rfl (fun ls hl => ?_)
        have hl : lv_has ls 5 [(2, .int (hdR σ rp k (sN σ - j))), (4, .int (b2 (cnd σ rp k j (hdR σ rp k (sN σ - (j + 1)))))), (0, .ref ym), (1, .int (nI k)), (3, .int (nI j))] := by rw [← (show (hdR σ rp k (sN σ - (j + 1))) ||| (nI (2 ^ j)) = hdR σ rp k (sN σ - j) from (hd_y (by omega) c67).symm)]; exact hl
        refine lv_iinc (k := 4) (x := nI j) (v := nI j - 1) (lv' := [(3, .int (nI j - 1)), (2, .int (hdR σ rp k (sN σ - j))), (4, .int (b2 (cnd σ rp k j (hdR σ rp k (sN σ - (j + 1)))))), (0, .ref ym), (1, .int (nI k))]) hx hb dX6_holding_79 hl rfl (show (nI j) + Int32.ofInt (-1) = nI j - 1 from dec1 _) (by decide) rfl (fun ls hl => ?_)
        refine lv_goto (tgt := 9) hx hb dX6_holding_82 (by decide) ?_
        exact ih9 j (show j ≤ sN σ from (by omega)) (by show j < (j + 1); omega) ls (lv_sub hl [3, 4, 1, 0] rfl)
    · skip
      refine lv_aload_n hx hb dX6_holding_13 rfl (lv_at hl 0 rfl) ?_
      refine va_get (D := D) (ci := 6) (v := .ref ymI) (C := RX6) (T := TX6) (N := 21) hx hb hts hiX6 hown hK hP 0 rfl rfl 6 (by decide) hf26 (fun _ h9 => h9) rfl dX6_holding_14 ?_
      refine lv_iload_n hx hb dX6_holding_17 rfl (lv_at hl 3 rfl) ?_
      refine xzld (k := j) hx hb hK hP 3 rfl (by omega) (by decide) dX6_holding_18 ?_
      refine lv_asi (show ir j = b2 (bit rp (nI j)) from hir _ (by omega)) ?_
      refine lv_if_ne (tgt := 61) hx hb dX6_holding_19 (by decide) (fun c19 => ?_) (fun c19 => ?_)
      · skip
        have c19 := b2_1 c19
        refine lv_iconst (v := 0) hx hb dX6_holding_61 (by decide) ?_
        refine lv_asi (show (0 : Int32) = b2 (cnd σ rp k j (hdR σ rp k (sN σ - (j + 1)))) from b2_f (by unfold cnd; rw [c19, Bool.not_true, Bool.and_false, Bool.false_and])) ?_
        exact J62 ls (lv_sub hl [0, 1, 2, 3] rfl)
      · skip
        have c19 := b2_0 c19
        refine lv_aload_n hx hb dX6_holding_22 rfl (lv_at hl 0 rfl) ?_
        refine va_get (D := D) (ci := 6) (v := .ref ymU) (C := RX6) (T := TX6) (N := 21) hx hb hts hiX6 hown hK hP 0 rfl rfl 3 (by decide) hf17 (fun _ h9 => h9) rfl dX6_holding_23 ?_
        refine lv_iload_n hx hb dX6_holding_26 rfl (lv_at hl 3 rfl) ?_
        refine xald (k := j) hx hb hK hP 1 rfl (by omega) (by decide) dX6_holding_27 ?_
        refine lv_iload_n hx hb dX6_holding_28 rfl (lv_at hl 1 rfl) ?_
        refine lv_iconst (v := (-1)) hx hb dX6_holding_29 (by decide) ?_
        refine lv_ixor hx hb dX6_holding_30 ?_
        refine lv_iand hx hb dX6_holding_31 ?_
        refine lv_if_ne (tgt := 61) hx hb dX6_holding_32 (by decide) (fun c32 => ?_) (fun c32 => ?_)
        · skip
          have c32 := mt (an_iff _ _).mpr c32
          refine lv_iconst (v := 0) hx hb dX6_holding_61 (by decide) ?_
          refine lv_asi (show (0 : Int32) = b2 (cnd σ rp k j (hdR σ rp k (sN σ - (j + 1)))) from b2_f (by unfold cnd; rw [decide_eq_false c32, Bool.false_and, Bool.false_and, Bool.false_and])) ?_
          exact J62 ls (lv_sub hl [0, 1, 2, 3] rfl)
        · skip
          have c32 := (an_iff _ _).mp c32
          refine lv_aload_n hx hb dX6_holding_35 rfl (lv_at hl 0 rfl) ?_
          refine va_get (D := D) (ci := 6) (v := .ref ymV) (C := RX6) (T := TX6) (N := 21) hx hb hts hiX6 hown hK hP 0 rfl rfl 4 (by decide) hf20 (fun _ h9 => h9) rfl dX6_holding_36 ?_
          refine lv_iload_n hx hb dX6_holding_39 rfl (lv_at hl 3 rfl) ?_
          refine xald (k := j) hx hb hK hP 2 rfl (by omega) (by decide) dX6_holding_40 ?_
          refine lv_iload_n hx hb dX6_holding_41 rfl (lv_at hl 1 rfl) ?_
          refine lv_iand hx hb dX6_holding_42 ?_
          refine lv_if_ne (tgt := 61) hx hb dX6_holding_43 (by decide) (fun c43 => ?_) (fun c43 => ?_)
          · skip
            have c43 : ¬ nI k &&& rMn σ j = 0 := mt (fun z => (and_c _ _).trans z) c43
            refine lv_iconst (v := 0) hx hb dX6_holding_61 (by decide) ?_
            refine lv_asi (show (0 : Int32) = b2 (cnd σ rp k j (hdR σ rp k (sN σ - (j + 1)))) from b2_f (by unfold cnd; rw [decide_eq_false c43, Bool.and_false, Bool.false_and, Bool.false_and])) ?_
            exact J62 ls (lv_sub hl [0, 1, 2, 3] rfl)
          · skip
            have c43 : nI k &&& rMn σ j = 0 := (and_c _ _).trans c43
            refine lv_aload_n hx hb dX6_holding_46 rfl (lv_at hl 0 rfl) ?_
            refine va_get (D := D) (ci := 6) (v := .ref ymE) (C := RX6) (T := TX6) (N := 21) hx hb hts hiX6 hown hK hP 0 rfl rfl 7 (by decide) hf30 (fun _ h9 => h9) rfl dX6_holding_47 ?_
            refine lv_iload_n hx hb dX6_holding_50 rfl (lv_at hl 3 rfl) ?_
            refine xald (k := j) hx hb hK hP 4 rfl (by omega) (by decide) dX6_holding_51 ?_
            refine lv_iload_n hx hb dX6_holding_52 rfl (lv_at hl 2 rfl) ?_
            refine lv_iand hx hb dX6_holding_53 ?_
            refine lv_if_ne (tgt := 61) hx hb dX6_holding_54 (by decide) (fun c54 => ?_) (fun c54 => ?_)
            · skip
              refine lv_iconst (v := 0) hx hb dX6_holding_61 (by decide) ?_
              refine lv_asi (show (0 : Int32) = b2 (cnd σ rp k j (hdR σ rp k (sN σ - (j + 1)))) from b2_f (by unfold cnd; rw [decide_eq_false c54, Bool.and_false])) ?_
              exact J62 ls (lv_sub hl [0, 1, 2, 3] rfl)
            · skip
              refine lv_iconst (v := 1) hx hb dX6_holding_57 (by decide) ?_
              refine lv_goto (tgt := 62) hx hb dX6_holding_58 (by decide) ?_
              refine lv_asi (show (1 : Int32) = b2 (cnd σ rp k j (hdR σ rp k (sN σ - (j + 1)))) from by rw [cnd, c19, decide_eq_true c32, decide_eq_true c43, decide_eq_true c54]; rfl) ?_
              exact J62 ls (lv_sub hl [0, 1, 2, 3] rfl)

set_option maxHeartbeats 4000000 in
set_option maxRecDepth 100000 in
theorem c_X6_lineFor (l : Launch) (D : va_G) (cI cZ : ClassId) (ym : Nat) (ymB : Nat) (ymU : Nat) (ymV : Nat) (ymR : Nat) (ymI : Nat) (ymE : Nat) (ymS : Nat) (ymT : Nat) (ymD : Nat) (ymQ : Nat) (ymP : Nat) (ymN : Nat) (ymO : Nat) (ymY : Nat) (ymZ : Nat) (ymX : Nat) (σ : ST) (ir : Nat → Int32) (rp : Int32) (k : Nat) (hok : Ok σ) (hir : ∀ l, l < sN σ → ir l = b2 (bit rp (nI l))) : Met l yX6_lineFor wsX6_lineFor ({ frames := 1, cells := 0, slots := 0, locals := 24 }) (va_Pc [.ref ym, .int (nI k)] (XP D cI cZ [(ym, .inr (6, [.int (nI (sF σ)), .ref ymB, .int (nI (sN σ)), .ref ymU, .ref ymV, .ref ymR, .ref ymI, .ref ymE, .int (nI (sM σ)), .ref ymS, .ref ymT, .ref ymD, .int (nI (sC σ)), .ref ymQ, .ref ymP, .ref ymN, .int (nI (sG σ)), .ref ymO, .ref ymY, .ref ymZ, .ref ymX])), (ymU, .inl (cI, 12, .inl (rMu σ))), (ymV, .inl (cI, 12, .inl (rMn σ))), (ymI, .inl (cZ, 12, .inl ir)), (ymE, .inl (cI, 12, .inl (rEr σ)))])) (vp_Si (fun r => r = lawI σ rp k)) 0 0 (fun _ => False) := by
  refine Met.ofW (cc := cX6_lineFor) (maxL := 5) (ret := (some .int)) (by decide) rfl ?_
  intro p e s m args below meth c s₁ B hml hv
  obtain ⟨rfl, hP, hK, hN⟩ := hv
  have hx := B.exec
  have hb := B.bytes
  have hr := B.returns
  have hts := atoms_spec (ws := wsX6_lineFor) B.pre
  have hown : s.vm.findClass RX6 = some m.cls := findClass_of_methodNamed B.named
  have hlocks := B.notSynchronized
  have ho := hok.1
  have hk2 := hok.k
  have hp2 : 1 ≤ 2 ^ sF σ := Nat.two_pow_pos _
  have hf70 := hts (.fieldLink RX6 70 "BallCourtModel" "lines" "I") (List.mem_of_getElem? (i := 1) (by decide +kernel))
  have hiX6 : ∀ w ∈ wsX60, w ∈ wsX6_lineFor := fun w h => List.mem_cons_of_mem _ (List.mem_append_right _ h)
  have hf30 := hts (.fieldLink RX6 30 "BallCourtModel" "excepts" "[I") (List.mem_of_getElem? (i := 2) (by decide +kernel))
  have hl := lv_entry ([.ref ym, .int (nI k)]) (n := 5) (Nat.le_of_ble_eq_true rfl)
  rw [lg_entry_eq]
  generalize (lg_sl ([.ref ym, .int (nI k)]) ++ List.replicate (5 - (lg_sl ([.ref ym, .int (nI k)])).length) Slot.unset).toArray = ls at hl ⊢
  have hl : lv_has ls 5 [(0, .ref ym), (1, .int (nI k))] := hl
  refine lv_iconst (v := 0) hx hb dX6_lineFor_0 (by decide) ?_
  refine lv_istore_n (lv' := [(2, .int 0), (0, .ref ym), (1, .int (nI k))]) hx hb dX6_lineFor_1 rfl hl (by decide) rfl (fun ls hl => ?_)
  refine lv_iconst (v := nI 0) hx hb dX6_lineFor_2 (by decide) ?_
  refine lv_istore_n (lv' := [(3, .int (nI 0)), (2, .int 0), (0, .ref ym), (1, .int (nI k))]) hx hb dX6_lineFor_3 rfl hl (by decide) rfl (fun ls hl => ?_)
  have hl : lv_has ls 5 [(3, .int (nI 0)), (2, .int (orE (rEr σ) 0)), (0, .ref ym), (1, .int (nI k))] := by rw [← (show 0 = orE (rEr σ) 0 from rfl)]; exact hl
  refine wloop (α := Nat) (fun v => sN σ - v) (fun v => [(0, .ref ym), (1, .int (nI k)), (2, .int (orE (rEr σ) v)), (3, .int (nI v))]) (fun v => (v ≤ sN σ)) 5 (fun v hv ih4 ls hl => ?_) 0 (show 0 ≤ sN σ from Nat.zero_le _) ls (lv_sub hl [2, 3, 1, 0] rfl)
  obtain ⟨i0, rfl⟩ : ∃ z : Nat, z = v := ⟨_, rfl⟩
  have hi0 : i0 ≤ sN σ := hv
  have hl : lv_has ls 5 [(0, .ref ym), (1, .int (nI k)), (2, .int (orE (rEr σ) i0)), (3, .int (nI i0))] := hl
  refine lv_iload_n hx hb dX6_lineFor_4 rfl (lv_at hl 3 rfl) ?_
  refine lv_aload_n hx hb dX6_lineFor_5 rfl (lv_at hl 0 rfl) ?_
  refine va_get (D := D) (ci := 6) (v := .int (nI (sN σ))) (C := RX6) (T := TX6) (N := 21) hx hb hts hiX6 hown hK hP 0 rfl rfl 2 (by decide) hf70 (fun _ h9 => h9) rfl dX6_lineFor_6 ?_
  refine lv_icmp_ge (tgt := 27) hx hb dX6_lineFor_9 (by decide) (fun c9 => ?_) (fun c9 => ?_)
  · skip
    have c9 := (nI_leI (by omega) (by omega)).mp c9
    refine lv_aload_n hx hb dX6_lineFor_27 rfl (lv_at hl 0 rfl) ?_
    refine lv_iload_n hx hb dX6_lineFor_28 rfl (lv_at hl 1 rfl) ?_
    refine xpV (rest := []) ⟨hx, hb, hml, hown, hts⟩ (c_X6_holding l D cI cZ ym ymB ymU ymV ymR ymI ymE ymS ymT ymD ymQ ymP ymN ymO ymY ymZ ymX σ ir rp k hok hir) (cwV 1 hts gX6_lineFor_X6_holding rfl rfl rfl (by decide +kernel) ⟨Nat.le_of_ble_eq_true rfl, Nat.le_of_ble_eq_true rfl⟩) hP [0, 1, 2, 3, 4] rfl hK hN (ci := 6) (q0 := 0) rfl rfl rfl hl.1 rfl (Nat.le_of_ble_eq_true rfl) dX6_lineFor_29 ⟨Nat.zero_le _, Nat.zero_le _⟩ (fun r29 e29 => ?_)
    subst e29
    refine lv_iload_n hx hb dX6_lineFor_32 rfl (lv_at hl 2 rfl) ?_
    refine lv_iconst (v := (-1)) hx hb dX6_lineFor_33 (by decide) ?_
    refine lv_ixor hx hb dX6_lineFor_34 ?_
    refine lv_iand hx hb dX6_lineFor_35 ?_
    refine lv_asi (show (holdI σ rp k) &&& ((orE (rEr σ) i0) ^^^ (-1)) = givI σ rp k from by rw [show i0 = sN σ by omega]; rfl) ?_
    refine lv_istore_n (lv' := [(3, .int (givI σ rp k)), (0, .ref ym), (1, .int (nI k)), (2, .int (orE (rEr σ) i0))]) hx hb dX6_lineFor_36 rfl hl (by decide) rfl (fun ls hl => ?_)
    refine lv_iconst (v := nI 0) hx hb dX6_lineFor_37 (by decide) ?_
    refine lv_istore (lv' := [(4, .int (nI 0)), (3, .int (givI σ rp k)), (0, .ref ym), (1, .int (nI k)), (2, .int (orE (rEr σ) i0))]) hx hb dX6_lineFor_38 hl (by decide) rfl (fun ls hl => ?_)
    refine wloop (α := Nat) (fun v => sN σ - v) (fun v => [(0, .ref ym), (1, .int (nI k)), (3, .int (givI σ rp k)), (4, .int (nI v))]) (fun v => (v ≤ sN σ) ∧ (∀ j, j < v → bit (givI σ rp k) (nI j) = false)) 5 (fun v hv ih40 ls hl => ?_) 0 ⟨(show 0 ≤ sN σ from Nat.zero_le _), (show ∀ j, j < 0 → bit (givI σ rp k) (nI j) = false from fun j hj => absurd hj (Nat.not_lt_zero _))⟩ ls (lv_sub hl [2, 3, 1, 0] rfl)
    obtain ⟨i, rfl⟩ : ∃ z : Nat, z = v := ⟨_, rfl⟩
    obtain ⟨hi, hn⟩ := hv
    have hi : i ≤ sN σ := hi
    have hn : ∀ j, j < i → bit (givI σ rp k) (nI j) = false := hn
    have hl : lv_has ls 5 [(0, .ref ym), (1, .int (nI k)), (3, .int (givI σ rp k)), (4, .int (nI i))] := hl
    refine lv_iload hx hb dX6_lineFor_40 (lv_at hl 3 rfl) ?_
    refine lv_aload_n hx hb dX6_lineFor_42 rfl (lv_at hl 0 rfl) ?_
    refine va_get (D := D) (ci := 6) (v := .int (nI (sN σ))) (C := RX6) (T := TX6) (N := 21) hx hb hts hiX6 hown hK hP 0 rfl rfl 2 (by decide) hf70 (fun _ h9 => h9) rfl dX6_lineFor_43 ?_
    refine lv_icmp_ge (tgt := 68) hx hb dX6_lineFor_46 (by decide) (fun c46 => ?_) (fun c46 => ?_)
    · skip
      have c46 := (nI_leI (by omega) (by omega)).mp c46
      refine lv_bipush (v := (-6)) hx hb dX6_lineFor_68 (by decide) ?_
      exact W.iret (v := (-6)) hx hb hr (fun t ht hW => ⟨_, rfl, by rw [lawI, lawI_no (fun j hj => hn j (by omega)), if_neg (Nat.lt_irrefl _)], ht⟩) (fun _ h => absurd h List.not_mem_nil) dX6_lineFor_70
    · skip
      have c46 := Nat.lt_of_not_le (fun z => c46 ((nI_leI (by omega) (by omega)).mpr z))
      refine lv_iload_n hx hb dX6_lineFor_49 rfl (lv_at hl 2 rfl) ?_
      refine lv_iload hx hb dX6_lineFor_50 (lv_at hl 3 rfl) ?_
      refine lv_ishr hx hb dX6_lineFor_52 ?_
      refine lv_iconst (v := 1) hx hb dX6_lineFor_53 (by decide) ?_
      refine lv_iand hx hb dX6_lineFor_54 ?_
      refine lv_asi (show ((givI σ rp k) >>> ((nI i) &&& 31)) &&& 1 = b2 (bit (givI σ rp k) (nI i)) from hb_b2 _ _) ?_
      refine lv_iconst (v := 1) hx hb dX6_lineFor_55 (by decide) ?_
      refine lv_icmp_ne (tgt := 62) hx hb dX6_lineFor_56 (by decide) (fun c56 => ?_) (fun c56 => ?_)
      · skip
        have c56 := b2_n1 c56
        refine lv_iinc (k := 3) (x := nI i) (v := nI (i + 1)) (lv' := [(4, .int (nI (i + 1))), (0, .ref ym), (1, .int (nI k)), (3, .int (givI σ rp k))]) hx hb dX6_lineFor_62 hl rfl (show (nI i) + Int32.ofInt 1 = nI (i + 1) from nI_1 _) (by decide) rfl (fun ls hl => ?_)
        refine lv_goto (tgt := 40) hx hb dX6_lineFor_65 (by decide) ?_
        exact ih40 (i + 1) ⟨(show (i + 1) ≤ sN σ from (by omega)), (show ∀ j, j < (i + 1) → bit (givI σ rp k) (nI j) = false from lt_s hn c56)⟩ (by show sN σ - (i + 1) < sN σ - i; omega) ls (lv_sub hl [1, 2, 3, 0] rfl)
      · skip
        have c56 := b2_e1 c56
        refine lv_iload hx hb dX6_lineFor_59 (lv_at hl 3 rfl) ?_
        exact W.iret (v := nI i) hx hb hr (fun t ht hW => ⟨_, rfl, by rw [lawI, lawI_at c46 c56 hn, if_pos c46], ht⟩) (fun _ h => absurd h List.not_mem_nil) dX6_lineFor_61
  · skip
    have c9 := Nat.lt_of_not_le (fun z => c9 ((nI_leI (by omega) (by omega)).mpr z))
    refine lv_iload_n hx hb dX6_lineFor_12 rfl (lv_at hl 2 rfl) ?_
    refine lv_aload_n hx hb dX6_lineFor_13 rfl (lv_at hl 0 rfl) ?_
    refine va_get (D := D) (ci := 6) (v := .ref ymE) (C := RX6) (T := TX6) (N := 21) hx hb hts hiX6 hown hK hP 0 rfl rfl 7 (by decide) hf30 (fun _ h9 => h9) rfl dX6_lineFor_14 ?_
    refine lv_iload_n hx hb dX6_lineFor_17 rfl (lv_at hl 3 rfl) ?_
    refine xald (k := i0) hx hb hK hP 4 rfl (by omega) (by decide) dX6_lineFor_18 ?_
    refine lv_ior hx hb dX6_lineFor_19 ?_
    refine lv_istore_n (lv' := [(2, .int ((orE (rEr σ) i0) ||| (rEr σ i0))), (0, .ref ym), (1, .int (nI k)), (3, .int (nI i0))]) hx hb dX6_lineFor_20 rfl hl (by decide) rfl (fun ls hl => ?_)
    refine lv_iinc (k := 3) (x := nI i0) (v := nI (i0 + 1)) (lv' := [(3, .int (nI (i0 + 1))), (2, .int ((orE (rEr σ) i0) ||| (rEr σ i0))), (0, .ref ym), (1, .int (nI k))]) hx hb dX6_lineFor_21 hl rfl (show (nI i0) + Int32.ofInt 1 = nI (i0 + 1) from nI_1 _) (by decide) rfl (fun ls hl => ?_)
    refine lv_goto (tgt := 4) hx hb dX6_lineFor_24 (by decide) ?_
    have hl : lv_has ls 5 [(3, .int (nI (i0 + 1))), (2, .int (orE (rEr σ) (i0 + 1))), (0, .ref ym), (1, .int (nI k))] := by rw [← (show (orE (rEr σ) i0) ||| (rEr σ i0) = orE (rEr σ) (i0 + 1) from rfl)]; exact hl
    exact ih4 (i0 + 1) (show (i0 + 1) ≤ sN σ from (by omega)) (by show sN σ - (i0 + 1) < sN σ - i0; omega) ls (lv_sub hl [2, 3, 1, 0] rfl)

set_option maxHeartbeats 4000000 in
set_option maxRecDepth 100000 in
theorem c_X6_rulingFor (l : Launch) (D : va_G) (cI cZ : ClassId) (ym : Nat) (ymB : Nat) (ymU : Nat) (ymV : Nat) (ymR : Nat) (ymI : Nat) (ymE : Nat) (ymS : Nat) (ymT : Nat) (ymD : Nat) (ymQ : Nat) (ymP : Nat) (ymN : Nat) (ymO : Nat) (ymY : Nat) (ymZ : Nat) (ymX : Nat) (σ : ST) (ir : Nat → Int32) (rp : Int32) (k : Nat) (hok : Ok σ) (hir : ∀ l, l < sN σ → ir l = b2 (bit rp (nI l))) : Met l yX6_rulingFor wsX6_rulingFor ({ frames := 2, cells := 0, slots := 0, locals := 48 }) (va_Pc [.ref ym, .int (nI k)] (XP D cI cZ [(ym, .inr (6, [.int (nI (sF σ)), .ref ymB, .int (nI (sN σ)), .ref ymU, .ref ymV, .ref ymR, .ref ymI, .ref ymE, .int (nI (sM σ)), .ref ymS, .ref ymT, .ref ymD, .int (nI (sC σ)), .ref ymQ, .ref ymP, .ref ymN, .int (nI (sG σ)), .ref ymO, .ref ymY, .ref ymZ, .ref ymX])), (ymU, .inl (cI, 12, .inl (rMu σ))), (ymV, .inl (cI, 12, .inl (rMn σ))), (ymR, .inl (cI, 12, .inl (rRu σ))), (ymI, .inl (cZ, 12, .inl ir)), (ymE, .inl (cI, 12, .inl (rEr σ)))])) (vp_Si (fun r => r = rulI σ rp k)) 0 0 (fun _ => False) := by
  refine Met.ofW (cc := cX6_rulingFor) (maxL := 3) (ret := (some .int)) (by decide) rfl ?_
  intro p e s m args below meth c s₁ B hml hv
  obtain ⟨rfl, hP, hK, hN⟩ := hv
  have hx := B.exec
  have hb := B.bytes
  have hr := B.returns
  have hts := atoms_spec (ws := wsX6_rulingFor) B.pre
  have hown : s.vm.findClass RX6 = some m.cls := findClass_of_methodNamed B.named
  have hlocks := B.notSynchronized
  have ho := hok.1
  have hk2 := hok.k
  have hp2 : 1 ≤ 2 ^ sF σ := Nat.two_pow_pos _
  have hf23 := hts (.fieldLink RX6 23 "BallCourtModel" "ruling" "[I") (List.mem_of_getElem? (i := 1) (by decide +kernel))
  have hiX6 : ∀ w ∈ wsX60, w ∈ wsX6_rulingFor := fun w h => List.mem_cons_of_mem _ (List.mem_append_right _ h)
  have hl := lv_entry ([.ref ym, .int (nI k)]) (n := 3) (Nat.le_of_ble_eq_true rfl)
  rw [lg_entry_eq]
  generalize (lg_sl ([.ref ym, .int (nI k)]) ++ List.replicate (3 - (lg_sl ([.ref ym, .int (nI k)])).length) Slot.unset).toArray = ls at hl ⊢
  have hl : lv_has ls 3 [(0, .ref ym), (1, .int (nI k))] := hl
  refine lv_aload_n hx hb dX6_rulingFor_0 rfl (lv_at hl 0 rfl) ?_
  refine lv_iload_n hx hb dX6_rulingFor_1 rfl (lv_at hl 1 rfl) ?_
  refine xpV (rest := []) ⟨hx, hb, hml, hown, hts⟩ (c_X6_lineFor l D cI cZ ym ymB ymU ymV ymR ymI ymE ymS ymT ymD ymQ ymP ymN ymO ymY ymZ ymX σ ir rp k hok hir) (cwV 1 hts gX6_rulingFor_X6_lineFor rfl rfl rfl (by decide +kernel) ⟨Nat.le_of_ble_eq_true rfl, Nat.le_of_ble_eq_true rfl⟩) hP [0, 1, 2, 4, 5] rfl hK hN (ci := 6) (q0 := 0) rfl rfl rfl hl.1 rfl (Nat.le_of_ble_eq_true rfl) dX6_rulingFor_2 ⟨Nat.zero_le _, Nat.zero_le _⟩ (fun r2 e2 => ?_)
  subst e2
  refine lv_istore_n (lv' := [(2, .int (lawI σ rp k)), (0, .ref ym), (1, .int (nI k))]) hx hb dX6_rulingFor_5 rfl hl (by decide) rfl (fun ls hl => ?_)
  refine lv_iload_n hx hb dX6_rulingFor_6 rfl (lv_at hl 0 rfl) ?_
  refine lv_if_ge (tgt := 14) hx hb dX6_rulingFor_7 (by decide) (fun c7 => ?_) (fun c7 => ?_)
  · skip
    have c7 := (lawI_ge (by omega)).mp c7
    have hl : lv_has ls 3 [(2, .int (nI (lawN σ rp k))), (0, .ref ym), (1, .int (nI k))] := by rw [← (show lawI σ rp k = nI (lawN σ rp k) from (by rw [lawI, if_pos c7]))]; exact hl
    refine lv_aload_n hx hb dX6_rulingFor_14 rfl (lv_at hl 1 rfl) ?_
    refine va_get (D := D) (ci := 6) (v := .ref ymR) (C := RX6) (T := TX6) (N := 21) hx hb hts hiX6 hown hK hP 0 rfl rfl 5 (by decide) hf23 (fun _ h9 => h9) rfl dX6_rulingFor_15 ?_
    refine lv_iload_n hx hb dX6_rulingFor_18 rfl (lv_at hl 0 rfl) ?_
    refine xald (k := (lawN σ rp k)) hx hb hK hP 3 rfl (by omega) (by decide) dX6_rulingFor_19 ?_
    exact W.iret (v := rRu σ (lawN σ rp k)) hx hb hr (fun t ht hW => ⟨_, rfl, by rw [rulI, if_pos c7], ht⟩) (fun _ h => absurd h List.not_mem_nil) dX6_rulingFor_20
  · skip
    have c7 := mt (lawI_ge (by omega)).mpr c7
    refine lv_iconst (v := 0) hx hb dX6_rulingFor_10 (by decide) ?_
    refine lv_goto (tgt := 20) hx hb dX6_rulingFor_11 (by decide) ?_
    exact W.iret (v := 0) hx hb hr (fun t ht hW => ⟨_, rfl, by rw [rulI, if_neg c7], ht⟩) (fun _ h => absurd h List.not_mem_nil) dX6_rulingFor_20

set_option maxHeartbeats 4000000 in
set_option maxRecDepth 100000 in
theorem c_X6_bound (l : Launch) (D : va_G) (cI cZ : ClassId) (ym : Nat) (ymB : Nat) (ymU : Nat) (ymV : Nat) (ymR : Nat) (ymI : Nat) (ymE : Nat) (ymS : Nat) (ymT : Nat) (ymD : Nat) (ymQ : Nat) (ymP : Nat) (ymN : Nat) (ymO : Nat) (ymY : Nat) (ymZ : Nat) (ymX : Nat) (σ : ST) (ir : Nat → Int32) (rp : Int32) (k : Nat) (hok : Ok σ) (hir : ∀ l, l < sN σ → ir l = b2 (bit rp (nI l))) : Met l yX6_bound wsX6_bound ({ frames := 3, cells := 0, slots := 0, locals := 70 }) (va_Pc [.ref ym, .int (nI k)] (XP D cI cZ [(ym, .inr (6, [.int (nI (sF σ)), .ref ymB, .int (nI (sN σ)), .ref ymU, .ref ymV, .ref ymR, .ref ymI, .ref ymE, .int (nI (sM σ)), .ref ymS, .ref ymT, .ref ymD, .int (nI (sC σ)), .ref ymQ, .ref ymP, .ref ymN, .int (nI (sG σ)), .ref ymO, .ref ymY, .ref ymZ, .ref ymX])), (ymU, .inl (cI, 12, .inl (rMu σ))), (ymV, .inl (cI, 12, .inl (rMn σ))), (ymR, .inl (cI, 12, .inl (rRu σ))), (ymI, .inl (cZ, 12, .inl ir)), (ymE, .inl (cI, 12, .inl (rEr σ)))])) (vp_Si (fun r => r = bdI σ rp k)) 0 0 (fun _ => False) := by
  refine Met.ofW (cc := cX6_bound) (maxL := 2) (ret := (some .int)) (by decide) rfl ?_
  intro p e s m args below meth c s₁ B hml hv
  obtain ⟨rfl, hP, hK, hN⟩ := hv
  have hx := B.exec
  have hb := B.bytes
  have hr := B.returns
  have hts := atoms_spec (ws := wsX6_bound) B.pre
  have hown : s.vm.findClass RX6 = some m.cls := findClass_of_methodNamed B.named
  have hlocks := B.notSynchronized
  have ho := hok.1
  have hk2 := hok.k
  have hp2 : 1 ≤ 2 ^ sF σ := Nat.two_pow_pos _
  have hl := lv_entry ([.ref ym, .int (nI k)]) (n := 2) (Nat.le_of_ble_eq_true rfl)
  rw [lg_entry_eq]
  generalize (lg_sl ([.ref ym, .int (nI k)]) ++ List.replicate (2 - (lg_sl ([.ref ym, .int (nI k)])).length) Slot.unset).toArray = ls at hl ⊢
  have hl : lv_has ls 2 [(0, .ref ym), (1, .int (nI k))] := hl
  refine lv_iconst (v := 2) hx hb dX6_bound_0 (by decide) ?_
  refine lv_aload_n hx hb dX6_bound_1 rfl (lv_at hl 0 rfl) ?_
  refine lv_iload_n hx hb dX6_bound_2 rfl (lv_at hl 1 rfl) ?_
  refine xpV (rest := [.int 2]) ⟨hx, hb, hml, hown, hts⟩ (c_X6_rulingFor l D cI cZ ym ymB ymU ymV ymR ymI ymE ymS ymT ymD ymQ ymP ymN ymO ymY ymZ ymX σ ir rp k hok hir) (cwV 1 hts gX6_bound_X6_rulingFor rfl rfl rfl (by decide +kernel) ⟨Nat.le_of_ble_eq_true rfl, Nat.le_of_ble_eq_true rfl⟩) hP [0, 1, 2, 3, 4, 5] rfl hK hN (ci := 6) (q0 := 0) rfl rfl rfl hl.1 rfl (Nat.le_of_ble_eq_true rfl) dX6_bound_3 ⟨Nat.zero_le _, Nat.zero_le _⟩ (fun r3 e3 => ?_)
  subst e3
  refine lv_imul hx hb dX6_bound_6 ?_
  refine lv_aload_n hx hb dX6_bound_7 rfl (lv_at hl 0 rfl) ?_
  refine lv_iload_n hx hb dX6_bound_8 rfl (lv_at hl 1 rfl) ?_
  refine xpV (rest := [.int (2 * (rulI σ rp k))]) ⟨hx, hb, hml, hown, hts⟩ (c_X6_lineFor l D cI cZ ym ymB ymU ymV ymR ymI ymE ymS ymT ymD ymQ ymP ymN ymO ymY ymZ ymX σ ir rp k hok hir) (cwV 1 hts gX6_bound_X6_lineFor rfl rfl rfl (by decide +kernel) ⟨Nat.le_of_ble_eq_true rfl, Nat.le_of_ble_eq_true rfl⟩) hP [0, 1, 2, 4, 5] rfl hK hN (ci := 6) (q0 := 0) rfl rfl rfl hl.1 rfl (Nat.le_of_ble_eq_true rfl) dX6_bound_9 ⟨Nat.zero_le _, Nat.zero_le _⟩ (fun r9 e9 => ?_)
  subst e9
  refine wjoin (pcJ := 20) (lv := [(0, .ref ym), (1, .int (nI k))]) (nL := 2) (st := [.int (b2 (covB σ rp k)), .int (2 * (rulI σ rp k))]) (fun ls hl => ?_) (fun J20 => ?_)
  · skip
    refine lv_iadd hx hb dX6_bound_20 ?_
    exact W.iret (v := (2 * (rulI σ rp k)) + (b2 (covB σ rp k))) hx hb hr (fun t ht hW => ⟨_, rfl, rfl, ht⟩) (fun _ h => absurd h List.not_mem_nil) dX6_bound_21
  · skip
    refine lv_if_ge (tgt := 19) hx hb dX6_bound_12 (by decide) (fun c12 => ?_) (fun c12 => ?_)
    · skip
      have c12 : covB σ rp k = true := decide_eq_true ((lawI_ge (by omega)).mp c12)
      refine lv_iconst (v := 1) hx hb dX6_bound_19 (by decide) ?_
      refine lv_asi (show (1 : Int32) = b2 (covB σ rp k) from b2_t c12) ?_
      exact J20 ls (lv_sub hl [0, 1] rfl)
    · skip
      have c12 : covB σ rp k = false := decide_eq_false (mt (lawI_ge (by omega)).mpr c12)
      refine lv_iconst (v := 0) hx hb dX6_bound_15 (by decide) ?_
      refine lv_goto (tgt := 20) hx hb dX6_bound_16 (by decide) ?_
      refine lv_asi (show (0 : Int32) = b2 (covB σ rp k) from b2_f c12) ?_
      exact J20 ls (lv_sub hl [0, 1] rfl)

set_option maxHeartbeats 4000000 in
set_option maxRecDepth 100000 in
theorem c_X6_holds (l : Launch) (D : va_G) (cI cZ : ClassId) (ym : Nat) (ymB : Nat) (ymU : Nat) (ymV : Nat) (ymR : Nat) (ymI : Nat) (ymE : Nat) (ymS : Nat) (ymT : Nat) (ymD : Nat) (ymQ : Nat) (ymP : Nat) (ymN : Nat) (ymO : Nat) (ymY : Nat) (ymZ : Nat) (ymX : Nat) (σ : ST) (ir : Nat → Int32) (x : Int32) (y : Int32) (hok : Ok σ) (hir : ∀ l, l < sN σ → ir l = b2 (bit (sR σ) (nI l))) : Met l yX6_holds wsX6_holds ({ frames := 2, cells := 0, slots := 0, locals := 45 }) (va_Pc [.ref ym, .int x, .int y] (XP D cI cZ [(ym, .inr (6, [.int (nI (sF σ)), .ref ymB, .int (nI (sN σ)), .ref ymU, .ref ymV, .ref ymR, .ref ymI, .ref ymE, .int (nI (sM σ)), .ref ymS, .ref ymT, .ref ymD, .int (nI (sC σ)), .ref ymQ, .ref ymP, .ref ymN, .int (nI (sG σ)), .ref ymO, .ref ymY, .ref ymZ, .ref ymX])), (ymB, .inl (cI, 7, .inl (rB σ))), (ymU, .inl (cI, 12, .inl (rMu σ))), (ymV, .inl (cI, 12, .inl (rMn σ))), (ymI, .inl (cZ, 12, .inl ir)), (ymE, .inl (cI, 12, .inl (rEr σ)))])) (vp_Si (fun r => r = oHolds σ x y)) 0 0 (fun _ => False) := by
  refine Met.ofW (cc := cX6_holds) (maxL := 3) (ret := (some .int)) (by decide) rfl ?_
  intro p e s m args below meth c s₁ B hml hv
  obtain ⟨rfl, hP, hK, hN⟩ := hv
  have hx := B.exec
  have hb := B.bytes
  have hr := B.returns
  have hts := atoms_spec (ws := wsX6_holds) B.pre
  have hown : s.vm.findClass RX6 = some m.cls := findClass_of_methodNamed B.named
  have hlocks := B.notSynchronized
  have ho := hok.1
  have hk2 := hok.k
  have hp2 : 1 ≤ 2 ^ sF σ := Nat.two_pow_pos _
  have hl := lv_entry ([.ref ym, .int x, .int y]) (n := 3) (Nat.le_of_ble_eq_true rfl)
  rw [lg_entry_eq]
  generalize (lg_sl ([.ref ym, .int x, .int y]) ++ List.replicate (3 - (lg_sl ([.ref ym, .int x, .int y])).length) Slot.unset).toArray = ls at hl ⊢
  have hl : lv_has ls 3 [(0, .ref ym), (1, .int x), (2, .int y)] := hl
  refine lv_aload_n hx hb dX6_holds_0 rfl (lv_at hl 0 rfl) ?_
  refine lv_iload_n hx hb dX6_holds_1 rfl (lv_at hl 1 rfl) ?_
  refine xpV (rest := []) ⟨hx, hb, hml, hown, hts⟩ (c_X6_isLine l D cI cZ ym ymB ymU ymV ymR ymI ymE ymS ymT ymD ymQ ymP ymN ymO ymY ymZ ymX σ x hok) (cwV 1 hts gX6_holds_X6_isLine rfl rfl rfl (by decide +kernel) ⟨Nat.le_of_ble_eq_true rfl, Nat.le_of_ble_eq_true rfl⟩) hP [0] rfl hK hN (ci := 6) (q0 := 0) rfl rfl rfl hl.1 rfl (Nat.le_of_ble_eq_true rfl) dX6_holds_2 ⟨Nat.zero_le _, Nat.zero_le _⟩ (fun r2 e2 => ?_)
  subst e2
  refine lv_if_ne (tgt := 10) hx hb dX6_holds_5 (by decide) (fun c5 => ?_) (fun c5 => ?_)
  · skip
    have c5 := b2_1 c5
    obtain ⟨q, hq, rfl⟩ := inN_t c5 (by omega)
    have kq := clp hq (show sN σ ≤ 128 by omega)
    refine lv_aload_n hx hb dX6_holds_10 rfl (lv_at hl 0 rfl) ?_
    refine lv_iload_n hx hb dX6_holds_11 rfl (lv_at hl 2 rfl) ?_
    refine xpV (rest := []) ⟨hx, hb, hml, hown, hts⟩ (c_X6_isKind l D cI cZ ym ymB ymU ymV ymR ymI ymE ymS ymT ymD ymQ ymP ymN ymO ymY ymZ ymX σ y hok) (cwV 1 hts gX6_holds_X6_isKind rfl rfl rfl (by decide +kernel) ⟨Nat.le_of_ble_eq_true rfl, Nat.le_of_ble_eq_true rfl⟩) hP [0, 1] rfl hK hN (ci := 6) (q0 := 0) rfl rfl rfl hl.1 rfl (Nat.le_of_ble_eq_true rfl) dX6_holds_12 ⟨Nat.zero_le _, Nat.zero_le _⟩ (fun r12 e12 => ?_)
    subst e12
    refine lv_if_eq (tgt := 30) hx hb dX6_holds_15 (by decide) (fun c15 => ?_) (fun c15 => ?_)
    · skip
      have c15 := b2_0 c15
      refine lv_bipush (v := (-2)) hx hb dX6_holds_30 (by decide) ?_
      exact W.iret (v := (-2)) hx hb hr (fun t ht hW => ⟨_, rfl, by simp [oHolds, c5, c15], ht⟩) (fun _ h => absurd h List.not_mem_nil) dX6_holds_32
    · skip
      have c15 := b2_1 c15
      obtain ⟨k, hk, rfl⟩ := kin_t c15 (by omega)
      have kk := clp hk hk2
      refine lv_aload_n hx hb dX6_holds_18 rfl (lv_at hl 0 rfl) ?_
      refine lv_iload_n hx hb dX6_holds_19 rfl (lv_at hl 2 rfl) ?_
      refine xpV (rest := []) ⟨hx, hb, hml, hown, hts⟩ (c_X6_holding l D cI cZ ym ymB ymU ymV ymR ymI ymE ymS ymT ymD ymQ ymP ymN ymO ymY ymZ ymX σ ir (sR σ) k hok hir) (cwV 1 hts gX6_holds_X6_holding rfl rfl rfl (by decide +kernel) ⟨Nat.le_of_ble_eq_true rfl, Nat.le_of_ble_eq_true rfl⟩) hP [0, 2, 3, 4, 5] rfl hK hN (ci := 6) (q0 := 0) rfl rfl rfl hl.1 rfl (Nat.le_of_ble_eq_true rfl) dX6_holds_20 ⟨Nat.zero_le _, Nat.zero_le _⟩ (fun r20 e20 => ?_)
      subst e20
      refine lv_iload_n hx hb dX6_holds_23 rfl (lv_at hl 1 rfl) ?_
      refine lv_ishr hx hb dX6_holds_24 ?_
      refine lv_iconst (v := 1) hx hb dX6_holds_25 (by decide) ?_
      refine lv_iand hx hb dX6_holds_26 ?_
      refine lv_asi (show ((holdI σ (sR σ) k) >>> ((nI q) &&& 31)) &&& 1 = b2 (bit (holdI σ (sR σ) k) (nI q)) from hb_b2 _ _) ?_
      refine lv_goto (tgt := 32) hx hb dX6_holds_27 (by decide) ?_
      exact W.iret (v := b2 (bit (holdI σ (sR σ) k) (nI q))) hx hb hr (fun t ht hW => ⟨_, rfl, by simp [oHolds, c5, c15, kk], ht⟩) (fun _ h => absurd h List.not_mem_nil) dX6_holds_32
  · skip
    have c5 := b2_0 c5
    refine lv_iconst (v := (-1)) hx hb dX6_holds_8 (by decide) ?_
    exact W.iret (v := (-1)) hx hb hr (fun t ht hW => ⟨_, rfl, by simp [oHolds, c5], ht⟩) (fun _ h => absurd h List.not_mem_nil) dX6_holds_9

set_option maxHeartbeats 4000000 in
set_option maxRecDepth 100000 in
theorem c_X6_law (l : Launch) (D : va_G) (cI cZ : ClassId) (ym : Nat) (ymB : Nat) (ymU : Nat) (ymV : Nat) (ymR : Nat) (ymI : Nat) (ymE : Nat) (ymS : Nat) (ymT : Nat) (ymD : Nat) (ymQ : Nat) (ymP : Nat) (ymN : Nat) (ymO : Nat) (ymY : Nat) (ymZ : Nat) (ymX : Nat) (σ : ST) (ir : Nat → Int32) (x : Int32) (w : Int32) (hok : Ok σ) (hir : ∀ l, l < sN σ → ir l = b2 (bit (sR σ) (nI l))) : Met l yX6_law wsX6_law ({ frames := 3, cells := 0, slots := 0, locals := 70 }) (va_Pc [.ref ym, .int x, .int w] (XP D cI cZ [(ym, .inr (6, [.int (nI (sF σ)), .ref ymB, .int (nI (sN σ)), .ref ymU, .ref ymV, .ref ymR, .ref ymI, .ref ymE, .int (nI (sM σ)), .ref ymS, .ref ymT, .ref ymD, .int (nI (sC σ)), .ref ymQ, .ref ymP, .ref ymN, .int (nI (sG σ)), .ref ymO, .ref ymY, .ref ymZ, .ref ymX])), (ymB, .inl (cI, 7, .inl (rB σ))), (ymU, .inl (cI, 12, .inl (rMu σ))), (ymV, .inl (cI, 12, .inl (rMn σ))), (ymR, .inl (cI, 12, .inl (rRu σ))), (ymI, .inl (cZ, 12, .inl ir)), (ymE, .inl (cI, 12, .inl (rEr σ)))])) (vp_Si (fun r => r = oLaw σ x w)) 0 0 (fun _ => False) := by
  refine Met.ofW (cc := cX6_law) (maxL := 3) (ret := (some .int)) (by decide) rfl ?_
  intro p e s m args below meth c s₁ B hml hv
  obtain ⟨rfl, hP, hK, hN⟩ := hv
  have hx := B.exec
  have hb := B.bytes
  have hr := B.returns
  have hts := atoms_spec (ws := wsX6_law) B.pre
  have hown : s.vm.findClass RX6 = some m.cls := findClass_of_methodNamed B.named
  have hlocks := B.notSynchronized
  have ho := hok.1
  have hk2 := hok.k
  have hp2 : 1 ≤ 2 ^ sF σ := Nat.two_pow_pos _
  have hl := lv_entry ([.ref ym, .int x, .int w]) (n := 3) (Nat.le_of_ble_eq_true rfl)
  rw [lg_entry_eq]
  generalize (lg_sl ([.ref ym, .int x, .int w]) ++ List.replicate (3 - (lg_sl ([.ref ym, .int x, .int w])).length) Slot.unset).toArray = ls at hl ⊢
  have hl : lv_has ls 3 [(0, .ref ym), (1, .int x), (2, .int w)] := hl
  refine lv_aload_n hx hb dX6_law_0 rfl (lv_at hl 0 rfl) ?_
  refine lv_iload_n hx hb dX6_law_1 rfl (lv_at hl 1 rfl) ?_
  refine xpV (rest := []) ⟨hx, hb, hml, hown, hts⟩ (c_X6_isKind l D cI cZ ym ymB ymU ymV ymR ymI ymE ymS ymT ymD ymQ ymP ymN ymO ymY ymZ ymX σ x hok) (cwV 1 hts gX6_law_X6_isKind rfl rfl rfl (by decide +kernel) ⟨Nat.le_of_ble_eq_true rfl, Nat.le_of_ble_eq_true rfl⟩) hP [0, 1] rfl hK hN (ci := 6) (q0 := 0) rfl rfl rfl hl.1 rfl (Nat.le_of_ble_eq_true rfl) dX6_law_2 ⟨Nat.zero_le _, Nat.zero_le _⟩ (fun r2 e2 => ?_)
  subst e2
  refine lv_if_eq (tgt := 17) hx hb dX6_law_5 (by decide) (fun c5 => ?_) (fun c5 => ?_)
  · skip
    have c5 := b2_0 c5
    refine lv_bipush (v := (-2)) hx hb dX6_law_17 (by decide) ?_
    exact W.iret (v := (-2)) hx hb hr (fun t ht hW => ⟨_, rfl, by simp [oLaw, c5], ht⟩) (fun _ h => absurd h List.not_mem_nil) dX6_law_19
  · skip
    have c5 := b2_1 c5
    obtain ⟨k, hk, rfl⟩ := kin_t c5 (by omega)
    have kk := clp hk hk2
    refine lv_iload_n hx hb dX6_law_8 rfl (lv_at hl 2 rfl) ?_
    refine lv_iconst (v := 0) hx hb dX6_law_9 (by decide) ?_
    refine lv_iconst (v := 1) hx hb dX6_law_10 (by decide) ?_
    refine xpS (rest := []) ⟨hx, hb, hml, hown, hts⟩ (c_X6_in l D cI cZ w 0 1) (va_cwS 3 hts gX6_law_X6_in rfl rfl rfl (by decide +kernel) ⟨Nat.le_of_ble_eq_true rfl, Nat.le_of_ble_eq_true rfl⟩) hP [] rfl hK hN rfl hl.1 rfl (Nat.le_of_ble_eq_true rfl) dX6_law_11 ⟨Nat.zero_le _, Nat.zero_le _⟩ (fun r11 e11 => ?_)
    subst e11
    refine lv_if_ne (tgt := 20) hx hb dX6_law_14 (by decide) (fun c14 => ?_) (fun c14 => ?_)
    · skip
      have c14 := b2_1 c14
      refine lv_iload_n hx hb dX6_law_20 rfl (lv_at hl 2 rfl) ?_
      refine lv_if_ne (tgt := 32) hx hb dX6_law_21 (by decide) (fun c21 => ?_) (fun c21 => ?_)
      · skip
        refine lv_aload_n hx hb dX6_law_32 rfl (lv_at hl 0 rfl) ?_
        refine lv_iload_n hx hb dX6_law_33 rfl (lv_at hl 1 rfl) ?_
        refine xpV (rest := []) ⟨hx, hb, hml, hown, hts⟩ (c_X6_rulingFor l D cI cZ ym ymB ymU ymV ymR ymI ymE ymS ymT ymD ymQ ymP ymN ymO ymY ymZ ymX σ ir (sR σ) k hok hir) (cwV 1 hts gX6_law_X6_rulingFor rfl rfl rfl (by decide +kernel) ⟨Nat.le_of_ble_eq_true rfl, Nat.le_of_ble_eq_true rfl⟩) hP [0, 2, 3, 4, 5, 6] rfl hK hN (ci := 6) (q0 := 0) rfl rfl rfl hl.1 rfl (Nat.le_of_ble_eq_true rfl) dX6_law_34 ⟨Nat.zero_le _, Nat.zero_le _⟩ (fun r34 e34 => ?_)
        subst e34
        exact W.iret (v := rulI σ (sR σ) k) hx hb hr (fun t ht hW => ⟨_, rfl, by rw [oLaw, if_neg (by rw [c5]; decide), if_neg (by rw [c14]; decide), if_neg c21, kk], ht⟩) (fun _ h => absurd h List.not_mem_nil) dX6_law_37
      · skip
        refine lv_aload_n hx hb dX6_law_24 rfl (lv_at hl 0 rfl) ?_
        refine lv_iload_n hx hb dX6_law_25 rfl (lv_at hl 1 rfl) ?_
        refine xpV (rest := []) ⟨hx, hb, hml, hown, hts⟩ (c_X6_lineFor l D cI cZ ym ymB ymU ymV ymR ymI ymE ymS ymT ymD ymQ ymP ymN ymO ymY ymZ ymX σ ir (sR σ) k hok hir) (cwV 1 hts gX6_law_X6_lineFor rfl rfl rfl (by decide +kernel) ⟨Nat.le_of_ble_eq_true rfl, Nat.le_of_ble_eq_true rfl⟩) hP [0, 2, 3, 5, 6] rfl hK hN (ci := 6) (q0 := 0) rfl rfl rfl hl.1 rfl (Nat.le_of_ble_eq_true rfl) dX6_law_26 ⟨Nat.zero_le _, Nat.zero_le _⟩ (fun r26 e26 => ?_)
        subst e26
        refine lv_goto (tgt := 37) hx hb dX6_law_29 (by decide) ?_
        exact W.iret (v := lawI σ (sR σ) k) hx hb hr (fun t ht hW => ⟨_, rfl, by rw [oLaw, if_neg (by rw [c5]; decide), if_neg (by rw [c14]; decide), if_pos c21, kk], ht⟩) (fun _ h => absurd h List.not_mem_nil) dX6_law_37
    · skip
      have c14 := b2_0 c14
      refine lv_bipush (v := (-2)) hx hb dX6_law_17 (by decide) ?_
      exact W.iret (v := (-2)) hx hb hr (fun t ht hW => ⟨_, rfl, by simp [oLaw, c5, c14], ht⟩) (fun _ h => absurd h List.not_mem_nil) dX6_law_19

set_option maxHeartbeats 4000000 in
set_option maxRecDepth 100000 in
theorem c_X6_open (l : Launch) (D : va_G) (cI cZ : ClassId) (ym : Nat) (ymB : Nat) (ymU : Nat) (ymV : Nat) (ymR : Nat) (ymI : Nat) (ymE : Nat) (ymS : Nat) (ymT : Nat) (ymD : Nat) (ymQ : Nat) (ymP : Nat) (ymN : Nat) (ymO : Nat) (ymY : Nat) (ymZ : Nat) (ymX : Nat) (σ : ST) (ir : Nat → Int32) (i : Int32) (hok : Ok σ) (hir : ∀ l, l < sN σ → ir l = b2 (bit (sR σ) (nI l))) : Met l yX6_open wsX6_open ({ frames := 2, cells := 0, slots := 0, locals := 48 }) (va_Pc [.ref ym, .int i] (XP D cI cZ [(ym, .inr (6, [.int (nI (sF σ)), .ref ymB, .int (nI (sN σ)), .ref ymU, .ref ymV, .ref ymR, .ref ymI, .ref ymE, .int (nI (sM σ)), .ref ymS, .ref ymT, .ref ymD, .int (nI (sC σ)), .ref ymQ, .ref ymP, .ref ymN, .int (nI (sG σ)), .ref ymO, .ref ymY, .ref ymZ, .ref ymX])), (ymB, .inl (cI, 7, .inl (rB σ))), (ymU, .inl (cI, 12, .inl (rMu σ))), (ymV, .inl (cI, 12, .inl (rMn σ))), (ymI, .inl (cZ, 12, .inl ir)), (ymE, .inl (cI, 12, .inl (rEr σ)))])) (vp_Si (fun r => r = oOpen σ i)) 0 0 (fun _ => False) := by
  refine Met.ofW (cc := cX6_open) (maxL := 4) (ret := (some .int)) (by decide) rfl ?_
  intro p e s m args below meth c s₁ B hml hv
  obtain ⟨rfl, hP, hK, hN⟩ := hv
  have hx := B.exec
  have hb := B.bytes
  have hr := B.returns
  have hts := atoms_spec (ws := wsX6_open) B.pre
  have hown : s.vm.findClass RX6 = some m.cls := findClass_of_methodNamed B.named
  have hlocks := B.notSynchronized
  have ho := hok.1
  have hk2 := hok.k
  have hp2 : 1 ≤ 2 ^ sF σ := Nat.two_pow_pos _
  have hl := lv_entry ([.ref ym, .int i]) (n := 4) (Nat.le_of_ble_eq_true rfl)
  rw [lg_entry_eq]
  generalize (lg_sl ([.ref ym, .int i]) ++ List.replicate (4 - (lg_sl ([.ref ym, .int i])).length) Slot.unset).toArray = ls at hl ⊢
  have hl : lv_has ls 4 [(0, .ref ym), (1, .int i)] := hl
  refine lv_iconst (v := nI 0) hx hb dX6_open_0 (by decide) ?_
  refine lv_istore_n (lv' := [(2, .int (nI 0)), (0, .ref ym), (1, .int i)]) hx hb dX6_open_1 rfl hl (by decide) rfl (fun ls hl => ?_)
  refine lv_iconst (v := nI 0) hx hb dX6_open_2 (by decide) ?_
  refine lv_istore_n (lv' := [(3, .int (nI 0)), (2, .int (nI 0)), (0, .ref ym), (1, .int i)]) hx hb dX6_open_3 rfl hl (by decide) rfl (fun ls hl => ?_)
  refine wloop (α := Nat) (fun v => 2 ^ sF σ - v) (fun v => [(0, .ref ym), (1, .int i), (2, .int (nI (cnt (opq σ) v))), (3, .int (nI v))]) (fun v => (v ≤ 2 ^ sF σ) ∧ (∀ j, j < v → opf σ i j = false)) 4 (fun v hv ih4 ls hl => ?_) 0 ⟨(show 0 ≤ 2 ^ sF σ from Nat.zero_le _), (show ∀ j, j < 0 → opf σ i j = false from fun j hj => absurd hj (Nat.not_lt_zero _))⟩ ls (lv_sub hl [2, 3, 1, 0] rfl)
  obtain ⟨k, rfl⟩ : ∃ z : Nat, z = v := ⟨_, rfl⟩
  obtain ⟨hk, hn⟩ := hv
  have hk : k ≤ 2 ^ sF σ := hk
  have hn : ∀ j, j < k → opf σ i j = false := hn
  have hl : lv_has ls 4 [(0, .ref ym), (1, .int i), (2, .int (nI (cnt (opq σ) k))), (3, .int (nI k))] := hl
  refine lv_iload_n hx hb dX6_open_4 rfl (lv_at hl 3 rfl) ?_
  refine lv_aload_n hx hb dX6_open_5 rfl (lv_at hl 0 rfl) ?_
  refine xpV (rest := [.int (nI k)]) ⟨hx, hb, hml, hown, hts⟩ (c_X6_allFacts l D cI cZ ym ymB ymU ymV ymR ymI ymE ymS ymT ymD ymQ ymP ymN ymO ymY ymZ ymX σ hok) (cwV 0 hts gX6_open_X6_allFacts rfl rfl rfl (by decide +kernel) ⟨Nat.le_of_ble_eq_true rfl, Nat.le_of_ble_eq_true rfl⟩) hP [0] rfl hK hN (ci := 6) (q0 := 0) rfl rfl rfl hl.1 rfl (Nat.le_of_ble_eq_true rfl) dX6_open_6 ⟨Nat.zero_le _, Nat.zero_le _⟩ (fun r6 e6 => ?_)
  subst e6
  refine lv_icmp_gt (tgt := 44) hx hb dX6_open_9 (by decide) (fun c9 => ?_) (fun c9 => ?_)
  · skip
    have c9 := (nI_ltI (by omega) (by omega)).mp c9
    refine lv_iload_n hx hb dX6_open_44 rfl (lv_at hl 1 rfl) ?_
    refine lv_iconst (v := (-1)) hx hb dX6_open_45 (by decide) ?_
    refine lv_icmp_ne (tgt := 53) hx hb dX6_open_46 (by decide) (fun c46 => ?_) (fun c46 => ?_)
    · skip
      refine lv_bipush (v := (-6)) hx hb dX6_open_53 (by decide) ?_
      exact W.iret (v := (-6)) hx hb hr (fun t ht hW => ⟨_, rfl, by rw [oOpen, fst_no (fun j hj => hn j (by omega)), if_neg (Nat.lt_irrefl _), if_neg c46], ht⟩) (fun _ h => absurd h List.not_mem_nil) dX6_open_55
    · skip
      refine lv_iload_n hx hb dX6_open_49 rfl (lv_at hl 2 rfl) ?_
      refine lv_goto (tgt := 55) hx hb dX6_open_50 (by decide) ?_
      exact W.iret (v := nI (cnt (opq σ) k)) hx hb hr (fun t ht hW => ⟨_, rfl, by rw [oOpen, fst_no (fun j hj => hn j (by omega)), if_neg (Nat.lt_irrefl _), if_pos c46, show k = 2 ^ sF σ by omega], ht⟩) (fun _ h => absurd h List.not_mem_nil) dX6_open_55
  · skip
    have c9 := Nat.le_of_not_lt (mt (nI_ltI (by omega) (by omega)).mpr c9)
    have c9 : k < 2 ^ sF σ := by omega
    refine lv_aload_n hx hb dX6_open_12 rfl (lv_at hl 0 rfl) ?_
    refine lv_iload_n hx hb dX6_open_13 rfl (lv_at hl 3 rfl) ?_
    refine xpV (rest := []) ⟨hx, hb, hml, hown, hts⟩ (c_X6_isKind l D cI cZ ym ymB ymU ymV ymR ymI ymE ymS ymT ymD ymQ ymP ymN ymO ymY ymZ ymX σ (nI k) hok) (cwV 1 hts gX6_open_X6_isKind rfl rfl rfl (by decide +kernel) ⟨Nat.le_of_ble_eq_true rfl, Nat.le_of_ble_eq_true rfl⟩) hP [0, 1] rfl hK hN (ci := 6) (q0 := 0) rfl rfl rfl hl.1 rfl (Nat.le_of_ble_eq_true rfl) dX6_open_14 ⟨Nat.zero_le _, Nat.zero_le _⟩ (fun r14 e14 => ?_)
    subst e14
    refine lv_asi (show b2 (kin σ (nI k)) = b2 (kok σ k) from congrArg b2 (kin_nI c9 (by omega))) ?_
    refine lv_if_eq (tgt := 38) hx hb dX6_open_17 (by decide) (fun c17 => ?_) (fun c17 => ?_)
    · skip
      have c17 := b2_0 c17
      have hl : lv_has ls 4 [(0, .ref ym), (1, .int i), (2, .int (nI (cnt (opq σ) (k + 1)))), (3, .int (nI k))] := by rw [← (show nI (cnt (opq σ) k) = nI (cnt (opq σ) (k + 1)) from congrArg nI (cnt_n (by simp [opq, c17])))]; exact hl
      refine lv_iinc (k := 3) (x := nI k) (v := nI (k + 1)) (lv' := [(3, .int (nI (k + 1))), (0, .ref ym), (1, .int i), (2, .int (nI (cnt (opq σ) (k + 1))))]) hx hb dX6_open_38 hl rfl (show (nI k) + Int32.ofInt 1 = nI (k + 1) from nI_1 _) (by decide) rfl (fun ls hl => ?_)
      refine lv_goto (tgt := 4) hx hb dX6_open_41 (by decide) ?_
      exact ih4 (k + 1) ⟨(show (k + 1) ≤ 2 ^ sF σ from (by omega)), (show ∀ j, j < (k + 1) → opf σ i j = false from lt_s hn (by simp [opf, opq, c17]))⟩ (by show 2 ^ sF σ - (k + 1) < 2 ^ sF σ - k; omega) ls (lv_sub hl [1, 2, 3, 0] rfl)
    · skip
      have c17 := b2_1 c17
      refine lv_aload_n hx hb dX6_open_20 rfl (lv_at hl 0 rfl) ?_
      refine lv_iload_n hx hb dX6_open_21 rfl (lv_at hl 3 rfl) ?_
      refine xpV (rest := []) ⟨hx, hb, hml, hown, hts⟩ (c_X6_lineFor l D cI cZ ym ymB ymU ymV ymR ymI ymE ymS ymT ymD ymQ ymP ymN ymO ymY ymZ ymX σ ir (sR σ) k hok hir) (cwV 1 hts gX6_open_X6_lineFor rfl rfl rfl (by decide +kernel) ⟨Nat.le_of_ble_eq_true rfl, Nat.le_of_ble_eq_true rfl⟩) hP [0, 2, 3, 4, 5] rfl hK hN (ci := 6) (q0 := 0) rfl rfl rfl hl.1 rfl (Nat.le_of_ble_eq_true rfl) dX6_open_22 ⟨Nat.zero_le _, Nat.zero_le _⟩ (fun r22 e22 => ?_)
      subst e22
      refine lv_if_ge (tgt := 38) hx hb dX6_open_25 (by decide) (fun c25 => ?_) (fun c25 => ?_)
      · skip
        have c25 : covB σ (sR σ) k = true := decide_eq_true ((lawI_ge (by omega)).mp c25)
        have hl : lv_has ls 4 [(0, .ref ym), (1, .int i), (2, .int (nI (cnt (opq σ) (k + 1)))), (3, .int (nI k))] := by rw [← (show nI (cnt (opq σ) k) = nI (cnt (opq σ) (k + 1)) from congrArg nI (cnt_n (by simp [opq, c25])))]; exact hl
        refine lv_iinc (k := 3) (x := nI k) (v := nI (k + 1)) (lv' := [(3, .int (nI (k + 1))), (0, .ref ym), (1, .int i), (2, .int (nI (cnt (opq σ) (k + 1))))]) hx hb dX6_open_38 hl rfl (show (nI k) + Int32.ofInt 1 = nI (k + 1) from nI_1 _) (by decide) rfl (fun ls hl => ?_)
        refine lv_goto (tgt := 4) hx hb dX6_open_41 (by decide) ?_
        exact ih4 (k + 1) ⟨(show (k + 1) ≤ 2 ^ sF σ from (by omega)), (show ∀ j, j < (k + 1) → opf σ i j = false from lt_s hn (by simp [opf, opq, c17, c25]))⟩ (by show 2 ^ sF σ - (k + 1) < 2 ^ sF σ - k; omega) ls (lv_sub hl [1, 2, 3, 0] rfl)
      · skip
        have c25 : covB σ (sR σ) k = false := decide_eq_false (mt (lawI_ge (by omega)).mpr c25)
        refine lv_iload_n hx hb dX6_open_28 rfl (lv_at hl 2 rfl) ?_
        refine lv_iload_n hx hb dX6_open_29 rfl (lv_at hl 1 rfl) ?_
        refine lv_icmp_ne (tgt := 35) hx hb dX6_open_30 (by decide) (fun c30 => ?_) (fun c30 => ?_)
        · skip
          refine lv_iinc (k := 2) (x := nI (cnt (opq σ) k)) (v := nI (cnt (opq σ) (k + 1))) (lv' := [(2, .int (nI (cnt (opq σ) (k + 1)))), (0, .ref ym), (1, .int i), (3, .int (nI k))]) hx hb dX6_open_35 hl rfl (show (nI (cnt (opq σ) k)) + Int32.ofInt 1 = nI (cnt (opq σ) (k + 1)) from cnt_y (by simp [opq, c17, c25])) (by decide) rfl (fun ls hl => ?_)
          refine lv_iinc (k := 3) (x := nI k) (v := nI (k + 1)) (lv' := [(3, .int (nI (k + 1))), (2, .int (nI (cnt (opq σ) (k + 1)))), (0, .ref ym), (1, .int i)]) hx hb dX6_open_38 hl rfl (show (nI k) + Int32.ofInt 1 = nI (k + 1) from nI_1 _) (by decide) rfl (fun ls hl => ?_)
          refine lv_goto (tgt := 4) hx hb dX6_open_41 (by decide) ?_
          exact ih4 (k + 1) ⟨(show (k + 1) ≤ 2 ^ sF σ from (by omega)), (show ∀ j, j < (k + 1) → opf σ i j = false from lt_s hn (by simp [opf, opq, c17, c25, c30]))⟩ (by show 2 ^ sF σ - (k + 1) < 2 ^ sF σ - k; omega) ls (lv_sub hl [2, 3, 1, 0] rfl)
        · skip
          refine lv_iload_n hx hb dX6_open_33 rfl (lv_at hl 3 rfl) ?_
          exact W.iret (v := nI k) hx hb hr (fun t ht hW => ⟨_, rfl, by rw [oOpen, fst_at (i := k) (by simp [opf, opq, c17, c25, c30]) hn c9, if_pos c9], ht⟩) (fun _ h => absurd h List.not_mem_nil) dX6_open_34

set_option maxHeartbeats 4000000 in
set_option maxRecDepth 100000 in
theorem c_X6_so (l : Launch) (D : va_G) (cI cZ : ClassId) (ym : Nat) (ymB : Nat) (ymU : Nat) (ymV : Nat) (ymR : Nat) (ymI : Nat) (ymE : Nat) (ymS : Nat) (ymT : Nat) (ymD : Nat) (ymQ : Nat) (ymP : Nat) (ymN : Nat) (ymO : Nat) (ymY : Nat) (ymZ : Nat) (ymX : Nat) (σ : ST) (k : Nat) (hk : k < 30) : Met l yX6_so wsX6_so ({ frames := 0, cells := 0, slots := 0, locals := 0 }) (va_Pc [.ref ym, .int (nI k)] (XP D cI cZ [(ym, .inr (6, [.int (nI (sF σ)), .ref ymB, .int (nI (sN σ)), .ref ymU, .ref ymV, .ref ymR, .ref ymI, .ref ymE, .int (nI (sM σ)), .ref ymS, .ref ymT, .ref ymD, .int (nI (sC σ)), .ref ymQ, .ref ymP, .ref ymN, .int (nI (sG σ)), .ref ymO, .ref ymY, .ref ymZ, .ref ymX])), (ymS, .inl (cI, 90, .inl (rTs σ))), (ymT, .inl (cI, 90, .inl (rTn σ)))])) (vp_Si (fun r => r = soI σ k)) 0 0 (fun _ => False) := by
  refine Met.ofW (cc := cX6_so) (maxL := 4) (ret := (some .int)) (by decide) rfl ?_
  intro p e s m args below meth c s₁ B hml hv
  obtain ⟨rfl, hP, hK, hN⟩ := hv
  have hx := B.exec
  have hb := B.bytes
  have hr := B.returns
  have hts := atoms_spec (ws := wsX6_so) B.pre
  have hown : s.vm.findClass RX6 = some m.cls := findClass_of_methodNamed B.named
  have hlocks := B.notSynchronized
  have hf33 := hts (.fieldLink RX6 33 "BallCourtModel" "toldSo" "[I") (List.mem_of_getElem? (i := 1) (by decide +kernel))
  have hiX6 : ∀ w ∈ wsX60, w ∈ wsX6_so := fun w h => List.mem_cons_of_mem _ (List.mem_append_right _ h)
  have hf36 := hts (.fieldLink RX6 36 "BallCourtModel" "toldNot" "[I") (List.mem_of_getElem? (i := 2) (by decide +kernel))
  have hl := lv_entry ([.ref ym, .int (nI k)]) (n := 4) (Nat.le_of_ble_eq_true rfl)
  rw [lg_entry_eq]
  generalize (lg_sl ([.ref ym, .int (nI k)]) ++ List.replicate (4 - (lg_sl ([.ref ym, .int (nI k)])).length) Slot.unset).toArray = ls at hl ⊢
  have hl : lv_has ls 4 [(0, .ref ym), (1, .int (nI k))] := hl
  refine lv_aload_n hx hb dX6_so_0 rfl (lv_at hl 0 rfl) ?_
  refine va_get (D := D) (ci := 6) (v := .ref ymS) (C := RX6) (T := TX6) (N := 21) hx hb hts hiX6 hown hK hP 0 rfl rfl 9 (by decide) hf33 (fun _ h9 => h9) rfl dX6_so_1 ?_
  refine lv_iconst (v := nI 3) hx hb dX6_so_4 (by decide) ?_
  refine lv_iload_n hx hb dX6_so_5 rfl (lv_at hl 1 rfl) ?_
  refine lv_imul hx hb dX6_so_6 ?_
  refine lv_asi (show (nI 3) * (nI k) = nI (3 * k) from pk_mul _ _) ?_
  refine xald (k := (3 * k)) hx hb hK hP 1 rfl (by omega) (by decide) dX6_so_7 ?_
  refine lv_aload_n hx hb dX6_so_8 rfl (lv_at hl 0 rfl) ?_
  refine va_get (D := D) (ci := 6) (v := .ref ymS) (C := RX6) (T := TX6) (N := 21) hx hb hts hiX6 hown hK hP 0 rfl rfl 9 (by decide) hf33 (fun _ h9 => h9) rfl dX6_so_9 ?_
  refine lv_iconst (v := nI 3) hx hb dX6_so_12 (by decide) ?_
  refine lv_iload_n hx hb dX6_so_13 rfl (lv_at hl 1 rfl) ?_
  refine lv_imul hx hb dX6_so_14 ?_
  refine lv_asi (show (nI 3) * (nI k) = nI (3 * k) from pk_mul _ _) ?_
  refine lv_iconst (v := nI 1) hx hb dX6_so_15 (by decide) ?_
  refine lv_iadd hx hb dX6_so_16 ?_
  refine lv_asi (show (nI (3 * k)) + (nI 1) = nI ((3 * k) + 1) from nI_add _ _) ?_
  refine xald (k := ((3 * k) + 1)) hx hb hK hP 1 rfl (by omega) (by decide) dX6_so_17 ?_
  refine lv_ior hx hb dX6_so_18 ?_
  refine lv_aload_n hx hb dX6_so_19 rfl (lv_at hl 0 rfl) ?_
  refine va_get (D := D) (ci := 6) (v := .ref ymS) (C := RX6) (T := TX6) (N := 21) hx hb hts hiX6 hown hK hP 0 rfl rfl 9 (by decide) hf33 (fun _ h9 => h9) rfl dX6_so_20 ?_
  refine lv_iconst (v := nI 3) hx hb dX6_so_23 (by decide) ?_
  refine lv_iload_n hx hb dX6_so_24 rfl (lv_at hl 1 rfl) ?_
  refine lv_imul hx hb dX6_so_25 ?_
  refine lv_asi (show (nI 3) * (nI k) = nI (3 * k) from pk_mul _ _) ?_
  refine lv_iconst (v := nI 2) hx hb dX6_so_26 (by decide) ?_
  refine lv_iadd hx hb dX6_so_27 ?_
  refine lv_asi (show (nI (3 * k)) + (nI 2) = nI ((3 * k) + 2) from nI_add _ _) ?_
  refine xald (k := ((3 * k) + 2)) hx hb hK hP 1 rfl (by omega) (by decide) dX6_so_28 ?_
  refine lv_ior hx hb dX6_so_29 ?_
  refine lv_istore_n (lv' := [(2, .int (((rTs σ (3 * k)) ||| (rTs σ ((3 * k) + 1))) ||| (rTs σ ((3 * k) + 2)))), (0, .ref ym), (1, .int (nI k))]) hx hb dX6_so_30 rfl hl (by decide) rfl (fun ls hl => ?_)
  refine lv_aload_n hx hb dX6_so_31 rfl (lv_at hl 1 rfl) ?_
  refine va_get (D := D) (ci := 6) (v := .ref ymT) (C := RX6) (T := TX6) (N := 21) hx hb hts hiX6 hown hK hP 0 rfl rfl 10 (by decide) hf36 (fun _ h9 => h9) rfl dX6_so_32 ?_
  refine lv_iconst (v := nI 3) hx hb dX6_so_35 (by decide) ?_
  refine lv_iload_n hx hb dX6_so_36 rfl (lv_at hl 2 rfl) ?_
  refine lv_imul hx hb dX6_so_37 ?_
  refine lv_asi (show (nI 3) * (nI k) = nI (3 * k) from pk_mul _ _) ?_
  refine xald (k := (3 * k)) hx hb hK hP 2 rfl (by omega) (by decide) dX6_so_38 ?_
  refine lv_aload_n hx hb dX6_so_39 rfl (lv_at hl 1 rfl) ?_
  refine va_get (D := D) (ci := 6) (v := .ref ymT) (C := RX6) (T := TX6) (N := 21) hx hb hts hiX6 hown hK hP 0 rfl rfl 10 (by decide) hf36 (fun _ h9 => h9) rfl dX6_so_40 ?_
  refine lv_iconst (v := nI 3) hx hb dX6_so_43 (by decide) ?_
  refine lv_iload_n hx hb dX6_so_44 rfl (lv_at hl 2 rfl) ?_
  refine lv_imul hx hb dX6_so_45 ?_
  refine lv_asi (show (nI 3) * (nI k) = nI (3 * k) from pk_mul _ _) ?_
  refine lv_iconst (v := nI 1) hx hb dX6_so_46 (by decide) ?_
  refine lv_iadd hx hb dX6_so_47 ?_
  refine lv_asi (show (nI (3 * k)) + (nI 1) = nI ((3 * k) + 1) from nI_add _ _) ?_
  refine xald (k := ((3 * k) + 1)) hx hb hK hP 2 rfl (by omega) (by decide) dX6_so_48 ?_
  refine lv_ior hx hb dX6_so_49 ?_
  refine lv_aload_n hx hb dX6_so_50 rfl (lv_at hl 1 rfl) ?_
  refine va_get (D := D) (ci := 6) (v := .ref ymT) (C := RX6) (T := TX6) (N := 21) hx hb hts hiX6 hown hK hP 0 rfl rfl 10 (by decide) hf36 (fun _ h9 => h9) rfl dX6_so_51 ?_
  refine lv_iconst (v := nI 3) hx hb dX6_so_54 (by decide) ?_
  refine lv_iload_n hx hb dX6_so_55 rfl (lv_at hl 2 rfl) ?_
  refine lv_imul hx hb dX6_so_56 ?_
  refine lv_asi (show (nI 3) * (nI k) = nI (3 * k) from pk_mul _ _) ?_
  refine lv_iconst (v := nI 2) hx hb dX6_so_57 (by decide) ?_
  refine lv_iadd hx hb dX6_so_58 ?_
  refine lv_asi (show (nI (3 * k)) + (nI 2) = nI ((3 * k) + 2) from nI_add _ _) ?_
  refine xald (k := ((3 * k) + 2)) hx hb hK hP 2 rfl (by omega) (by decide) dX6_so_59 ?_
  refine lv_ior hx hb dX6_so_60 ?_
  refine lv_istore_n (lv' := [(3, .int (((rTn σ (3 * k)) ||| (rTn σ ((3 * k) + 1))) ||| (rTn σ ((3 * k) + 2)))), (2, .int (((rTs σ (3 * k)) ||| (rTs σ ((3 * k) + 1))) ||| (rTs σ ((3 * k) + 2)))), (0, .ref ym), (1, .int (nI k))]) hx hb dX6_so_61 rfl hl (by decide) rfl (fun ls hl => ?_)
  refine lv_iload_n hx hb dX6_so_62 rfl (lv_at hl 1 rfl) ?_
  refine lv_iload_n hx hb dX6_so_63 rfl (lv_at hl 0 rfl) ?_
  refine lv_iconst (v := (-1)) hx hb dX6_so_64 (by decide) ?_
  refine lv_ixor hx hb dX6_so_65 ?_
  refine lv_iand hx hb dX6_so_66 ?_
  exact W.iret (v := (((rTs σ (3 * k)) ||| (rTs σ ((3 * k) + 1))) ||| (rTs σ ((3 * k) + 2))) &&& ((((rTn σ (3 * k)) ||| (rTn σ ((3 * k) + 1))) ||| (rTn σ ((3 * k) + 2))) ^^^ (-1))) hx hb hr (fun t ht hW => ⟨_, rfl, rfl, ht⟩) (fun _ h => absurd h List.not_mem_nil) dX6_so_67

set_option maxHeartbeats 4000000 in
set_option maxRecDepth 100000 in
theorem c_X6_notSo (l : Launch) (D : va_G) (cI cZ : ClassId) (ym : Nat) (ymB : Nat) (ymU : Nat) (ymV : Nat) (ymR : Nat) (ymI : Nat) (ymE : Nat) (ymS : Nat) (ymT : Nat) (ymD : Nat) (ymQ : Nat) (ymP : Nat) (ymN : Nat) (ymO : Nat) (ymY : Nat) (ymZ : Nat) (ymX : Nat) (σ : ST) (k : Nat) (hk : k < 30) : Met l yX6_notSo wsX6_notSo ({ frames := 0, cells := 0, slots := 0, locals := 0 }) (va_Pc [.ref ym, .int (nI k)] (XP D cI cZ [(ym, .inr (6, [.int (nI (sF σ)), .ref ymB, .int (nI (sN σ)), .ref ymU, .ref ymV, .ref ymR, .ref ymI, .ref ymE, .int (nI (sM σ)), .ref ymS, .ref ymT, .ref ymD, .int (nI (sC σ)), .ref ymQ, .ref ymP, .ref ymN, .int (nI (sG σ)), .ref ymO, .ref ymY, .ref ymZ, .ref ymX])), (ymS, .inl (cI, 90, .inl (rTs σ))), (ymT, .inl (cI, 90, .inl (rTn σ)))])) (vp_Si (fun r => r = nsI σ k)) 0 0 (fun _ => False) := by
  refine Met.ofW (cc := cX6_notSo) (maxL := 4) (ret := (some .int)) (by decide) rfl ?_
  intro p e s m args below meth c s₁ B hml hv
  obtain ⟨rfl, hP, hK, hN⟩ := hv
  have hx := B.exec
  have hb := B.bytes
  have hr := B.returns
  have hts := atoms_spec (ws := wsX6_notSo) B.pre
  have hown : s.vm.findClass RX6 = some m.cls := findClass_of_methodNamed B.named
  have hlocks := B.notSynchronized
  have hf33 := hts (.fieldLink RX6 33 "BallCourtModel" "toldSo" "[I") (List.mem_of_getElem? (i := 1) (by decide +kernel))
  have hiX6 : ∀ w ∈ wsX60, w ∈ wsX6_notSo := fun w h => List.mem_cons_of_mem _ (List.mem_append_right _ h)
  have hf36 := hts (.fieldLink RX6 36 "BallCourtModel" "toldNot" "[I") (List.mem_of_getElem? (i := 2) (by decide +kernel))
  have hl := lv_entry ([.ref ym, .int (nI k)]) (n := 4) (Nat.le_of_ble_eq_true rfl)
  rw [lg_entry_eq]
  generalize (lg_sl ([.ref ym, .int (nI k)]) ++ List.replicate (4 - (lg_sl ([.ref ym, .int (nI k)])).length) Slot.unset).toArray = ls at hl ⊢
  have hl : lv_has ls 4 [(0, .ref ym), (1, .int (nI k))] := hl
  refine lv_aload_n hx hb dX6_notSo_0 rfl (lv_at hl 0 rfl) ?_
  refine va_get (D := D) (ci := 6) (v := .ref ymS) (C := RX6) (T := TX6) (N := 21) hx hb hts hiX6 hown hK hP 0 rfl rfl 9 (by decide) hf33 (fun _ h9 => h9) rfl dX6_notSo_1 ?_
  refine lv_iconst (v := nI 3) hx hb dX6_notSo_4 (by decide) ?_
  refine lv_iload_n hx hb dX6_notSo_5 rfl (lv_at hl 1 rfl) ?_
  refine lv_imul hx hb dX6_notSo_6 ?_
  refine lv_asi (show (nI 3) * (nI k) = nI (3 * k) from pk_mul _ _) ?_
  refine xald (k := (3 * k)) hx hb hK hP 1 rfl (by omega) (by decide) dX6_notSo_7 ?_
  refine lv_aload_n hx hb dX6_notSo_8 rfl (lv_at hl 0 rfl) ?_
  refine va_get (D := D) (ci := 6) (v := .ref ymS) (C := RX6) (T := TX6) (N := 21) hx hb hts hiX6 hown hK hP 0 rfl rfl 9 (by decide) hf33 (fun _ h9 => h9) rfl dX6_notSo_9 ?_
  refine lv_iconst (v := nI 3) hx hb dX6_notSo_12 (by decide) ?_
  refine lv_iload_n hx hb dX6_notSo_13 rfl (lv_at hl 1 rfl) ?_
  refine lv_imul hx hb dX6_notSo_14 ?_
  refine lv_asi (show (nI 3) * (nI k) = nI (3 * k) from pk_mul _ _) ?_
  refine lv_iconst (v := nI 1) hx hb dX6_notSo_15 (by decide) ?_
  refine lv_iadd hx hb dX6_notSo_16 ?_
  refine lv_asi (show (nI (3 * k)) + (nI 1) = nI ((3 * k) + 1) from nI_add _ _) ?_
  refine xald (k := ((3 * k) + 1)) hx hb hK hP 1 rfl (by omega) (by decide) dX6_notSo_17 ?_
  refine lv_ior hx hb dX6_notSo_18 ?_
  refine lv_aload_n hx hb dX6_notSo_19 rfl (lv_at hl 0 rfl) ?_
  refine va_get (D := D) (ci := 6) (v := .ref ymS) (C := RX6) (T := TX6) (N := 21) hx hb hts hiX6 hown hK hP 0 rfl rfl 9 (by decide) hf33 (fun _ h9 => h9) rfl dX6_notSo_20 ?_
  refine lv_iconst (v := nI 3) hx hb dX6_notSo_23 (by decide) ?_
  refine lv_iload_n hx hb dX6_notSo_24 rfl (lv_at hl 1 rfl) ?_
  refine lv_imul hx hb dX6_notSo_25 ?_
  refine lv_asi (show (nI 3) * (nI k) = nI (3 * k) from pk_mul _ _) ?_
  refine lv_iconst (v := nI 2) hx hb dX6_notSo_26 (by decide) ?_
  refine lv_iadd hx hb dX6_notSo_27 ?_
  refine lv_asi (show (nI (3 * k)) + (nI 2) = nI ((3 * k) + 2) from nI_add _ _) ?_
  refine xald (k := ((3 * k) + 2)) hx hb hK hP 1 rfl (by omega) (by decide) dX6_notSo_28 ?_
  refine lv_ior hx hb dX6_notSo_29 ?_
  refine lv_istore_n (lv' := [(2, .int (((rTs σ (3 * k)) ||| (rTs σ ((3 * k) + 1))) ||| (rTs σ ((3 * k) + 2)))), (0, .ref ym), (1, .int (nI k))]) hx hb dX6_notSo_30 rfl hl (by decide) rfl (fun ls hl => ?_)
  refine lv_aload_n hx hb dX6_notSo_31 rfl (lv_at hl 1 rfl) ?_
  refine va_get (D := D) (ci := 6) (v := .ref ymT) (C := RX6) (T := TX6) (N := 21) hx hb hts hiX6 hown hK hP 0 rfl rfl 10 (by decide) hf36 (fun _ h9 => h9) rfl dX6_notSo_32 ?_
  refine lv_iconst (v := nI 3) hx hb dX6_notSo_35 (by decide) ?_
  refine lv_iload_n hx hb dX6_notSo_36 rfl (lv_at hl 2 rfl) ?_
  refine lv_imul hx hb dX6_notSo_37 ?_
  refine lv_asi (show (nI 3) * (nI k) = nI (3 * k) from pk_mul _ _) ?_
  refine xald (k := (3 * k)) hx hb hK hP 2 rfl (by omega) (by decide) dX6_notSo_38 ?_
  refine lv_aload_n hx hb dX6_notSo_39 rfl (lv_at hl 1 rfl) ?_
  refine va_get (D := D) (ci := 6) (v := .ref ymT) (C := RX6) (T := TX6) (N := 21) hx hb hts hiX6 hown hK hP 0 rfl rfl 10 (by decide) hf36 (fun _ h9 => h9) rfl dX6_notSo_40 ?_
  refine lv_iconst (v := nI 3) hx hb dX6_notSo_43 (by decide) ?_
  refine lv_iload_n hx hb dX6_notSo_44 rfl (lv_at hl 2 rfl) ?_
  refine lv_imul hx hb dX6_notSo_45 ?_
  refine lv_asi (show (nI 3) * (nI k) = nI (3 * k) from pk_mul _ _) ?_
  refine lv_iconst (v := nI 1) hx hb dX6_notSo_46 (by decide) ?_
  refine lv_iadd hx hb dX6_notSo_47 ?_
  refine lv_asi (show (nI (3 * k)) + (nI 1) = nI ((3 * k) + 1) from nI_add _ _) ?_
  refine xald (k := ((3 * k) + 1)) hx hb hK hP 2 rfl (by omega) (by decide) dX6_notSo_48 ?_
  refine lv_ior hx hb dX6_notSo_49 ?_
  refine lv_aload_n hx hb dX6_notSo_50 rfl (lv_at hl 1 rfl) ?_
  refine va_get (D := D) (ci := 6) (v := .ref ymT) (C := RX6) (T := TX6) (N := 21) hx hb hts hiX6 hown hK hP 0 rfl rfl 10 (by decide) hf36 (fun _ h9 => h9) rfl dX6_notSo_51 ?_
  refine lv_iconst (v := nI 3) hx hb dX6_notSo_54 (by decide) ?_
  refine lv_iload_n hx hb dX6_notSo_55 rfl (lv_at hl 2 rfl) ?_
  refine lv_imul hx hb dX6_notSo_56 ?_
  refine lv_asi (show (nI 3) * (nI k) = nI (3 * k) from pk_mul _ _) ?_
  refine lv_iconst (v := nI 2) hx hb dX6_notSo_57 (by decide) ?_
  refine lv_iadd hx hb dX6_notSo_58 ?_
  refine lv_asi (show (nI (3 * k)) + (nI 2) = nI ((3 * k) + 2) from nI_add _ _) ?_
  refine xald (k := ((3 * k) + 2)) hx hb hK hP 2 rfl (by omega) (by decide) dX6_notSo_59 ?_
  refine lv_ior hx hb dX6_notSo_60 ?_
  refine lv_istore_n (lv' := [(3, .int (((rTn σ (3 * k)) ||| (rTn σ ((3 * k) + 1))) ||| (rTn σ ((3 * k) + 2)))), (2, .int (((rTs σ (3 * k)) ||| (rTs σ ((3 * k) + 1))) ||| (rTs σ ((3 * k) + 2)))), (0, .ref ym), (1, .int (nI k))]) hx hb dX6_notSo_61 rfl hl (by decide) rfl (fun ls hl => ?_)
  refine lv_iload_n hx hb dX6_notSo_62 rfl (lv_at hl 0 rfl) ?_
  refine lv_iload_n hx hb dX6_notSo_63 rfl (lv_at hl 1 rfl) ?_
  refine lv_iconst (v := (-1)) hx hb dX6_notSo_64 (by decide) ?_
  refine lv_ixor hx hb dX6_notSo_65 ?_
  refine lv_iand hx hb dX6_notSo_66 ?_
  exact W.iret (v := (((rTn σ (3 * k)) ||| (rTn σ ((3 * k) + 1))) ||| (rTn σ ((3 * k) + 2))) &&& ((((rTs σ (3 * k)) ||| (rTs σ ((3 * k) + 1))) ||| (rTs σ ((3 * k) + 2))) ^^^ (-1))) hx hb hr (fun t ht hW => ⟨_, rfl, rfl, ht⟩) (fun _ h => absurd h List.not_mem_nil) dX6_notSo_67

set_option maxHeartbeats 4000000 in
set_option maxRecDepth 100000 in
theorem c_X6_doubt (l : Launch) (D : va_G) (cI cZ : ClassId) (ym : Nat) (ymB : Nat) (ymU : Nat) (ymV : Nat) (ymR : Nat) (ymI : Nat) (ymE : Nat) (ymS : Nat) (ymT : Nat) (ymD : Nat) (ymQ : Nat) (ymP : Nat) (ymN : Nat) (ymO : Nat) (ymY : Nat) (ymZ : Nat) (ymX : Nat) (σ : ST) (k : Nat) (hok : Ok σ) (hk : k < 30) : Met l yX6_doubt wsX6_doubt ({ frames := 1, cells := 0, slots := 0, locals := 23 }) (va_Pc [.ref ym, .int (nI k)] (XP D cI cZ [(ym, .inr (6, [.int (nI (sF σ)), .ref ymB, .int (nI (sN σ)), .ref ymU, .ref ymV, .ref ymR, .ref ymI, .ref ymE, .int (nI (sM σ)), .ref ymS, .ref ymT, .ref ymD, .int (nI (sC σ)), .ref ymQ, .ref ymP, .ref ymN, .int (nI (sG σ)), .ref ymO, .ref ymY, .ref ymZ, .ref ymX])), (ymS, .inl (cI, 90, .inl (rTs σ))), (ymT, .inl (cI, 90, .inl (rTn σ)))])) (vp_Si (fun r => r = dbI σ k)) 0 0 (fun _ => False) := by
  refine Met.ofW (cc := cX6_doubt) (maxL := 2) (ret := (some .int)) (by decide) rfl ?_
  intro p e s m args below meth c s₁ B hml hv
  obtain ⟨rfl, hP, hK, hN⟩ := hv
  have hx := B.exec
  have hb := B.bytes
  have hr := B.returns
  have hts := atoms_spec (ws := wsX6_doubt) B.pre
  have hown : s.vm.findClass RX6 = some m.cls := findClass_of_methodNamed B.named
  have hlocks := B.notSynchronized
  have ho := hok.1
  have hk2 := hok.k
  have hp2 : 1 ≤ 2 ^ sF σ := Nat.two_pow_pos _
  have hl := lv_entry ([.ref ym, .int (nI k)]) (n := 2) (Nat.le_of_ble_eq_true rfl)
  rw [lg_entry_eq]
  generalize (lg_sl ([.ref ym, .int (nI k)]) ++ List.replicate (2 - (lg_sl ([.ref ym, .int (nI k)])).length) Slot.unset).toArray = ls at hl ⊢
  have hl : lv_has ls 2 [(0, .ref ym), (1, .int (nI k))] := hl
  refine lv_aload_n hx hb dX6_doubt_0 rfl (lv_at hl 0 rfl) ?_
  refine xpV (rest := []) ⟨hx, hb, hml, hown, hts⟩ (c_X6_allFacts l D cI cZ ym ymB ymU ymV ymR ymI ymE ymS ymT ymD ymQ ymP ymN ymO ymY ymZ ymX σ hok) (cwV 0 hts gX6_doubt_X6_allFacts rfl rfl rfl (by decide +kernel) ⟨Nat.le_of_ble_eq_true rfl, Nat.le_of_ble_eq_true rfl⟩) hP [0] rfl hK hN (ci := 6) (q0 := 0) rfl rfl rfl hl.1 rfl (Nat.le_of_ble_eq_true rfl) dX6_doubt_1 ⟨Nat.zero_le _, Nat.zero_le _⟩ (fun r1 e1 => ?_)
  subst e1
  refine lv_aload_n hx hb dX6_doubt_4 rfl (lv_at hl 0 rfl) ?_
  refine lv_iload_n hx hb dX6_doubt_5 rfl (lv_at hl 1 rfl) ?_
  refine xpV (rest := [.int (nI (2 ^ sF σ - 1))]) ⟨hx, hb, hml, hown, hts⟩ (c_X6_so l D cI cZ ym ymB ymU ymV ymR ymI ymE ymS ymT ymD ymQ ymP ymN ymO ymY ymZ ymX σ k hk) (cwV 1 hts gX6_doubt_X6_so rfl rfl rfl (by decide +kernel) ⟨Nat.le_of_ble_eq_true rfl, Nat.le_of_ble_eq_true rfl⟩) hP [0, 1, 2] rfl hK hN (ci := 6) (q0 := 0) rfl rfl rfl hl.1 rfl (Nat.le_of_ble_eq_true rfl) dX6_doubt_6 ⟨Nat.zero_le _, Nat.zero_le _⟩ (fun r6 e6 => ?_)
  subst e6
  refine lv_iconst (v := (-1)) hx hb dX6_doubt_9 (by decide) ?_
  refine lv_ixor hx hb dX6_doubt_10 ?_
  refine lv_iand hx hb dX6_doubt_11 ?_
  refine lv_aload_n hx hb dX6_doubt_12 rfl (lv_at hl 0 rfl) ?_
  refine lv_iload_n hx hb dX6_doubt_13 rfl (lv_at hl 1 rfl) ?_
  refine xpV (rest := [.int ((nI (2 ^ sF σ - 1)) &&& ((soI σ k) ^^^ (-1)))]) ⟨hx, hb, hml, hown, hts⟩ (c_X6_notSo l D cI cZ ym ymB ymU ymV ymR ymI ymE ymS ymT ymD ymQ ymP ymN ymO ymY ymZ ymX σ k hk) (cwV 1 hts gX6_doubt_X6_notSo rfl rfl rfl (by decide +kernel) ⟨Nat.le_of_ble_eq_true rfl, Nat.le_of_ble_eq_true rfl⟩) hP [0, 1, 2] rfl hK hN (ci := 6) (q0 := 0) rfl rfl rfl hl.1 rfl (Nat.le_of_ble_eq_true rfl) dX6_doubt_14 ⟨Nat.zero_le _, Nat.zero_le _⟩ (fun r14 e14 => ?_)
  subst e14
  refine lv_iconst (v := (-1)) hx hb dX6_doubt_17 (by decide) ?_
  refine lv_ixor hx hb dX6_doubt_18 ?_
  refine lv_iand hx hb dX6_doubt_19 ?_
  exact W.iret (v := ((nI (2 ^ sF σ - 1)) &&& ((soI σ k) ^^^ (-1))) &&& ((nsI σ k) ^^^ (-1))) hx hb hr (fun t ht hW => ⟨_, rfl, rfl, ht⟩) (fun _ h => absurd h List.not_mem_nil) dX6_doubt_20

set_option maxHeartbeats 4000000 in
set_option maxRecDepth 100000 in
theorem c_X6_mayBe (l : Launch) (D : va_G) (cI cZ : ClassId) (ym : Nat) (ymB : Nat) (ymU : Nat) (ymV : Nat) (ymR : Nat) (ymI : Nat) (ymE : Nat) (ymS : Nat) (ymT : Nat) (ymD : Nat) (ymQ : Nat) (ymP : Nat) (ymN : Nat) (ymO : Nat) (ymY : Nat) (ymZ : Nat) (ymX : Nat) (σ : ST) (m0 : Nat) (k : Nat) (hok : Ok σ) (hm : m0 < 30) (hk : k < 2 ^ sF σ) : Met l yX6_mayBe wsX6_mayBe ({ frames := 2, cells := 0, slots := 0, locals := 45 }) (va_Pc [.ref ym, .int (nI m0), .int (nI k)] (XP D cI cZ [(ym, .inr (6, [.int (nI (sF σ)), .ref ymB, .int (nI (sN σ)), .ref ymU, .ref ymV, .ref ymR, .ref ymI, .ref ymE, .int (nI (sM σ)), .ref ymS, .ref ymT, .ref ymD, .int (nI (sC σ)), .ref ymQ, .ref ymP, .ref ymN, .int (nI (sG σ)), .ref ymO, .ref ymY, .ref ymZ, .ref ymX])), (ymB, .inl (cI, 7, .inl (rB σ))), (ymS, .inl (cI, 90, .inl (rTs σ))), (ymT, .inl (cI, 90, .inl (rTn σ)))])) (vp_Si (fun r => r = b2 (mbB σ (soI σ m0) (nsI σ m0) k))) 0 0 (fun _ => False) := by
  refine Met.ofW (cc := cX6_mayBe) (maxL := 3) (ret := (some .boolean)) (by decide) rfl ?_
  intro p e s m args below meth c s₁ B hml hv
  obtain ⟨rfl, hP, hK, hN⟩ := hv
  have hx := B.exec
  have hb := B.bytes
  have hr := B.returns
  have hts := atoms_spec (ws := wsX6_mayBe) B.pre
  have hown : s.vm.findClass RX6 = some m.cls := findClass_of_methodNamed B.named
  have hlocks := B.notSynchronized
  have ho := hok.1
  have hk2 := hok.k
  have hp2 : 1 ≤ 2 ^ sF σ := Nat.two_pow_pos _
  have hl := lv_entry ([.ref ym, .int (nI m0), .int (nI k)]) (n := 3) (Nat.le_of_ble_eq_true rfl)
  rw [lg_entry_eq]
  generalize (lg_sl ([.ref ym, .int (nI m0), .int (nI k)]) ++ List.replicate (3 - (lg_sl ([.ref ym, .int (nI m0), .int (nI k)])).length) Slot.unset).toArray = ls at hl ⊢
  have hl : lv_has ls 3 [(0, .ref ym), (1, .int (nI m0)), (2, .int (nI k))] := hl
  refine lv_aload_n hx hb dX6_mayBe_0 rfl (lv_at hl 0 rfl) ?_
  refine lv_iload_n hx hb dX6_mayBe_1 rfl (lv_at hl 2 rfl) ?_
  refine xpV (rest := []) ⟨hx, hb, hml, hown, hts⟩ (c_X6_isKind l D cI cZ ym ymB ymU ymV ymR ymI ymE ymS ymT ymD ymQ ymP ymN ymO ymY ymZ ymX σ (nI k) hok) (cwV 1 hts gX6_mayBe_X6_isKind rfl rfl rfl (by decide +kernel) ⟨Nat.le_of_ble_eq_true rfl, Nat.le_of_ble_eq_true rfl⟩) hP [0, 1] rfl hK hN (ci := 6) (q0 := 0) rfl rfl rfl hl.1 rfl (Nat.le_of_ble_eq_true rfl) dX6_mayBe_2 ⟨Nat.zero_le _, Nat.zero_le _⟩ (fun r2 e2 => ?_)
  subst e2
  refine lv_asi (show b2 (kin σ (nI k)) = b2 (kok σ k) from congrArg b2 (kin_nI hk (by omega))) ?_
  refine lv_if_eq (tgt := 34) hx hb dX6_mayBe_5 (by decide) (fun c5 => ?_) (fun c5 => ?_)
  · skip
    have c5 := b2_0 c5
    refine lv_iconst (v := 0) hx hb dX6_mayBe_34 (by decide) ?_
    exact W.zret (v := 0) (ty := .boolean) hx hb hr rfl (fun t ht hW => ⟨_, rfl, b2_f (by rw [mbB, c5]; rfl), ht⟩) (fun _ h => absurd h List.not_mem_nil) dX6_mayBe_35
  · skip
    have c5 := b2_1 c5
    refine lv_aload_n hx hb dX6_mayBe_8 rfl (lv_at hl 0 rfl) ?_
    refine lv_iload_n hx hb dX6_mayBe_9 rfl (lv_at hl 1 rfl) ?_
    refine xpV (rest := []) ⟨hx, hb, hml, hown, hts⟩ (c_X6_so l D cI cZ ym ymB ymU ymV ymR ymI ymE ymS ymT ymD ymQ ymP ymN ymO ymY ymZ ymX σ m0 hm) (cwV 1 hts gX6_mayBe_X6_so rfl rfl rfl (by decide +kernel) ⟨Nat.le_of_ble_eq_true rfl, Nat.le_of_ble_eq_true rfl⟩) hP [0, 2, 3] rfl hK hN (ci := 6) (q0 := 0) rfl rfl rfl hl.1 rfl (Nat.le_of_ble_eq_true rfl) dX6_mayBe_10 ⟨Nat.zero_le _, Nat.zero_le _⟩ (fun r10 e10 => ?_)
    subst e10
    refine lv_iload_n hx hb dX6_mayBe_13 rfl (lv_at hl 2 rfl) ?_
    refine lv_iconst (v := (-1)) hx hb dX6_mayBe_14 (by decide) ?_
    refine lv_ixor hx hb dX6_mayBe_15 ?_
    refine lv_iand hx hb dX6_mayBe_16 ?_
    refine lv_if_ne (tgt := 34) hx hb dX6_mayBe_17 (by decide) (fun c17 => ?_) (fun c17 => ?_)
    · skip
      have c17 := mt (an_iff _ _).mpr c17
      refine lv_iconst (v := 0) hx hb dX6_mayBe_34 (by decide) ?_
      exact W.zret (v := 0) (ty := .boolean) hx hb hr rfl (fun t ht hW => ⟨_, rfl, b2_f (by rw [mbB, c5, decide_eq_false c17]; rfl), ht⟩) (fun _ h => absurd h List.not_mem_nil) dX6_mayBe_35
    · skip
      have c17 := (an_iff _ _).mp c17
      refine lv_aload_n hx hb dX6_mayBe_20 rfl (lv_at hl 0 rfl) ?_
      refine lv_iload_n hx hb dX6_mayBe_21 rfl (lv_at hl 1 rfl) ?_
      refine xpV (rest := []) ⟨hx, hb, hml, hown, hts⟩ (c_X6_notSo l D cI cZ ym ymB ymU ymV ymR ymI ymE ymS ymT ymD ymQ ymP ymN ymO ymY ymZ ymX σ m0 hm) (cwV 1 hts gX6_mayBe_X6_notSo rfl rfl rfl (by decide +kernel) ⟨Nat.le_of_ble_eq_true rfl, Nat.le_of_ble_eq_true rfl⟩) hP [0, 2, 3] rfl hK hN (ci := 6) (q0 := 0) rfl rfl rfl hl.1 rfl (Nat.le_of_ble_eq_true rfl) dX6_mayBe_22 ⟨Nat.zero_le _, Nat.zero_le _⟩ (fun r22 e22 => ?_)
      subst e22
      refine lv_iload_n hx hb dX6_mayBe_25 rfl (lv_at hl 2 rfl) ?_
      refine lv_iand hx hb dX6_mayBe_26 ?_
      refine lv_if_ne (tgt := 34) hx hb dX6_mayBe_27 (by decide) (fun c27 => ?_) (fun c27 => ?_)
      · skip
        have c27 : ¬ nI k &&& nsI σ m0 = 0 := mt (fun z => (and_c _ _).trans z) c27
        refine lv_iconst (v := 0) hx hb dX6_mayBe_34 (by decide) ?_
        exact W.zret (v := 0) (ty := .boolean) hx hb hr rfl (fun t ht hW => ⟨_, rfl, b2_f (by rw [mbB, c5, decide_eq_true c17, decide_eq_false c27]; rfl), ht⟩) (fun _ h => absurd h List.not_mem_nil) dX6_mayBe_35
      · skip
        have c27 : nI k &&& nsI σ m0 = 0 := (and_c _ _).trans c27
        refine lv_iconst (v := 1) hx hb dX6_mayBe_30 (by decide) ?_
        refine lv_goto (tgt := 35) hx hb dX6_mayBe_31 (by decide) ?_
        exact W.zret (v := 1) (ty := .boolean) hx hb hr rfl (fun t ht hW => ⟨_, rfl, b2_t (by rw [mbB, c5, decide_eq_true c17, decide_eq_true c27]; rfl), ht⟩) (fun _ h => absurd h List.not_mem_nil) dX6_mayBe_35

set_option maxHeartbeats 4000000 in
set_option maxRecDepth 100000 in
theorem c_X6_mayBes (l : Launch) (D : va_G) (cI cZ : ClassId) (ym : Nat) (ymB : Nat) (ymU : Nat) (ymV : Nat) (ymR : Nat) (ymI : Nat) (ymE : Nat) (ymS : Nat) (ymT : Nat) (ymD : Nat) (ymQ : Nat) (ymP : Nat) (ymN : Nat) (ymO : Nat) (ymY : Nat) (ymZ : Nat) (ymX : Nat) (σ : ST) (ir : Nat → Int32) (rp : Int32) (m0 : Nat) (x : Int32) (hok : Ok σ) (hm : m0 < 30) (hir : ∀ l, l < sN σ → ir l = b2 (bit rp (nI l))) : Met l yX6_mayBes wsX6_mayBes ({ frames := 3, cells := 0, slots := 0, locals := 70 }) (va_Pc [.ref ym, .int (nI m0), .int x] (XP D cI cZ [(ym, .inr (6, [.int (nI (sF σ)), .ref ymB, .int (nI (sN σ)), .ref ymU, .ref ymV, .ref ymR, .ref ymI, .ref ymE, .int (nI (sM σ)), .ref ymS, .ref ymT, .ref ymD, .int (nI (sC σ)), .ref ymQ, .ref ymP, .ref ymN, .int (nI (sG σ)), .ref ymO, .ref ymY, .ref ymZ, .ref ymX])), (ymB, .inl (cI, 7, .inl (rB σ))), (ymS, .inl (cI, 90, .inl (rTs σ))), (ymT, .inl (cI, 90, .inl (rTn σ))), (ymU, .inl (cI, 12, .inl (rMu σ))), (ymV, .inl (cI, 12, .inl (rMn σ))), (ymR, .inl (cI, 12, .inl (rRu σ))), (ymI, .inl (cZ, 12, .inl ir)), (ymE, .inl (cI, 12, .inl (rEr σ)))])) (vp_Si (fun r => r = nI (msN σ rp m0 x))) 0 0 (fun _ => False) := by
  refine Met.ofW (cc := cX6_mayBes) (maxL := 5) (ret := (some .int)) (by decide) rfl ?_
  intro p e s m args below meth c s₁ B hml hv
  obtain ⟨rfl, hP, hK, hN⟩ := hv
  have hx := B.exec
  have hb := B.bytes
  have hr := B.returns
  have hts := atoms_spec (ws := wsX6_mayBes) B.pre
  have hown : s.vm.findClass RX6 = some m.cls := findClass_of_methodNamed B.named
  have hlocks := B.notSynchronized
  have ho := hok.1
  have hk2 := hok.k
  have hp2 : 1 ≤ 2 ^ sF σ := Nat.two_pow_pos _
  have hl := lv_entry ([.ref ym, .int (nI m0), .int x]) (n := 5) (Nat.le_of_ble_eq_true rfl)
  rw [lg_entry_eq]
  generalize (lg_sl ([.ref ym, .int (nI m0), .int x]) ++ List.replicate (5 - (lg_sl ([.ref ym, .int (nI m0), .int x])).length) Slot.unset).toArray = ls at hl ⊢
  have hl : lv_has ls 5 [(0, .ref ym), (1, .int (nI m0)), (2, .int x)] := hl
  refine lv_iconst (v := nI 0) hx hb dX6_mayBes_0 (by decide) ?_
  refine lv_istore_n (lv' := [(3, .int (nI 0)), (0, .ref ym), (1, .int (nI m0)), (2, .int x)]) hx hb dX6_mayBes_1 rfl hl (by decide) rfl (fun ls hl => ?_)
  refine lv_iconst (v := nI 0) hx hb dX6_mayBes_2 (by decide) ?_
  refine lv_istore (lv' := [(4, .int (nI 0)), (3, .int (nI 0)), (0, .ref ym), (1, .int (nI m0)), (2, .int x)]) hx hb dX6_mayBes_3 hl (by decide) rfl (fun ls hl => ?_)
  refine wloop (α := Nat) (fun v => 2 ^ sF σ - v) (fun v => [(0, .ref ym), (1, .int (nI m0)), (2, .int x), (3, .int (nI (cnt (msq σ rp m0 x) v))), (4, .int (nI v))]) (fun v => (v ≤ 2 ^ sF σ)) 5 (fun v hv ih5 ls hl => ?_) 0 (show 0 ≤ 2 ^ sF σ from Nat.zero_le _) ls (lv_sub hl [2, 3, 4, 1, 0] rfl)
  obtain ⟨k, rfl⟩ : ∃ z : Nat, z = v := ⟨_, rfl⟩
  have hk : k ≤ 2 ^ sF σ := hv
  have hl : lv_has ls 5 [(0, .ref ym), (1, .int (nI m0)), (2, .int x), (3, .int (nI (cnt (msq σ rp m0 x) k))), (4, .int (nI k))] := hl
  refine lv_iload hx hb dX6_mayBes_5 (lv_at hl 4 rfl) ?_
  refine lv_aload_n hx hb dX6_mayBes_7 rfl (lv_at hl 0 rfl) ?_
  refine xpV (rest := [.int (nI k)]) ⟨hx, hb, hml, hown, hts⟩ (c_X6_allFacts l D cI cZ ym ymB ymU ymV ymR ymI ymE ymS ymT ymD ymQ ymP ymN ymO ymY ymZ ymX σ hok) (cwV 0 hts gX6_mayBes_X6_allFacts rfl rfl rfl (by decide +kernel) ⟨Nat.le_of_ble_eq_true rfl, Nat.le_of_ble_eq_true rfl⟩) hP [0] rfl hK hN (ci := 6) (q0 := 0) rfl rfl rfl hl.1 rfl (Nat.le_of_ble_eq_true rfl) dX6_mayBes_8 ⟨Nat.zero_le _, Nat.zero_le _⟩ (fun r8 e8 => ?_)
  subst e8
  refine lv_icmp_gt (tgt := 52) hx hb dX6_mayBes_11 (by decide) (fun c11 => ?_) (fun c11 => ?_)
  · skip
    have c11 := (nI_ltI (by omega) (by omega)).mp c11
    refine lv_iload_n hx hb dX6_mayBes_52 rfl (lv_at hl 3 rfl) ?_
    exact W.iret (v := nI (cnt (msq σ rp m0 x) k)) hx hb hr (fun t ht hW => ⟨_, rfl, by rw [show k = 2 ^ sF σ by omega]; rfl, ht⟩) (fun _ h => absurd h List.not_mem_nil) dX6_mayBes_53
  · skip
    have c11 := Nat.le_of_not_lt (mt (nI_ltI (by omega) (by omega)).mpr c11)
    have c11 : k < 2 ^ sF σ := by omega
    refine lv_iload_n hx hb dX6_mayBes_14 rfl (lv_at hl 3 rfl) ?_
    refine lv_aload_n hx hb dX6_mayBes_15 rfl (lv_at hl 0 rfl) ?_
    refine lv_iload_n hx hb dX6_mayBes_16 rfl (lv_at hl 1 rfl) ?_
    refine lv_iload hx hb dX6_mayBes_17 (lv_at hl 4 rfl) ?_
    refine xpV (rest := [.int (nI (cnt (msq σ rp m0 x) k))]) ⟨hx, hb, hml, hown, hts⟩ (c_X6_mayBe l D cI cZ ym ymB ymU ymV ymR ymI ymE ymS ymT ymD ymQ ymP ymN ymO ymY ymZ ymX σ m0 k hok hm c11) (cwV 2 hts gX6_mayBes_X6_mayBe rfl rfl rfl (by decide +kernel) ⟨Nat.le_of_ble_eq_true rfl, Nat.le_of_ble_eq_true rfl⟩) hP [0, 1, 2, 3] rfl hK hN (ci := 6) (q0 := 0) rfl rfl rfl hl.1 rfl (Nat.le_of_ble_eq_true rfl) dX6_mayBes_19 ⟨Nat.zero_le _, Nat.zero_le _⟩ (fun r19 e19 => ?_)
    subst e19
    refine lv_if_eq (tgt := 43) hx hb dX6_mayBes_22 (by decide) (fun c22 => ?_) (fun c22 => ?_)
    · skip
      have c22 := b2_0 c22
      refine lv_iconst (v := 0) hx hb dX6_mayBes_43 (by decide) ?_
      refine lv_iadd hx hb dX6_mayBes_44 ?_
      refine lv_asi (show (nI (cnt (msq σ rp m0 x) k)) + 0 = nI (cnt (msq σ rp m0 x) (k + 1)) from by rw [show (0 : Int32) = nI 0 from rfl, nI_add]; exact congrArg nI (cnt_n (by rw [msq, c22]; rfl))) ?_
      refine lv_istore_n (lv' := [(3, .int (nI (cnt (msq σ rp m0 x) (k + 1)))), (0, .ref ym), (1, .int (nI m0)), (2, .int x), (4, .int (nI k))]) hx hb dX6_mayBes_45 rfl hl (by decide) rfl (fun ls hl => ?_)
      refine lv_iinc (k := 4) (x := nI k) (v := nI (k + 1)) (lv' := [(4, .int (nI (k + 1))), (3, .int (nI (cnt (msq σ rp m0 x) (k + 1)))), (0, .ref ym), (1, .int (nI m0)), (2, .int x)]) hx hb dX6_mayBes_46 hl rfl (show (nI k) + Int32.ofInt 1 = nI (k + 1) from nI_1 _) (by decide) rfl (fun ls hl => ?_)
      refine lv_goto (tgt := 5) hx hb dX6_mayBes_49 (by decide) ?_
      exact ih5 (k + 1) (show (k + 1) ≤ 2 ^ sF σ from (by omega)) (by show 2 ^ sF σ - (k + 1) < 2 ^ sF σ - k; omega) ls (lv_sub hl [2, 3, 4, 1, 0] rfl)
    · skip
      have c22 := b2_1 c22
      refine lv_iload_n hx hb dX6_mayBes_25 rfl (lv_at hl 2 rfl) ?_
      refine lv_if_lt (tgt := 39) hx hb dX6_mayBes_26 (by decide) (fun c26 => ?_) (fun c26 => ?_)
      · skip
        refine lv_iconst (v := 1) hx hb dX6_mayBes_39 (by decide) ?_
        refine lv_goto (tgt := 44) hx hb dX6_mayBes_40 (by decide) ?_
        refine lv_iadd hx hb dX6_mayBes_44 ?_
        refine lv_asi (show (nI (cnt (msq σ rp m0 x) k)) + 1 = nI (cnt (msq σ rp m0 x) (k + 1)) from cnt_y (by rw [msq, c22, decide_eq_true c26]; rfl)) ?_
        refine lv_istore_n (lv' := [(3, .int (nI (cnt (msq σ rp m0 x) (k + 1)))), (0, .ref ym), (1, .int (nI m0)), (2, .int x), (4, .int (nI k))]) hx hb dX6_mayBes_45 rfl hl (by decide) rfl (fun ls hl => ?_)
        refine lv_iinc (k := 4) (x := nI k) (v := nI (k + 1)) (lv' := [(4, .int (nI (k + 1))), (3, .int (nI (cnt (msq σ rp m0 x) (k + 1)))), (0, .ref ym), (1, .int (nI m0)), (2, .int x)]) hx hb dX6_mayBes_46 hl rfl (show (nI k) + Int32.ofInt 1 = nI (k + 1) from nI_1 _) (by decide) rfl (fun ls hl => ?_)
        refine lv_goto (tgt := 5) hx hb dX6_mayBes_49 (by decide) ?_
        exact ih5 (k + 1) (show (k + 1) ≤ 2 ^ sF σ from (by omega)) (by show 2 ^ sF σ - (k + 1) < 2 ^ sF σ - k; omega) ls (lv_sub hl [2, 3, 4, 1, 0] rfl)
      · skip
        refine lv_aload_n hx hb dX6_mayBes_29 rfl (lv_at hl 0 rfl) ?_
        refine lv_iload hx hb dX6_mayBes_30 (lv_at hl 4 rfl) ?_
        refine xpV (rest := [.int (nI (cnt (msq σ rp m0 x) k))]) ⟨hx, hb, hml, hown, hts⟩ (c_X6_rulingFor l D cI cZ ym ymB ymU ymV ymR ymI ymE ymS ymT ymD ymQ ymP ymN ymO ymY ymZ ymX σ ir rp k hok hir) (cwV 1 hts gX6_mayBes_X6_rulingFor rfl rfl rfl (by decide +kernel) ⟨Nat.le_of_ble_eq_true rfl, Nat.le_of_ble_eq_true rfl⟩) hP [0, 4, 5, 6, 7, 8] rfl hK hN (ci := 6) (q0 := 0) rfl rfl rfl hl.1 rfl (Nat.le_of_ble_eq_true rfl) dX6_mayBes_32 ⟨Nat.zero_le _, Nat.zero_le _⟩ (fun r32 e32 => ?_)
        subst e32
        refine lv_iload_n hx hb dX6_mayBes_35 rfl (lv_at hl 2 rfl) ?_
        refine lv_icmp_ne (tgt := 43) hx hb dX6_mayBes_36 (by decide) (fun c36 => ?_) (fun c36 => ?_)
        · skip
          refine lv_iconst (v := 0) hx hb dX6_mayBes_43 (by decide) ?_
          refine lv_iadd hx hb dX6_mayBes_44 ?_
          refine lv_asi (show (nI (cnt (msq σ rp m0 x) k)) + 0 = nI (cnt (msq σ rp m0 x) (k + 1)) from by rw [show (0 : Int32) = nI 0 from rfl, nI_add]; exact congrArg nI (cnt_n (by rw [msq, c22, decide_eq_false c26, decide_eq_false c36]; rfl))) ?_
          refine lv_istore_n (lv' := [(3, .int (nI (cnt (msq σ rp m0 x) (k + 1)))), (0, .ref ym), (1, .int (nI m0)), (2, .int x), (4, .int (nI k))]) hx hb dX6_mayBes_45 rfl hl (by decide) rfl (fun ls hl => ?_)
          refine lv_iinc (k := 4) (x := nI k) (v := nI (k + 1)) (lv' := [(4, .int (nI (k + 1))), (3, .int (nI (cnt (msq σ rp m0 x) (k + 1)))), (0, .ref ym), (1, .int (nI m0)), (2, .int x)]) hx hb dX6_mayBes_46 hl rfl (show (nI k) + Int32.ofInt 1 = nI (k + 1) from nI_1 _) (by decide) rfl (fun ls hl => ?_)
          refine lv_goto (tgt := 5) hx hb dX6_mayBes_49 (by decide) ?_
          exact ih5 (k + 1) (show (k + 1) ≤ 2 ^ sF σ from (by omega)) (by show 2 ^ sF σ - (k + 1) < 2 ^ sF σ - k; omega) ls (lv_sub hl [2, 3, 4, 1, 0] rfl)
        · skip
          refine lv_iconst (v := 1) hx hb dX6_mayBes_39 (by decide) ?_
          refine lv_goto (tgt := 44) hx hb dX6_mayBes_40 (by decide) ?_
          refine lv_iadd hx hb dX6_mayBes_44 ?_
          refine lv_asi (show (nI (cnt (msq σ rp m0 x) k)) + 1 = nI (cnt (msq σ rp m0 x) (k + 1)) from cnt_y (by rw [msq, c22, decide_eq_true c36]; exact Bool.or_true _)) ?_
          refine lv_istore_n (lv' := [(3, .int (nI (cnt (msq σ rp m0 x) (k + 1)))), (0, .ref ym), (1, .int (nI m0)), (2, .int x), (4, .int (nI k))]) hx hb dX6_mayBes_45 rfl hl (by decide) rfl (fun ls hl => ?_)
          refine lv_iinc (k := 4) (x := nI k) (v := nI (k + 1)) (lv' := [(4, .int (nI (k + 1))), (3, .int (nI (cnt (msq σ rp m0 x) (k + 1)))), (0, .ref ym), (1, .int (nI m0)), (2, .int x)]) hx hb dX6_mayBes_46 hl rfl (show (nI k) + Int32.ofInt 1 = nI (k + 1) from nI_1 _) (by decide) rfl (fun ls hl => ?_)
          refine lv_goto (tgt := 5) hx hb dX6_mayBes_49 (by decide) ?_
          exact ih5 (k + 1) (show (k + 1) ≤ 2 ^ sF σ from (by omega)) (by show 2 ^ sF σ - (k + 1) < 2 ^ sF σ - k; omega) ls (lv_sub hl [2, 3, 4, 1, 0] rfl)

set_option maxHeartbeats 4000000 in
set_option maxRecDepth 100000 in
theorem c_X6_known (l : Launch) (D : va_G) (cI cZ : ClassId) (ym : Nat) (ymB : Nat) (ymU : Nat) (ymV : Nat) (ymR : Nat) (ymI : Nat) (ymE : Nat) (ymS : Nat) (ymT : Nat) (ymD : Nat) (ymQ : Nat) (ymP : Nat) (ymN : Nat) (ymO : Nat) (ymY : Nat) (ymZ : Nat) (ymX : Nat) (σ : ST) (ir : Nat → Int32) (x : Int32) (w : Int32) (hok : Ok σ) (hir : ∀ l, l < sN σ → ir l = b2 (bit (sR σ) (nI l))) : Met l yX6_known wsX6_known ({ frames := 4, cells := 0, slots := 0, locals := 94 }) (va_Pc [.ref ym, .int x, .int w] (XP D cI cZ [(ym, .inr (6, [.int (nI (sF σ)), .ref ymB, .int (nI (sN σ)), .ref ymU, .ref ymV, .ref ymR, .ref ymI, .ref ymE, .int (nI (sM σ)), .ref ymS, .ref ymT, .ref ymD, .int (nI (sC σ)), .ref ymQ, .ref ymP, .ref ymN, .int (nI (sG σ)), .ref ymO, .ref ymY, .ref ymZ, .ref ymX])), (ymB, .inl (cI, 7, .inl (rB σ))), (ymS, .inl (cI, 90, .inl (rTs σ))), (ymT, .inl (cI, 90, .inl (rTn σ))), (ymU, .inl (cI, 12, .inl (rMu σ))), (ymV, .inl (cI, 12, .inl (rMn σ))), (ymR, .inl (cI, 12, .inl (rRu σ))), (ymI, .inl (cZ, 12, .inl ir)), (ymE, .inl (cI, 12, .inl (rEr σ)))])) (vp_Si (fun r => r = oKnown σ x w)) 0 0 (fun _ => False) := by
  refine Met.ofW (cc := cX6_known) (maxL := 3) (ret := (some .int)) (by decide) rfl ?_
  intro p e s m args below meth c s₁ B hml hv
  obtain ⟨rfl, hP, hK, hN⟩ := hv
  have hx := B.exec
  have hb := B.bytes
  have hr := B.returns
  have hts := atoms_spec (ws := wsX6_known) B.pre
  have hown : s.vm.findClass RX6 = some m.cls := findClass_of_methodNamed B.named
  have hlocks := B.notSynchronized
  have ho := hok.1
  have hk2 := hok.k
  have hp2 : 1 ≤ 2 ^ sF σ := Nat.two_pow_pos _
  have hl := lv_entry ([.ref ym, .int x, .int w]) (n := 3) (Nat.le_of_ble_eq_true rfl)
  rw [lg_entry_eq]
  generalize (lg_sl ([.ref ym, .int x, .int w]) ++ List.replicate (3 - (lg_sl ([.ref ym, .int x, .int w])).length) Slot.unset).toArray = ls at hl ⊢
  have hl : lv_has ls 3 [(0, .ref ym), (1, .int x), (2, .int w)] := hl
  refine lv_aload_n hx hb dX6_known_0 rfl (lv_at hl 0 rfl) ?_
  refine lv_iload_n hx hb dX6_known_1 rfl (lv_at hl 1 rfl) ?_
  refine xpV (rest := []) ⟨hx, hb, hml, hown, hts⟩ (c_X6_isMoment l D cI cZ ym ymB ymU ymV ymR ymI ymE ymS ymT ymD ymQ ymP ymN ymO ymY ymZ ymX σ x hok) (cwV 1 hts gX6_known_X6_isMoment rfl rfl rfl (by decide +kernel) ⟨Nat.le_of_ble_eq_true rfl, Nat.le_of_ble_eq_true rfl⟩) hP [0] rfl hK hN (ci := 6) (q0 := 0) rfl rfl rfl hl.1 rfl (Nat.le_of_ble_eq_true rfl) dX6_known_2 ⟨Nat.zero_le _, Nat.zero_le _⟩ (fun r2 e2 => ?_)
  subst e2
  refine lv_if_ne (tgt := 10) hx hb dX6_known_5 (by decide) (fun c5 => ?_) (fun c5 => ?_)
  · skip
    have c5 := b2_1 c5
    obtain ⟨q, hq, rfl⟩ := inN_t c5 (by omega)
    have kq := clp hq (show sM σ ≤ 128 by omega)
    refine lv_iload_n hx hb dX6_known_10 rfl (lv_at hl 2 rfl) ?_
    refine lv_if_ne (tgt := 22) hx hb dX6_known_11 (by decide) (fun c11 => ?_) (fun c11 => ?_)
    · skip
      refine lv_iload_n hx hb dX6_known_22 rfl (lv_at hl 2 rfl) ?_
      refine lv_iconst (v := 1) hx hb dX6_known_23 (by decide) ?_
      refine lv_icmp_ne (tgt := 35) hx hb dX6_known_24 (by decide) (fun c24 => ?_) (fun c24 => ?_)
      · skip
        refine lv_iload_n hx hb dX6_known_35 rfl (lv_at hl 2 rfl) ?_
        refine lv_iconst (v := 2) hx hb dX6_known_36 (by decide) ?_
        refine lv_icmp_ne (tgt := 48) hx hb dX6_known_37 (by decide) (fun c37 => ?_) (fun c37 => ?_)
        · skip
          refine lv_iload_n hx hb dX6_known_48 rfl (lv_at hl 2 rfl) ?_
          refine lv_iconst (v := 3) hx hb dX6_known_49 (by decide) ?_
          refine lv_icmp_ne (tgt := 62) hx hb dX6_known_50 (by decide) (fun c50 => ?_) (fun c50 => ?_)
          · skip
            refine lv_bipush (v := (-2)) hx hb dX6_known_62 (by decide) ?_
            exact W.iret (v := (-2)) hx hb hr (fun t ht hW => ⟨_, rfl, by rw [oKnown, if_neg (by rw [c5]; decide), if_neg c11, if_neg c24, if_neg c37, if_neg c50], ht⟩) (fun _ h => absurd h List.not_mem_nil) dX6_known_64
          · skip
            refine lv_aload_n hx hb dX6_known_53 rfl (lv_at hl 0 rfl) ?_
            refine lv_iload_n hx hb dX6_known_54 rfl (lv_at hl 1 rfl) ?_
            refine lv_iconst (v := (-1)) hx hb dX6_known_55 (by decide) ?_
            refine xpV (rest := []) ⟨hx, hb, hml, hown, hts⟩ (c_X6_mayBes l D cI cZ ym ymB ymU ymV ymR ymI ymE ymS ymT ymD ymQ ymP ymN ymO ymY ymZ ymX σ ir (sR σ) q (-1) hok (by omega) hir) (cwV 2 hts gX6_known_X6_mayBes rfl rfl rfl (by decide +kernel) ⟨Nat.le_of_ble_eq_true rfl, Nat.le_of_ble_eq_true rfl⟩) hP [0, 1, 2, 3, 4, 5, 6, 7, 8] rfl hK hN (ci := 6) (q0 := 0) rfl rfl rfl hl.1 rfl (Nat.le_of_ble_eq_true rfl) dX6_known_56 ⟨Nat.zero_le _, Nat.zero_le _⟩ (fun r56 e56 => ?_)
            subst e56
            refine lv_asi (show nI (msN σ (sR σ) q (-1)) = nI (cmb σ (soI σ q) (nsI σ q)) from congrArg nI (ms_m1 σ _ q)) ?_
            refine lv_goto (tgt := 64) hx hb dX6_known_59 (by decide) ?_
            exact W.iret (v := nI (cmb σ (soI σ q) (nsI σ q))) hx hb hr (fun t ht hW => ⟨_, rfl, by rw [oKnown, if_neg (by rw [c5]; decide), if_neg c11, if_neg c24, if_neg c37, if_pos c50, kq], ht⟩) (fun _ h => absurd h List.not_mem_nil) dX6_known_64
        · skip
          refine lv_aload_n hx hb dX6_known_40 rfl (lv_at hl 0 rfl) ?_
          refine lv_iload_n hx hb dX6_known_41 rfl (lv_at hl 1 rfl) ?_
          refine xpV (rest := []) ⟨hx, hb, hml, hown, hts⟩ (c_X6_doubt l D cI cZ ym ymB ymU ymV ymR ymI ymE ymS ymT ymD ymQ ymP ymN ymO ymY ymZ ymX σ q hok (by omega)) (cwV 1 hts gX6_known_X6_doubt rfl rfl rfl (by decide +kernel) ⟨Nat.le_of_ble_eq_true rfl, Nat.le_of_ble_eq_true rfl⟩) hP [0, 2, 3] rfl hK hN (ci := 6) (q0 := 0) rfl rfl rfl hl.1 rfl (Nat.le_of_ble_eq_true rfl) dX6_known_42 ⟨Nat.zero_le _, Nat.zero_le _⟩ (fun r42 e42 => ?_)
          subst e42
          refine lv_goto (tgt := 64) hx hb dX6_known_45 (by decide) ?_
          exact W.iret (v := dbI σ q) hx hb hr (fun t ht hW => ⟨_, rfl, by rw [oKnown, if_neg (by rw [c5]; decide), if_neg c11, if_neg c24, if_pos c37, kq]; exact dbI_eq σ q, ht⟩) (fun _ h => absurd h List.not_mem_nil) dX6_known_64
      · skip
        refine lv_aload_n hx hb dX6_known_27 rfl (lv_at hl 0 rfl) ?_
        refine lv_iload_n hx hb dX6_known_28 rfl (lv_at hl 1 rfl) ?_
        refine xpV (rest := []) ⟨hx, hb, hml, hown, hts⟩ (c_X6_notSo l D cI cZ ym ymB ymU ymV ymR ymI ymE ymS ymT ymD ymQ ymP ymN ymO ymY ymZ ymX σ q (by omega)) (cwV 1 hts gX6_known_X6_notSo rfl rfl rfl (by decide +kernel) ⟨Nat.le_of_ble_eq_true rfl, Nat.le_of_ble_eq_true rfl⟩) hP [0, 2, 3] rfl hK hN (ci := 6) (q0 := 0) rfl rfl rfl hl.1 rfl (Nat.le_of_ble_eq_true rfl) dX6_known_29 ⟨Nat.zero_le _, Nat.zero_le _⟩ (fun r29 e29 => ?_)
        subst e29
        refine lv_goto (tgt := 64) hx hb dX6_known_32 (by decide) ?_
        exact W.iret (v := nsI σ q) hx hb hr (fun t ht hW => ⟨_, rfl, by rw [oKnown, if_neg (by rw [c5]; decide), if_neg c11, if_pos c24, kq], ht⟩) (fun _ h => absurd h List.not_mem_nil) dX6_known_64
    · skip
      refine lv_aload_n hx hb dX6_known_14 rfl (lv_at hl 0 rfl) ?_
      refine lv_iload_n hx hb dX6_known_15 rfl (lv_at hl 1 rfl) ?_
      refine xpV (rest := []) ⟨hx, hb, hml, hown, hts⟩ (c_X6_so l D cI cZ ym ymB ymU ymV ymR ymI ymE ymS ymT ymD ymQ ymP ymN ymO ymY ymZ ymX σ q (by omega)) (cwV 1 hts gX6_known_X6_so rfl rfl rfl (by decide +kernel) ⟨Nat.le_of_ble_eq_true rfl, Nat.le_of_ble_eq_true rfl⟩) hP [0, 2, 3] rfl hK hN (ci := 6) (q0 := 0) rfl rfl rfl hl.1 rfl (Nat.le_of_ble_eq_true rfl) dX6_known_16 ⟨Nat.zero_le _, Nat.zero_le _⟩ (fun r16 e16 => ?_)
      subst e16
      refine lv_goto (tgt := 64) hx hb dX6_known_19 (by decide) ?_
      exact W.iret (v := soI σ q) hx hb hr (fun t ht hW => ⟨_, rfl, by rw [oKnown, if_neg (by rw [c5]; decide), if_pos c11, kq], ht⟩) (fun _ h => absurd h List.not_mem_nil) dX6_known_64
  · skip
    have c5 := b2_0 c5
    refine lv_iconst (v := (-1)) hx hb dX6_known_8 (by decide) ?_
    exact W.iret (v := (-1)) hx hb hr (fun t ht hW => ⟨_, rfl, by simp [oKnown, c5], ht⟩) (fun _ h => absurd h List.not_mem_nil) dX6_known_9

set_option maxHeartbeats 4000000 in
set_option maxRecDepth 100000 in
theorem c_X6_proof (l : Launch) (D : va_G) (cI cZ : ClassId) (ym : Nat) (ymB : Nat) (ymU : Nat) (ymV : Nat) (ymR : Nat) (ymI : Nat) (ymE : Nat) (ymS : Nat) (ymT : Nat) (ymD : Nat) (ymQ : Nat) (ymP : Nat) (ymN : Nat) (ymO : Nat) (ymY : Nat) (ymZ : Nat) (ymX : Nat) (σ : ST) (ir : Nat → Int32) (x : Int32) (y : Int32) (hok : Ok σ) (hir : ∀ l, l < sN σ → ir l = b2 (bit (sR σ) (nI l))) : Met l yX6_proof wsX6_proof ({ frames := 4, cells := 0, slots := 0, locals := 94 }) (va_Pc [.ref ym, .int x, .int y] (XP D cI cZ [(ym, .inr (6, [.int (nI (sF σ)), .ref ymB, .int (nI (sN σ)), .ref ymU, .ref ymV, .ref ymR, .ref ymI, .ref ymE, .int (nI (sM σ)), .ref ymS, .ref ymT, .ref ymD, .int (nI (sC σ)), .ref ymQ, .ref ymP, .ref ymN, .int (nI (sG σ)), .ref ymO, .ref ymY, .ref ymZ, .ref ymX])), (ymB, .inl (cI, 7, .inl (rB σ))), (ymS, .inl (cI, 90, .inl (rTs σ))), (ymT, .inl (cI, 90, .inl (rTn σ))), (ymU, .inl (cI, 12, .inl (rMu σ))), (ymV, .inl (cI, 12, .inl (rMn σ))), (ymR, .inl (cI, 12, .inl (rRu σ))), (ymI, .inl (cZ, 12, .inl ir)), (ymE, .inl (cI, 12, .inl (rEr σ)))])) (vp_Si (fun r => r = oProof σ x y)) 0 0 (fun _ => False) := by
  refine Met.ofW (cc := cX6_proof) (maxL := 4) (ret := (some .int)) (by decide) rfl ?_
  intro p e s m args below meth c s₁ B hml hv
  obtain ⟨rfl, hP, hK, hN⟩ := hv
  have hx := B.exec
  have hb := B.bytes
  have hr := B.returns
  have hts := atoms_spec (ws := wsX6_proof) B.pre
  have hown : s.vm.findClass RX6 = some m.cls := findClass_of_methodNamed B.named
  have hlocks := B.notSynchronized
  have ho := hok.1
  have hk2 := hok.k
  have hp2 : 1 ≤ 2 ^ sF σ := Nat.two_pow_pos _
  have hl := lv_entry ([.ref ym, .int x, .int y]) (n := 4) (Nat.le_of_ble_eq_true rfl)
  rw [lg_entry_eq]
  generalize (lg_sl ([.ref ym, .int x, .int y]) ++ List.replicate (4 - (lg_sl ([.ref ym, .int x, .int y])).length) Slot.unset).toArray = ls at hl ⊢
  have hl : lv_has ls 4 [(0, .ref ym), (1, .int x), (2, .int y)] := hl
  refine lv_aload_n hx hb dX6_proof_0 rfl (lv_at hl 0 rfl) ?_
  refine lv_iload_n hx hb dX6_proof_1 rfl (lv_at hl 1 rfl) ?_
  refine xpV (rest := []) ⟨hx, hb, hml, hown, hts⟩ (c_X6_isMoment l D cI cZ ym ymB ymU ymV ymR ymI ymE ymS ymT ymD ymQ ymP ymN ymO ymY ymZ ymX σ x hok) (cwV 1 hts gX6_proof_X6_isMoment rfl rfl rfl (by decide +kernel) ⟨Nat.le_of_ble_eq_true rfl, Nat.le_of_ble_eq_true rfl⟩) hP [0] rfl hK hN (ci := 6) (q0 := 0) rfl rfl rfl hl.1 rfl (Nat.le_of_ble_eq_true rfl) dX6_proof_2 ⟨Nat.zero_le _, Nat.zero_le _⟩ (fun r2 e2 => ?_)
  subst e2
  refine lv_if_ne (tgt := 10) hx hb dX6_proof_5 (by decide) (fun c5 => ?_) (fun c5 => ?_)
  · skip
    have c5 := b2_1 c5
    obtain ⟨q, hq, rfl⟩ := inN_t c5 (by omega)
    have kq := clp hq (show sM σ ≤ 128 by omega)
    refine lv_iload_n hx hb dX6_proof_10 rfl (lv_at hl 2 rfl) ?_
    refine xpS (rest := []) ⟨hx, hb, hml, hown, hts⟩ (c_X6_isRuling l D cI cZ y) (va_cwS 1 hts gX6_proof_X6_isRuling rfl rfl rfl (by decide +kernel) ⟨Nat.le_of_ble_eq_true rfl, Nat.le_of_ble_eq_true rfl⟩) hP [] rfl hK hN rfl hl.1 rfl (Nat.le_of_ble_eq_true rfl) dX6_proof_11 ⟨Nat.zero_le _, Nat.zero_le _⟩ (fun r11 e11 => ?_)
    subst e11
    refine lv_if_ne (tgt := 20) hx hb dX6_proof_14 (by decide) (fun c14 => ?_) (fun c14 => ?_)
    · skip
      have c14 := b2_1 c14
      refine lv_aload_n hx hb dX6_proof_20 rfl (lv_at hl 0 rfl) ?_
      refine lv_iload_n hx hb dX6_proof_21 rfl (lv_at hl 1 rfl) ?_
      refine lv_iload_n hx hb dX6_proof_22 rfl (lv_at hl 2 rfl) ?_
      refine xpV (rest := []) ⟨hx, hb, hml, hown, hts⟩ (c_X6_mayBes l D cI cZ ym ymB ymU ymV ymR ymI ymE ymS ymT ymD ymQ ymP ymN ymO ymY ymZ ymX σ ir (sR σ) q y hok (by omega) hir) (cwV 2 hts gX6_proof_X6_mayBes rfl rfl rfl (by decide +kernel) ⟨Nat.le_of_ble_eq_true rfl, Nat.le_of_ble_eq_true rfl⟩) hP [0, 1, 2, 3, 4, 5, 6, 7, 8] rfl hK hN (ci := 6) (q0 := 0) rfl rfl rfl hl.1 rfl (Nat.le_of_ble_eq_true rfl) dX6_proof_23 ⟨Nat.zero_le _, Nat.zero_le _⟩ (fun r23 e23 => ?_)
      subst e23
      refine lv_asi (show nI (msN σ (sR σ) q y) = nI (cmr σ (sR σ) (soI σ q) (nsI σ q) y) from congrArg nI (ms_r σ _ q (ok_r0 c14))) ?_
      refine lv_istore_n (lv' := [(3, .int (nI (cmr σ (sR σ) (soI σ q) (nsI σ q) y))), (0, .ref ym), (1, .int (nI q)), (2, .int y)]) hx hb dX6_proof_26 rfl hl (by decide) rfl (fun ls hl => ?_)
      refine lv_iload_n hx hb dX6_proof_27 rfl (lv_at hl 0 rfl) ?_
      refine lv_if_ne (tgt := 35) hx hb dX6_proof_28 (by decide) (fun c28 => ?_) (fun c28 => ?_)
      · skip
        have c28 : ¬ cmr σ (sR σ) (soI σ q) (nsI σ q) y = 0 := mt (fun z => by rw [z]; rfl) c28
        refine lv_iload_n hx hb dX6_proof_35 rfl (lv_at hl 0 rfl) ?_
        refine lv_aload_n hx hb dX6_proof_36 rfl (lv_at hl 1 rfl) ?_
        refine lv_iload_n hx hb dX6_proof_37 rfl (lv_at hl 2 rfl) ?_
        refine lv_iconst (v := (-1)) hx hb dX6_proof_38 (by decide) ?_
        refine xpV (rest := [.int (nI (cmr σ (sR σ) (soI σ q) (nsI σ q) y))]) ⟨hx, hb, hml, hown, hts⟩ (c_X6_mayBes l D cI cZ ym ymB ymU ymV ymR ymI ymE ymS ymT ymD ymQ ymP ymN ymO ymY ymZ ymX σ ir (sR σ) q (-1) hok (by omega) hir) (cwV 2 hts gX6_proof_X6_mayBes rfl rfl rfl (by decide +kernel) ⟨Nat.le_of_ble_eq_true rfl, Nat.le_of_ble_eq_true rfl⟩) hP [0, 1, 2, 3, 4, 5, 6, 7, 8] rfl hK hN (ci := 6) (q0 := 0) rfl rfl rfl hl.1 rfl (Nat.le_of_ble_eq_true rfl) dX6_proof_39 ⟨Nat.zero_le _, Nat.zero_le _⟩ (fun r39 e39 => ?_)
        subst e39
        refine lv_asi (show nI (msN σ (sR σ) q (-1)) = nI (cmb σ (soI σ q) (nsI σ q)) from congrArg nI (ms_m1 σ _ q)) ?_
        refine lv_icmp_ne (tgt := 49) hx hb dX6_proof_42 (by decide) (fun c42 => ?_) (fun c42 => ?_)
        · skip
          have c42 : ¬ cmr σ (sR σ) (soI σ q) (nsI σ q) y = cmb σ (soI σ q) (nsI σ q) := mt (fun z => by rw [z]) c42
          refine lv_iconst (v := 1) hx hb dX6_proof_49 (by decide) ?_
          exact W.iret (v := 1) hx hb hr (fun t ht hW => ⟨_, rfl, by rw [oProof, if_neg (by rw [c5]; decide), if_neg (by rw [c14]; decide), kq, if_neg c28, if_neg c42], ht⟩) (fun _ h => absurd h List.not_mem_nil) dX6_proof_50
        · skip
          have c42 : cmr σ (sR σ) (soI σ q) (nsI σ q) y = cmb σ (soI σ q) (nsI σ q) := (nI_eq (by have := cmr_le hok (sR σ) (soI σ q) (nsI σ q) y; omega) (by have := cmb_le hok (soI σ q) (nsI σ q); omega)).mp c42
          refine lv_iconst (v := 2) hx hb dX6_proof_45 (by decide) ?_
          refine lv_goto (tgt := 50) hx hb dX6_proof_46 (by decide) ?_
          exact W.iret (v := 2) hx hb hr (fun t ht hW => ⟨_, rfl, by rw [oProof, if_neg (by rw [c5]; decide), if_neg (by rw [c14]; decide), kq, if_neg c28, if_pos c42], ht⟩) (fun _ h => absurd h List.not_mem_nil) dX6_proof_50
      · skip
        have c28 : cmr σ (sR σ) (soI σ q) (nsI σ q) y = 0 := (nI_eq (by have := cmr_le hok (sR σ) (soI σ q) (nsI σ q) y; omega) (by omega)).mp c28
        refine lv_iconst (v := 0) hx hb dX6_proof_31 (by decide) ?_
        refine lv_goto (tgt := 50) hx hb dX6_proof_32 (by decide) ?_
        exact W.iret (v := 0) hx hb hr (fun t ht hW => ⟨_, rfl, by rw [oProof, if_neg (by rw [c5]; decide), if_neg (by rw [c14]; decide), kq, if_pos c28], ht⟩) (fun _ h => absurd h List.not_mem_nil) dX6_proof_50
    · skip
      have c14 := b2_0 c14
      refine lv_bipush (v := (-2)) hx hb dX6_proof_17 (by decide) ?_
      exact W.iret (v := (-2)) hx hb hr (fun t ht hW => ⟨_, rfl, by rw [oProof, if_neg (by rw [c5]; decide), if_pos c14], ht⟩) (fun _ h => absurd h List.not_mem_nil) dX6_proof_19
  · skip
    have c5 := b2_0 c5
    refine lv_iconst (v := (-1)) hx hb dX6_proof_8 (by decide) ?_
    exact W.iret (v := (-1)) hx hb hr (fun t ht hW => ⟨_, rfl, by rw [oProof, if_pos c5], ht⟩) (fun _ h => absurd h List.not_mem_nil) dX6_proof_9

set_option maxHeartbeats 4000000 in
set_option maxRecDepth 100000 in
theorem c_X6_bindingCase (l : Launch) (D : va_G) (cI cZ : ClassId) (ym : Nat) (ymB : Nat) (ymU : Nat) (ymV : Nat) (ymR : Nat) (ymI : Nat) (ymE : Nat) (ymS : Nat) (ymT : Nat) (ymD : Nat) (ymQ : Nat) (ymP : Nat) (ymN : Nat) (ymO : Nat) (ymY : Nat) (ymZ : Nat) (ymX : Nat) (σ : ST) (m0 : Nat) (hok : Ok σ) (hm : m0 < 30) : Met l yX6_bindingCase wsX6_bindingCase ({ frames := 2, cells := 0, slots := 0, locals := 44 }) (va_Pc [.ref ym, .int (nI m0)] (XP D cI cZ [(ym, .inr (6, [.int (nI (sF σ)), .ref ymB, .int (nI (sN σ)), .ref ymU, .ref ymV, .ref ymR, .ref ymI, .ref ymE, .int (nI (sM σ)), .ref ymS, .ref ymT, .ref ymD, .int (nI (sC σ)), .ref ymQ, .ref ymP, .ref ymN, .int (nI (sG σ)), .ref ymO, .ref ymY, .ref ymZ, .ref ymX])), (ymS, .inl (cI, 90, .inl (rTs σ))), (ymT, .inl (cI, 90, .inl (rTn σ))), (ymQ, .inl (cI, 12, .inl (rCk σ))), (ymN, .inl (cI, 12, .inl (rCn σ)))])) (vp_Si (fun r => r = bnI σ (soI σ m0) (nsI σ m0))) 0 0 (fun _ => False) := by
  refine Met.ofW (cc := cX6_bindingCase) (maxL := 4) (ret := (some .int)) (by decide) rfl ?_
  intro p e s m args below meth c s₁ B hml hv
  obtain ⟨rfl, hP, hK, hN⟩ := hv
  have hx := B.exec
  have hb := B.bytes
  have hr := B.returns
  have hts := atoms_spec (ws := wsX6_bindingCase) B.pre
  have hown : s.vm.findClass RX6 = some m.cls := findClass_of_methodNamed B.named
  have hlocks := B.notSynchronized
  have ho := hok.1
  have hk2 := hok.k
  have hp2 : 1 ≤ 2 ^ sF σ := Nat.two_pow_pos _
  have hf76 := hts (.fieldLink RX6 76 "BallCourtModel" "cases" "I") (List.mem_of_getElem? (i := 1) (by decide +kernel))
  have hiX6 : ∀ w ∈ wsX60, w ∈ wsX6_bindingCase := fun w h => List.mem_cons_of_mem _ (List.mem_append_right _ h)
  have hf48 := hts (.fieldLink RX6 48 "BallCourtModel" "caseNames" "[I") (List.mem_of_getElem? (i := 2) (by decide +kernel))
  have hf42 := hts (.fieldLink RX6 42 "BallCourtModel" "caseKind" "[I") (List.mem_of_getElem? (i := 3) (by decide +kernel))
  have hl := lv_entry ([.ref ym, .int (nI m0)]) (n := 4) (Nat.le_of_ble_eq_true rfl)
  rw [lg_entry_eq]
  generalize (lg_sl ([.ref ym, .int (nI m0)]) ++ List.replicate (4 - (lg_sl ([.ref ym, .int (nI m0)])).length) Slot.unset).toArray = ls at hl ⊢
  have hl : lv_has ls 4 [(0, .ref ym), (1, .int (nI m0))] := hl
  refine lv_iconst (v := nI 0) hx hb dX6_bindingCase_0 (by decide) ?_
  refine lv_istore_n (lv' := [(2, .int (nI 0)), (0, .ref ym), (1, .int (nI m0))]) hx hb dX6_bindingCase_1 rfl hl (by decide) rfl (fun ls hl => ?_)
  refine wloop (α := Nat) (fun v => sC σ - v) (fun v => [(0, .ref ym), (1, .int (nI m0)), (2, .int (nI v))]) (fun v => (v ≤ sC σ) ∧ (∀ j, j < v → bnB σ (soI σ m0) (nsI σ m0) j = false)) 4 (fun v hv ih2 ls hl => ?_) 0 ⟨(show 0 ≤ sC σ from Nat.zero_le _), (show ∀ j, j < 0 → bnB σ (soI σ m0) (nsI σ m0) j = false from fun j hj => absurd hj (Nat.not_lt_zero _))⟩ ls (lv_sub hl [1, 2, 0] rfl)
  obtain ⟨i, rfl⟩ : ∃ z : Nat, z = v := ⟨_, rfl⟩
  obtain ⟨hi, hn⟩ := hv
  have hi : i ≤ sC σ := hi
  have hn : ∀ j, j < i → bnB σ (soI σ m0) (nsI σ m0) j = false := hn
  have hl : lv_has ls 4 [(0, .ref ym), (1, .int (nI m0)), (2, .int (nI i))] := hl
  refine lv_iload_n hx hb dX6_bindingCase_2 rfl (lv_at hl 2 rfl) ?_
  refine lv_aload_n hx hb dX6_bindingCase_3 rfl (lv_at hl 0 rfl) ?_
  refine va_get (D := D) (ci := 6) (v := .int (nI (sC σ))) (C := RX6) (T := TX6) (N := 21) hx hb hts hiX6 hown hK hP 0 rfl rfl 12 (by decide) hf76 (fun _ h9 => h9) rfl dX6_bindingCase_4 ?_
  refine lv_icmp_ge (tgt := 52) hx hb dX6_bindingCase_7 (by decide) (fun c7 => ?_) (fun c7 => ?_)
  · skip
    have c7 := (nI_leI (by omega) (by omega)).mp c7
    refine lv_bipush (v := (-6)) hx hb dX6_bindingCase_52 (by decide) ?_
    exact W.iret (v := (-6)) hx hb hr (fun t ht hW => ⟨_, rfl, by rw [bnI, bnN, fst_no (fun j hj => hn j (by omega)), if_neg (Nat.lt_irrefl _)], ht⟩) (fun _ h => absurd h List.not_mem_nil) dX6_bindingCase_54
  · skip
    have c7 := Nat.lt_of_not_le (fun z => c7 ((nI_leI (by omega) (by omega)).mpr z))
    refine lv_aload_n hx hb dX6_bindingCase_10 rfl (lv_at hl 0 rfl) ?_
    refine va_get (D := D) (ci := 6) (v := .ref ymN) (C := RX6) (T := TX6) (N := 21) hx hb hts hiX6 hown hK hP 0 rfl rfl 15 (by decide) hf48 (fun _ h9 => h9) rfl dX6_bindingCase_11 ?_
    refine lv_iload_n hx hb dX6_bindingCase_14 rfl (lv_at hl 2 rfl) ?_
    refine xald (k := i) hx hb hK hP 4 rfl (by omega) (by decide) dX6_bindingCase_15 ?_
    refine lv_istore_n (lv' := [(3, .int (rCn σ i)), (0, .ref ym), (1, .int (nI m0)), (2, .int (nI i))]) hx hb dX6_bindingCase_16 rfl hl (by decide) rfl (fun ls hl => ?_)
    refine lv_iload_n hx hb dX6_bindingCase_17 rfl (lv_at hl 0 rfl) ?_
    refine lv_aload_n hx hb dX6_bindingCase_18 rfl (lv_at hl 1 rfl) ?_
    refine lv_iload_n hx hb dX6_bindingCase_19 rfl (lv_at hl 2 rfl) ?_
    refine xpV (rest := [.int (rCn σ i)]) ⟨hx, hb, hml, hown, hts⟩ (c_X6_doubt l D cI cZ ym ymB ymU ymV ymR ymI ymE ymS ymT ymD ymQ ymP ymN ymO ymY ymZ ymX σ m0 hok hm) (cwV 1 hts gX6_bindingCase_X6_doubt rfl rfl rfl (by decide +kernel) ⟨Nat.le_of_ble_eq_true rfl, Nat.le_of_ble_eq_true rfl⟩) hP [0, 1, 2] rfl hK hN (ci := 6) (q0 := 0) rfl rfl rfl hl.1 rfl (Nat.le_of_ble_eq_true rfl) dX6_bindingCase_20 ⟨Nat.zero_le _, Nat.zero_le _⟩ (fun r20 e20 => ?_)
    subst e20
    refine lv_iand hx hb dX6_bindingCase_23 ?_
    refine lv_if_ne (tgt := 46) hx hb dX6_bindingCase_24 (by decide) (fun c24 => ?_) (fun c24 => ?_)
    · skip
      refine lv_iinc (k := 3) (x := nI i) (v := nI (i + 1)) (lv' := [(2, .int (nI (i + 1))), (3, .int (rCn σ i)), (0, .ref ym), (1, .int (nI m0))]) hx hb dX6_bindingCase_46 hl rfl (show (nI i) + Int32.ofInt 1 = nI (i + 1) from nI_1 _) (by decide) rfl (fun ls hl => ?_)
      refine lv_goto (tgt := 2) hx hb dX6_bindingCase_49 (by decide) ?_
      exact ih2 (i + 1) ⟨(show (i + 1) ≤ sC σ from (by omega)), (show ∀ j, j < (i + 1) → bnB σ (soI σ m0) (nsI σ m0) j = false from lt_s hn (by rw [← bn_iff hok c7, decide_eq_false c24]; rfl))⟩ (by show sC σ - (i + 1) < sC σ - i; omega) ls (lv_sub hl [2, 3, 0] rfl)
    · skip
      refine lv_aload_n hx hb dX6_bindingCase_27 rfl (lv_at hl 1 rfl) ?_
      refine lv_iload_n hx hb dX6_bindingCase_28 rfl (lv_at hl 2 rfl) ?_
      refine xpV (rest := []) ⟨hx, hb, hml, hown, hts⟩ (c_X6_so l D cI cZ ym ymB ymU ymV ymR ymI ymE ymS ymT ymD ymQ ymP ymN ymO ymY ymZ ymX σ m0 hm) (cwV 1 hts gX6_bindingCase_X6_so rfl rfl rfl (by decide +kernel) ⟨Nat.le_of_ble_eq_true rfl, Nat.le_of_ble_eq_true rfl⟩) hP [0, 1, 2] rfl hK hN (ci := 6) (q0 := 0) rfl rfl rfl hl.1 rfl (Nat.le_of_ble_eq_true rfl) dX6_bindingCase_29 ⟨Nat.zero_le _, Nat.zero_le _⟩ (fun r29 e29 => ?_)
      subst e29
      refine lv_aload_n hx hb dX6_bindingCase_32 rfl (lv_at hl 1 rfl) ?_
      refine va_get (D := D) (ci := 6) (v := .ref ymQ) (C := RX6) (T := TX6) (N := 21) hx hb hts hiX6 hown hK hP 0 rfl rfl 13 (by decide) hf42 (fun _ h9 => h9) rfl dX6_bindingCase_33 ?_
      refine lv_iload_n hx hb dX6_bindingCase_36 rfl (lv_at hl 3 rfl) ?_
      refine xald (k := i) hx hb hK hP 3 rfl (by omega) (by decide) dX6_bindingCase_37 ?_
      refine lv_ixor hx hb dX6_bindingCase_38 ?_
      refine lv_iload_n hx hb dX6_bindingCase_39 rfl (lv_at hl 0 rfl) ?_
      refine lv_iand hx hb dX6_bindingCase_40 ?_
      refine lv_if_ne (tgt := 46) hx hb dX6_bindingCase_41 (by decide) (fun c41 => ?_) (fun c41 => ?_)
      · skip
        refine lv_iinc (k := 3) (x := nI i) (v := nI (i + 1)) (lv' := [(2, .int (nI (i + 1))), (3, .int (rCn σ i)), (0, .ref ym), (1, .int (nI m0))]) hx hb dX6_bindingCase_46 hl rfl (show (nI i) + Int32.ofInt 1 = nI (i + 1) from nI_1 _) (by decide) rfl (fun ls hl => ?_)
        refine lv_goto (tgt := 2) hx hb dX6_bindingCase_49 (by decide) ?_
        exact ih2 (i + 1) ⟨(show (i + 1) ≤ sC σ from (by omega)), (show ∀ j, j < (i + 1) → bnB σ (soI σ m0) (nsI σ m0) j = false from lt_s hn (by rw [← bn_iff hok c7, decide_eq_false c41]; exact Bool.and_false _))⟩ (by show sC σ - (i + 1) < sC σ - i; omega) ls (lv_sub hl [2, 3, 0] rfl)
      · skip
        refine lv_iload_n hx hb dX6_bindingCase_44 rfl (lv_at hl 3 rfl) ?_
        exact W.iret (v := nI i) hx hb hr (fun t ht hW => ⟨_, rfl, by rw [bnI, bnN, fst_at (by rw [← bn_iff hok c7, decide_eq_true c24, decide_eq_true c41]; rfl) hn c7, if_pos c7], ht⟩) (fun _ h => absurd h List.not_mem_nil) dX6_bindingCase_45

set_option maxHeartbeats 4000000 in
set_option maxRecDepth 100000 in
theorem c_X6_binds (l : Launch) (D : va_G) (cI cZ : ClassId) (ym : Nat) (ymB : Nat) (ymU : Nat) (ymV : Nat) (ymR : Nat) (ymI : Nat) (ymE : Nat) (ymS : Nat) (ymT : Nat) (ymD : Nat) (ymQ : Nat) (ymP : Nat) (ymN : Nat) (ymO : Nat) (ymY : Nat) (ymZ : Nat) (ymX : Nat) (σ : ST) (x : Int32) (hok : Ok σ) : Met l yX6_binds wsX6_binds ({ frames := 3, cells := 0, slots := 0, locals := 67 }) (va_Pc [.ref ym, .int x] (XP D cI cZ [(ym, .inr (6, [.int (nI (sF σ)), .ref ymB, .int (nI (sN σ)), .ref ymU, .ref ymV, .ref ymR, .ref ymI, .ref ymE, .int (nI (sM σ)), .ref ymS, .ref ymT, .ref ymD, .int (nI (sC σ)), .ref ymQ, .ref ymP, .ref ymN, .int (nI (sG σ)), .ref ymO, .ref ymY, .ref ymZ, .ref ymX])), (ymS, .inl (cI, 90, .inl (rTs σ))), (ymT, .inl (cI, 90, .inl (rTn σ))), (ymQ, .inl (cI, 12, .inl (rCk σ))), (ymN, .inl (cI, 12, .inl (rCn σ)))])) (vp_Si (fun r => r = oBinds σ x)) 0 0 (fun _ => False) := by
  refine Met.ofW (cc := cX6_binds) (maxL := 2) (ret := (some .int)) (by decide) rfl ?_
  intro p e s m args below meth c s₁ B hml hv
  obtain ⟨rfl, hP, hK, hN⟩ := hv
  have hx := B.exec
  have hb := B.bytes
  have hr := B.returns
  have hts := atoms_spec (ws := wsX6_binds) B.pre
  have hown : s.vm.findClass RX6 = some m.cls := findClass_of_methodNamed B.named
  have hlocks := B.notSynchronized
  have ho := hok.1
  have hk2 := hok.k
  have hp2 : 1 ≤ 2 ^ sF σ := Nat.two_pow_pos _
  have hl := lv_entry ([.ref ym, .int x]) (n := 2) (Nat.le_of_ble_eq_true rfl)
  rw [lg_entry_eq]
  generalize (lg_sl ([.ref ym, .int x]) ++ List.replicate (2 - (lg_sl ([.ref ym, .int x])).length) Slot.unset).toArray = ls at hl ⊢
  have hl : lv_has ls 2 [(0, .ref ym), (1, .int x)] := hl
  refine lv_aload_n hx hb dX6_binds_0 rfl (lv_at hl 0 rfl) ?_
  refine lv_iload_n hx hb dX6_binds_1 rfl (lv_at hl 1 rfl) ?_
  refine xpV (rest := []) ⟨hx, hb, hml, hown, hts⟩ (c_X6_isMoment l D cI cZ ym ymB ymU ymV ymR ymI ymE ymS ymT ymD ymQ ymP ymN ymO ymY ymZ ymX σ x hok) (cwV 1 hts gX6_binds_X6_isMoment rfl rfl rfl (by decide +kernel) ⟨Nat.le_of_ble_eq_true rfl, Nat.le_of_ble_eq_true rfl⟩) hP [0] rfl hK hN (ci := 6) (q0 := 0) rfl rfl rfl hl.1 rfl (Nat.le_of_ble_eq_true rfl) dX6_binds_2 ⟨Nat.zero_le _, Nat.zero_le _⟩ (fun r2 e2 => ?_)
  subst e2
  refine lv_if_eq (tgt := 16) hx hb dX6_binds_5 (by decide) (fun c5 => ?_) (fun c5 => ?_)
  · skip
    have c5 := b2_0 c5
    refine lv_iconst (v := (-1)) hx hb dX6_binds_16 (by decide) ?_
    exact W.iret (v := (-1)) hx hb hr (fun t ht hW => ⟨_, rfl, by rw [oBinds, if_pos c5], ht⟩) (fun _ h => absurd h List.not_mem_nil) dX6_binds_17
  · skip
    have c5 := b2_1 c5
    obtain ⟨q, hq, rfl⟩ := inN_t c5 (by omega)
    have kq := clp hq (show sM σ ≤ 128 by omega)
    refine lv_aload_n hx hb dX6_binds_8 rfl (lv_at hl 0 rfl) ?_
    refine lv_iload_n hx hb dX6_binds_9 rfl (lv_at hl 1 rfl) ?_
    refine xpV (rest := []) ⟨hx, hb, hml, hown, hts⟩ (c_X6_bindingCase l D cI cZ ym ymB ymU ymV ymR ymI ymE ymS ymT ymD ymQ ymP ymN ymO ymY ymZ ymX σ q hok (by omega)) (cwV 1 hts gX6_binds_X6_bindingCase rfl rfl rfl (by decide +kernel) ⟨Nat.le_of_ble_eq_true rfl, Nat.le_of_ble_eq_true rfl⟩) hP [0, 1, 2, 3, 4] rfl hK hN (ci := 6) (q0 := 0) rfl rfl rfl hl.1 rfl (Nat.le_of_ble_eq_true rfl) dX6_binds_10 ⟨Nat.zero_le _, Nat.zero_le _⟩ (fun r10 e10 => ?_)
    subst e10
    refine lv_goto (tgt := 17) hx hb dX6_binds_13 (by decide) ?_
    exact W.iret (v := bnI σ (soI σ q) (nsI σ q)) hx hb hr (fun t ht hW => ⟨_, rfl, by rw [oBinds, if_neg (by rw [c5]; decide), kq], ht⟩) (fun _ h => absurd h List.not_mem_nil) dX6_binds_17

set_option maxHeartbeats 4000000 in
set_option maxRecDepth 100000 in
theorem c_X6_verdictOf (l : Launch) (D : va_G) (cI cZ : ClassId) (ym : Nat) (ymB : Nat) (ymU : Nat) (ymV : Nat) (ymR : Nat) (ymI : Nat) (ymE : Nat) (ymS : Nat) (ymT : Nat) (ymD : Nat) (ymQ : Nat) (ymP : Nat) (ymN : Nat) (ymO : Nat) (ymY : Nat) (ymZ : Nat) (ymX : Nat) (σ : ST) (ir : Nat → Int32) (rp : Int32) (m0 : Nat) (hok : Ok σ) (hm : m0 < sM σ) (hir : ∀ l, l < sN σ → ir l = b2 (bit rp (nI l))) : Met l yX6_verdictOf wsX6_verdictOf ({ frames := 4, cells := 0, slots := 0, locals := 94 }) (va_Pc [.ref ym, .int (nI m0)] (XP D cI cZ [(ym, .inr (6, [.int (nI (sF σ)), .ref ymB, .int (nI (sN σ)), .ref ymU, .ref ymV, .ref ymR, .ref ymI, .ref ymE, .int (nI (sM σ)), .ref ymS, .ref ymT, .ref ymD, .int (nI (sC σ)), .ref ymQ, .ref ymP, .ref ymN, .int (nI (sG σ)), .ref ymO, .ref ymY, .ref ymZ, .ref ymX])), (ymB, .inl (cI, 7, .inl (rB σ))), (ymU, .inl (cI, 12, .inl (rMu σ))), (ymV, .inl (cI, 12, .inl (rMn σ))), (ymR, .inl (cI, 12, .inl (rRu σ))), (ymI, .inl (cZ, 12, .inl ir)), (ymE, .inl (cI, 12, .inl (rEr σ))), (ymS, .inl (cI, 90, .inl (rTs σ))), (ymT, .inl (cI, 90, .inl (rTn σ))), (ymD, .inl (cI, 30, .inl (rRd σ))), (ymQ, .inl (cI, 12, .inl (rCk σ))), (ymP, .inl (cI, 12, .inl (rCr σ))), (ymN, .inl (cI, 12, .inl (rCn σ)))])) (vp_Si (fun r => r = verI σ rp m0)) 0 0 (fun _ => False) := by
  refine Met.ofW (cc := cX6_verdictOf) (maxL := 5) (ret := (some .int)) (by decide) rfl ?_
  intro p e s m args below meth c s₁ B hml hv
  obtain ⟨rfl, hP, hK, hN⟩ := hv
  have hx := B.exec
  have hb := B.bytes
  have hr := B.returns
  have hts := atoms_spec (ws := wsX6_verdictOf) B.pre
  have hown : s.vm.findClass RX6 = some m.cls := findClass_of_methodNamed B.named
  have hlocks := B.notSynchronized
  have ho := hok.1
  have hk2 := hok.k
  have hp2 : 1 ≤ 2 ^ sF σ := Nat.two_pow_pos _
  have hf39 := hts (.fieldLink RX6 39 "BallCourtModel" "ruled" "[I") (List.mem_of_getElem? (i := 1) (by decide +kernel))
  have hiX6 : ∀ w ∈ wsX60, w ∈ wsX6_verdictOf := fun w h => List.mem_cons_of_mem _ (List.mem_append_right _ h)
  have hf45 := hts (.fieldLink RX6 45 "BallCourtModel" "caseRuling" "[I") (List.mem_of_getElem? (i := 2) (by decide +kernel))
  have hl := lv_entry ([.ref ym, .int (nI m0)]) (n := 5) (Nat.le_of_ble_eq_true rfl)
  rw [lg_entry_eq]
  generalize (lg_sl ([.ref ym, .int (nI m0)]) ++ List.replicate (5 - (lg_sl ([.ref ym, .int (nI m0)])).length) Slot.unset).toArray = ls at hl ⊢
  have hl : lv_has ls 5 [(0, .ref ym), (1, .int (nI m0))] := hl
  refine lv_aload_n hx hb dX6_verdictOf_0 rfl (lv_at hl 0 rfl) ?_
  refine va_get (D := D) (ci := 6) (v := .ref ymD) (C := RX6) (T := TX6) (N := 21) hx hb hts hiX6 hown hK hP 0 rfl rfl 11 (by decide) hf39 (fun _ h9 => h9) rfl dX6_verdictOf_1 ?_
  refine lv_iload_n hx hb dX6_verdictOf_4 rfl (lv_at hl 1 rfl) ?_
  refine xald (k := m0) hx hb hK hP 9 rfl (by omega) (by decide) dX6_verdictOf_5 ?_
  refine lv_if_lt (tgt := 16) hx hb dX6_verdictOf_6 (by decide) (fun c6 => ?_) (fun c6 => ?_)
  · skip
    have c6 := (rd_lt hok hm).mp c6
    refine lv_aload_n hx hb dX6_verdictOf_16 rfl (lv_at hl 0 rfl) ?_
    refine lv_iload_n hx hb dX6_verdictOf_17 rfl (lv_at hl 1 rfl) ?_
    refine lv_iconst (v := (-1)) hx hb dX6_verdictOf_18 (by decide) ?_
    refine xpV (rest := []) ⟨hx, hb, hml, hown, hts⟩ (c_X6_mayBes l D cI cZ ym ymB ymU ymV ymR ymI ymE ymS ymT ymD ymQ ymP ymN ymO ymY ymZ ymX σ ir rp m0 (-1) hok (by omega) hir) (cwV 2 hts gX6_verdictOf_X6_mayBes rfl rfl rfl (by decide +kernel) ⟨Nat.le_of_ble_eq_true rfl, Nat.le_of_ble_eq_true rfl⟩) hP [0, 1, 7, 8, 2, 3, 4, 5, 6] rfl hK hN (ci := 6) (q0 := 0) rfl rfl rfl hl.1 rfl (Nat.le_of_ble_eq_true rfl) dX6_verdictOf_19 ⟨Nat.zero_le _, Nat.zero_le _⟩ (fun r19 e19 => ?_)
    subst e19
    refine lv_asi (show nI (msN σ rp m0 (-1)) = nI (cmb σ (soI σ m0) (nsI σ m0)) from congrArg nI (ms_m1 σ _ m0)) ?_
    refine lv_istore_n (lv' := [(2, .int (nI (cmb σ (soI σ m0) (nsI σ m0)))), (0, .ref ym), (1, .int (nI m0))]) hx hb dX6_verdictOf_22 rfl hl (by decide) rfl (fun ls hl => ?_)
    refine lv_iload_n hx hb dX6_verdictOf_23 rfl (lv_at hl 0 rfl) ?_
    refine lv_if_ne (tgt := 29) hx hb dX6_verdictOf_24 (by decide) (fun c24 => ?_) (fun c24 => ?_)
    · skip
      have c24 : ¬ cmb σ (soI σ m0) (nsI σ m0) = 0 := mt (fun z => by rw [z]; rfl) c24
      refine lv_aload_n hx hb dX6_verdictOf_29 rfl (lv_at hl 1 rfl) ?_
      refine lv_iload_n hx hb dX6_verdictOf_30 rfl (lv_at hl 2 rfl) ?_
      refine xpV (rest := []) ⟨hx, hb, hml, hown, hts⟩ (c_X6_bindingCase l D cI cZ ym ymB ymU ymV ymR ymI ymE ymS ymT ymD ymQ ymP ymN ymO ymY ymZ ymX σ m0 hok (by omega)) (cwV 1 hts gX6_verdictOf_X6_bindingCase rfl rfl rfl (by decide +kernel) ⟨Nat.le_of_ble_eq_true rfl, Nat.le_of_ble_eq_true rfl⟩) hP [0, 7, 8, 10, 12] rfl hK hN (ci := 6) (q0 := 0) rfl rfl rfl hl.1 rfl (Nat.le_of_ble_eq_true rfl) dX6_verdictOf_31 ⟨Nat.zero_le _, Nat.zero_le _⟩ (fun r31 e31 => ?_)
      subst e31
      refine lv_istore_n (lv' := [(3, .int (bnI σ (soI σ m0) (nsI σ m0))), (2, .int (nI (cmb σ (soI σ m0) (nsI σ m0)))), (0, .ref ym), (1, .int (nI m0))]) hx hb dX6_verdictOf_34 rfl hl (by decide) rfl (fun ls hl => ?_)
      refine lv_iload_n hx hb dX6_verdictOf_35 rfl (lv_at hl 0 rfl) ?_
      refine lv_if_lt (tgt := 46) hx hb dX6_verdictOf_36 (by decide) (fun c36 => ?_) (fun c36 => ?_)
      · skip
        have c36 := (bnI_ge (by omega)).mp c36
        refine lv_iconst (v := nI 0) hx hb dX6_verdictOf_46 (by decide) ?_
        refine lv_istore (lv' := [(4, .int (nI 0)), (3, .int (bnI σ (soI σ m0) (nsI σ m0))), (2, .int (nI (cmb σ (soI σ m0) (nsI σ m0)))), (0, .ref ym), (1, .int (nI m0))]) hx hb dX6_verdictOf_47 hl (by decide) rfl (fun ls hl => ?_)
        refine wloop (α := Nat) (fun v => 5 - v) (fun v => [(0, .ref ym), (1, .int (nI m0)), (2, .int (nI (cmb σ (soI σ m0) (nsI σ m0)))), (4, .int (nI v))]) (fun v => (v ≤ 5) ∧ (∀ j, j < v → decide (cmr σ rp (soI σ m0) (nsI σ m0) (nI j) = cmb σ (soI σ m0) (nsI σ m0)) = false)) 5 (fun v hv ih49 ls hl => ?_) 0 ⟨(show 0 ≤ 5 from Nat.zero_le _), (show ∀ j, j < 0 → decide (cmr σ rp (soI σ m0) (nsI σ m0) (nI j) = cmb σ (soI σ m0) (nsI σ m0)) = false from fun j hj => absurd hj (Nat.not_lt_zero _))⟩ ls (lv_sub hl [3, 4, 2, 0] rfl)
        obtain ⟨r0, rfl⟩ : ∃ z : Nat, z = v := ⟨_, rfl⟩
        obtain ⟨hi, hn⟩ := hv
        have hi : r0 ≤ 5 := hi
        have hn : ∀ j, j < r0 → decide (cmr σ rp (soI σ m0) (nsI σ m0) (nI j) = cmb σ (soI σ m0) (nsI σ m0)) = false := hn
        have hl : lv_has ls 5 [(0, .ref ym), (1, .int (nI m0)), (2, .int (nI (cmb σ (soI σ m0) (nsI σ m0)))), (4, .int (nI r0))] := hl
        refine lv_iload hx hb dX6_verdictOf_49 (lv_at hl 3 rfl) ?_
        refine lv_iconst (v := nI 5) hx hb dX6_verdictOf_51 (by decide) ?_
        refine lv_icmp_ge (tgt := 75) hx hb dX6_verdictOf_52 (by decide) (fun c52 => ?_) (fun c52 => ?_)
        · skip
          have c52 := (nI_leI (by omega) (by omega)).mp c52
          refine lv_iconst (v := 0) hx hb dX6_verdictOf_75 (by decide) ?_
          exact W.iret (v := 0) hx hb hr (fun t ht hW => ⟨_, rfl, by rw [verI, if_neg (fun z => z c6), if_neg c24, if_neg c36, rfaI, rfaN, fst_no (fun j hj => hn j (by omega)), if_neg (Nat.lt_irrefl _)], ht⟩) (fun _ h => absurd h List.not_mem_nil) dX6_verdictOf_76
        · skip
          have c52 := Nat.lt_of_not_le (fun z => c52 ((nI_leI (by omega) (by omega)).mpr z))
          refine lv_aload_n hx hb dX6_verdictOf_55 rfl (lv_at hl 0 rfl) ?_
          refine lv_iload_n hx hb dX6_verdictOf_56 rfl (lv_at hl 1 rfl) ?_
          refine lv_iload hx hb dX6_verdictOf_57 (lv_at hl 3 rfl) ?_
          refine xpV (rest := []) ⟨hx, hb, hml, hown, hts⟩ (c_X6_mayBes l D cI cZ ym ymB ymU ymV ymR ymI ymE ymS ymT ymD ymQ ymP ymN ymO ymY ymZ ymX σ ir rp m0 (nI r0) hok (by omega) hir) (cwV 2 hts gX6_verdictOf_X6_mayBes rfl rfl rfl (by decide +kernel) ⟨Nat.le_of_ble_eq_true rfl, Nat.le_of_ble_eq_true rfl⟩) hP [0, 1, 7, 8, 2, 3, 4, 5, 6] rfl hK hN (ci := 6) (q0 := 0) rfl rfl rfl hl.1 rfl (Nat.le_of_ble_eq_true rfl) dX6_verdictOf_59 ⟨Nat.zero_le _, Nat.zero_le _⟩ (fun r59 e59 => ?_)
          subst e59
          refine lv_asi (show nI (msN σ rp m0 (nI r0)) = nI (cmr σ rp (soI σ m0) (nsI σ m0) (nI r0)) from congrArg nI (ms_r σ _ m0 (nI_pos (by omega)))) ?_
          refine lv_iload_n hx hb dX6_verdictOf_62 rfl (lv_at hl 2 rfl) ?_
          refine lv_icmp_ne (tgt := 69) hx hb dX6_verdictOf_63 (by decide) (fun c63 => ?_) (fun c63 => ?_)
          · skip
            have c63 : ¬ cmr σ rp (soI σ m0) (nsI σ m0) (nI r0) = cmb σ (soI σ m0) (nsI σ m0) := mt (fun z => by rw [z]) c63
            refine lv_iinc (k := 3) (x := nI r0) (v := nI (r0 + 1)) (lv' := [(4, .int (nI (r0 + 1))), (0, .ref ym), (1, .int (nI m0)), (2, .int (nI (cmb σ (soI σ m0) (nsI σ m0))))]) hx hb dX6_verdictOf_69 hl rfl (show (nI r0) + Int32.ofInt 1 = nI (r0 + 1) from nI_1 _) (by decide) rfl (fun ls hl => ?_)
            refine lv_goto (tgt := 49) hx hb dX6_verdictOf_72 (by decide) ?_
            exact ih49 (r0 + 1) ⟨(show (r0 + 1) ≤ 5 from (by omega)), (show ∀ j, j < (r0 + 1) → decide (cmr σ rp (soI σ m0) (nsI σ m0) (nI j) = cmb σ (soI σ m0) (nsI σ m0)) = false from lt_s hn (decide_eq_false c63))⟩ (by show 5 - (r0 + 1) < 5 - r0; omega) ls (lv_sub hl [1, 2, 3, 0] rfl)
          · skip
            have c63 : cmr σ rp (soI σ m0) (nsI σ m0) (nI r0) = cmb σ (soI σ m0) (nsI σ m0) := (nI_eq (by have := cmr_le hok rp (soI σ m0) (nsI σ m0) (nI r0); omega) (by have := cmb_le hok (soI σ m0) (nsI σ m0); omega)).mp c63
            refine lv_iload hx hb dX6_verdictOf_66 (lv_at hl 3 rfl) ?_
            exact W.iret (v := nI r0) hx hb hr (fun t ht hW => ⟨_, rfl, by rw [verI, if_neg (fun z => z c6), if_neg c24, if_neg c36, rfaI, rfaN, fst_at (decide_eq_true c63) hn c52, if_pos c52], ht⟩) (fun _ h => absurd h List.not_mem_nil) dX6_verdictOf_68
      · skip
        have c36 : bnN σ (soI σ m0) (nsI σ m0) < sC σ := Classical.byContradiction (fun z => c36 ((bnI_ge (by omega)).mpr z))
        have hl : lv_has ls 5 [(3, .int (nI (bnN σ (soI σ m0) (nsI σ m0)))), (2, .int (nI (cmb σ (soI σ m0) (nsI σ m0)))), (0, .ref ym), (1, .int (nI m0))] := by rw [← (show bnI σ (soI σ m0) (nsI σ m0) = nI (bnN σ (soI σ m0) (nsI σ m0)) from (by rw [bnI, if_pos c36]))]; exact hl
        refine lv_aload_n hx hb dX6_verdictOf_39 rfl (lv_at hl 2 rfl) ?_
        refine va_get (D := D) (ci := 6) (v := .ref ymP) (C := RX6) (T := TX6) (N := 21) hx hb hts hiX6 hown hK hP 0 rfl rfl 14 (by decide) hf45 (fun _ h9 => h9) rfl dX6_verdictOf_40 ?_
        refine lv_iload_n hx hb dX6_verdictOf_43 rfl (lv_at hl 0 rfl) ?_
        refine xald (k := (bnN σ (soI σ m0) (nsI σ m0))) hx hb hK hP 11 rfl (by omega) (by decide) dX6_verdictOf_44 ?_
        exact W.iret (v := rCr σ (bnN σ (soI σ m0) (nsI σ m0))) hx hb hr (fun t ht hW => ⟨_, rfl, by rw [verI, if_neg (fun z => z c6), if_neg c24, if_pos c36], ht⟩) (fun _ h => absurd h List.not_mem_nil) dX6_verdictOf_45
    · skip
      have c24 : cmb σ (soI σ m0) (nsI σ m0) = 0 := (nI_eq (by have := cmb_le hok (soI σ m0) (nsI σ m0); omega) (by omega)).mp c24
      refine lv_iconst (v := 0) hx hb dX6_verdictOf_27 (by decide) ?_
      exact W.iret (v := 0) hx hb hr (fun t ht hW => ⟨_, rfl, by rw [verI, if_neg (fun z => z c6), if_pos c24], ht⟩) (fun _ h => absurd h List.not_mem_nil) dX6_verdictOf_28
  · skip
    have c6 := mt (rd_lt hok hm).mpr c6
    refine lv_aload_n hx hb dX6_verdictOf_9 rfl (lv_at hl 0 rfl) ?_
    refine va_get (D := D) (ci := 6) (v := .ref ymD) (C := RX6) (T := TX6) (N := 21) hx hb hts hiX6 hown hK hP 0 rfl rfl 11 (by decide) hf39 (fun _ h9 => h9) rfl dX6_verdictOf_10 ?_
    refine lv_iload_n hx hb dX6_verdictOf_13 rfl (lv_at hl 1 rfl) ?_
    refine xald (k := m0) hx hb hK hP 9 rfl (by omega) (by decide) dX6_verdictOf_14 ?_
    exact W.iret (v := rRd σ m0) hx hb hr (fun t ht hW => ⟨_, rfl, by rw [verI, if_pos c6], ht⟩) (fun _ h => absurd h List.not_mem_nil) dX6_verdictOf_15

set_option maxHeartbeats 4000000 in
set_option maxRecDepth 100000 in
theorem c_X6_verdict (l : Launch) (D : va_G) (cI cZ : ClassId) (ym : Nat) (ymB : Nat) (ymU : Nat) (ymV : Nat) (ymR : Nat) (ymI : Nat) (ymE : Nat) (ymS : Nat) (ymT : Nat) (ymD : Nat) (ymQ : Nat) (ymP : Nat) (ymN : Nat) (ymO : Nat) (ymY : Nat) (ymZ : Nat) (ymX : Nat) (σ : ST) (ir : Nat → Int32) (x : Int32) (hok : Ok σ) (hir : ∀ l, l < sN σ → ir l = b2 (bit (sR σ) (nI l))) : Met l yX6_verdict wsX6_verdict ({ frames := 5, cells := 0, slots := 0, locals := 118 }) (va_Pc [.ref ym, .int x] (XP D cI cZ [(ym, .inr (6, [.int (nI (sF σ)), .ref ymB, .int (nI (sN σ)), .ref ymU, .ref ymV, .ref ymR, .ref ymI, .ref ymE, .int (nI (sM σ)), .ref ymS, .ref ymT, .ref ymD, .int (nI (sC σ)), .ref ymQ, .ref ymP, .ref ymN, .int (nI (sG σ)), .ref ymO, .ref ymY, .ref ymZ, .ref ymX])), (ymB, .inl (cI, 7, .inl (rB σ))), (ymU, .inl (cI, 12, .inl (rMu σ))), (ymV, .inl (cI, 12, .inl (rMn σ))), (ymR, .inl (cI, 12, .inl (rRu σ))), (ymI, .inl (cZ, 12, .inl ir)), (ymE, .inl (cI, 12, .inl (rEr σ))), (ymS, .inl (cI, 90, .inl (rTs σ))), (ymT, .inl (cI, 90, .inl (rTn σ))), (ymD, .inl (cI, 30, .inl (rRd σ))), (ymQ, .inl (cI, 12, .inl (rCk σ))), (ymP, .inl (cI, 12, .inl (rCr σ))), (ymN, .inl (cI, 12, .inl (rCn σ)))])) (vp_Si (fun r => r = oVerdict σ x)) 0 0 (fun _ => False) := by
  refine Met.ofW (cc := cX6_verdict) (maxL := 2) (ret := (some .int)) (by decide) rfl ?_
  intro p e s m args below meth c s₁ B hml hv
  obtain ⟨rfl, hP, hK, hN⟩ := hv
  have hx := B.exec
  have hb := B.bytes
  have hr := B.returns
  have hts := atoms_spec (ws := wsX6_verdict) B.pre
  have hown : s.vm.findClass RX6 = some m.cls := findClass_of_methodNamed B.named
  have hlocks := B.notSynchronized
  have ho := hok.1
  have hk2 := hok.k
  have hp2 : 1 ≤ 2 ^ sF σ := Nat.two_pow_pos _
  have hl := lv_entry ([.ref ym, .int x]) (n := 2) (Nat.le_of_ble_eq_true rfl)
  rw [lg_entry_eq]
  generalize (lg_sl ([.ref ym, .int x]) ++ List.replicate (2 - (lg_sl ([.ref ym, .int x])).length) Slot.unset).toArray = ls at hl ⊢
  have hl : lv_has ls 2 [(0, .ref ym), (1, .int x)] := hl
  refine lv_aload_n hx hb dX6_verdict_0 rfl (lv_at hl 0 rfl) ?_
  refine lv_iload_n hx hb dX6_verdict_1 rfl (lv_at hl 1 rfl) ?_
  refine xpV (rest := []) ⟨hx, hb, hml, hown, hts⟩ (c_X6_isMoment l D cI cZ ym ymB ymU ymV ymR ymI ymE ymS ymT ymD ymQ ymP ymN ymO ymY ymZ ymX σ x hok) (cwV 1 hts gX6_verdict_X6_isMoment rfl rfl rfl (by decide +kernel) ⟨Nat.le_of_ble_eq_true rfl, Nat.le_of_ble_eq_true rfl⟩) hP [0] rfl hK hN (ci := 6) (q0 := 0) rfl rfl rfl hl.1 rfl (Nat.le_of_ble_eq_true rfl) dX6_verdict_2 ⟨Nat.zero_le _, Nat.zero_le _⟩ (fun r2 e2 => ?_)
  subst e2
  refine lv_if_eq (tgt := 16) hx hb dX6_verdict_5 (by decide) (fun c5 => ?_) (fun c5 => ?_)
  · skip
    have c5 := b2_0 c5
    refine lv_iconst (v := (-1)) hx hb dX6_verdict_16 (by decide) ?_
    exact W.iret (v := (-1)) hx hb hr (fun t ht hW => ⟨_, rfl, by rw [oVerdict, if_pos c5], ht⟩) (fun _ h => absurd h List.not_mem_nil) dX6_verdict_17
  · skip
    have c5 := b2_1 c5
    obtain ⟨q, hq, rfl⟩ := inN_t c5 (by omega)
    have kq := clp hq (show sM σ ≤ 128 by omega)
    refine lv_aload_n hx hb dX6_verdict_8 rfl (lv_at hl 0 rfl) ?_
    refine lv_iload_n hx hb dX6_verdict_9 rfl (lv_at hl 1 rfl) ?_
    refine xpV (rest := []) ⟨hx, hb, hml, hown, hts⟩ (c_X6_verdictOf l D cI cZ ym ymB ymU ymV ymR ymI ymE ymS ymT ymD ymQ ymP ymN ymO ymY ymZ ymX σ ir (sR σ) q hok hq hir) (cwV 1 hts gX6_verdict_X6_verdictOf rfl rfl rfl (by decide +kernel) ⟨Nat.le_of_ble_eq_true rfl, Nat.le_of_ble_eq_true rfl⟩) hP [0, 1, 2, 3, 4, 5, 6, 7, 8, 9, 10, 11, 12] rfl hK hN (ci := 6) (q0 := 0) rfl rfl rfl hl.1 rfl (Nat.le_of_ble_eq_true rfl) dX6_verdict_10 ⟨Nat.zero_le _, Nat.zero_le _⟩ (fun r10 e10 => ?_)
    subst e10
    refine lv_goto (tgt := 17) hx hb dX6_verdict_13 (by decide) ?_
    exact W.iret (v := verI σ (sR σ) q) hx hb hr (fun t ht hW => ⟨_, rfl, by rw [oVerdict, if_neg (by rw [c5]; decide), kq], ht⟩) (fun _ h => absurd h List.not_mem_nil) dX6_verdict_17

set_option maxHeartbeats 4000000 in
set_option maxRecDepth 100000 in
theorem c_X6_about (l : Launch) (D : va_G) (cI cZ : ClassId) (ym : Nat) (ymB : Nat) (ymU : Nat) (ymV : Nat) (ymR : Nat) (ymI : Nat) (ymE : Nat) (ymS : Nat) (ymT : Nat) (ymD : Nat) (ymQ : Nat) (ymP : Nat) (ymN : Nat) (ymO : Nat) (ymY : Nat) (ymZ : Nat) (ymX : Nat) (σ : ST) (ir : Nat → Int32) (x : Int32) (w : Int32) (hok : Ok σ) (hir : ∀ l, l < sN σ → ir l = b2 (bit (sR σ) (nI l))) : Met l yX6_about wsX6_about ({ frames := 2, cells := 0, slots := 0, locals := 43 }) (va_Pc [.ref ym, .int x, .int w] (XP D cI cZ [(ym, .inr (6, [.int (nI (sF σ)), .ref ymB, .int (nI (sN σ)), .ref ymU, .ref ymV, .ref ymR, .ref ymI, .ref ymE, .int (nI (sM σ)), .ref ymS, .ref ymT, .ref ymD, .int (nI (sC σ)), .ref ymQ, .ref ymP, .ref ymN, .int (nI (sG σ)), .ref ymO, .ref ymY, .ref ymZ, .ref ymX])), (ymU, .inl (cI, 12, .inl (rMu σ))), (ymV, .inl (cI, 12, .inl (rMn σ))), (ymR, .inl (cI, 12, .inl (rRu σ))), (ymI, .inl (cZ, 12, .inl ir)), (ymE, .inl (cI, 12, .inl (rEr σ)))])) (vp_Si (fun r => r = oAbout σ x w)) 0 0 (fun _ => False) := by
  refine Met.ofW (cc := cX6_about) (maxL := 3) (ret := (some .int)) (by decide) rfl ?_
  intro p e s m args below meth c s₁ B hml hv
  obtain ⟨rfl, hP, hK, hN⟩ := hv
  have hx := B.exec
  have hb := B.bytes
  have hr := B.returns
  have hts := atoms_spec (ws := wsX6_about) B.pre
  have hown : s.vm.findClass RX6 = some m.cls := findClass_of_methodNamed B.named
  have hlocks := B.notSynchronized
  have ho := hok.1
  have hk2 := hok.k
  have hp2 : 1 ≤ 2 ^ sF σ := Nat.two_pow_pos _
  have hf17 := hts (.fieldLink RX6 17 "BallCourtModel" "must" "[I") (List.mem_of_getElem? (i := 1) (by decide +kernel))
  have hiX6 : ∀ w ∈ wsX60, w ∈ wsX6_about := fun w h => List.mem_cons_of_mem _ (List.mem_append_right _ h)
  have hf20 := hts (.fieldLink RX6 20 "BallCourtModel" "mustNot" "[I") (List.mem_of_getElem? (i := 2) (by decide +kernel))
  have hf23 := hts (.fieldLink RX6 23 "BallCourtModel" "ruling" "[I") (List.mem_of_getElem? (i := 3) (by decide +kernel))
  have hf26 := hts (.fieldLink RX6 26 "BallCourtModel" "isRepealed" "[Z") (List.mem_of_getElem? (i := 4) (by decide +kernel))
  have hf30 := hts (.fieldLink RX6 30 "BallCourtModel" "excepts" "[I") (List.mem_of_getElem? (i := 5) (by decide +kernel))
  have hl := lv_entry ([.ref ym, .int x, .int w]) (n := 3) (Nat.le_of_ble_eq_true rfl)
  rw [lg_entry_eq]
  generalize (lg_sl ([.ref ym, .int x, .int w]) ++ List.replicate (3 - (lg_sl ([.ref ym, .int x, .int w])).length) Slot.unset).toArray = ls at hl ⊢
  have hl : lv_has ls 3 [(0, .ref ym), (1, .int x), (2, .int w)] := hl
  refine lv_aload_n hx hb dX6_about_0 rfl (lv_at hl 0 rfl) ?_
  refine lv_iload_n hx hb dX6_about_1 rfl (lv_at hl 1 rfl) ?_
  refine xpV (rest := []) ⟨hx, hb, hml, hown, hts⟩ (c_X6_isLine l D cI cZ ym ymB ymU ymV ymR ymI ymE ymS ymT ymD ymQ ymP ymN ymO ymY ymZ ymX σ x hok) (cwV 1 hts gX6_about_X6_isLine rfl rfl rfl (by decide +kernel) ⟨Nat.le_of_ble_eq_true rfl, Nat.le_of_ble_eq_true rfl⟩) hP [0] rfl hK hN (ci := 6) (q0 := 0) rfl rfl rfl hl.1 rfl (Nat.le_of_ble_eq_true rfl) dX6_about_2 ⟨Nat.zero_le _, Nat.zero_le _⟩ (fun r2 e2 => ?_)
  subst e2
  refine lv_if_ne (tgt := 10) hx hb dX6_about_5 (by decide) (fun c5 => ?_) (fun c5 => ?_)
  · skip
    have c5 := b2_1 c5
    obtain ⟨q, hq, rfl⟩ := inN_t c5 (by omega)
    have kq := clp hq (show sN σ ≤ 128 by omega)
    refine lv_iload_n hx hb dX6_about_10 rfl (lv_at hl 2 rfl) ?_
    rcases sw6 w with c11 | c11 | c11 | c11 | c11 | c11 | c11
    · skip
      subst c11
      refine lv_tableIn (off := 37) (tgt := 48) hx hb dX6_about_11 (by decide) (by decide) (by decide) (by decide) ?_
      refine lv_aload_n hx hb dX6_about_48 rfl (lv_at hl 0 rfl) ?_
      refine va_get (D := D) (ci := 6) (v := .ref ymU) (C := RX6) (T := TX6) (N := 21) hx hb hts hiX6 hown hK hP 0 rfl rfl 3 (by decide) hf17 (fun _ h9 => h9) rfl dX6_about_49 ?_
      refine lv_iload_n hx hb dX6_about_52 rfl (lv_at hl 1 rfl) ?_
      refine xald (k := q) hx hb hK hP 1 rfl (by omega) (by decide) dX6_about_53 ?_
      exact W.iret (v := rMu σ q) hx hb hr (fun t ht hW => ⟨_, rfl, by simp [oAbout, c5, kq], ht⟩) (fun _ h => absurd h List.not_mem_nil) dX6_about_54
    · skip
      subst c11
      refine lv_tableIn (off := 44) (tgt := 55) hx hb dX6_about_11 (by decide) (by decide) (by decide) (by decide) ?_
      refine lv_aload_n hx hb dX6_about_55 rfl (lv_at hl 0 rfl) ?_
      refine va_get (D := D) (ci := 6) (v := .ref ymV) (C := RX6) (T := TX6) (N := 21) hx hb hts hiX6 hown hK hP 0 rfl rfl 4 (by decide) hf20 (fun _ h9 => h9) rfl dX6_about_56 ?_
      refine lv_iload_n hx hb dX6_about_59 rfl (lv_at hl 1 rfl) ?_
      refine xald (k := q) hx hb hK hP 2 rfl (by omega) (by decide) dX6_about_60 ?_
      exact W.iret (v := rMn σ q) hx hb hr (fun t ht hW => ⟨_, rfl, by simp [oAbout, c5, kq], ht⟩) (fun _ h => absurd h List.not_mem_nil) dX6_about_61
    · skip
      subst c11
      refine lv_tableIn (off := 51) (tgt := 62) hx hb dX6_about_11 (by decide) (by decide) (by decide) (by decide) ?_
      refine lv_aload_n hx hb dX6_about_62 rfl (lv_at hl 0 rfl) ?_
      refine va_get (D := D) (ci := 6) (v := .ref ymR) (C := RX6) (T := TX6) (N := 21) hx hb hts hiX6 hown hK hP 0 rfl rfl 5 (by decide) hf23 (fun _ h9 => h9) rfl dX6_about_63 ?_
      refine lv_iload_n hx hb dX6_about_66 rfl (lv_at hl 1 rfl) ?_
      refine xald (k := q) hx hb hK hP 3 rfl (by omega) (by decide) dX6_about_67 ?_
      exact W.iret (v := rRu σ q) hx hb hr (fun t ht hW => ⟨_, rfl, by simp [oAbout, c5, kq], ht⟩) (fun _ h => absurd h List.not_mem_nil) dX6_about_68
    · skip
      subst c11
      refine lv_tableIn (off := 58) (tgt := 69) hx hb dX6_about_11 (by decide) (by decide) (by decide) (by decide) ?_
      refine lv_aload_n hx hb dX6_about_69 rfl (lv_at hl 0 rfl) ?_
      refine va_get (D := D) (ci := 6) (v := .ref ymI) (C := RX6) (T := TX6) (N := 21) hx hb hts hiX6 hown hK hP 0 rfl rfl 6 (by decide) hf26 (fun _ h9 => h9) rfl dX6_about_70 ?_
      refine lv_iload_n hx hb dX6_about_73 rfl (lv_at hl 1 rfl) ?_
      refine xzld (k := q) hx hb hK hP 4 rfl (by omega) (by decide) dX6_about_74 ?_
      refine lv_asi (show ir q = b2 (bit (sR σ) (nI q)) from hir _ (by omega)) ?_
      refine lv_if_eq (tgt := 82) hx hb dX6_about_75 (by decide) (fun c75 => ?_) (fun c75 => ?_)
      · skip
        have c75 := b2_0 c75
        refine lv_iconst (v := 0) hx hb dX6_about_82 (by decide) ?_
        exact W.iret (v := 0) hx hb hr (fun t ht hW => ⟨_, rfl, by simp [oAbout, c5, c75, b2], ht⟩) (fun _ h => absurd h List.not_mem_nil) dX6_about_83
      · skip
        have c75 := b2_1 c75
        refine lv_iconst (v := 1) hx hb dX6_about_78 (by decide) ?_
        refine lv_goto (tgt := 83) hx hb dX6_about_79 (by decide) ?_
        exact W.iret (v := 1) hx hb hr (fun t ht hW => ⟨_, rfl, by simp [oAbout, c5, c75, b2], ht⟩) (fun _ h => absurd h List.not_mem_nil) dX6_about_83
    · skip
      subst c11
      refine lv_tableIn (off := 73) (tgt := 84) hx hb dX6_about_11 (by decide) (by decide) (by decide) (by decide) ?_
      refine lv_aload_n hx hb dX6_about_84 rfl (lv_at hl 0 rfl) ?_
      refine va_get (D := D) (ci := 6) (v := .ref ymE) (C := RX6) (T := TX6) (N := 21) hx hb hts hiX6 hown hK hP 0 rfl rfl 7 (by decide) hf30 (fun _ h9 => h9) rfl dX6_about_85 ?_
      refine lv_iload_n hx hb dX6_about_88 rfl (lv_at hl 1 rfl) ?_
      refine xald (k := q) hx hb hK hP 5 rfl (by omega) (by decide) dX6_about_89 ?_
      exact W.iret (v := rEr σ q) hx hb hr (fun t ht hW => ⟨_, rfl, by simp [oAbout, c5, kq], ht⟩) (fun _ h => absurd h List.not_mem_nil) dX6_about_90
    · skip
      subst c11
      refine lv_tableIn (off := 80) (tgt := 91) hx hb dX6_about_11 (by decide) (by decide) (by decide) (by decide) ?_
      refine lv_aload_n hx hb dX6_about_91 rfl (lv_at hl 0 rfl) ?_
      refine lv_iload_n hx hb dX6_about_92 rfl (lv_at hl 1 rfl) ?_
      refine xpV (rest := []) ⟨hx, hb, hml, hown, hts⟩ (c_X6_namedBy l D cI cZ ym ymB ymU ymV ymR ymI ymE ymS ymT ymD ymQ ymP ymN ymO ymY ymZ ymX σ ir (sR σ) q hok hq hir) (cwV 1 hts gX6_about_X6_namedBy rfl rfl rfl (by decide +kernel) ⟨Nat.le_of_ble_eq_true rfl, Nat.le_of_ble_eq_true rfl⟩) hP [0, 1, 2, 4, 5] rfl hK hN (ci := 6) (q0 := 0) rfl rfl rfl hl.1 rfl (Nat.le_of_ble_eq_true rfl) dX6_about_93 ⟨Nat.zero_le _, Nat.zero_le _⟩ (fun r93 e93 => ?_)
      subst e93
      exact W.iret (v := nmI σ (sR σ) q) hx hb hr (fun t ht hW => ⟨_, rfl, by simp [oAbout, c5, kq], ht⟩) (fun _ h => absurd h List.not_mem_nil) dX6_about_96
    · skip
      refine lv_tableOut (tgt := 97) hx hb dX6_about_11 c11 (by decide) ?_
      have n0 := sw_ne c11 (k := 0) (by decide) (by decide)
      have n1 := sw_ne c11 (k := 1) (by decide) (by decide)
      have n2 := sw_ne c11 (k := 2) (by decide) (by decide)
      have n3 := sw_ne c11 (k := 3) (by decide) (by decide)
      have n4 := sw_ne c11 (k := 4) (by decide) (by decide)
      have n5 := sw_ne c11 (k := 5) (by decide) (by decide)
      refine lv_bipush (v := (-2)) hx hb dX6_about_97 (by decide) ?_
      exact W.iret (v := (-2)) hx hb hr (fun t ht hW => ⟨_, rfl, by simp [oAbout, c5, n0, n1, n2, n3, n4, n5], ht⟩) (fun _ h => absurd h List.not_mem_nil) dX6_about_99
  · skip
    have c5 := b2_0 c5
    refine lv_iconst (v := (-1)) hx hb dX6_about_8 (by decide) ?_
    exact W.iret (v := (-1)) hx hb hr (fun t ht hW => ⟨_, rfl, by simp [oAbout, c5], ht⟩) (fun _ h => absurd h List.not_mem_nil) dX6_about_9

set_option maxHeartbeats 4000000 in
set_option maxRecDepth 100000 in
theorem c_X6_ofCase (l : Launch) (D : va_G) (cI cZ : ClassId) (ym : Nat) (ymB : Nat) (ymU : Nat) (ymV : Nat) (ymR : Nat) (ymI : Nat) (ymE : Nat) (ymS : Nat) (ymT : Nat) (ymD : Nat) (ymQ : Nat) (ymP : Nat) (ymN : Nat) (ymO : Nat) (ymY : Nat) (ymZ : Nat) (ymX : Nat) (σ : ST) (x : Int32) (w : Int32) (hok : Ok σ) : Met l yX6_ofCase wsX6_ofCase ({ frames := 1, cells := 0, slots := 0, locals := 22 }) (va_Pc [.ref ym, .int x, .int w] (XP D cI cZ [(ym, .inr (6, [.int (nI (sF σ)), .ref ymB, .int (nI (sN σ)), .ref ymU, .ref ymV, .ref ymR, .ref ymI, .ref ymE, .int (nI (sM σ)), .ref ymS, .ref ymT, .ref ymD, .int (nI (sC σ)), .ref ymQ, .ref ymP, .ref ymN, .int (nI (sG σ)), .ref ymO, .ref ymY, .ref ymZ, .ref ymX])), (ymQ, .inl (cI, 12, .inl (rCk σ))), (ymP, .inl (cI, 12, .inl (rCr σ))), (ymN, .inl (cI, 12, .inl (rCn σ)))])) (vp_Si (fun r => r = oOfCase σ x w)) 0 0 (fun _ => False) := by
  refine Met.ofW (cc := cX6_ofCase) (maxL := 3) (ret := (some .int)) (by decide) rfl ?_
  intro p e s m args below meth c s₁ B hml hv
  obtain ⟨rfl, hP, hK, hN⟩ := hv
  have hx := B.exec
  have hb := B.bytes
  have hr := B.returns
  have hts := atoms_spec (ws := wsX6_ofCase) B.pre
  have hown : s.vm.findClass RX6 = some m.cls := findClass_of_methodNamed B.named
  have hlocks := B.notSynchronized
  have ho := hok.1
  have hk2 := hok.k
  have hp2 : 1 ≤ 2 ^ sF σ := Nat.two_pow_pos _
  have hf76 := hts (.fieldLink RX6 76 "BallCourtModel" "cases" "I") (List.mem_of_getElem? (i := 1) (by decide +kernel))
  have hiX6 : ∀ w ∈ wsX60, w ∈ wsX6_ofCase := fun w h => List.mem_cons_of_mem _ (List.mem_append_right _ h)
  have hf48 := hts (.fieldLink RX6 48 "BallCourtModel" "caseNames" "[I") (List.mem_of_getElem? (i := 4) (by decide +kernel))
  have hf45 := hts (.fieldLink RX6 45 "BallCourtModel" "caseRuling" "[I") (List.mem_of_getElem? (i := 3) (by decide +kernel))
  have hf42 := hts (.fieldLink RX6 42 "BallCourtModel" "caseKind" "[I") (List.mem_of_getElem? (i := 2) (by decide +kernel))
  have hl := lv_entry ([.ref ym, .int x, .int w]) (n := 3) (Nat.le_of_ble_eq_true rfl)
  rw [lg_entry_eq]
  generalize (lg_sl ([.ref ym, .int x, .int w]) ++ List.replicate (3 - (lg_sl ([.ref ym, .int x, .int w])).length) Slot.unset).toArray = ls at hl ⊢
  have hl : lv_has ls 3 [(0, .ref ym), (1, .int x), (2, .int w)] := hl
  refine lv_iload_n hx hb dX6_ofCase_0 rfl (lv_at hl 1 rfl) ?_
  refine lv_iconst (v := 0) hx hb dX6_ofCase_1 (by decide) ?_
  refine lv_aload_n hx hb dX6_ofCase_2 rfl (lv_at hl 0 rfl) ?_
  refine va_get (D := D) (ci := 6) (v := .int (nI (sC σ))) (C := RX6) (T := TX6) (N := 21) hx hb hts hiX6 hown hK hP 0 rfl rfl 12 (by decide) hf76 (fun _ h9 => h9) rfl dX6_ofCase_3 ?_
  refine lv_iconst (v := 1) hx hb dX6_ofCase_6 (by decide) ?_
  refine lv_isub hx hb dX6_ofCase_7 ?_
  refine xpS (rest := []) ⟨hx, hb, hml, hown, hts⟩ (c_X6_in l D cI cZ x 0 ((nI (sC σ)) - 1)) (va_cwS 3 hts gX6_ofCase_X6_in rfl rfl rfl (by decide +kernel) ⟨Nat.le_of_ble_eq_true rfl, Nat.le_of_ble_eq_true rfl⟩) hP [] rfl hK hN rfl hl.1 rfl (Nat.le_of_ble_eq_true rfl) dX6_ofCase_8 ⟨Nat.zero_le _, Nat.zero_le _⟩ (fun r8 e8 => ?_)
  subst e8
  refine lv_asi (show b2 (inI x 0 ((nI (sC σ)) - 1)) = b2 (inN x (sC σ)) from congrArg b2 (inI_n x _ (by omega))) ?_
  refine lv_if_ne (tgt := 16) hx hb dX6_ofCase_11 (by decide) (fun c11 => ?_) (fun c11 => ?_)
  · skip
    have c11 := b2_1 c11
    obtain ⟨q, hq, rfl⟩ := inN_t c11 (by omega)
    have kq := clp hq (show sC σ ≤ 128 by omega)
    refine lv_iload_n hx hb dX6_ofCase_16 rfl (lv_at hl 2 rfl) ?_
    refine lv_if_ne (tgt := 29) hx hb dX6_ofCase_17 (by decide) (fun c17 => ?_) (fun c17 => ?_)
    · skip
      refine lv_iload_n hx hb dX6_ofCase_29 rfl (lv_at hl 2 rfl) ?_
      refine lv_iconst (v := 1) hx hb dX6_ofCase_30 (by decide) ?_
      refine lv_icmp_ne (tgt := 43) hx hb dX6_ofCase_31 (by decide) (fun c31 => ?_) (fun c31 => ?_)
      · skip
        refine lv_iload_n hx hb dX6_ofCase_43 rfl (lv_at hl 2 rfl) ?_
        refine lv_iconst (v := 2) hx hb dX6_ofCase_44 (by decide) ?_
        refine lv_icmp_ne (tgt := 57) hx hb dX6_ofCase_45 (by decide) (fun c45 => ?_) (fun c45 => ?_)
        · skip
          refine lv_bipush (v := (-2)) hx hb dX6_ofCase_57 (by decide) ?_
          exact W.iret (v := (-2)) hx hb hr (fun t ht hW => ⟨_, rfl, by rw [oOfCase, if_neg (by rw [c11]; decide), if_neg c17, if_neg c31, if_neg c45], ht⟩) (fun _ h => absurd h List.not_mem_nil) dX6_ofCase_59
        · skip
          refine lv_aload_n hx hb dX6_ofCase_48 rfl (lv_at hl 0 rfl) ?_
          refine va_get (D := D) (ci := 6) (v := .ref ymN) (C := RX6) (T := TX6) (N := 21) hx hb hts hiX6 hown hK hP 0 rfl rfl 15 (by decide) hf48 (fun _ h9 => h9) rfl dX6_ofCase_49 ?_
          refine lv_iload_n hx hb dX6_ofCase_52 rfl (lv_at hl 1 rfl) ?_
          refine xald (k := q) hx hb hK hP 3 rfl (by omega) (by decide) dX6_ofCase_53 ?_
          refine lv_goto (tgt := 59) hx hb dX6_ofCase_54 (by decide) ?_
          exact W.iret (v := rCn σ q) hx hb hr (fun t ht hW => ⟨_, rfl, by rw [oOfCase, if_neg (by rw [c11]; decide), if_neg c17, if_neg c31, if_pos c45, kq], ht⟩) (fun _ h => absurd h List.not_mem_nil) dX6_ofCase_59
      · skip
        refine lv_aload_n hx hb dX6_ofCase_34 rfl (lv_at hl 0 rfl) ?_
        refine va_get (D := D) (ci := 6) (v := .ref ymP) (C := RX6) (T := TX6) (N := 21) hx hb hts hiX6 hown hK hP 0 rfl rfl 14 (by decide) hf45 (fun _ h9 => h9) rfl dX6_ofCase_35 ?_
        refine lv_iload_n hx hb dX6_ofCase_38 rfl (lv_at hl 1 rfl) ?_
        refine xald (k := q) hx hb hK hP 2 rfl (by omega) (by decide) dX6_ofCase_39 ?_
        refine lv_goto (tgt := 59) hx hb dX6_ofCase_40 (by decide) ?_
        exact W.iret (v := rCr σ q) hx hb hr (fun t ht hW => ⟨_, rfl, by rw [oOfCase, if_neg (by rw [c11]; decide), if_neg c17, if_pos c31, kq], ht⟩) (fun _ h => absurd h List.not_mem_nil) dX6_ofCase_59
    · skip
      refine lv_aload_n hx hb dX6_ofCase_20 rfl (lv_at hl 0 rfl) ?_
      refine va_get (D := D) (ci := 6) (v := .ref ymQ) (C := RX6) (T := TX6) (N := 21) hx hb hts hiX6 hown hK hP 0 rfl rfl 13 (by decide) hf42 (fun _ h9 => h9) rfl dX6_ofCase_21 ?_
      refine lv_iload_n hx hb dX6_ofCase_24 rfl (lv_at hl 1 rfl) ?_
      refine xald (k := q) hx hb hK hP 1 rfl (by omega) (by decide) dX6_ofCase_25 ?_
      refine lv_goto (tgt := 59) hx hb dX6_ofCase_26 (by decide) ?_
      exact W.iret (v := rCk σ q) hx hb hr (fun t ht hW => ⟨_, rfl, by rw [oOfCase, if_neg (by rw [c11]; decide), if_pos c17, kq], ht⟩) (fun _ h => absurd h List.not_mem_nil) dX6_ofCase_59
  · skip
    have c11 := b2_0 c11
    refine lv_iconst (v := (-1)) hx hb dX6_ofCase_14 (by decide) ?_
    exact W.iret (v := (-1)) hx hb hr (fun t ht hW => ⟨_, rfl, by simp [oOfCase, c11], ht⟩) (fun _ h => absurd h List.not_mem_nil) dX6_ofCase_15

set_option maxHeartbeats 4000000 in
set_option maxRecDepth 100000 in
theorem c_X6_turned (l : Launch) (D : va_G) (cI cZ : ClassId) (ym : Nat) (ymB : Nat) (ymU : Nat) (ymV : Nat) (ymR : Nat) (ymI : Nat) (ymE : Nat) (ymS : Nat) (ymT : Nat) (ymD : Nat) (ymQ : Nat) (ymP : Nat) (ymN : Nat) (ymO : Nat) (ymY : Nat) (ymZ : Nat) (ymX : Nat) (σ : ST) (ir : Nat → Int32) (hok : Ok σ) (hir : ∀ l, l < sN σ → ir l = b2 (bit (sR σ) (nI l))) : Met l yX6_turned wsX6_turned ({ frames := 3, cells := 0, slots := 0, locals := 70 }) (va_Pc [.ref ym] (XP D cI cZ [(ym, .inr (6, [.int (nI (sF σ)), .ref ymB, .int (nI (sN σ)), .ref ymU, .ref ymV, .ref ymR, .ref ymI, .ref ymE, .int (nI (sM σ)), .ref ymS, .ref ymT, .ref ymD, .int (nI (sC σ)), .ref ymQ, .ref ymP, .ref ymN, .int (nI (sG σ)), .ref ymO, .ref ymY, .ref ymZ, .ref ymX])), (ymQ, .inl (cI, 12, .inl (rCk σ))), (ymP, .inl (cI, 12, .inl (rCr σ))), (ymU, .inl (cI, 12, .inl (rMu σ))), (ymV, .inl (cI, 12, .inl (rMn σ))), (ymR, .inl (cI, 12, .inl (rRu σ))), (ymI, .inl (cZ, 12, .inl ir)), (ymE, .inl (cI, 12, .inl (rEr σ)))])) (vp_Si (fun r => r = oTurned σ)) 0 0 (fun _ => False) := by
  refine Met.ofW (cc := cX6_turned) (maxL := 3) (ret := (some .int)) (by decide) rfl ?_
  intro p e s m args below meth c s₁ B hml hv
  obtain ⟨rfl, hP, hK, hN⟩ := hv
  have hx := B.exec
  have hb := B.bytes
  have hr := B.returns
  have hts := atoms_spec (ws := wsX6_turned) B.pre
  have hown : s.vm.findClass RX6 = some m.cls := findClass_of_methodNamed B.named
  have hlocks := B.notSynchronized
  have ho := hok.1
  have hk2 := hok.k
  have hp2 : 1 ≤ 2 ^ sF σ := Nat.two_pow_pos _
  have hf76 := hts (.fieldLink RX6 76 "BallCourtModel" "cases" "I") (List.mem_of_getElem? (i := 1) (by decide +kernel))
  have hiX6 : ∀ w ∈ wsX60, w ∈ wsX6_turned := fun w h => List.mem_cons_of_mem _ (List.mem_append_right _ h)
  have hf45 := hts (.fieldLink RX6 45 "BallCourtModel" "caseRuling" "[I") (List.mem_of_getElem? (i := 2) (by decide +kernel))
  have hf42 := hts (.fieldLink RX6 42 "BallCourtModel" "caseKind" "[I") (List.mem_of_getElem? (i := 3) (by decide +kernel))
  have hl := lv_entry ([.ref ym]) (n := 3) (Nat.le_of_ble_eq_true rfl)
  rw [lg_entry_eq]
  generalize (lg_sl ([.ref ym]) ++ List.replicate (3 - (lg_sl ([.ref ym])).length) Slot.unset).toArray = ls at hl ⊢
  have hl : lv_has ls 3 [(0, .ref ym)] := hl
  refine lv_iconst (v := 0) hx hb dX6_turned_0 (by decide) ?_
  refine lv_istore_n (lv' := [(1, .int 0), (0, .ref ym)]) hx hb dX6_turned_1 rfl hl (by decide) rfl (fun ls hl => ?_)
  refine lv_iconst (v := nI 0) hx hb dX6_turned_2 (by decide) ?_
  refine lv_istore_n (lv' := [(2, .int (nI 0)), (1, .int 0), (0, .ref ym)]) hx hb dX6_turned_3 rfl hl (by decide) rfl (fun ls hl => ?_)
  have hl : lv_has ls 3 [(2, .int (nI 0)), (1, .int (trI σ 0)), (0, .ref ym)] := by rw [← (show 0 = trI σ 0 from rfl)]; exact hl
  refine wloop (α := Nat) (fun v => sC σ - v) (fun v => [(0, .ref ym), (1, .int (trI σ v)), (2, .int (nI v))]) (fun v => (v ≤ sC σ)) 3 (fun v hv ih4 ls hl => ?_) 0 (show 0 ≤ sC σ from Nat.zero_le _) ls (lv_sub hl [2, 1, 0] rfl)
  obtain ⟨i, rfl⟩ : ∃ z : Nat, z = v := ⟨_, rfl⟩
  have hi : i ≤ sC σ := hv
  have hl : lv_has ls 3 [(0, .ref ym), (1, .int (trI σ i)), (2, .int (nI i))] := hl
  refine lv_iload_n hx hb dX6_turned_4 rfl (lv_at hl 2 rfl) ?_
  refine lv_aload_n hx hb dX6_turned_5 rfl (lv_at hl 0 rfl) ?_
  refine va_get (D := D) (ci := 6) (v := .int (nI (sC σ))) (C := RX6) (T := TX6) (N := 21) hx hb hts hiX6 hown hK hP 0 rfl rfl 12 (by decide) hf76 (fun _ h9 => h9) rfl dX6_turned_6 ?_
  refine lv_icmp_ge (tgt := 47) hx hb dX6_turned_9 (by decide) (fun c9 => ?_) (fun c9 => ?_)
  · skip
    have c9 := (nI_leI (by omega) (by omega)).mp c9
    refine lv_iload_n hx hb dX6_turned_47 rfl (lv_at hl 1 rfl) ?_
    exact W.iret (v := trI σ i) hx hb hr (fun t ht hW => ⟨_, rfl, by rw [oTurned, show i = sC σ by omega], ht⟩) (fun _ h => absurd h List.not_mem_nil) dX6_turned_48
  · skip
    have c9 := Nat.lt_of_not_le (fun z => c9 ((nI_leI (by omega) (by omega)).mpr z))
    refine lv_iload_n hx hb dX6_turned_12 rfl (lv_at hl 1 rfl) ?_
    refine lv_aload_n hx hb dX6_turned_13 rfl (lv_at hl 0 rfl) ?_
    refine va_get (D := D) (ci := 6) (v := .ref ymP) (C := RX6) (T := TX6) (N := 21) hx hb hts hiX6 hown hK hP 0 rfl rfl 14 (by decide) hf45 (fun _ h9 => h9) rfl dX6_turned_14 ?_
    refine lv_iload_n hx hb dX6_turned_17 rfl (lv_at hl 2 rfl) ?_
    refine xald (k := i) hx hb hK hP 2 rfl (by omega) (by decide) dX6_turned_18 ?_
    refine lv_aload_n hx hb dX6_turned_19 rfl (lv_at hl 0 rfl) ?_
    refine lv_aload_n hx hb dX6_turned_20 rfl (lv_at hl 0 rfl) ?_
    refine va_get (D := D) (ci := 6) (v := .ref ymQ) (C := RX6) (T := TX6) (N := 21) hx hb hts hiX6 hown hK hP 0 rfl rfl 13 (by decide) hf42 (fun _ h9 => h9) rfl dX6_turned_21 ?_
    refine lv_iload_n hx hb dX6_turned_24 rfl (lv_at hl 2 rfl) ?_
    obtain ⟨a, ha, ea⟩ := hok.ck c9
    have ka := clp ha hk2
    refine xald (k := i) hx hb hK hP 1 rfl (by omega) (by decide) dX6_turned_25 ?_
    refine lv_asi (show rCk σ i = nI a from ea) ?_
    refine xpV (rest := [.int (rCr σ i), .int (trI σ i)]) ⟨hx, hb, hml, hown, hts⟩ (c_X6_rulingFor l D cI cZ ym ymB ymU ymV ymR ymI ymE ymS ymT ymD ymQ ymP ymN ymO ymY ymZ ymX σ ir (sR σ) a hok hir) (cwV 1 hts gX6_turned_X6_rulingFor rfl rfl rfl (by decide +kernel) ⟨Nat.le_of_ble_eq_true rfl, Nat.le_of_ble_eq_true rfl⟩) hP [0, 3, 4, 5, 6, 7] rfl hK hN (ci := 6) (q0 := 0) rfl rfl rfl hl.1 rfl (Nat.le_of_ble_eq_true rfl) dX6_turned_26 ⟨Nat.zero_le _, Nat.zero_le _⟩ (fun r26 e26 => ?_)
    subst e26
    refine lv_icmp_eq (tgt := 38) hx hb dX6_turned_29 (by decide) (fun c29 => ?_) (fun c29 => ?_)
    · skip
      refine lv_iconst (v := 0) hx hb dX6_turned_38 (by decide) ?_
      refine lv_ior hx hb dX6_turned_39 ?_
      refine lv_asi (show (trI σ i) ||| 0 = trI σ (i + 1) from (or_0 _).trans (trI_y (by rw [ea, ka]; exact c29))) ?_
      refine lv_istore_n (lv' := [(1, .int (trI σ (i + 1))), (0, .ref ym), (2, .int (nI i))]) hx hb dX6_turned_40 rfl hl (by decide) rfl (fun ls hl => ?_)
      refine lv_iinc (k := 2) (x := nI i) (v := nI (i + 1)) (lv' := [(2, .int (nI (i + 1))), (1, .int (trI σ (i + 1))), (0, .ref ym)]) hx hb dX6_turned_41 hl rfl (show (nI i) + Int32.ofInt 1 = nI (i + 1) from nI_1 _) (by decide) rfl (fun ls hl => ?_)
      refine lv_goto (tgt := 4) hx hb dX6_turned_44 (by decide) ?_
      exact ih4 (i + 1) (show (i + 1) ≤ sC σ from (by omega)) (by show sC σ - (i + 1) < sC σ - i; omega) ls (lv_sub hl [2, 1, 0] rfl)
    · skip
      refine lv_iconst (v := 1) hx hb dX6_turned_32 (by decide) ?_
      refine lv_iload_n hx hb dX6_turned_33 rfl (lv_at hl 2 rfl) ?_
      refine lv_ishl hx hb dX6_turned_34 ?_
      refine lv_asi (show (1 : Int32) <<< ((nI i) &&& 31) = nI (2 ^ i) from shl1 i (by omega)) ?_
      refine lv_goto (tgt := 39) hx hb dX6_turned_35 (by decide) ?_
      refine lv_ior hx hb dX6_turned_39 ?_
      refine lv_asi (show (trI σ i) ||| (nI (2 ^ i)) = trI σ (i + 1) from trI_n (by rw [ea, ka]; exact c29)) ?_
      refine lv_istore_n (lv' := [(1, .int (trI σ (i + 1))), (0, .ref ym), (2, .int (nI i))]) hx hb dX6_turned_40 rfl hl (by decide) rfl (fun ls hl => ?_)
      refine lv_iinc (k := 2) (x := nI i) (v := nI (i + 1)) (lv' := [(2, .int (nI (i + 1))), (1, .int (trI σ (i + 1))), (0, .ref ym)]) hx hb dX6_turned_41 hl rfl (show (nI i) + Int32.ofInt 1 = nI (i + 1) from nI_1 _) (by decide) rfl (fun ls hl => ?_)
      refine lv_goto (tgt := 4) hx hb dX6_turned_44 (by decide) ?_
      exact ih4 (i + 1) (show (i + 1) ≤ sC σ from (by omega)) (by show sC σ - (i + 1) < sC σ - i; omega) ls (lv_sub hl [2, 1, 0] rfl)

set_option maxHeartbeats 4000000 in
set_option maxRecDepth 100000 in
theorem c_X6_kinds (l : Launch) (D : va_G) (cI cZ : ClassId) (ym : Nat) (ymB : Nat) (ymU : Nat) (ymV : Nat) (ymR : Nat) (ymI : Nat) (ymE : Nat) (ymS : Nat) (ymT : Nat) (ymD : Nat) (ymQ : Nat) (ymP : Nat) (ymN : Nat) (ymO : Nat) (ymY : Nat) (ymZ : Nat) (ymX : Nat) (σ : ST) (ir : Nat → Int32) (cv : Bool) (hok : Ok σ) (hir : ∀ l, l < sN σ → ir l = b2 (bit (sR σ) (nI l))) : Met l yX6_kinds wsX6_kinds ({ frames := 2, cells := 0, slots := 0, locals := 48 }) (va_Pc [.ref ym, .int (b2 cv)] (XP D cI cZ [(ym, .inr (6, [.int (nI (sF σ)), .ref ymB, .int (nI (sN σ)), .ref ymU, .ref ymV, .ref ymR, .ref ymI, .ref ymE, .int (nI (sM σ)), .ref ymS, .ref ymT, .ref ymD, .int (nI (sC σ)), .ref ymQ, .ref ymP, .ref ymN, .int (nI (sG σ)), .ref ymO, .ref ymY, .ref ymZ, .ref ymX])), (ymB, .inl (cI, 7, .inl (rB σ))), (ymU, .inl (cI, 12, .inl (rMu σ))), (ymV, .inl (cI, 12, .inl (rMn σ))), (ymI, .inl (cZ, 12, .inl ir)), (ymE, .inl (cI, 12, .inl (rEr σ)))])) (vp_Si (fun r => r = nI (cnt (fun k => kok σ k && (!cv || covB σ (sR σ) k)) (2 ^ sF σ)))) 0 0 (fun _ => False) := by
  refine Met.ofW (cc := cX6_kinds) (maxL := 4) (ret := (some .int)) (by decide) rfl ?_
  intro p e s m args below meth c s₁ B hml hv
  obtain ⟨rfl, hP, hK, hN⟩ := hv
  have hx := B.exec
  have hb := B.bytes
  have hr := B.returns
  have hts := atoms_spec (ws := wsX6_kinds) B.pre
  have hown : s.vm.findClass RX6 = some m.cls := findClass_of_methodNamed B.named
  have hlocks := B.notSynchronized
  have ho := hok.1
  have hk2 := hok.k
  have hp2 : 1 ≤ 2 ^ sF σ := Nat.two_pow_pos _
  have hl := lv_entry ([.ref ym, .int (b2 cv)]) (n := 4) (Nat.le_of_ble_eq_true rfl)
  rw [lg_entry_eq]
  generalize (lg_sl ([.ref ym, .int (b2 cv)]) ++ List.replicate (4 - (lg_sl ([.ref ym, .int (b2 cv)])).length) Slot.unset).toArray = ls at hl ⊢
  have hl : lv_has ls 4 [(0, .ref ym), (1, .int (b2 cv))] := hl
  refine lv_iconst (v := nI 0) hx hb dX6_kinds_0 (by decide) ?_
  refine lv_istore_n (lv' := [(2, .int (nI 0)), (0, .ref ym), (1, .int (b2 cv))]) hx hb dX6_kinds_1 rfl hl (by decide) rfl (fun ls hl => ?_)
  refine lv_iconst (v := nI 0) hx hb dX6_kinds_2 (by decide) ?_
  refine lv_istore_n (lv' := [(3, .int (nI 0)), (2, .int (nI 0)), (0, .ref ym), (1, .int (b2 cv))]) hx hb dX6_kinds_3 rfl hl (by decide) rfl (fun ls hl => ?_)
  refine wloop (α := Nat) (fun v => 2 ^ sF σ - v) (fun v => [(0, .ref ym), (1, .int (b2 cv)), (2, .int (nI (cnt (fun v => kok σ v && (!cv || covB σ (sR σ) v)) v))), (3, .int (nI v))]) (fun v => (v ≤ 2 ^ sF σ)) 4 (fun v hv ih4 ls hl => ?_) 0 (show 0 ≤ 2 ^ sF σ from Nat.zero_le _) ls (lv_sub hl [2, 3, 1, 0] rfl)
  obtain ⟨k, rfl⟩ : ∃ z : Nat, z = v := ⟨_, rfl⟩
  have hk : k ≤ 2 ^ sF σ := hv
  have hl : lv_has ls 4 [(0, .ref ym), (1, .int (b2 cv)), (2, .int (nI (cnt (fun k => kok σ k && (!cv || covB σ (sR σ) k)) k))), (3, .int (nI k))] := hl
  refine lv_iload_n hx hb dX6_kinds_4 rfl (lv_at hl 3 rfl) ?_
  refine lv_aload_n hx hb dX6_kinds_5 rfl (lv_at hl 0 rfl) ?_
  refine xpV (rest := [.int (nI k)]) ⟨hx, hb, hml, hown, hts⟩ (c_X6_allFacts l D cI cZ ym ymB ymU ymV ymR ymI ymE ymS ymT ymD ymQ ymP ymN ymO ymY ymZ ymX σ hok) (cwV 0 hts gX6_kinds_X6_allFacts rfl rfl rfl (by decide +kernel) ⟨Nat.le_of_ble_eq_true rfl, Nat.le_of_ble_eq_true rfl⟩) hP [0] rfl hK hN (ci := 6) (q0 := 0) rfl rfl rfl hl.1 rfl (Nat.le_of_ble_eq_true rfl) dX6_kinds_6 ⟨Nat.zero_le _, Nat.zero_le _⟩ (fun r6 e6 => ?_)
  subst e6
  refine lv_icmp_gt (tgt := 46) hx hb dX6_kinds_9 (by decide) (fun c9 => ?_) (fun c9 => ?_)
  · skip
    have c9 := (nI_ltI (by omega) (by omega)).mp c9
    refine lv_iload_n hx hb dX6_kinds_46 rfl (lv_at hl 2 rfl) ?_
    exact W.iret (v := nI (cnt (fun k => kok σ k && (!cv || covB σ (sR σ) k)) k)) hx hb hr (fun t ht hW => ⟨_, rfl, by rw [show k = 2 ^ sF σ by omega], ht⟩) (fun _ h => absurd h List.not_mem_nil) dX6_kinds_47
  · skip
    have c9 := Nat.le_of_not_lt (mt (nI_ltI (by omega) (by omega)).mpr c9)
    have c9 : k < 2 ^ sF σ := by omega
    refine lv_iload_n hx hb dX6_kinds_12 rfl (lv_at hl 2 rfl) ?_
    refine lv_aload_n hx hb dX6_kinds_13 rfl (lv_at hl 0 rfl) ?_
    refine lv_iload_n hx hb dX6_kinds_14 rfl (lv_at hl 3 rfl) ?_
    refine xpV (rest := [.int (nI (cnt (fun k => kok σ k && (!cv || covB σ (sR σ) k)) k))]) ⟨hx, hb, hml, hown, hts⟩ (c_X6_isKind l D cI cZ ym ymB ymU ymV ymR ymI ymE ymS ymT ymD ymQ ymP ymN ymO ymY ymZ ymX σ (nI k) hok) (cwV 1 hts gX6_kinds_X6_isKind rfl rfl rfl (by decide +kernel) ⟨Nat.le_of_ble_eq_true rfl, Nat.le_of_ble_eq_true rfl⟩) hP [0, 1] rfl hK hN (ci := 6) (q0 := 0) rfl rfl rfl hl.1 rfl (Nat.le_of_ble_eq_true rfl) dX6_kinds_15 ⟨Nat.zero_le _, Nat.zero_le _⟩ (fun r15 e15 => ?_)
    subst e15
    refine lv_asi (show b2 (kin σ (nI k)) = b2 (kok σ k) from congrArg b2 (kin_nI c9 (by omega))) ?_
    refine lv_if_eq (tgt := 37) hx hb dX6_kinds_18 (by decide) (fun c18 => ?_) (fun c18 => ?_)
    · skip
      have c18 := b2_0 c18
      refine lv_iconst (v := 0) hx hb dX6_kinds_37 (by decide) ?_
      refine lv_iadd hx hb dX6_kinds_38 ?_
      refine lv_asi (show (nI (cnt (fun k => kok σ k && (!cv || covB σ (sR σ) k)) k)) + 0 = nI (cnt (fun k => kok σ k && (!cv || covB σ (sR σ) k)) (k + 1)) from by rw [show (0 : Int32) = nI 0 from rfl, nI_add]; exact congrArg nI (cnt_n (by simp only [c18]; rfl))) ?_
      refine lv_istore_n (lv' := [(2, .int (nI (cnt (fun k => kok σ k && (!cv || covB σ (sR σ) k)) (k + 1)))), (0, .ref ym), (1, .int (b2 cv)), (3, .int (nI k))]) hx hb dX6_kinds_39 rfl hl (by decide) rfl (fun ls hl => ?_)
      refine lv_iinc (k := 3) (x := nI k) (v := nI (k + 1)) (lv' := [(3, .int (nI (k + 1))), (2, .int (nI (cnt (fun k => kok σ k && (!cv || covB σ (sR σ) k)) (k + 1)))), (0, .ref ym), (1, .int (b2 cv))]) hx hb dX6_kinds_40 hl rfl (show (nI k) + Int32.ofInt 1 = nI (k + 1) from nI_1 _) (by decide) rfl (fun ls hl => ?_)
      refine lv_goto (tgt := 4) hx hb dX6_kinds_43 (by decide) ?_
      exact ih4 (k + 1) (show (k + 1) ≤ 2 ^ sF σ from (by omega)) (by show 2 ^ sF σ - (k + 1) < 2 ^ sF σ - k; omega) ls (lv_sub hl [2, 3, 1, 0] rfl)
    · skip
      have c18 := b2_1 c18
      refine lv_iload_n hx hb dX6_kinds_21 rfl (lv_at hl 1 rfl) ?_
      refine lv_if_eq (tgt := 33) hx hb dX6_kinds_22 (by decide) (fun c22 => ?_) (fun c22 => ?_)
      · skip
        have c22 := b2_0 c22
        refine lv_iconst (v := 1) hx hb dX6_kinds_33 (by decide) ?_
        refine lv_goto (tgt := 38) hx hb dX6_kinds_34 (by decide) ?_
        refine lv_iadd hx hb dX6_kinds_38 ?_
        refine lv_asi (show (nI (cnt (fun k => kok σ k && (!cv || covB σ (sR σ) k)) k)) + 1 = nI (cnt (fun k => kok σ k && (!cv || covB σ (sR σ) k)) (k + 1)) from cnt_y (by simp only [c18, c22]; rfl)) ?_
        refine lv_istore_n (lv' := [(2, .int (nI (cnt (fun k => kok σ k && (!cv || covB σ (sR σ) k)) (k + 1)))), (0, .ref ym), (1, .int (b2 cv)), (3, .int (nI k))]) hx hb dX6_kinds_39 rfl hl (by decide) rfl (fun ls hl => ?_)
        refine lv_iinc (k := 3) (x := nI k) (v := nI (k + 1)) (lv' := [(3, .int (nI (k + 1))), (2, .int (nI (cnt (fun k => kok σ k && (!cv || covB σ (sR σ) k)) (k + 1)))), (0, .ref ym), (1, .int (b2 cv))]) hx hb dX6_kinds_40 hl rfl (show (nI k) + Int32.ofInt 1 = nI (k + 1) from nI_1 _) (by decide) rfl (fun ls hl => ?_)
        refine lv_goto (tgt := 4) hx hb dX6_kinds_43 (by decide) ?_
        exact ih4 (k + 1) (show (k + 1) ≤ 2 ^ sF σ from (by omega)) (by show 2 ^ sF σ - (k + 1) < 2 ^ sF σ - k; omega) ls (lv_sub hl [2, 3, 1, 0] rfl)
      · skip
        have c22 := b2_1 c22
        refine lv_aload_n hx hb dX6_kinds_25 rfl (lv_at hl 0 rfl) ?_
        refine lv_iload_n hx hb dX6_kinds_26 rfl (lv_at hl 3 rfl) ?_
        refine xpV (rest := [.int (nI (cnt (fun k => kok σ k && (!cv || covB σ (sR σ) k)) k))]) ⟨hx, hb, hml, hown, hts⟩ (c_X6_lineFor l D cI cZ ym ymB ymU ymV ymR ymI ymE ymS ymT ymD ymQ ymP ymN ymO ymY ymZ ymX σ ir (sR σ) k hok hir) (cwV 1 hts gX6_kinds_X6_lineFor rfl rfl rfl (by decide +kernel) ⟨Nat.le_of_ble_eq_true rfl, Nat.le_of_ble_eq_true rfl⟩) hP [0, 2, 3, 4, 5] rfl hK hN (ci := 6) (q0 := 0) rfl rfl rfl hl.1 rfl (Nat.le_of_ble_eq_true rfl) dX6_kinds_27 ⟨Nat.zero_le _, Nat.zero_le _⟩ (fun r27 e27 => ?_)
        subst e27
        refine lv_if_lt (tgt := 37) hx hb dX6_kinds_30 (by decide) (fun c30 => ?_) (fun c30 => ?_)
        · skip
          have c30 : covB σ (sR σ) k = false := decide_eq_false ((lawI_lt (by omega)).mp c30)
          refine lv_iconst (v := 0) hx hb dX6_kinds_37 (by decide) ?_
          refine lv_iadd hx hb dX6_kinds_38 ?_
          refine lv_asi (show (nI (cnt (fun k => kok σ k && (!cv || covB σ (sR σ) k)) k)) + 0 = nI (cnt (fun k => kok σ k && (!cv || covB σ (sR σ) k)) (k + 1)) from by rw [show (0 : Int32) = nI 0 from rfl, nI_add]; exact congrArg nI (cnt_n (by simp only [c18, c22, c30]; rfl))) ?_
          refine lv_istore_n (lv' := [(2, .int (nI (cnt (fun k => kok σ k && (!cv || covB σ (sR σ) k)) (k + 1)))), (0, .ref ym), (1, .int (b2 cv)), (3, .int (nI k))]) hx hb dX6_kinds_39 rfl hl (by decide) rfl (fun ls hl => ?_)
          refine lv_iinc (k := 3) (x := nI k) (v := nI (k + 1)) (lv' := [(3, .int (nI (k + 1))), (2, .int (nI (cnt (fun k => kok σ k && (!cv || covB σ (sR σ) k)) (k + 1)))), (0, .ref ym), (1, .int (b2 cv))]) hx hb dX6_kinds_40 hl rfl (show (nI k) + Int32.ofInt 1 = nI (k + 1) from nI_1 _) (by decide) rfl (fun ls hl => ?_)
          refine lv_goto (tgt := 4) hx hb dX6_kinds_43 (by decide) ?_
          exact ih4 (k + 1) (show (k + 1) ≤ 2 ^ sF σ from (by omega)) (by show 2 ^ sF σ - (k + 1) < 2 ^ sF σ - k; omega) ls (lv_sub hl [2, 3, 1, 0] rfl)
        · skip
          have c30 : covB σ (sR σ) k = true := decide_eq_true (Classical.byContradiction (fun z => c30 ((lawI_lt (by omega)).mpr z)))
          refine lv_iconst (v := 1) hx hb dX6_kinds_33 (by decide) ?_
          refine lv_goto (tgt := 38) hx hb dX6_kinds_34 (by decide) ?_
          refine lv_iadd hx hb dX6_kinds_38 ?_
          refine lv_asi (show (nI (cnt (fun k => kok σ k && (!cv || covB σ (sR σ) k)) k)) + 1 = nI (cnt (fun k => kok σ k && (!cv || covB σ (sR σ) k)) (k + 1)) from cnt_y (by simp only [c18, c30]; cases cv <;> rfl)) ?_
          refine lv_istore_n (lv' := [(2, .int (nI (cnt (fun k => kok σ k && (!cv || covB σ (sR σ) k)) (k + 1)))), (0, .ref ym), (1, .int (b2 cv)), (3, .int (nI k))]) hx hb dX6_kinds_39 rfl hl (by decide) rfl (fun ls hl => ?_)
          refine lv_iinc (k := 3) (x := nI k) (v := nI (k + 1)) (lv' := [(3, .int (nI (k + 1))), (2, .int (nI (cnt (fun k => kok σ k && (!cv || covB σ (sR σ) k)) (k + 1)))), (0, .ref ym), (1, .int (b2 cv))]) hx hb dX6_kinds_40 hl rfl (show (nI k) + Int32.ofInt 1 = nI (k + 1) from nI_1 _) (by decide) rfl (fun ls hl => ?_)
          refine lv_goto (tgt := 4) hx hb dX6_kinds_43 (by decide) ?_
          exact ih4 (k + 1) (show (k + 1) ≤ 2 ^ sF σ from (by omega)) (by show 2 ^ sF σ - (k + 1) < 2 ^ sF σ - k; omega) ls (lv_sub hl [2, 3, 1, 0] rfl)

set_option maxHeartbeats 4000000 in
set_option maxRecDepth 100000 in
theorem c_X6_told (l : Launch) (D : va_G) (cI cZ : ClassId) (ym : Nat) (ymB : Nat) (ymU : Nat) (ymV : Nat) (ymR : Nat) (ymI : Nat) (ymE : Nat) (ymS : Nat) (ymT : Nat) (ymD : Nat) (ymQ : Nat) (ymP : Nat) (ymN : Nat) (ymO : Nat) (ymY : Nat) (ymZ : Nat) (ymX : Nat) (σ : ST) (ir : Nat → Int32) (w : Int32) (hok : Ok σ) (hir : ∀ l, l < sN σ → ir l = b2 (bit (sR σ) (nI l))) : Met l yX6_told wsX6_told ({ frames := 3, cells := 0, slots := 0, locals := 71 }) (va_Pc [.ref ym, .int w] (XP D cI cZ [(ym, .inr (6, [.int (nI (sF σ)), .ref ymB, .int (nI (sN σ)), .ref ymU, .ref ymV, .ref ymR, .ref ymI, .ref ymE, .int (nI (sM σ)), .ref ymS, .ref ymT, .ref ymD, .int (nI (sC σ)), .ref ymQ, .ref ymP, .ref ymN, .int (nI (sG σ)), .ref ymO, .ref ymY, .ref ymZ, .ref ymX])), (ymB, .inl (cI, 7, .inl (rB σ))), (ymU, .inl (cI, 12, .inl (rMu σ))), (ymV, .inl (cI, 12, .inl (rMn σ))), (ymI, .inl (cZ, 12, .inl ir)), (ymE, .inl (cI, 12, .inl (rEr σ)))])) (vp_Si (fun r => r = oTold σ w)) 0 0 (fun _ => False) := by
  refine Met.ofW (cc := cX6_told) (maxL := 2) (ret := (some .int)) (by decide) rfl ?_
  intro p e s m args below meth c s₁ B hml hv
  obtain ⟨rfl, hP, hK, hN⟩ := hv
  have hx := B.exec
  have hb := B.bytes
  have hr := B.returns
  have hts := atoms_spec (ws := wsX6_told) B.pre
  have hown : s.vm.findClass RX6 = some m.cls := findClass_of_methodNamed B.named
  have hlocks := B.notSynchronized
  have ho := hok.1
  have hk2 := hok.k
  have hp2 : 1 ≤ 2 ^ sF σ := Nat.two_pow_pos _
  have hf7 := hts (.fieldLink RX6 7 "BallCourtModel" "facts" "I") (List.mem_of_getElem? (i := 1) (by decide +kernel))
  have hiX6 : ∀ w ∈ wsX60, w ∈ wsX6_told := fun w h => List.mem_cons_of_mem _ (List.mem_append_right _ h)
  have hf70 := hts (.fieldLink RX6 70 "BallCourtModel" "lines" "I") (List.mem_of_getElem? (i := 2) (by decide +kernel))
  have hf73 := hts (.fieldLink RX6 73 "BallCourtModel" "moments" "I") (List.mem_of_getElem? (i := 3) (by decide +kernel))
  have hf76 := hts (.fieldLink RX6 76 "BallCourtModel" "cases" "I") (List.mem_of_getElem? (i := 4) (by decide +kernel))
  have hf51 := hts (.fieldLink RX6 51 "BallCourtModel" "goal" "I") (List.mem_of_getElem? (i := 5) (by decide +kernel))
  have hl := lv_entry ([.ref ym, .int w]) (n := 2) (Nat.le_of_ble_eq_true rfl)
  rw [lg_entry_eq]
  generalize (lg_sl ([.ref ym, .int w]) ++ List.replicate (2 - (lg_sl ([.ref ym, .int w])).length) Slot.unset).toArray = ls at hl ⊢
  have hl : lv_has ls 2 [(0, .ref ym), (1, .int w)] := hl
  refine lv_iload_n hx hb dX6_told_0 rfl (lv_at hl 1 rfl) ?_
  rcases sw7 w with c1 | c1 | c1 | c1 | c1 | c1 | c1 | c1
  · skip
    subst c1
    refine lv_tableIn (off := 43) (tgt := 44) hx hb dX6_told_1 (by decide) (by decide) (by decide) (by decide) ?_
    refine lv_aload_n hx hb dX6_told_44 rfl (lv_at hl 0 rfl) ?_
    refine va_get (D := D) (ci := 6) (v := .int (nI (sF σ))) (C := RX6) (T := TX6) (N := 21) hx hb hts hiX6 hown hK hP 0 rfl rfl 0 (by decide) hf7 (fun _ h9 => h9) rfl dX6_told_45 ?_
    exact W.iret (v := nI (sF σ)) hx hb hr (fun t ht hW => ⟨_, rfl, by simp [oTold], ht⟩) (fun _ h => absurd h List.not_mem_nil) dX6_told_48
  · skip
    subst c1
    refine lv_tableIn (off := 48) (tgt := 49) hx hb dX6_told_1 (by decide) (by decide) (by decide) (by decide) ?_
    refine lv_aload_n hx hb dX6_told_49 rfl (lv_at hl 0 rfl) ?_
    refine lv_iconst (v := b2 false) hx hb dX6_told_50 (by decide) ?_
    refine xpV (rest := []) ⟨hx, hb, hml, hown, hts⟩ (c_X6_kinds l D cI cZ ym ymB ymU ymV ymR ymI ymE ymS ymT ymD ymQ ymP ymN ymO ymY ymZ ymX σ ir false hok hir) (cwV 1 hts gX6_told_X6_kinds rfl rfl rfl (by decide +kernel) ⟨Nat.le_of_ble_eq_true rfl, Nat.le_of_ble_eq_true rfl⟩) hP [0, 1, 2, 3, 4, 5] rfl hK hN (ci := 6) (q0 := 0) rfl rfl rfl hl.1 rfl (Nat.le_of_ble_eq_true rfl) dX6_told_51 ⟨Nat.zero_le _, Nat.zero_le _⟩ (fun r51 e51 => ?_)
    subst e51
    exact W.iret (v := nI (cnt (fun k => kok σ k && (!false || covB σ (sR σ) k)) (2 ^ sF σ))) hx hb hr (fun t ht hW => ⟨_, rfl, by rw [oTold, if_neg (by decide), if_pos rfl]; exact congrArg nI (cnt_cong (fun k _ => by simp [mbB])), ht⟩) (fun _ h => absurd h List.not_mem_nil) dX6_told_54
  · skip
    subst c1
    refine lv_tableIn (off := 54) (tgt := 55) hx hb dX6_told_1 (by decide) (by decide) (by decide) (by decide) ?_
    refine lv_aload_n hx hb dX6_told_55 rfl (lv_at hl 0 rfl) ?_
    refine va_get (D := D) (ci := 6) (v := .int (nI (sN σ))) (C := RX6) (T := TX6) (N := 21) hx hb hts hiX6 hown hK hP 0 rfl rfl 2 (by decide) hf70 (fun _ h9 => h9) rfl dX6_told_56 ?_
    exact W.iret (v := nI (sN σ)) hx hb hr (fun t ht hW => ⟨_, rfl, by simp [oTold], ht⟩) (fun _ h => absurd h List.not_mem_nil) dX6_told_59
  · skip
    subst c1
    refine lv_tableIn (off := 59) (tgt := 60) hx hb dX6_told_1 (by decide) (by decide) (by decide) (by decide) ?_
    refine lv_aload_n hx hb dX6_told_60 rfl (lv_at hl 0 rfl) ?_
    refine va_get (D := D) (ci := 6) (v := .int (nI (sM σ))) (C := RX6) (T := TX6) (N := 21) hx hb hts hiX6 hown hK hP 0 rfl rfl 8 (by decide) hf73 (fun _ h9 => h9) rfl dX6_told_61 ?_
    exact W.iret (v := nI (sM σ)) hx hb hr (fun t ht hW => ⟨_, rfl, by simp [oTold], ht⟩) (fun _ h => absurd h List.not_mem_nil) dX6_told_64
  · skip
    subst c1
    refine lv_tableIn (off := 64) (tgt := 65) hx hb dX6_told_1 (by decide) (by decide) (by decide) (by decide) ?_
    refine lv_aload_n hx hb dX6_told_65 rfl (lv_at hl 0 rfl) ?_
    refine va_get (D := D) (ci := 6) (v := .int (nI (sC σ))) (C := RX6) (T := TX6) (N := 21) hx hb hts hiX6 hown hK hP 0 rfl rfl 12 (by decide) hf76 (fun _ h9 => h9) rfl dX6_told_66 ?_
    exact W.iret (v := nI (sC σ)) hx hb hr (fun t ht hW => ⟨_, rfl, by simp [oTold], ht⟩) (fun _ h => absurd h List.not_mem_nil) dX6_told_69
  · skip
    subst c1
    refine lv_tableIn (off := 69) (tgt := 70) hx hb dX6_told_1 (by decide) (by decide) (by decide) (by decide) ?_
    refine lv_aload_n hx hb dX6_told_70 rfl (lv_at hl 0 rfl) ?_
    refine va_get (D := D) (ci := 6) (v := .int (nI (sG σ))) (C := RX6) (T := TX6) (N := 21) hx hb hts hiX6 hown hK hP 0 rfl rfl 16 (by decide) hf51 (fun _ h9 => h9) rfl dX6_told_71 ?_
    exact W.iret (v := nI (sG σ)) hx hb hr (fun t ht hW => ⟨_, rfl, by simp [oTold], ht⟩) (fun _ h => absurd h List.not_mem_nil) dX6_told_74
  · skip
    subst c1
    refine lv_tableIn (off := 74) (tgt := 75) hx hb dX6_told_1 (by decide) (by decide) (by decide) (by decide) ?_
    refine lv_aload_n hx hb dX6_told_75 rfl (lv_at hl 0 rfl) ?_
    refine lv_iconst (v := b2 true) hx hb dX6_told_76 (by decide) ?_
    refine xpV (rest := []) ⟨hx, hb, hml, hown, hts⟩ (c_X6_kinds l D cI cZ ym ymB ymU ymV ymR ymI ymE ymS ymT ymD ymQ ymP ymN ymO ymY ymZ ymX σ ir true hok hir) (cwV 1 hts gX6_told_X6_kinds rfl rfl rfl (by decide +kernel) ⟨Nat.le_of_ble_eq_true rfl, Nat.le_of_ble_eq_true rfl⟩) hP [0, 1, 2, 3, 4, 5] rfl hK hN (ci := 6) (q0 := 0) rfl rfl rfl hl.1 rfl (Nat.le_of_ble_eq_true rfl) dX6_told_77 ⟨Nat.zero_le _, Nat.zero_le _⟩ (fun r77 e77 => ?_)
    subst e77
    exact W.iret (v := nI (cnt (fun k => kok σ k && (!true || covB σ (sR σ) k)) (2 ^ sF σ))) hx hb hr (fun t ht hW => ⟨_, rfl, by rw [oTold]; simp only [show ¬ (6 : Int32) = 0 by decide, show ¬ (6 : Int32) = 1 by decide, show ¬ (6 : Int32) = 2 by decide, show ¬ (6 : Int32) = 3 by decide, show ¬ (6 : Int32) = 4 by decide, show ¬ (6 : Int32) = 5 by decide, if_false, if_true]; rfl, ht⟩) (fun _ h => absurd h List.not_mem_nil) dX6_told_80
  · skip
    refine lv_tableOut (tgt := 81) hx hb dX6_told_1 c1 (by decide) ?_
    have n0 := sw_ne c1 (k := 0) (by decide) (by decide)
    have n1 := sw_ne c1 (k := 1) (by decide) (by decide)
    have n2 := sw_ne c1 (k := 2) (by decide) (by decide)
    have n3 := sw_ne c1 (k := 3) (by decide) (by decide)
    have n4 := sw_ne c1 (k := 4) (by decide) (by decide)
    have n5 := sw_ne c1 (k := 5) (by decide) (by decide)
    have n6 := sw_ne c1 (k := 6) (by decide) (by decide)
    refine lv_bipush (v := (-2)) hx hb dX6_told_81 (by decide) ?_
    exact W.iret (v := (-2)) hx hb hr (fun t ht hW => ⟨_, rfl, by simp [oTold, n0, n1, n2, n3, n4, n5, n6], ht⟩) (fun _ h => absurd h List.not_mem_nil) dX6_told_83
