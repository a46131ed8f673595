set_option maxHeartbeats 4000000 in
set_option maxRecDepth 100000 in
theorem c_X5_hasBit (l : Launch) (D : va_G) (cI cZ : ClassId) (a : Int32) (b : Int32) : Met l yX5_hasBit wsX5_hasBit ({ frames := 0, cells := 0, slots := 0, locals := 0 }) (va_Pc [.int a, .int b] (XP D cI cZ [])) (vp_Si (fun r => r = b2 (bit a b))) 0 0 (fun _ => False) := by
  refine Met.ofW (cc := cX5_hasBit) (maxL := 2) (ret := (some .boolean)) (by decide) rfl ?_
  intro p e s m args below meth c s₁ B hml hv
  obtain ⟨rfl, hP, hK, hN⟩ := hv
  have hx := B.exec
  have hb := B.bytes
  have hr := B.returns
  have hts := atoms_spec (ws := wsX5_hasBit) B.pre
  have hown : s.vm.findClass RX5 = some m.cls := findClass_of_methodNamed B.named
  have hlocks := B.notSynchronized
  have hl := lv_entry ([.int a, .int b]) (n := 2) (Nat.le_of_ble_eq_true rfl)
  rw [lg_entry_eq]
  generalize (lg_sl ([.int a, .int b]) ++ List.replicate (2 - (lg_sl ([.int a, .int b])).length) Slot.unset).toArray = ls at hl ⊢
  have hl : lv_has ls 2 [(0, .int a), (1, .int b)] := hl
  refine lv_iload_n hx hb dX5_hasBit_0 rfl (lv_at hl 0 rfl) ?_
  refine lv_iload_n hx hb dX5_hasBit_1 rfl (lv_at hl 1 rfl) ?_
  refine lv_ishr hx hb dX5_hasBit_2 ?_
  refine lv_iconst (v := 1) hx hb dX5_hasBit_3 (by decide) ?_
  refine lv_iand hx hb dX5_hasBit_4 ?_
  refine lv_asi (show (a >>> (b &&& 31)) &&& 1 = b2 (bit a b) from hb_b2 _ _) ?_
  refine lv_if_eq (tgt := 12) hx hb dX5_hasBit_5 (by decide) (fun c5 => ?_) (fun c5 => ?_)
  · skip
    have c5 := b2_0 c5
    refine lv_iconst (v := 0) hx hb dX5_hasBit_12 (by decide) ?_
    exact W.zret (v := 0) (ty := .boolean) hx hb hr rfl (fun t ht hW => ⟨_, rfl, by simp [c5, b2], ht⟩) (fun _ h => absurd h List.not_mem_nil) dX5_hasBit_13
  · skip
    have c5 := b2_1 c5
    refine lv_iconst (v := 1) hx hb dX5_hasBit_8 (by decide) ?_
    refine lv_goto (tgt := 13) hx hb dX5_hasBit_9 (by decide) ?_
    exact W.zret (v := 1) (ty := .boolean) hx hb hr rfl (fun t ht hW => ⟨_, rfl, by simp [c5, b2], ht⟩) (fun _ h => absurd h List.not_mem_nil) dX5_hasBit_13

set_option maxHeartbeats 4000000 in
set_option maxRecDepth 100000 in
theorem c_X5_oneIf (l : Launch) (D : va_G) (cI cZ : ClassId) (a : Bool) : Met l yX5_oneIf wsX5_oneIf ({ frames := 0, cells := 0, slots := 0, locals := 0 }) (va_Pc [.int (b2 a)] (XP D cI cZ [])) (vp_Si (fun r => r = b2 a)) 0 0 (fun _ => False) := by
  refine Met.ofW (cc := cX5_oneIf) (maxL := 1) (ret := (some .int)) (by decide) rfl ?_
  intro p e s m args below meth c s₁ B hml hv
  obtain ⟨rfl, hP, hK, hN⟩ := hv
  have hx := B.exec
  have hb := B.bytes
  have hr := B.returns
  have hts := atoms_spec (ws := wsX5_oneIf) B.pre
  have hown : s.vm.findClass RX5 = some m.cls := findClass_of_methodNamed B.named
  have hlocks := B.notSynchronized
  have hl := lv_entry ([.int (b2 a)]) (n := 1) (Nat.le_of_ble_eq_true rfl)
  rw [lg_entry_eq]
  generalize (lg_sl ([.int (b2 a)]) ++ List.replicate (1 - (lg_sl ([.int (b2 a)])).length) Slot.unset).toArray = ls at hl ⊢
  have hl : lv_has ls 1 [(0, .int (b2 a))] := hl
  refine lv_iload_n hx hb dX5_oneIf_0 rfl (lv_at hl 0 rfl) ?_
  refine lv_if_eq (tgt := 8) hx hb dX5_oneIf_1 (by decide) (fun c1 => ?_) (fun c1 => ?_)
  · skip
    have c1 := b2_0 c1
    refine lv_iconst (v := 0) hx hb dX5_oneIf_8 (by decide) ?_
    exact W.iret (v := 0) hx hb hr (fun t ht hW => ⟨_, rfl, by simp [c1, b2], ht⟩) (fun _ h => absurd h List.not_mem_nil) dX5_oneIf_9
  · skip
    have c1 := b2_1 c1
    refine lv_iconst (v := 1) hx hb dX5_oneIf_4 (by decide) ?_
    refine lv_goto (tgt := 9) hx hb dX5_oneIf_5 (by decide) ?_
    exact W.iret (v := 1) hx hb hr (fun t ht hW => ⟨_, rfl, by simp [c1, b2], ht⟩) (fun _ h => absurd h List.not_mem_nil) dX5_oneIf_9

set_option maxHeartbeats 4000000 in
set_option maxRecDepth 100000 in
theorem c_X5_isRuling (l : Launch) (D : va_G) (cI cZ : ClassId) (x : Int32) : Met l yX5_isRuling wsX5_isRuling ({ frames := 0, cells := 0, slots := 0, locals := 0 }) (va_Pc [.int x] (XP D cI cZ [])) (vp_Si (fun r => r = b2 (inI x 0 4))) 0 0 (fun _ => False) := by
  refine Met.ofW (cc := cX5_isRuling) (maxL := 1) (ret := (some .boolean)) (by decide) rfl ?_
  intro p e s m args below meth c s₁ B hml hv
  obtain ⟨rfl, hP, hK, hN⟩ := hv
  have hx := B.exec
  have hb := B.bytes
  have hr := B.returns
  have hts := atoms_spec (ws := wsX5_isRuling) B.pre
  have hown : s.vm.findClass RX5 = some m.cls := findClass_of_methodNamed B.named
  have hlocks := B.notSynchronized
  have hl := lv_entry ([.int x]) (n := 1) (Nat.le_of_ble_eq_true rfl)
  rw [lg_entry_eq]
  generalize (lg_sl ([.int x]) ++ List.replicate (1 - (lg_sl ([.int x])).length) Slot.unset).toArray = ls at hl ⊢
  have hl : lv_has ls 1 [(0, .int x)] := hl
  refine lv_iload_n hx hb dX5_isRuling_0 rfl (lv_at hl 0 rfl) ?_
  refine lv_if_lt (tgt := 13) hx hb dX5_isRuling_1 (by decide) (fun c1 => ?_) (fun c1 => ?_)
  · skip
    refine lv_iconst (v := 0) hx hb dX5_isRuling_13 (by decide) ?_
    exact W.zret (v := 0) (ty := .boolean) hx hb hr rfl (fun t ht hW => ⟨_, rfl, by simp [c1, b2, inI], ht⟩) (fun _ h => absurd h List.not_mem_nil) dX5_isRuling_14
  · skip
    refine lv_iload_n hx hb dX5_isRuling_4 rfl (lv_at hl 0 rfl) ?_
    refine lv_iconst (v := 4) hx hb dX5_isRuling_5 (by decide) ?_
    refine lv_icmp_gt (tgt := 13) hx hb dX5_isRuling_6 (by decide) (fun c6 => ?_) (fun c6 => ?_)
    · skip
      refine lv_iconst (v := 0) hx hb dX5_isRuling_13 (by decide) ?_
      exact W.zret (v := 0) (ty := .boolean) hx hb hr rfl (fun t ht hW => ⟨_, rfl, by simp [c1, c6, b2, inI], ht⟩) (fun _ h => absurd h List.not_mem_nil) dX5_isRuling_14
    · skip
      refine lv_iconst (v := 1) hx hb dX5_isRuling_9 (by decide) ?_
      refine lv_goto (tgt := 14) hx hb dX5_isRuling_10 (by decide) ?_
      exact W.zret (v := 1) (ty := .boolean) hx hb hr rfl (fun t ht hW => ⟨_, rfl, by simp [c1, c6, b2, inI], ht⟩) (fun _ h => absurd h List.not_mem_nil) dX5_isRuling_14

set_option maxHeartbeats 4000000 in
set_option maxRecDepth 100000 in
theorem c_X0_hasFact (l : Launch) (D : va_G) (cI cZ : ClassId) (zB : Nat) (zK : Nat) (zW : Nat) (zU : Nat) (zV : Nat) (zR : Nat) (zE : Nat) (σ : ST) (x : Int32) : Met l yX0_hasFact wsX0_hasFact ({ frames := 0, cells := 0, slots := 0, locals := 0 }) (va_Pc [.ref zB, .int x] (XP D cI cZ [(zB, .inr (0, [.int (nI (sF σ)), .int (nI (2 ^ sF σ)), .ref zK, .ref zW, .int (nI (sN σ)), .int (sR σ), .int (orE (rEr σ) (sN σ)), .ref zU, .ref zV, .ref zR, .ref zE]))])) (vp_Si (fun r => r = b2 (inN x (sF σ)))) 0 0 (fun _ => False) := by
  refine Met.ofW (cc := cX0_hasFact) (maxL := 2) (ret := (some .boolean)) (by decide) rfl ?_
  intro p e s m args below meth c s₁ B hml hv
  obtain ⟨rfl, hP, hK, hN⟩ := hv
  have hx := B.exec
  have hb := B.bytes
  have hr := B.returns
  have hts := atoms_spec (ws := wsX0_hasFact) B.pre
  have hown : s.vm.findClass RX0 = some m.cls := findClass_of_methodNamed B.named
  have hlocks := B.notSynchronized
  have hf31 := hts (.fieldLink RX0 31 "BallCourt$Book" "facts" "I") (List.mem_of_getElem? (i := 1) (by decide +kernel))
  have hiX0 : ∀ w ∈ wsX00, w ∈ wsX0_hasFact := fun w h => List.mem_cons_of_mem _ (List.mem_append_right _ h)
  have hl := lv_entry ([.ref zB, .int x]) (n := 2) (Nat.le_of_ble_eq_true rfl)
  rw [lg_entry_eq]
  generalize (lg_sl ([.ref zB, .int x]) ++ List.replicate (2 - (lg_sl ([.ref zB, .int x])).length) Slot.unset).toArray = ls at hl ⊢
  have hl : lv_has ls 2 [(0, .ref zB), (1, .int x)] := hl
  refine lv_iload_n hx hb dX0_hasFact_0 rfl (lv_at hl 1 rfl) ?_
  refine lv_if_lt (tgt := 16) hx hb dX0_hasFact_1 (by decide) (fun c1 => ?_) (fun c1 => ?_)
  · skip
    refine lv_iconst (v := 0) hx hb dX0_hasFact_16 (by decide) ?_
    exact W.zret (v := 0) (ty := .boolean) hx hb hr rfl (fun t ht hW => ⟨_, rfl, by simp [c1, b2, inN], ht⟩) (fun _ h => absurd h List.not_mem_nil) dX0_hasFact_17
  · skip
    refine lv_iload_n hx hb dX0_hasFact_4 rfl (lv_at hl 1 rfl) ?_
    refine lv_aload_n hx hb dX0_hasFact_5 rfl (lv_at hl 0 rfl) ?_
    refine va_get (D := D) (ci := 0) (v := .int (nI (sF σ))) (C := RX0) (T := TX0) (N := 11) hx hb hts hiX0 hown hK hP 0 rfl rfl 0 (by decide) hf31 (fun _ h9 => h9) rfl dX0_hasFact_6 ?_
    refine lv_icmp_ge (tgt := 16) hx hb dX0_hasFact_9 (by decide) (fun c9 => ?_) (fun c9 => ?_)
    · skip
      refine lv_iconst (v := 0) hx hb dX0_hasFact_16 (by decide) ?_
      exact W.zret (v := 0) (ty := .boolean) hx hb hr rfl (fun t ht hW => ⟨_, rfl, by simp [c1, c9, b2, inN], ht⟩) (fun _ h => absurd h List.not_mem_nil) dX0_hasFact_17
    · skip
      refine lv_iconst (v := 1) hx hb dX0_hasFact_12 (by decide) ?_
      refine lv_goto (tgt := 17) hx hb dX0_hasFact_13 (by decide) ?_
      exact W.zret (v := 1) (ty := .boolean) hx hb hr rfl (fun t ht hW => ⟨_, rfl, by simp [c1, c9, b2, inN], ht⟩) (fun _ h => absurd h List.not_mem_nil) dX0_hasFact_17

set_option maxHeartbeats 4000000 in
set_option maxRecDepth 100000 in
theorem c_X0_areFacts (l : Launch) (D : va_G) (cI cZ : ClassId) (zB : Nat) (zK : Nat) (zW : Nat) (zU : Nat) (zV : Nat) (zR : Nat) (zE : Nat) (σ : ST) (x : Int32) : Met l yX0_areFacts wsX0_areFacts ({ frames := 0, cells := 0, slots := 0, locals := 0 }) (va_Pc [.ref zB, .int x] (XP D cI cZ [(zB, .inr (0, [.int (nI (sF σ)), .int (nI (2 ^ sF σ)), .ref zK, .ref zW, .int (nI (sN σ)), .int (sR σ), .int (orE (rEr σ) (sN σ)), .ref zU, .ref zV, .ref zR, .ref zE]))])) (vp_Si (fun r => r = b2 (inN x (2 ^ sF σ)))) 0 0 (fun _ => False) := by
  refine Met.ofW (cc := cX0_areFacts) (maxL := 2) (ret := (some .boolean)) (by decide) rfl ?_
  intro p e s m args below meth c s₁ B hml hv
  obtain ⟨rfl, hP, hK, hN⟩ := hv
  have hx := B.exec
  have hb := B.bytes
  have hr := B.returns
  have hts := atoms_spec (ws := wsX0_areFacts) B.pre
  have hown : s.vm.findClass RX0 = some m.cls := findClass_of_methodNamed B.named
  have hlocks := B.notSynchronized
  have hf35 := hts (.fieldLink RX0 35 "BallCourt$Book" "numbers" "I") (List.mem_of_getElem? (i := 1) (by decide +kernel))
  have hiX0 : ∀ w ∈ wsX00, w ∈ wsX0_areFacts := fun w h => List.mem_cons_of_mem _ (List.mem_append_right _ h)
  have hl := lv_entry ([.ref zB, .int x]) (n := 2) (Nat.le_of_ble_eq_true rfl)
  rw [lg_entry_eq]
  generalize (lg_sl ([.ref zB, .int x]) ++ List.replicate (2 - (lg_sl ([.ref zB, .int x])).length) Slot.unset).toArray = ls at hl ⊢
  have hl : lv_has ls 2 [(0, .ref zB), (1, .int x)] := hl
  refine lv_iload_n hx hb dX0_areFacts_0 rfl (lv_at hl 1 rfl) ?_
  refine lv_if_lt (tgt := 16) hx hb dX0_areFacts_1 (by decide) (fun c1 => ?_) (fun c1 => ?_)
  · skip
    refine lv_iconst (v := 0) hx hb dX0_areFacts_16 (by decide) ?_
    exact W.zret (v := 0) (ty := .boolean) hx hb hr rfl (fun t ht hW => ⟨_, rfl, by simp [c1, b2, inN], ht⟩) (fun _ h => absurd h List.not_mem_nil) dX0_areFacts_17
  · skip
    refine lv_iload_n hx hb dX0_areFacts_4 rfl (lv_at hl 1 rfl) ?_
    refine lv_aload_n hx hb dX0_areFacts_5 rfl (lv_at hl 0 rfl) ?_
    refine va_get (D := D) (ci := 0) (v := .int (nI (2 ^ sF σ))) (C := RX0) (T := TX0) (N := 11) hx hb hts hiX0 hown hK hP 0 rfl rfl 1 (by decide) hf35 (fun _ h9 => h9) rfl dX0_areFacts_6 ?_
    refine lv_icmp_ge (tgt := 16) hx hb dX0_areFacts_9 (by decide) (fun c9 => ?_) (fun c9 => ?_)
    · skip
      refine lv_iconst (v := 0) hx hb dX0_areFacts_16 (by decide) ?_
      exact W.zret (v := 0) (ty := .boolean) hx hb hr rfl (fun t ht hW => ⟨_, rfl, by simp [c1, c9, b2, inN], ht⟩) (fun _ h => absurd h List.not_mem_nil) dX0_areFacts_17
    · skip
      refine lv_iconst (v := 1) hx hb dX0_areFacts_12 (by decide) ?_
      refine lv_goto (tgt := 17) hx hb dX0_areFacts_13 (by decide) ?_
      exact W.zret (v := 1) (ty := .boolean) hx hb hr rfl (fun t ht hW => ⟨_, rfl, by simp [c1, c9, b2, inN], ht⟩) (fun _ h => absurd h List.not_mem_nil) dX0_areFacts_17

set_option maxHeartbeats 4000000 in
set_option maxRecDepth 100000 in
theorem c_X0_hasLine (l : Launch) (D : va_G) (cI cZ : ClassId) (zB : Nat) (zK : Nat) (zW : Nat) (zU : Nat) (zV : Nat) (zR : Nat) (zE : Nat) (σ : ST) (x : Int32) : Met l yX0_hasLine wsX0_hasLine ({ frames := 0, cells := 0, slots := 0, locals := 0 }) (va_Pc [.ref zB, .int x] (XP D cI cZ [(zB, .inr (0, [.int (nI (sF σ)), .int (nI (2 ^ sF σ)), .ref zK, .ref zW, .int (nI (sN σ)), .int (sR σ), .int (orE (rEr σ) (sN σ)), .ref zU, .ref zV, .ref zR, .ref zE]))])) (vp_Si (fun r => r = b2 (inN x (sN σ)))) 0 0 (fun _ => False) := by
  refine Met.ofW (cc := cX0_hasLine) (maxL := 2) (ret := (some .boolean)) (by decide) rfl ?_
  intro p e s m args below meth c s₁ B hml hv
  obtain ⟨rfl, hP, hK, hN⟩ := hv
  have hx := B.exec
  have hb := B.bytes
  have hr := B.returns
  have hts := atoms_spec (ws := wsX0_hasLine) B.pre
  have hown : s.vm.findClass RX0 = some m.cls := findClass_of_methodNamed B.named
  have hlocks := B.notSynchronized
  have hf38 := hts (.fieldLink RX0 38 "BallCourt$Book" "lines" "I") (List.mem_of_getElem? (i := 1) (by decide +kernel))
  have hiX0 : ∀ w ∈ wsX00, w ∈ wsX0_hasLine := fun w h => List.mem_cons_of_mem _ (List.mem_append_right _ h)
  have hl := lv_entry ([.ref zB, .int x]) (n := 2) (Nat.le_of_ble_eq_true rfl)
  rw [lg_entry_eq]
  generalize (lg_sl ([.ref zB, .int x]) ++ List.replicate (2 - (lg_sl ([.ref zB, .int x])).length) Slot.unset).toArray = ls at hl ⊢
  have hl : lv_has ls 2 [(0, .ref zB), (1, .int x)] := hl
  refine lv_iload_n hx hb dX0_hasLine_0 rfl (lv_at hl 1 rfl) ?_
  refine lv_if_lt (tgt := 16) hx hb dX0_hasLine_1 (by decide) (fun c1 => ?_) (fun c1 => ?_)
  · skip
    refine lv_iconst (v := 0) hx hb dX0_hasLine_16 (by decide) ?_
    exact W.zret (v := 0) (ty := .boolean) hx hb hr rfl (fun t ht hW => ⟨_, rfl, by simp [c1, b2, inN], ht⟩) (fun _ h => absurd h List.not_mem_nil) dX0_hasLine_17
  · skip
    refine lv_iload_n hx hb dX0_hasLine_4 rfl (lv_at hl 1 rfl) ?_
    refine lv_aload_n hx hb dX0_hasLine_5 rfl (lv_at hl 0 rfl) ?_
    refine va_get (D := D) (ci := 0) (v := .int (nI (sN σ))) (C := RX0) (T := TX0) (N := 11) hx hb hts hiX0 hown hK hP 0 rfl rfl 4 (by decide) hf38 (fun _ h9 => h9) rfl dX0_hasLine_6 ?_
    refine lv_icmp_ge (tgt := 16) hx hb dX0_hasLine_9 (by decide) (fun c9 => ?_) (fun c9 => ?_)
    · skip
      refine lv_iconst (v := 0) hx hb dX0_hasLine_16 (by decide) ?_
      exact W.zret (v := 0) (ty := .boolean) hx hb hr rfl (fun t ht hW => ⟨_, rfl, by simp [c1, c9, b2, inN], ht⟩) (fun _ h => absurd h List.not_mem_nil) dX0_hasLine_17
    · skip
      refine lv_iconst (v := 1) hx hb dX0_hasLine_12 (by decide) ?_
      refine lv_goto (tgt := 17) hx hb dX0_hasLine_13 (by decide) ?_
      exact W.zret (v := 1) (ty := .boolean) hx hb hr rfl (fun t ht hW => ⟨_, rfl, by simp [c1, c9, b2, inN], ht⟩) (fun _ h => absurd h List.not_mem_nil) dX0_hasLine_17

set_option maxHeartbeats 4000000 in
set_option maxRecDepth 100000 in
theorem c_X4_has (l : Launch) (D : va_G) (cI cZ : ClassId) (zM : Nat) (zS : Nat) (zT : Nat) (zD : Nat) (σ : ST) (x : Int32) : Met l yX4_has wsX4_has ({ frames := 0, cells := 0, slots := 0, locals := 0 }) (va_Pc [.ref zM, .int x] (XP D cI cZ [(zM, .inr (4, [.int (nI (sM σ)), .ref zS, .ref zT, .ref zD]))])) (vp_Si (fun r => r = b2 (inN x (sM σ)))) 0 0 (fun _ => False) := by
  refine Met.ofW (cc := cX4_has) (maxL := 2) (ret := (some .boolean)) (by decide) rfl ?_
  intro p e s m args below meth c s₁ B hml hv
  obtain ⟨rfl, hP, hK, hN⟩ := hv
  have hx := B.exec
  have hb := B.bytes
  have hr := B.returns
  have hts := atoms_spec (ws := wsX4_has) B.pre
  have hown : s.vm.findClass RX4 = some m.cls := findClass_of_methodNamed B.named
  have hlocks := B.notSynchronized
  have hf21 := hts (.fieldLink RX4 21 "BallCourt$Moments" "count" "I") (List.mem_of_getElem? (i := 1) (by decide +kernel))
  have hiX4 : ∀ w ∈ wsX40, w ∈ wsX4_has := fun w h => List.mem_cons_of_mem _ (List.mem_append_right _ h)
  have hl := lv_entry ([.ref zM, .int x]) (n := 2) (Nat.le_of_ble_eq_true rfl)
  rw [lg_entry_eq]
  generalize (lg_sl ([.ref zM, .int x]) ++ List.replicate (2 - (lg_sl ([.ref zM, .int x])).length) Slot.unset).toArray = ls at hl ⊢
  have hl : lv_has ls 2 [(0, .ref zM), (1, .int x)] := hl
  refine lv_iload_n hx hb dX4_has_0 rfl (lv_at hl 1 rfl) ?_
  refine lv_if_lt (tgt := 16) hx hb dX4_has_1 (by decide) (fun c1 => ?_) (fun c1 => ?_)
  · skip
    refine lv_iconst (v := 0) hx hb dX4_has_16 (by decide) ?_
    exact W.zret (v := 0) (ty := .boolean) hx hb hr rfl (fun t ht hW => ⟨_, rfl, by simp [c1, b2, inN], ht⟩) (fun _ h => absurd h List.not_mem_nil) dX4_has_17
  · skip
    refine lv_iload_n hx hb dX4_has_4 rfl (lv_at hl 1 rfl) ?_
    refine lv_aload_n hx hb dX4_has_5 rfl (lv_at hl 0 rfl) ?_
    refine va_get (D := D) (ci := 4) (v := .int (nI (sM σ))) (C := RX4) (T := TX4) (N := 4) hx hb hts hiX4 hown hK hP 0 rfl rfl 0 (by decide) hf21 (fun _ h9 => h9) rfl dX4_has_6 ?_
    refine lv_icmp_ge (tgt := 16) hx hb dX4_has_9 (by decide) (fun c9 => ?_) (fun c9 => ?_)
    · skip
      refine lv_iconst (v := 0) hx hb dX4_has_16 (by decide) ?_
      exact W.zret (v := 0) (ty := .boolean) hx hb hr rfl (fun t ht hW => ⟨_, rfl, by simp [c1, c9, b2, inN], ht⟩) (fun _ h => absurd h List.not_mem_nil) dX4_has_17
    · skip
      refine lv_iconst (v := 1) hx hb dX4_has_12 (by decide) ?_
      refine lv_goto (tgt := 17) hx hb dX4_has_13 (by decide) ?_
      exact W.zret (v := 1) (ty := .boolean) hx hb hr rfl (fun t ht hW => ⟨_, rfl, by simp [c1, c9, b2, inN], ht⟩) (fun _ h => absurd h List.not_mem_nil) dX4_has_17

set_option maxHeartbeats 4000000 in
set_option maxRecDepth 100000 in
theorem c_X1_has (l : Launch) (D : va_G) (cI cZ : ClassId) (zC : Nat) (zQ : Nat) (zP : Nat) (zN : Nat) (σ : ST) (x : Int32) : Met l yX1_has wsX1_has ({ frames := 0, cells := 0, slots := 0, locals := 0 }) (va_Pc [.ref zC, .int x] (XP D cI cZ [(zC, .inr (1, [.int (nI (sC σ)), .ref zQ, .ref zP, .ref zN]))])) (vp_Si (fun r => r = b2 (inN x (sC σ)))) 0 0 (fun _ => False) := by
  refine Met.ofW (cc := cX1_has) (maxL := 2) (ret := (some .boolean)) (by decide) rfl ?_
  intro p e s m args below meth c s₁ B hml hv
  obtain ⟨rfl, hP, hK, hN⟩ := hv
  have hx := B.exec
  have hb := B.bytes
  have hr := B.returns
  have hts := atoms_spec (ws := wsX1_has) B.pre
  have hown : s.vm.findClass RX1 = some m.cls := findClass_of_methodNamed B.named
  have hlocks := B.notSynchronized
  have hf21 := hts (.fieldLink RX1 21 "BallCourt$Cases" "count" "I") (List.mem_of_getElem? (i := 1) (by decide +kernel))
  have hiX1 : ∀ w ∈ wsX10, w ∈ wsX1_has := fun w h => List.mem_cons_of_mem _ (List.mem_append_right _ h)
  have hl := lv_entry ([.ref zC, .int x]) (n := 2) (Nat.le_of_ble_eq_true rfl)
  rw [lg_entry_eq]
  generalize (lg_sl ([.ref zC, .int x]) ++ List.replicate (2 - (lg_sl ([.ref zC, .int x])).length) Slot.unset).toArray = ls at hl ⊢
  have hl : lv_has ls 2 [(0, .ref zC), (1, .int x)] := hl
  refine lv_iload_n hx hb dX1_has_0 rfl (lv_at hl 1 rfl) ?_
  refine lv_if_lt (tgt := 16) hx hb dX1_has_1 (by decide) (fun c1 => ?_) (fun c1 => ?_)
  · skip
    refine lv_iconst (v := 0) hx hb dX1_has_16 (by decide) ?_
    exact W.zret (v := 0) (ty := .boolean) hx hb hr rfl (fun t ht hW => ⟨_, rfl, by simp [c1, b2, inN], ht⟩) (fun _ h => absurd h List.not_mem_nil) dX1_has_17
  · skip
    refine lv_iload_n hx hb dX1_has_4 rfl (lv_at hl 1 rfl) ?_
    refine lv_aload_n hx hb dX1_has_5 rfl (lv_at hl 0 rfl) ?_
    refine va_get (D := D) (ci := 1) (v := .int (nI (sC σ))) (C := RX1) (T := TX1) (N := 4) hx hb hts hiX1 hown hK hP 0 rfl rfl 0 (by decide) hf21 (fun _ h9 => h9) rfl dX1_has_6 ?_
    refine lv_icmp_ge (tgt := 16) hx hb dX1_has_9 (by decide) (fun c9 => ?_) (fun c9 => ?_)
    · skip
      refine lv_iconst (v := 0) hx hb dX1_has_16 (by decide) ?_
      exact W.zret (v := 0) (ty := .boolean) hx hb hr rfl (fun t ht hW => ⟨_, rfl, by simp [c1, c9, b2, inN], ht⟩) (fun _ h => absurd h List.not_mem_nil) dX1_has_17
    · skip
      refine lv_iconst (v := 1) hx hb dX1_has_12 (by decide) ?_
      refine lv_goto (tgt := 17) hx hb dX1_has_13 (by decide) ?_
      exact W.zret (v := 1) (ty := .boolean) hx hb hr rfl (fun t ht hW => ⟨_, rfl, by simp [c1, c9, b2, inN], ht⟩) (fun _ h => absurd h List.not_mem_nil) dX1_has_17

set_option maxHeartbeats 4000000 in
set_option maxRecDepth 100000 in
theorem c_X0_allFacts (l : Launch) (D : va_G) (cI cZ : ClassId) (zB : Nat) (zK : Nat) (zW : Nat) (zU : Nat) (zV : Nat) (zR : Nat) (zE : Nat) (σ : ST) (hok : Ok σ) : Met l yX0_allFacts wsX0_allFacts ({ frames := 0, cells := 0, slots := 0, locals := 0 }) (va_Pc [.ref zB] (XP D cI cZ [(zB, .inr (0, [.int (nI (sF σ)), .int (nI (2 ^ sF σ)), .ref zK, .ref zW, .int (nI (sN σ)), .int (sR σ), .int (orE (rEr σ) (sN σ)), .ref zU, .ref zV, .ref zR, .ref zE]))])) (vp_Si (fun r => r = nI (2 ^ sF σ - 1))) 0 0 (fun _ => False) := by
  refine Met.ofW (cc := cX0_allFacts) (maxL := 1) (ret := (some .int)) (by decide) rfl ?_
  intro p e s m args below meth c s₁ B hml hv
  obtain ⟨rfl, hP, hK, hN⟩ := hv
  have hx := B.exec
  have hb := B.bytes
  have hr := B.returns
  have hts := atoms_spec (ws := wsX0_allFacts) B.pre
  have hown : s.vm.findClass RX0 = some m.cls := findClass_of_methodNamed B.named
  have hlocks := B.notSynchronized
  have ho := hok.1
  have hk2 := hok.k
  have hf35 := hts (.fieldLink RX0 35 "BallCourt$Book" "numbers" "I") (List.mem_of_getElem? (i := 1) (by decide +kernel))
  have hiX0 : ∀ w ∈ wsX00, w ∈ wsX0_allFacts := fun w h => List.mem_cons_of_mem _ (List.mem_append_right _ h)
  have hl := lv_entry ([.ref zB]) (n := 1) (Nat.le_of_ble_eq_true rfl)
  rw [lg_entry_eq]
  generalize (lg_sl ([.ref zB]) ++ List.replicate (1 - (lg_sl ([.ref zB])).length) Slot.unset).toArray = ls at hl ⊢
  have hl : lv_has ls 1 [(0, .ref zB)] := hl
  refine lv_aload_n hx hb dX0_allFacts_0 rfl (lv_at hl 0 rfl) ?_
  refine va_get (D := D) (ci := 0) (v := .int (nI (2 ^ sF σ))) (C := RX0) (T := TX0) (N := 11) hx hb hts hiX0 hown hK hP 0 rfl rfl 1 (by decide) hf35 (fun _ h9 => h9) rfl dX0_allFacts_1 ?_
  refine lv_iconst (v := nI 1) hx hb dX0_allFacts_4 (by decide) ?_
  refine lv_isub hx hb dX0_allFacts_5 ?_
  refine lv_asi (show (nI (2 ^ sF σ)) - (nI 1) = nI (2 ^ sF σ - 1) from pk_sub (Nat.two_pow_pos _)) ?_
  exact W.iret (v := nI (2 ^ sF σ - 1)) hx hb hr (fun t ht hW => ⟨_, rfl, rfl, ht⟩) (fun _ h => absurd h List.not_mem_nil) dX0_allFacts_6

set_option maxHeartbeats 4000000 in
set_option maxRecDepth 100000 in
theorem c_X0_hasBarredPair (l : Launch) (D : va_G) (cI cZ : ClassId) (zB : Nat) (zK : Nat) (zW : Nat) (zU : Nat) (zV : Nat) (zR : Nat) (zE : Nat) (σ : ST) (k : Nat) (hok : Ok σ) : Met l yX0_hasBarredPair wsX0_hasBarredPair ({ frames := 1, cells := 0, slots := 0, locals := 21 }) (va_Pc [.ref zB, .int (nI k)] (XP D cI cZ [(zB, .inr (0, [.int (nI (sF σ)), .int (nI (2 ^ sF σ)), .ref zK, .ref zW, .int (nI (sN σ)), .int (sR σ), .int (orE (rEr σ) (sN σ)), .ref zU, .ref zV, .ref zR, .ref zE])), (zW, .inl (cI, 7, .inl (rB σ)))])) (vp_Si (fun r => r = b2 (!kok σ k))) 0 0 (fun _ => False) := by
  refine Met.ofW (cc := cX0_hasBarredPair) (maxL := 3) (ret := (some .boolean)) (by decide) rfl ?_
  intro p e s m args below meth c s₁ B hml hv
  obtain ⟨rfl, hP, hK, hN⟩ := hv
  have hx := B.exec
  have hb := B.bytes
  have hr := B.returns
  have hts := atoms_spec (ws := wsX0_hasBarredPair) B.pre
  have hown : s.vm.findClass RX0 = some m.cls := findClass_of_methodNamed B.named
  have hlocks := B.notSynchronized
  have ho := hok.1
  have hk2 := hok.k
  have hf31 := hts (.fieldLink RX0 31 "BallCourt$Book" "facts" "I") (List.mem_of_getElem? (i := 1) (by decide +kernel))
  have hiX0 : ∀ w ∈ wsX00, w ∈ wsX0_hasBarredPair := fun w h => List.mem_cons_of_mem _ (List.mem_append_right _ h)
  have hf15 := hts (.fieldLink RX0 15 "BallCourt$Book" "barredWith" "[I") (List.mem_of_getElem? (i := 2) (by decide +kernel))
  have hl := lv_entry ([.ref zB, .int (nI k)]) (n := 3) (Nat.le_of_ble_eq_true rfl)
  rw [lg_entry_eq]
  generalize (lg_sl ([.ref zB, .int (nI k)]) ++ List.replicate (3 - (lg_sl ([.ref zB, .int (nI k)])).length) Slot.unset).toArray = ls at hl ⊢
  have hl : lv_has ls 3 [(0, .ref zB), (1, .int (nI k))] := hl
  refine lv_iconst (v := nI 0) hx hb dX0_hasBarredPair_0 (by decide) ?_
  refine lv_istore_n (lv' := [(2, .int (nI 0)), (0, .ref zB), (1, .int (nI k))]) hx hb dX0_hasBarredPair_1 rfl hl (by decide) rfl (fun ls hl => ?_)
  refine wloop (α := Nat) (fun v => sF σ - v) (fun v => [(0, .ref zB), (1, .int (nI k)), (2, .int (nI v))]) (fun v => (v ≤ sF σ) ∧ (∀ j, j < v → kbad σ k j = false)) 3 (fun v hv ih2 ls hl => ?_) 0 ⟨(show 0 ≤ sF σ from Nat.zero_le _), (show ∀ j, j < 0 → kbad σ k j = false from fun j hj => absurd hj (Nat.not_lt_zero _))⟩ ls (lv_sub hl [1, 2, 0] rfl)
  obtain ⟨i, rfl⟩ : ∃ z : Nat, z = v := ⟨_, rfl⟩
  obtain ⟨hi, hn⟩ := hv
  have hi : i ≤ sF σ := hi
  have hn : ∀ j, j < i → kbad σ k j = false := hn
  have hl : lv_has ls 3 [(0, .ref zB), (1, .int (nI k)), (2, .int (nI i))] := hl
  refine lv_iload_n hx hb dX0_hasBarredPair_2 rfl (lv_at hl 2 rfl) ?_
  refine lv_aload_n hx hb dX0_hasBarredPair_3 rfl (lv_at hl 0 rfl) ?_
  refine va_get (D := D) (ci := 0) (v := .int (nI (sF σ))) (C := RX0) (T := TX0) (N := 11) hx hb hts hiX0 hown hK hP 0 rfl rfl 0 (by decide) hf31 (fun _ h9 => h9) rfl dX0_hasBarredPair_4 ?_
  refine lv_icmp_ge (tgt := 37) hx hb dX0_hasBarredPair_7 (by decide) (fun c7 => ?_) (fun c7 => ?_)
  · skip
    have c7 := (nI_leI (by omega) (by omega)).mp c7
    refine lv_iconst (v := 0) hx hb dX0_hasBarredPair_37 (by decide) ?_
    exact W.zret (v := 0) (ty := .boolean) hx hb hr rfl (fun t ht hW => ⟨_, rfl, b2_f (by rw [show kok σ k = true from allB_t.mpr (fun j hj => by rw [hn j (by omega)]; rfl)]; rfl), ht⟩) (fun _ h => absurd h List.not_mem_nil) dX0_hasBarredPair_38
  · skip
    have c7 := Nat.lt_of_not_le (fun z => c7 ((nI_leI (by omega) (by omega)).mpr z))
    refine lv_iload_n hx hb dX0_hasBarredPair_10 rfl (lv_at hl 1 rfl) ?_
    refine lv_iload_n hx hb dX0_hasBarredPair_11 rfl (lv_at hl 2 rfl) ?_
    refine xpSN (host := "BallCourt") (rest := []) ⟨hx, hb, hml, hown, hts⟩ (c_X5_hasBit l D cI cZ (nI k) (nI i)) (va_cnB 2 hts gX0_hasBarredPair_X5_hasBit_n50 rfl rfl rfl (NW.m hN 4 rfl) (hts (.initialized RX5) (List.mem_of_getElem? (i := 4) (by decide +kernel))) (by decide +kernel) ⟨Nat.le_of_ble_eq_true rfl, Nat.le_of_ble_eq_true rfl⟩) (hts (.static yX5_hasBit) (List.mem_of_getElem? (i := 3) (by decide +kernel))) hP [] rfl hK hN rfl hl.1 rfl (Nat.le_of_ble_eq_true rfl) dX0_hasBarredPair_12 ⟨Nat.zero_le _, Nat.zero_le _⟩ (fun r12 e12 => ?_)
    subst e12
    refine lv_if_eq (tgt := 31) hx hb dX0_hasBarredPair_15 (by decide) (fun c15 => ?_) (fun c15 => ?_)
    · skip
      have c15 := b2_0 c15
      refine lv_iinc (k := 2) (x := nI i) (v := nI (i + 1)) (lv' := [(2, .int (nI (i + 1))), (0, .ref zB), (1, .int (nI k))]) hx hb dX0_hasBarredPair_31 hl rfl (show (nI i) + Int32.ofInt 1 = nI (i + 1) from nI_1 _) (by decide) rfl (fun ls hl => ?_)
      refine lv_goto (tgt := 2) hx hb dX0_hasBarredPair_34 (by decide) ?_
      exact ih2 (i + 1) ⟨(show (i + 1) ≤ sF σ from (by omega)), (show ∀ j, j < (i + 1) → kbad σ k j = false from lt_s hn (by simp [kbad, c15]))⟩ (by show sF σ - (i + 1) < sF σ - i; omega) ls (lv_sub hl [1, 2, 0] rfl)
    · skip
      have c15 := b2_1 c15
      refine lv_aload_n hx hb dX0_hasBarredPair_18 rfl (lv_at hl 0 rfl) ?_
      refine va_get (D := D) (ci := 0) (v := .ref zW) (C := RX0) (T := TX0) (N := 11) hx hb hts hiX0 hown hK hP 0 rfl rfl 3 (by decide) hf15 (fun _ h9 => h9) rfl dX0_hasBarredPair_19 ?_
      refine lv_iload_n hx hb dX0_hasBarredPair_22 rfl (lv_at hl 2 rfl) ?_
      refine xald (k := i) hx hb hK hP 1 rfl (by omega) (by decide) dX0_hasBarredPair_23 ?_
      refine lv_iload_n hx hb dX0_hasBarredPair_24 rfl (lv_at hl 1 rfl) ?_
      refine lv_iand hx hb dX0_hasBarredPair_25 ?_
      refine lv_if_eq (tgt := 31) hx hb dX0_hasBarredPair_26 (by decide) (fun c26 => ?_) (fun c26 => ?_)
      · skip
        refine lv_iinc (k := 2) (x := nI i) (v := nI (i + 1)) (lv' := [(2, .int (nI (i + 1))), (0, .ref zB), (1, .int (nI k))]) hx hb dX0_hasBarredPair_31 hl rfl (show (nI i) + Int32.ofInt 1 = nI (i + 1) from nI_1 _) (by decide) rfl (fun ls hl => ?_)
        refine lv_goto (tgt := 2) hx hb dX0_hasBarredPair_34 (by decide) ?_
        exact ih2 (i + 1) ⟨(show (i + 1) ≤ sF σ from (by omega)), (show ∀ j, j < (i + 1) → kbad σ k j = false from lt_s hn (by simp [kbad, c15, c26]))⟩ (by show sF σ - (i + 1) < sF σ - i; omega) ls (lv_sub hl [1, 2, 0] rfl)
      · skip
        refine lv_iconst (v := 1) hx hb dX0_hasBarredPair_29 (by decide) ?_
        exact W.zret (v := 1) (ty := .boolean) hx hb hr rfl (fun t ht hW => ⟨_, rfl, b2_t (by rw [show kok σ k = false from allB_f c7 (by simp [kbad, c15, c26])]; rfl), ht⟩) (fun _ h => absurd h List.not_mem_nil) dX0_hasBarredPair_30

set_option maxHeartbeats 4000000 in
set_option maxRecDepth 100000 in
theorem c_X0_mayBe (l : Launch) (D : va_G) (cI cZ : ClassId) (zB : Nat) (zK : Nat) (zW : Nat) (zU : Nat) (zV : Nat) (zR : Nat) (zE : Nat) (σ : ST) (kI : Nat → Int32) (k : Nat) (so : Int32) (ns : Int32) (hok : Ok σ) (hk : k < 2 ^ sF σ) (hkI : ∀ k, k < 2 ^ sF σ → kI k = b2 (kok σ k)) : Met l yX0_mayBe wsX0_mayBe ({ frames := 0, cells := 0, slots := 0, locals := 0 }) (va_Pc [.ref zB, .int (nI k), .int so, .int ns] (XP D cI cZ [(zB, .inr (0, [.int (nI (sF σ)), .int (nI (2 ^ sF σ)), .ref zK, .ref zW, .int (nI (sN σ)), .int (sR σ), .int (orE (rEr σ) (sN σ)), .ref zU, .ref zV, .ref zR, .ref zE])), (zK, .inl (cZ, 128, .inl kI))])) (vp_Si (fun r => r = b2 (mbB σ so ns k))) 0 0 (fun _ => False) := by
  refine Met.ofW (cc := cX0_mayBe) (maxL := 4) (ret := (some .boolean)) (by decide) rfl ?_
  intro p e s m args below meth c s₁ B hml hv
  obtain ⟨rfl, hP, hK, hN⟩ := hv
  have hx := B.exec
  have hb := B.bytes
  have hr := B.returns
  have hts := atoms_spec (ws := wsX0_mayBe) B.pre
  have hown : s.vm.findClass RX0 = some m.cls := findClass_of_methodNamed B.named
  have hlocks := B.notSynchronized
  have ho := hok.1
  have hk2 := hok.k
  have hf9 := hts (.fieldLink RX0 9 "BallCourt$Book" "isKind" "[Z") (List.mem_of_getElem? (i := 1) (by decide +kernel))
  have hiX0 : ∀ w ∈ wsX00, w ∈ wsX0_mayBe := fun w h => List.mem_cons_of_mem _ (List.mem_append_right _ h)
  have hl := lv_entry ([.ref zB, .int (nI k), .int so, .int ns]) (n := 4) (Nat.le_of_ble_eq_true rfl)
  rw [lg_entry_eq]
  generalize (lg_sl ([.ref zB, .int (nI k), .int so, .int ns]) ++ List.replicate (4 - (lg_sl ([.ref zB, .int (nI k), .int so, .int ns])).length) Slot.unset).toArray = ls at hl ⊢
  have hl : lv_has ls 4 [(0, .ref zB), (1, .int (nI k)), (2, .int so), (3, .int ns)] := hl
  refine lv_aload_n hx hb dX0_mayBe_0 rfl (lv_at hl 0 rfl) ?_
  refine va_get (D := D) (ci := 0) (v := .ref zK) (C := RX0) (T := TX0) (N := 11) hx hb hts hiX0 hown hK hP 0 rfl rfl 2 (by decide) hf9 (fun _ h9 => h9) rfl dX0_mayBe_1 ?_
  refine lv_iload_n hx hb dX0_mayBe_4 rfl (lv_at hl 1 rfl) ?_
  refine xzld (k := k) hx hb hK hP 1 rfl (by omega) (by decide) dX0_mayBe_5 ?_
  refine lv_asi (show kI k = b2 (kok σ k) from hkI k hk) ?_
  refine lv_if_eq (tgt := 26) hx hb dX0_mayBe_6 (by decide) (fun c6 => ?_) (fun c6 => ?_)
  · skip
    have c6 := b2_0 c6
    refine lv_iconst (v := 0) hx hb dX0_mayBe_26 (by decide) ?_
    exact W.zret (v := 0) (ty := .boolean) hx hb hr rfl (fun t ht hW => ⟨_, rfl, by simp [c6, b2, mbB], ht⟩) (fun _ h => absurd h List.not_mem_nil) dX0_mayBe_27
  · skip
    have c6 := b2_1 c6
    refine lv_iload_n hx hb dX0_mayBe_9 rfl (lv_at hl 1 rfl) ?_
    refine lv_iload_n hx hb dX0_mayBe_10 rfl (lv_at hl 2 rfl) ?_
    refine lv_iand hx hb dX0_mayBe_11 ?_
    refine lv_iload_n hx hb dX0_mayBe_12 rfl (lv_at hl 2 rfl) ?_
    refine lv_icmp_ne (tgt := 26) hx hb dX0_mayBe_13 (by decide) (fun c13 => ?_) (fun c13 => ?_)
    · skip
      refine lv_iconst (v := 0) hx hb dX0_mayBe_26 (by decide) ?_
      exact W.zret (v := 0) (ty := .boolean) hx hb hr rfl (fun t ht hW => ⟨_, rfl, by simp [c6, c13, b2, mbB], ht⟩) (fun _ h => absurd h List.not_mem_nil) dX0_mayBe_27
    · skip
      refine lv_iload_n hx hb dX0_mayBe_16 rfl (lv_at hl 1 rfl) ?_
      refine lv_iload_n hx hb dX0_mayBe_17 rfl (lv_at hl 3 rfl) ?_
      refine lv_iand hx hb dX0_mayBe_18 ?_
      refine lv_if_ne (tgt := 26) hx hb dX0_mayBe_19 (by decide) (fun c19 => ?_) (fun c19 => ?_)
      · skip
        refine lv_iconst (v := 0) hx hb dX0_mayBe_26 (by decide) ?_
        exact W.zret (v := 0) (ty := .boolean) hx hb hr rfl (fun t ht hW => ⟨_, rfl, by simp [c6, c13, c19, b2, mbB], ht⟩) (fun _ h => absurd h List.not_mem_nil) dX0_mayBe_27
      · skip
        refine lv_iconst (v := 1) hx hb dX0_mayBe_22 (by decide) ?_
        refine lv_goto (tgt := 27) hx hb dX0_mayBe_23 (by decide) ?_
        exact W.zret (v := 1) (ty := .boolean) hx hb hr rfl (fun t ht hW => ⟨_, rfl, by simp [c6, c13, c19, b2, mbB], ht⟩) (fun _ h => absurd h List.not_mem_nil) dX0_mayBe_27

set_option maxHeartbeats 4000000 in
set_option maxRecDepth 100000 in
theorem c_X0_countMayBe (l : Launch) (D : va_G) (cI cZ : ClassId) (zB : Nat) (zK : Nat) (zW : Nat) (zU : Nat) (zV : Nat) (zR : Nat) (zE : Nat) (σ : ST) (kI : Nat → Int32) (so : Int32) (ns : Int32) (hok : Ok σ) (hkI : ∀ k, k < 2 ^ sF σ → kI k = b2 (kok σ k)) : Met l yX0_countMayBe wsX0_countMayBe ({ frames := 1, cells := 0, slots := 0, locals := 23 }) (va_Pc [.ref zB, .int so, .int ns] (XP D cI cZ [(zB, .inr (0, [.int (nI (sF σ)), .int (nI (2 ^ sF σ)), .ref zK, .ref zW, .int (nI (sN σ)), .int (sR σ), .int (orE (rEr σ) (sN σ)), .ref zU, .ref zV, .ref zR, .ref zE])), (zK, .inl (cZ, 128, .inl kI))])) (vp_Si (fun r => r = nI (cmb σ so ns))) 0 0 (fun _ => False) := by
  refine Met.ofW (cc := cX0_countMayBe) (maxL := 5) (ret := (some .int)) (by decide) rfl ?_
  intro p e s m args below meth c s₁ B hml hv
  obtain ⟨rfl, hP, hK, hN⟩ := hv
  have hx := B.exec
  have hb := B.bytes
  have hr := B.returns
  have hts := atoms_spec (ws := wsX0_countMayBe) B.pre
  have hown : s.vm.findClass RX0 = some m.cls := findClass_of_methodNamed B.named
  have hlocks := B.notSynchronized
  have ho := hok.1
  have hk2 := hok.k
  have hf35 := hts (.fieldLink RX0 35 "BallCourt$Book" "numbers" "I") (List.mem_of_getElem? (i := 1) (by decide +kernel))
  have hiX0 : ∀ w ∈ wsX00, w ∈ wsX0_countMayBe := fun w h => List.mem_cons_of_mem _ (List.mem_append_right _ h)
  have hl := lv_entry ([.ref zB, .int so, .int ns]) (n := 5) (Nat.le_of_ble_eq_true rfl)
  rw [lg_entry_eq]
  generalize (lg_sl ([.ref zB, .int so, .int ns]) ++ List.replicate (5 - (lg_sl ([.ref zB, .int so, .int ns])).length) Slot.unset).toArray = ls at hl ⊢
  have hl : lv_has ls 5 [(0, .ref zB), (1, .int so), (2, .int ns)] := hl
  refine lv_iconst (v := nI 0) hx hb dX0_countMayBe_0 (by decide) ?_
  refine lv_istore_n (lv' := [(3, .int (nI 0)), (0, .ref zB), (1, .int so), (2, .int ns)]) hx hb dX0_countMayBe_1 rfl hl (by decide) rfl (fun ls hl => ?_)
  refine lv_iconst (v := nI 0) hx hb dX0_countMayBe_2 (by decide) ?_
  refine lv_istore (lv' := [(4, .int (nI 0)), (3, .int (nI 0)), (0, .ref zB), (1, .int so), (2, .int ns)]) hx hb dX0_countMayBe_3 hl (by decide) rfl (fun ls hl => ?_)
  refine wloop (α := Nat) (fun v => 2 ^ sF σ - v) (fun v => [(0, .ref zB), (1, .int so), (2, .int ns), (3, .int (nI (cnt (mbB σ so ns) v))), (4, .int (nI v))]) (fun v => (v ≤ 2 ^ sF σ)) 5 (fun v hv ih5 ls hl => ?_) 0 (show 0 ≤ 2 ^ sF σ from Nat.zero_le _) ls (lv_sub hl [2, 3, 4, 1, 0] rfl)
  obtain ⟨k, rfl⟩ : ∃ z : Nat, z = v := ⟨_, rfl⟩
  have hk : k ≤ 2 ^ sF σ := hv
  have hl : lv_has ls 5 [(0, .ref zB), (1, .int so), (2, .int ns), (3, .int (nI (cnt (mbB σ so ns) k))), (4, .int (nI k))] := hl
  refine lv_iload hx hb dX0_countMayBe_5 (lv_at hl 4 rfl) ?_
  refine lv_aload_n hx hb dX0_countMayBe_7 rfl (lv_at hl 0 rfl) ?_
  refine va_get (D := D) (ci := 0) (v := .int (nI (2 ^ sF σ))) (C := RX0) (T := TX0) (N := 11) hx hb hts hiX0 hown hK hP 0 rfl rfl 1 (by decide) hf35 (fun _ h9 => h9) rfl dX0_countMayBe_8 ?_
  refine lv_icmp_ge (tgt := 34) hx hb dX0_countMayBe_11 (by decide) (fun c11 => ?_) (fun c11 => ?_)
  · skip
    have c11 := (nI_leI (by omega) (by omega)).mp c11
    refine lv_iload_n hx hb dX0_countMayBe_34 rfl (lv_at hl 3 rfl) ?_
    exact W.iret (v := nI (cnt (mbB σ so ns) k)) hx hb hr (fun t ht hW => ⟨_, rfl, by rw [show k = 2 ^ sF σ by omega]; rfl, ht⟩) (fun _ h => absurd h List.not_mem_nil) dX0_countMayBe_35
  · skip
    have c11 := Nat.lt_of_not_le (fun z => c11 ((nI_leI (by omega) (by omega)).mpr z))
    refine lv_aload_n hx hb dX0_countMayBe_14 rfl (lv_at hl 0 rfl) ?_
    refine lv_iload hx hb dX0_countMayBe_15 (lv_at hl 4 rfl) ?_
    refine lv_iload_n hx hb dX0_countMayBe_17 rfl (lv_at hl 1 rfl) ?_
    refine lv_iload_n hx hb dX0_countMayBe_18 rfl (lv_at hl 2 rfl) ?_
    refine xpV (rest := []) ⟨hx, hb, hml, hown, hts⟩ (c_X0_mayBe l D cI cZ zB zK zW zU zV zR zE σ kI k so ns hok c11 hkI) (cwV 3 hts gX0_countMayBe_X0_mayBe rfl rfl rfl (by decide +kernel) ⟨Nat.le_of_ble_eq_true rfl, Nat.le_of_ble_eq_true rfl⟩) hP [0, 1] rfl hK hN (ci := 0) (q0 := 0) rfl rfl rfl hl.1 rfl (Nat.le_of_ble_eq_true rfl) dX0_countMayBe_19 ⟨Nat.zero_le _, Nat.zero_le _⟩ (fun r19 e19 => ?_)
    subst e19
    refine lv_if_eq (tgt := 28) hx hb dX0_countMayBe_22 (by decide) (fun c22 => ?_) (fun c22 => ?_)
    · skip
      have c22 := b2_0 c22
      have hl : lv_has ls 5 [(0, .ref zB), (1, .int so), (2, .int ns), (3, .int (nI (cnt (mbB σ so ns) (k + 1)))), (4, .int (nI k))] := by rw [← (show nI (cnt (mbB σ so ns) k) = nI (cnt (mbB σ so ns) (k + 1)) from congrArg nI (cnt_n c22))]; exact hl
      refine lv_iinc (k := 4) (x := nI k) (v := nI (k + 1)) (lv' := [(4, .int (nI (k + 1))), (0, .ref zB), (1, .int so), (2, .int ns), (3, .int (nI (cnt (mbB σ so ns) (k + 1))))]) hx hb dX0_countMayBe_28 hl rfl (show (nI k) + Int32.ofInt 1 = nI (k + 1) from nI_1 _) (by decide) rfl (fun ls hl => ?_)
      refine lv_goto (tgt := 5) hx hb dX0_countMayBe_31 (by decide) ?_
      exact ih5 (k + 1) (show (k + 1) ≤ 2 ^ sF σ from (by omega)) (by show 2 ^ sF σ - (k + 1) < 2 ^ sF σ - k; omega) ls (lv_sub hl [1, 2, 3, 4, 0] rfl)
    · skip
      have c22 := b2_1 c22
      refine lv_iinc (k := 3) (x := nI (cnt (mbB σ so ns) k)) (v := nI (cnt (mbB σ so ns) (k + 1))) (lv' := [(3, .int (nI (cnt (mbB σ so ns) (k + 1)))), (0, .ref zB), (1, .int so), (2, .int ns), (4, .int (nI k))]) hx hb dX0_countMayBe_25 hl rfl (show (nI (cnt (mbB σ so ns) k)) + Int32.ofInt 1 = nI (cnt (mbB σ so ns) (k + 1)) from cnt_y c22) (by decide) rfl (fun ls hl => ?_)
      refine lv_iinc (k := 4) (x := nI k) (v := nI (k + 1)) (lv' := [(4, .int (nI (k + 1))), (3, .int (nI (cnt (mbB σ so ns) (k + 1)))), (0, .ref zB), (1, .int so), (2, .int ns)]) hx hb dX0_countMayBe_28 hl rfl (show (nI k) + Int32.ofInt 1 = nI (k + 1) from nI_1 _) (by decide) rfl (fun ls hl => ?_)
      refine lv_goto (tgt := 5) hx hb dX0_countMayBe_31 (by decide) ?_
      exact ih5 (k + 1) (show (k + 1) ≤ 2 ^ sF σ from (by omega)) (by show 2 ^ sF σ - (k + 1) < 2 ^ sF σ - k; omega) ls (lv_sub hl [2, 3, 4, 1, 0] rfl)

set_option maxHeartbeats 4000000 in
set_option maxRecDepth 100000 in
theorem c_X0_holding (l : Launch) (D : va_G) (cI cZ : ClassId) (zB : Nat) (zK : Nat) (zW : Nat) (zU : Nat) (zV : Nat) (zR : Nat) (zE : Nat) (σ : ST) (rp : Int32) (k : Nat) (hok : Ok σ) : Met l yX0_holding wsX0_holding ({ frames := 1, cells := 0, slots := 0, locals := 21 }) (va_Pc [.ref zB, .int (nI k), .int rp] (XP D cI cZ [(zB, .inr (0, [.int (nI (sF σ)), .int (nI (2 ^ sF σ)), .ref zK, .ref zW, .int (nI (sN σ)), .int (sR σ), .int (orE (rEr σ) (sN σ)), .ref zU, .ref zV, .ref zR, .ref zE])), (zU, .inl (cI, 12, .inl (rMu σ))), (zV, .inl (cI, 12, .inl (rMn σ))), (zE, .inl (cI, 12, .inl (rEr σ)))])) (vp_Si (fun r => r = holdI σ rp k)) 0 0 (fun _ => False) := by
  refine Met.ofW (cc := cX0_holding) (maxL := 6) (ret := (some .int)) (by decide) rfl ?_
  intro p e s m args below meth c s₁ B hml hv
  obtain ⟨rfl, hP, hK, hN⟩ := hv
  have hx := B.exec
  have hb := B.bytes
  have hr := B.returns
  have hts := atoms_spec (ws := wsX0_holding) B.pre
  have hown : s.vm.findClass RX0 = some m.cls := findClass_of_methodNamed B.named
  have hlocks := B.notSynchronized
  have ho := hok.1
  have hk2 := hok.k
  have hf38 := hts (.fieldLink RX0 38 "BallCourt$Book" "lines" "I") (List.mem_of_getElem? (i := 1) (by decide +kernel))
  have hiX0 : ∀ w ∈ wsX00, w ∈ wsX0_holding := fun w h => List.mem_cons_of_mem _ (List.mem_append_right _ h)
  have hf28 := hts (.fieldLink RX0 28 "BallCourt$Book" "excepters" "[I") (List.mem_of_getElem? (i := 4) (by decide +kernel))
  have hf19 := hts (.fieldLink RX0 19 "BallCourt$Book" "must" "[I") (List.mem_of_getElem? (i := 2) (by decide +kernel))
  have hf22 := hts (.fieldLink RX0 22 "BallCourt$Book" "mustNot" "[I") (List.mem_of_getElem? (i := 3) (by decide +kernel))
  have hl := lv_entry ([.ref zB, .int (nI k), .int rp]) (n := 6) (Nat.le_of_ble_eq_true rfl)
  rw [lg_entry_eq]
  generalize (lg_sl ([.ref zB, .int (nI k), .int rp]) ++ List.replicate (6 - (lg_sl ([.ref zB, .int (nI k), .int rp])).length) Slot.unset).toArray = ls at hl ⊢
  have hl : lv_has ls 6 [(0, .ref zB), (1, .int (nI k)), (2, .int rp)] := hl
  refine lv_iconst (v := 0) hx hb dX0_holding_0 (by decide) ?_
  refine lv_istore_n (lv' := [(3, .int 0), (0, .ref zB), (1, .int (nI k)), (2, .int rp)]) hx hb dX0_holding_1 rfl hl (by decide) rfl (fun ls hl => ?_)
  refine lv_aload_n hx hb dX0_holding_2 rfl (lv_at hl 1 rfl) ?_
  refine va_get (D := D) (ci := 0) (v := .int (nI (sN σ))) (C := RX0) (T := TX0) (N := 11) hx hb hts hiX0 hown hK hP 0 rfl rfl 4 (by decide) hf38 (fun _ h9 => h9) rfl dX0_holding_3 ?_
  refine lv_iconst (v := 1) hx hb dX0_holding_6 (by decide) ?_
  refine lv_isub hx hb dX0_holding_7 ?_
  refine lv_istore (lv' := [(4, .int ((nI (sN σ)) - 1)), (3, .int 0), (0, .ref zB), (1, .int (nI k)), (2, .int rp)]) hx hb dX0_holding_8 hl (by decide) rfl (fun ls hl => ?_)
  have hl : lv_has ls 6 [(4, .int ((nI (sN σ)) - 1)), (3, .int (hdR σ rp k (sN σ - sN σ))), (0, .ref zB), (1, .int (nI k)), (2, .int rp)] := by rw [← (show 0 = hdR σ rp k (sN σ - sN σ) from (by rw [Nat.sub_self]; rfl))]; exact hl
  refine wloop (α := Nat) (fun v => v) (fun v => [(0, .ref zB), (1, .int (nI k)), (2, .int rp), (3, .int (hdR σ rp k (sN σ - v))), (4, .int (nI v - 1))]) (fun v => (v ≤ sN σ)) 6 (fun v hv ih10 ls hl => ?_) (sN σ) (show (sN σ) ≤ sN σ from Nat.le_refl _) ls (lv_sub hl [2, 3, 4, 1, 0] rfl)
  obtain ⟨q, rfl⟩ : ∃ z : Nat, z = v := ⟨_, rfl⟩
  have hq : q ≤ sN σ := hv
  have hl : lv_has ls 6 [(0, .ref zB), (1, .int (nI k)), (2, .int rp), (3, .int (hdR σ rp k (sN σ - q))), (4, .int (nI q - 1))] := hl
  refine lv_iload hx hb dX0_holding_10 (lv_at hl 4 rfl) ?_
  refine lv_if_lt (tgt := 92) hx hb dX0_holding_12 (by decide) (fun c12 => ?_) (fun c12 => ?_)
  · skip
    have c12 := m1_t (by omega) c12
    refine lv_iload_n hx hb dX0_holding_92 rfl (lv_at hl 3 rfl) ?_
    exact W.iret (v := hdR σ rp k (sN σ - q)) hx hb hr (fun t ht hW => ⟨_, rfl, by rw [c12]; rfl, ht⟩) (fun _ h => absurd h List.not_mem_nil) dX0_holding_93
  · skip
    obtain ⟨j, rfl⟩ : ∃ j, q = j + 1 := ⟨q - 1, by have := m1_f c12; omega⟩
    have hl : lv_has ls 6 [(0, .ref zB), (1, .int (nI k)), (2, .int rp), (3, .int (hdR σ rp k (sN σ - (j + 1)))), (4, .int (nI j))] := by rw [← (show nI (j + 1) - 1 = nI j from nI_pred j)]; exact hl
    refine wjoin (pcJ := 51) (lv := [(0, .ref zB), (1, .int (nI k)), (2, .int rp), (3, .int (hdR σ rp k (sN σ - (j + 1)))), (4, .int (nI j))]) (nL := 6) (st := [.int (b2 (decide (nI k &&& rMu σ j = rMu σ j) && decide (nI k &&& rMn σ j = 0)))]) (fun ls hl => ?_) (fun J51 => ?_)
    · skip
      refine lv_istore (lv' := [(5, .int (b2 (decide (nI k &&& rMu σ j = rMu σ j) && decide (nI k &&& rMn σ j = 0)))), (0, .ref zB), (1, .int (nI k)), (2, .int rp), (3, .int (hdR σ rp k (sN σ - (j + 1)))), (4, .int (nI j))]) hx hb dX0_holding_51 hl (by decide) rfl (fun ls hl => ?_)
      refine lv_iload hx hb dX0_holding_53 (lv_at hl 0 rfl) ?_
      refine lv_if_eq (tgt := 86) hx hb dX0_holding_55 (by decide) (fun c55 => ?_) (fun c55 => ?_)
      · skip
        have c55 := b2_0 c55
        have hl : lv_has ls 6 [(5, .int (b2 (decide (nI k &&& rMu σ j = rMu σ j) && decide (nI k &&& rMn σ j = 0)))), (0, .ref zB), (1, .int (nI k)), (2, .int rp), (3, .int (hdR σ rp k (sN σ - j))), (4, .int (nI j))] := by rw [← (show hdR σ rp k (sN σ - (j + 1)) = hdR σ rp k (sN σ - j) from (hd_n (by omega) (by unfold cnd; rw [c55]; rfl)).symm)]; exact hl
        refine lv_iinc (k := 5) (x := nI j) (v := nI j - 1) (lv' := [(4, .int (nI j - 1)), (5, .int (b2 (decide (nI k &&& rMu σ j = rMu σ j) && decide (nI k &&& rMn σ j = 0)))), (0, .ref zB), (1, .int (nI k)), (2, .int rp), (3, .int (hdR σ rp k (sN σ - j)))]) hx hb dX0_holding_86 hl rfl (show (nI j) + Int32.ofInt (-1) = nI j - 1 from dec1 _) (by decide) rfl (fun ls hl => ?_)
        refine lv_goto (tgt := 10) hx hb dX0_holding_89 (by decide) ?_
        exact ih10 j (show j ≤ sN σ from (by omega)) (by show j < (j + 1); omega) ls (lv_sub hl [2, 3, 4, 5, 0] rfl)
      · skip
        have c55 := b2_1 c55
        refine lv_iload_n hx hb dX0_holding_58 rfl (lv_at hl 3 rfl) ?_
        refine lv_iload hx hb dX0_holding_59 (lv_at hl 5 rfl) ?_
        refine xpSN (host := "BallCourt") (rest := []) ⟨hx, hb, hml, hown, hts⟩ (c_X5_hasBit l D cI cZ rp (nI j)) (va_cnB 2 hts gX0_holding_X5_hasBit_n50 rfl rfl rfl (NW.m hN 4 rfl) (hts (.initialized RX5) (List.mem_of_getElem? (i := 6) (by decide +kernel))) (by decide +kernel) ⟨Nat.le_of_ble_eq_true rfl, Nat.le_of_ble_eq_true rfl⟩) (hts (.static yX5_hasBit) (List.mem_of_getElem? (i := 5) (by decide +kernel))) hP [] rfl hK hN rfl hl.1 rfl (Nat.le_of_ble_eq_true rfl) dX0_holding_61 ⟨Nat.zero_le _, Nat.zero_le _⟩ (fun r61 e61 => ?_)
        subst e61
        refine lv_if_ne (tgt := 86) hx hb dX0_holding_64 (by decide) (fun c64 => ?_) (fun c64 => ?_)
        · skip
          have c64 := b2_1 c64
          have hl : lv_has ls 6 [(5, .int (b2 (decide (nI k &&& rMu σ j = rMu σ j) && decide (nI k &&& rMn σ j = 0)))), (0, .ref zB), (1, .int (nI k)), (2, .int rp), (3, .int (hdR σ rp k (sN σ - j))), (4, .int (nI j))] := by rw [← (show hdR σ rp k (sN σ - (j + 1)) = hdR σ rp k (sN σ - j) from (hd_n (by omega) (by unfold cnd; rw [c55, c64]; rfl)).symm)]; exact hl
          refine lv_iinc (k := 5) (x := nI j) (v := nI j - 1) (lv' := [(4, .int (nI j - 1)), (5, .int (b2 (decide (nI k &&& rMu σ j = rMu σ j) && decide (nI k &&& rMn σ j = 0)))), (0, .ref zB), (1, .int (nI k)), (2, .int rp), (3, .int (hdR σ rp k (sN σ - j)))]) hx hb dX0_holding_86 hl rfl (show (nI j) + Int32.ofInt (-1) = nI j - 1 from dec1 _) (by decide) rfl (fun ls hl => ?_)
          refine lv_goto (tgt := 10) hx hb dX0_holding_89 (by decide) ?_
          exact ih10 j (show j ≤ sN σ from (by omega)) (by show j < (j + 1); omega) ls (lv_sub hl [2, 3, 4, 5, 0] rfl)
        · skip
          have c64 := b2_0 c64
          refine lv_aload_n hx hb dX0_holding_67 rfl (lv_at hl 1 rfl) ?_
          refine va_get (D := D) (ci := 0) (v := .ref zE) (C := RX0) (T := TX0) (N := 11) hx hb hts hiX0 hown hK hP 0 rfl rfl 10 (by decide) hf28 (fun _ h9 => h9) rfl dX0_holding_68 ?_
          refine lv_iload hx hb dX0_holding_71 (lv_at hl 5 rfl) ?_
          refine xald (k := j) hx hb hK hP 3 rfl (by omega) (by decide) dX0_holding_73 ?_
          refine lv_iload_n hx hb dX0_holding_74 rfl (lv_at hl 4 rfl) ?_
          refine lv_iand hx hb dX0_holding_75 ?_
          refine lv_if_ne (tgt := 86) hx hb dX0_holding_76 (by decide) (fun c76 => ?_) (fun c76 => ?_)
          · skip
            have hl : lv_has ls 6 [(5, .int (b2 (decide (nI k &&& rMu σ j = rMu σ j) && decide (nI k &&& rMn σ j = 0)))), (0, .ref zB), (1, .int (nI k)), (2, .int rp), (3, .int (hdR σ rp k (sN σ - j))), (4, .int (nI j))] := by rw [← (show hdR σ rp k (sN σ - (j + 1)) = hdR σ rp k (sN σ - j) from (hd_n (by omega) (by unfold cnd; rw [c55, c64, decide_eq_false c76]; rfl)).symm)]; exact hl
            refine lv_iinc (k := 5) (x := nI j) (v := nI j - 1) (lv' := [(4, .int (nI j - 1)), (5, .int (b2 (decide (nI k &&& rMu σ j = rMu σ j) && decide (nI k &&& rMn σ j = 0)))), (0, .ref zB), (1, .int (nI k)), (2, .int rp), (3, .int (hdR σ rp k (sN σ - j)))]) hx hb dX0_holding_86 hl rfl (show (nI j) + Int32.ofInt (-1) = nI j - 1 from dec1 _) (by decide) rfl (fun ls hl => ?_)
            refine lv_goto (tgt := 10) hx hb dX0_holding_89 (by decide) ?_
            exact ih10 j (show j ≤ sN σ from (by omega)) (by show j < (j + 1); omega) ls (lv_sub hl [2, 3, 4, 5, 0] rfl)
          · skip
            refine lv_iload_n hx hb dX0_holding_79 rfl (lv_at hl 4 rfl) ?_
            refine lv_iconst (v := 1) hx hb dX0_holding_80 (by decide) ?_
            refine lv_iload hx hb dX0_holding_81 (lv_at hl 5 rfl) ?_
            refine lv_ishl hx hb dX0_holding_83 ?_
            refine lv_asi (show 1 <<< ((nI j) &&& 31) = nI (2 ^ j) from shl1 j (by omega)) ?_
            refine lv_ior hx hb dX0_holding_84 ?_
            refine lv_istore_n (lv' := [(3, .int ((hdR σ rp k (sN σ - (j + 1))) ||| (nI (2 ^ j)))), (5, .int (b2 (decide (nI k &&& rMu σ j = rMu σ j) && decide (nI k &&& rMn σ j = 0)))), (0, .ref zB), (1, .int (nI k)), (2, .int rp), (4, .int (nI j))]) hx hb dX0_holding_85 rfl hl (by decide) rfl (fun ls hl => ?_)
            have hl : lv_has ls 6 [(3, .int (hdR σ rp k (sN σ - j))), (5, .int (b2 (decide (nI k &&& rMu σ j = rMu σ j) && decide (nI k &&& rMn σ j = 0)))), (0, .ref zB), (1, .int (nI k)), (2, .int rp), (4, .int (nI j))] := by rw [← (show (hdR σ rp k (sN σ - (j + 1))) ||| (nI (2 ^ j)) = hdR σ rp k (sN σ - j) from (hd_y (by omega) (by unfold cnd; rw [c55, c64, decide_eq_true c76]; rfl)).symm)]; exact hl
            refine lv_iinc (k := 5) (x := nI j) (v := nI j - 1) (lv' := [(4, .int (nI j - 1)), (3, .int (hdR σ rp k (sN σ - j))), (5, .int (b2 (decide (nI k &&& rMu σ j = rMu σ j) && decide (nI k &&& rMn σ j = 0)))), (0, .ref zB), (1, .int (nI k)), (2, .int rp)]) hx hb dX0_holding_86 hl rfl (show (nI j) + Int32.ofInt (-1) = nI j - 1 from dec1 _) (by decide) rfl (fun ls hl => ?_)
            refine lv_goto (tgt := 10) hx hb dX0_holding_89 (by decide) ?_
            exact ih10 j (show j ≤ sN σ from (by omega)) (by show j < (j + 1); omega) ls (lv_sub hl [3, 4, 5, 1, 0] rfl)
    · skip
      refine lv_iload_n hx hb dX0_holding_15 rfl (lv_at hl 1 rfl) ?_
      refine lv_aload_n hx hb dX0_holding_16 rfl (lv_at hl 0 rfl) ?_
      refine va_get (D := D) (ci := 0) (v := .ref zU) (C := RX0) (T := TX0) (N := 11) hx hb hts hiX0 hown hK hP 0 rfl rfl 7 (by decide) hf19 (fun _ h9 => h9) rfl dX0_holding_17 ?_
      refine lv_iload hx hb dX0_holding_20 (lv_at hl 4 rfl) ?_
      refine xald (k := j) hx hb hK hP 1 rfl (by omega) (by decide) dX0_holding_22 ?_
      refine lv_iand hx hb dX0_holding_23 ?_
      refine lv_aload_n hx hb dX0_holding_24 rfl (lv_at hl 0 rfl) ?_
      refine va_get (D := D) (ci := 0) (v := .ref zU) (C := RX0) (T := TX0) (N := 11) hx hb hts hiX0 hown hK hP 0 rfl rfl 7 (by decide) hf19 (fun _ h9 => h9) rfl dX0_holding_25 ?_
      refine lv_iload hx hb dX0_holding_28 (lv_at hl 4 rfl) ?_
      refine xald (k := j) hx hb hK hP 1 rfl (by omega) (by decide) dX0_holding_30 ?_
      refine lv_icmp_ne (tgt := 50) hx hb dX0_holding_31 (by decide) (fun c31 => ?_) (fun c31 => ?_)
      · skip
        refine lv_iconst (v := 0) hx hb dX0_holding_50 (by decide) ?_
        refine lv_asi (show (0 : Int32) = b2 (decide (nI k &&& rMu σ j = rMu σ j) && decide (nI k &&& rMn σ j = 0)) from by simp [c12, c31, b2]) ?_
        exact J51 ls (lv_sub hl [0, 1, 2, 3, 4] rfl)
      · skip
        refine lv_iload_n hx hb dX0_holding_34 rfl (lv_at hl 1 rfl) ?_
        refine lv_aload_n hx hb dX0_holding_35 rfl (lv_at hl 0 rfl) ?_
        refine va_get (D := D) (ci := 0) (v := .ref zV) (C := RX0) (T := TX0) (N := 11) hx hb hts hiX0 hown hK hP 0 rfl rfl 8 (by decide) hf22 (fun _ h9 => h9) rfl dX0_holding_36 ?_
        refine lv_iload hx hb dX0_holding_39 (lv_at hl 4 rfl) ?_
        refine xald (k := j) hx hb hK hP 2 rfl (by omega) (by decide) dX0_holding_41 ?_
        refine lv_iand hx hb dX0_holding_42 ?_
        refine lv_if_ne (tgt := 50) hx hb dX0_holding_43 (by decide) (fun c43 => ?_) (fun c43 => ?_)
        · skip
          refine lv_iconst (v := 0) hx hb dX0_holding_50 (by decide) ?_
          refine lv_asi (show (0 : Int32) = b2 (decide (nI k &&& rMu σ j = rMu σ j) && decide (nI k &&& rMn σ j = 0)) from by simp [c12, c31, c43, b2]) ?_
          exact J51 ls (lv_sub hl [0, 1, 2, 3, 4] rfl)
        · skip
          refine lv_iconst (v := 1) hx hb dX0_holding_46 (by decide) ?_
          refine lv_goto (tgt := 51) hx hb dX0_holding_47 (by decide) ?_
          refine lv_asi (show (1 : Int32) = b2 (decide (nI k &&& rMu σ j = rMu σ j) && decide (nI k &&& rMn σ j = 0)) from by simp [c12, c31, c43, b2]) ?_
          exact J51 ls (lv_sub hl [0, 1, 2, 3, 4] rfl)

set_option maxHeartbeats 4000000 in
set_option maxRecDepth 100000 in
theorem c_X0_lawLine (l : Launch) (D : va_G) (cI cZ : ClassId) (zB : Nat) (zK : Nat) (zW : Nat) (zU : Nat) (zV : Nat) (zR : Nat) (zE : Nat) (σ : ST) (rp : Int32) (k : Nat) (hok : Ok σ) : Met l yX0_lawLine wsX0_lawLine ({ frames := 2, cells := 0, slots := 0, locals := 46 }) (va_Pc [.ref zB, .int (nI k), .int rp] (XP D cI cZ [(zB, .inr (0, [.int (nI (sF σ)), .int (nI (2 ^ sF σ)), .ref zK, .ref zW, .int (nI (sN σ)), .int (sR σ), .int (orE (rEr σ) (sN σ)), .ref zU, .ref zV, .ref zR, .ref zE])), (zU, .inl (cI, 12, .inl (rMu σ))), (zV, .inl (cI, 12, .inl (rMn σ))), (zE, .inl (cI, 12, .inl (rEr σ)))])) (vp_Si (fun r => r = lawI σ rp k)) 0 0 (fun _ => False) := by
  refine Met.ofW (cc := cX0_lawLine) (maxL := 5) (ret := (some .int)) (by decide) rfl ?_
  intro p e s m args below meth c s₁ B hml hv
  obtain ⟨rfl, hP, hK, hN⟩ := hv
  have hx := B.exec
  have hb := B.bytes
  have hr := B.returns
  have hts := atoms_spec (ws := wsX0_lawLine) B.pre
  have hown : s.vm.findClass RX0 = some m.cls := findClass_of_methodNamed B.named
  have hlocks := B.notSynchronized
  have ho := hok.1
  have hk2 := hok.k
  have hf44 := hts (.fieldLink RX0 44 "BallCourt$Book" "excepting" "I") (List.mem_of_getElem? (i := 1) (by decide +kernel))
  have hiX0 : ∀ w ∈ wsX00, w ∈ wsX0_lawLine := fun w h => List.mem_cons_of_mem _ (List.mem_append_right _ h)
  have hf38 := hts (.fieldLink RX0 38 "BallCourt$Book" "lines" "I") (List.mem_of_getElem? (i := 2) (by decide +kernel))
  have hl := lv_entry ([.ref zB, .int (nI k), .int rp]) (n := 5) (Nat.le_of_ble_eq_true rfl)
  rw [lg_entry_eq]
  generalize (lg_sl ([.ref zB, .int (nI k), .int rp]) ++ List.replicate (5 - (lg_sl ([.ref zB, .int (nI k), .int rp])).length) Slot.unset).toArray = ls at hl ⊢
  have hl : lv_has ls 5 [(0, .ref zB), (1, .int (nI k)), (2, .int rp)] := hl
  refine lv_aload_n hx hb dX0_lawLine_0 rfl (lv_at hl 0 rfl) ?_
  refine lv_iload_n hx hb dX0_lawLine_1 rfl (lv_at hl 1 rfl) ?_
  refine lv_iload_n hx hb dX0_lawLine_2 rfl (lv_at hl 2 rfl) ?_
  refine xpV (rest := []) ⟨hx, hb, hml, hown, hts⟩ (c_X0_holding l D cI cZ zB zK zW zU zV zR zE σ rp k hok) (cwV 2 hts gX0_lawLine_X0_holding rfl rfl rfl (by decide +kernel) ⟨Nat.le_of_ble_eq_true rfl, Nat.le_of_ble_eq_true rfl⟩) hP [0, 1, 2, 3] rfl hK hN (ci := 0) (q0 := 0) rfl rfl rfl hl.1 rfl (Nat.le_of_ble_eq_true rfl) dX0_lawLine_3 ⟨Nat.zero_le _, Nat.zero_le _⟩ (fun r3 e3 => ?_)
  subst e3
  refine lv_aload_n hx hb dX0_lawLine_6 rfl (lv_at hl 0 rfl) ?_
  refine va_get (D := D) (ci := 0) (v := .int (orE (rEr σ) (sN σ))) (C := RX0) (T := TX0) (N := 11) hx hb hts hiX0 hown hK hP 0 rfl rfl 6 (by decide) hf44 (fun _ h9 => h9) rfl dX0_lawLine_7 ?_
  refine lv_iconst (v := (-1)) hx hb dX0_lawLine_10 (by decide) ?_
  refine lv_ixor hx hb dX0_lawLine_11 ?_
  refine lv_iand hx hb dX0_lawLine_12 ?_
  refine lv_asi (show (holdI σ rp k) &&& ((orE (rEr σ) (sN σ)) ^^^ (-1)) = givI σ rp k from rfl) ?_
  refine lv_istore_n (lv' := [(3, .int (givI σ rp k)), (0, .ref zB), (1, .int (nI k)), (2, .int rp)]) hx hb dX0_lawLine_13 rfl hl (by decide) rfl (fun ls hl => ?_)
  refine lv_iconst (v := nI 0) hx hb dX0_lawLine_14 (by decide) ?_
  refine lv_istore (lv' := [(4, .int (nI 0)), (3, .int (givI σ rp k)), (0, .ref zB), (1, .int (nI k)), (2, .int rp)]) hx hb dX0_lawLine_15 hl (by decide) rfl (fun ls hl => ?_)
  refine wloop (α := Nat) (fun v => sN σ - v) (fun v => [(0, .ref zB), (1, .int (nI k)), (2, .int rp), (3, .int (givI σ rp k)), (4, .int (nI v))]) (fun v => (v ≤ sN σ) ∧ (∀ j, j < v → bit (givI σ rp k) (nI j) = false)) 5 (fun v hv ih17 ls hl => ?_) 0 ⟨(show 0 ≤ sN σ from Nat.zero_le _), (show ∀ j, j < 0 → bit (givI σ rp k) (nI j) = false from fun j hj => absurd hj (Nat.not_lt_zero _))⟩ ls (lv_sub hl [2, 3, 4, 1, 0] rfl)
  obtain ⟨i, rfl⟩ : ∃ z : Nat, z = v := ⟨_, rfl⟩
  obtain ⟨hi, hn⟩ := hv
  have hi : i ≤ sN σ := hi
  have hn : ∀ j, j < i → bit (givI σ rp k) (nI j) = false := hn
  have hl : lv_has ls 5 [(0, .ref zB), (1, .int (nI k)), (2, .int rp), (3, .int (givI σ rp k)), (4, .int (nI i))] := hl
  refine lv_iload hx hb dX0_lawLine_17 (lv_at hl 4 rfl) ?_
  refine lv_aload_n hx hb dX0_lawLine_19 rfl (lv_at hl 0 rfl) ?_
  refine va_get (D := D) (ci := 0) (v := .int (nI (sN σ))) (C := RX0) (T := TX0) (N := 11) hx hb hts hiX0 hown hK hP 0 rfl rfl 4 (by decide) hf38 (fun _ h9 => h9) rfl dX0_lawLine_20 ?_
  refine lv_icmp_ge (tgt := 44) hx hb dX0_lawLine_23 (by decide) (fun c23 => ?_) (fun c23 => ?_)
  · skip
    have c23 := (nI_leI (by omega) (by omega)).mp c23
    refine lv_bipush (v := (-6)) hx hb dX0_lawLine_44 (by decide) ?_
    exact W.iret (v := (-6)) hx hb hr (fun t ht hW => ⟨_, rfl, by rw [lawI, lawI_no (fun j hj => hn j (by omega)), if_neg (Nat.lt_irrefl _)], ht⟩) (fun _ h => absurd h List.not_mem_nil) dX0_lawLine_46
  · skip
    have c23 := Nat.lt_of_not_le (fun z => c23 ((nI_leI (by omega) (by omega)).mpr z))
    refine lv_iload_n hx hb dX0_lawLine_26 rfl (lv_at hl 3 rfl) ?_
    refine lv_iload hx hb dX0_lawLine_27 (lv_at hl 4 rfl) ?_
    refine xpSN (host := "BallCourt") (rest := []) ⟨hx, hb, hml, hown, hts⟩ (c_X5_hasBit l D cI cZ (givI σ rp k) (nI i)) (va_cnB 2 hts gX0_lawLine_X5_hasBit_n50 rfl rfl rfl (NW.m hN 4 rfl) (hts (.initialized RX5) (List.mem_of_getElem? (i := 12) (by decide +kernel))) (by decide +kernel) ⟨Nat.le_of_ble_eq_true rfl, Nat.le_of_ble_eq_true rfl⟩) (hts (.static yX5_hasBit) (List.mem_of_getElem? (i := 11) (by decide +kernel))) hP [] rfl hK hN rfl hl.1 rfl (Nat.le_of_ble_eq_true rfl) dX0_lawLine_29 ⟨Nat.zero_le _, Nat.zero_le _⟩ (fun r29 e29 => ?_)
    subst e29
    refine lv_if_eq (tgt := 38) hx hb dX0_lawLine_32 (by decide) (fun c32 => ?_) (fun c32 => ?_)
    · skip
      have c32 := b2_0 c32
      refine lv_iinc (k := 4) (x := nI i) (v := nI (i + 1)) (lv' := [(4, .int (nI (i + 1))), (0, .ref zB), (1, .int (nI k)), (2, .int rp), (3, .int (givI σ rp k))]) hx hb dX0_lawLine_38 hl rfl (show (nI i) + Int32.ofInt 1 = nI (i + 1) from nI_1 _) (by decide) rfl (fun ls hl => ?_)
      refine lv_goto (tgt := 17) hx hb dX0_lawLine_41 (by decide) ?_
      exact ih17 (i + 1) ⟨(show (i + 1) ≤ sN σ from (by omega)), (show ∀ j, j < (i + 1) → bit (givI σ rp k) (nI j) = false from lt_s hn c32)⟩ (by show sN σ - (i + 1) < sN σ - i; omega) ls (lv_sub hl [1, 2, 3, 4, 0] rfl)
    · skip
      have c32 := b2_1 c32
      refine lv_iload hx hb dX0_lawLine_35 (lv_at hl 4 rfl) ?_
      exact W.iret (v := nI i) hx hb hr (fun t ht hW => ⟨_, rfl, by rw [lawI, lawI_at c23 c32 hn, if_pos c23], ht⟩) (fun _ h => absurd h List.not_mem_nil) dX0_lawLine_37

set_option maxHeartbeats 4000000 in
set_option maxRecDepth 100000 in
theorem c_X0_namedBy (l : Launch) (D : va_G) (cI cZ : ClassId) (zB : Nat) (zK : Nat) (zW : Nat) (zU : Nat) (zV : Nat) (zR : Nat) (zE : Nat) (σ : ST) (q : Nat) (hok : Ok σ) (hq : q < sN σ) : Met l yX0_namedBy wsX0_namedBy ({ frames := 1, cells := 0, slots := 0, locals := 21 }) (va_Pc [.ref zB, .int (nI q)] (XP D cI cZ [(zB, .inr (0, [.int (nI (sF σ)), .int (nI (2 ^ sF σ)), .ref zK, .ref zW, .int (nI (sN σ)), .int (sR σ), .int (orE (rEr σ) (sN σ)), .ref zU, .ref zV, .ref zR, .ref zE])), (zU, .inl (cI, 12, .inl (rMu σ))), (zV, .inl (cI, 12, .inl (rMn σ))), (zE, .inl (cI, 12, .inl (rEr σ)))])) (vp_Si (fun r => r = nmI σ (sR σ) q)) 0 0 (fun _ => False) := by
  refine Met.ofW (cc := cX0_namedBy) (maxL := 5) (ret := (some .int)) (by decide) rfl ?_
  intro p e s m args below meth c s₁ B hml hv
  obtain ⟨rfl, hP, hK, hN⟩ := hv
  have hx := B.exec
  have hb := B.bytes
  have hr := B.returns
  have hts := atoms_spec (ws := wsX0_namedBy) B.pre
  have hown : s.vm.findClass RX0 = some m.cls := findClass_of_methodNamed B.named
  have hlocks := B.notSynchronized
  have ho := hok.1
  have hk2 := hok.k
  have hf38 := hts (.fieldLink RX0 38 "BallCourt$Book" "lines" "I") (List.mem_of_getElem? (i := 1) (by decide +kernel))
  have hiX0 : ∀ w ∈ wsX00, w ∈ wsX0_namedBy := fun w h => List.mem_cons_of_mem _ (List.mem_append_right _ h)
  have hf19 := hts (.fieldLink RX0 19 "BallCourt$Book" "must" "[I") (List.mem_of_getElem? (i := 2) (by decide +kernel))
  have hf22 := hts (.fieldLink RX0 22 "BallCourt$Book" "mustNot" "[I") (List.mem_of_getElem? (i := 3) (by decide +kernel))
  have hf28 := hts (.fieldLink RX0 28 "BallCourt$Book" "excepters" "[I") (List.mem_of_getElem? (i := 4) (by decide +kernel))
  have hf41 := hts (.fieldLink RX0 41 "BallCourt$Book" "repealed" "I") (List.mem_of_getElem? (i := 5) (by decide +kernel))
  have hl := lv_entry ([.ref zB, .int (nI q)]) (n := 5) (Nat.le_of_ble_eq_true rfl)
  rw [lg_entry_eq]
  generalize (lg_sl ([.ref zB, .int (nI q)]) ++ List.replicate (5 - (lg_sl ([.ref zB, .int (nI q)])).length) Slot.unset).toArray = ls at hl ⊢
  have hl : lv_has ls 5 [(0, .ref zB), (1, .int (nI q))] := hl
  refine lv_iconst (v := 0) hx hb dX0_namedBy_0 (by decide) ?_
  refine lv_istore_n (lv' := [(2, .int 0), (0, .ref zB), (1, .int (nI q))]) hx hb dX0_namedBy_1 rfl hl (by decide) rfl (fun ls hl => ?_)
  refine lv_iconst (v := 1) hx hb dX0_namedBy_2 (by decide) ?_
  refine lv_iload_n hx hb dX0_namedBy_3 rfl (lv_at hl 2 rfl) ?_
  refine lv_ishl hx hb dX0_namedBy_4 ?_
  refine lv_asi (show 1 <<< ((nI q) &&& 31) = (nmR σ (sR σ) q 0).2 from shl1 q (by omega)) ?_
  refine lv_istore_n (lv' := [(3, .int ((nmR σ (sR σ) q 0).2)), (2, .int 0), (0, .ref zB), (1, .int (nI q))]) hx hb dX0_namedBy_5 rfl hl (by decide) rfl (fun ls hl => ?_)
  refine lv_iload_n hx hb dX0_namedBy_6 rfl (lv_at hl 3 rfl) ?_
  refine lv_istore (lv' := [(4, .int (nI q)), (3, .int ((nmR σ (sR σ) q 0).2)), (2, .int 0), (0, .ref zB), (1, .int (nI q))]) hx hb dX0_namedBy_7 hl (by decide) rfl (fun ls hl => ?_)
  have hl : lv_has ls 5 [(4, .int (nI q)), (3, .int ((nmR σ (sR σ) q 0).2)), (2, .int ((nmR σ (sR σ) q 0).1)), (0, .ref zB), (1, .int (nI q))] := by rw [← (show 0 = (nmR σ (sR σ) q 0).1 from rfl)]; exact hl
  have hl : lv_has ls 5 [(4, .int (nI (q + 0))), (3, .int ((nmR σ (sR σ) q 0).2)), (2, .int ((nmR σ (sR σ) q 0).1)), (0, .ref zB), (1, .int (nI q))] := by rw [← (show nI q = nI (q + 0) from rfl)]; exact hl
  refine wloop (α := Nat) (fun v => sN σ - v) (fun v => [(0, .ref zB), (1, .int (nI q)), (2, .int ((nmR σ (sR σ) q v).1)), (3, .int ((nmR σ (sR σ) q v).2)), (4, .int (nI (q + v)))]) (fun v => (q + v ≤ sN σ)) 5 (fun v hv ih9 ls hl => ?_) 0 (show q + 0 ≤ sN σ from (by omega)) ls (lv_sub hl [3, 4, 2, 1, 0] rfl)
  obtain ⟨j, rfl⟩ : ∃ z : Nat, z = v := ⟨_, rfl⟩
  have hj : q + j ≤ sN σ := hv
  have hl : lv_has ls 5 [(0, .ref zB), (1, .int (nI q)), (2, .int ((nmR σ (sR σ) q j).1)), (3, .int ((nmR σ (sR σ) q j).2)), (4, .int (nI (q + j)))] := hl
  refine lv_iload hx hb dX0_namedBy_9 (lv_at hl 4 rfl) ?_
  refine lv_aload_n hx hb dX0_namedBy_11 rfl (lv_at hl 0 rfl) ?_
  refine va_get (D := D) (ci := 0) (v := .int (nI (sN σ))) (C := RX0) (T := TX0) (N := 11) hx hb hts hiX0 hown hK hP 0 rfl rfl 4 (by decide) hf38 (fun _ h9 => h9) rfl dX0_namedBy_12 ?_
  refine lv_icmp_ge (tgt := 68) hx hb dX0_namedBy_15 (by decide) (fun c15 => ?_) (fun c15 => ?_)
  · skip
    have c15 := (nI_leI (by omega) (by omega)).mp c15
    refine lv_iload_n hx hb dX0_namedBy_68 rfl (lv_at hl 2 rfl) ?_
    exact W.iret (v := (nmR σ (sR σ) q j).1) hx hb hr (fun t ht hW => ⟨_, rfl, by rw [nmI, show sN σ - q = j by omega], ht⟩) (fun _ h => absurd h List.not_mem_nil) dX0_namedBy_69
  · skip
    have c15 := Nat.lt_of_not_le (fun z => c15 ((nI_leI (by omega) (by omega)).mpr z))
    refine lv_iload_n hx hb dX0_namedBy_18 rfl (lv_at hl 3 rfl) ?_
    refine lv_iload hx hb dX0_namedBy_19 (lv_at hl 4 rfl) ?_
    refine xpSN (host := "BallCourt") (rest := []) ⟨hx, hb, hml, hown, hts⟩ (c_X5_hasBit l D cI cZ ((nmR σ (sR σ) q j).2) (nI (q + j))) (va_cnB 2 hts gX0_namedBy_X5_hasBit_n50 rfl rfl rfl (NW.m hN 4 rfl) (hts (.initialized RX5) (List.mem_of_getElem? (i := 7) (by decide +kernel))) (by decide +kernel) ⟨Nat.le_of_ble_eq_true rfl, Nat.le_of_ble_eq_true rfl⟩) (hts (.static yX5_hasBit) (List.mem_of_getElem? (i := 6) (by decide +kernel))) hP [] rfl hK hN rfl hl.1 rfl (Nat.le_of_ble_eq_true rfl) dX0_namedBy_21 ⟨Nat.zero_le _, Nat.zero_le _⟩ (fun r21 e21 => ?_)
    subst e21
    refine lv_if_eq (tgt := 62) hx hb dX0_namedBy_24 (by decide) (fun c24 => ?_) (fun c24 => ?_)
    · skip
      have c24 := b2_0 c24
      have hl : lv_has ls 5 [(0, .ref zB), (1, .int (nI q)), (2, .int ((nmR σ (sR σ) q (j + 1)).1)), (3, .int ((nmR σ (sR σ) q j).2)), (4, .int (nI (q + j)))] := by rw [← (show (nmR σ (sR σ) q j).1 = (nmR σ (sR σ) q (j + 1)).1 from (by rw [nmR_n c24]))]; exact hl
      have hl : lv_has ls 5 [(0, .ref zB), (1, .int (nI q)), (2, .int ((nmR σ (sR σ) q (j + 1)).1)), (3, .int ((nmR σ (sR σ) q (j + 1)).2)), (4, .int (nI (q + j)))] := by rw [← (show (nmR σ (sR σ) q j).2 = (nmR σ (sR σ) q (j + 1)).2 from (by rw [nmR_n c24]))]; exact hl
      refine lv_iinc (k := 4) (x := nI (q + j)) (v := nI (q + (j + 1))) (lv' := [(4, .int (nI (q + (j + 1)))), (0, .ref zB), (1, .int (nI q)), (2, .int ((nmR σ (sR σ) q (j + 1)).1)), (3, .int ((nmR σ (sR σ) q (j + 1)).2))]) hx hb dX0_namedBy_62 hl rfl (show (nI (q + j)) + Int32.ofInt 1 = nI (q + (j + 1)) from nI_1 _) (by decide) rfl (fun ls hl => ?_)
      refine lv_goto (tgt := 9) hx hb dX0_namedBy_65 (by decide) ?_
      exact ih9 (j + 1) (show q + (j + 1) ≤ sN σ from (by omega)) (by show sN σ - (j + 1) < sN σ - j; omega) ls (lv_sub hl [1, 2, 3, 4, 0] rfl)
    · skip
      have c24 := b2_1 c24
      refine lv_iload_n hx hb dX0_namedBy_27 rfl (lv_at hl 2 rfl) ?_
      refine lv_aload_n hx hb dX0_namedBy_28 rfl (lv_at hl 0 rfl) ?_
      refine va_get (D := D) (ci := 0) (v := .ref zU) (C := RX0) (T := TX0) (N := 11) hx hb hts hiX0 hown hK hP 0 rfl rfl 7 (by decide) hf19 (fun _ h9 => h9) rfl dX0_namedBy_29 ?_
      refine lv_iload hx hb dX0_namedBy_32 (lv_at hl 4 rfl) ?_
      refine xald (k := (q + j)) hx hb hK hP 1 rfl (by omega) (by decide) dX0_namedBy_34 ?_
      refine lv_aload_n hx hb dX0_namedBy_35 rfl (lv_at hl 0 rfl) ?_
      refine va_get (D := D) (ci := 0) (v := .ref zV) (C := RX0) (T := TX0) (N := 11) hx hb hts hiX0 hown hK hP 0 rfl rfl 8 (by decide) hf22 (fun _ h9 => h9) rfl dX0_namedBy_36 ?_
      refine lv_iload hx hb dX0_namedBy_39 (lv_at hl 4 rfl) ?_
      refine xald (k := (q + j)) hx hb hK hP 2 rfl (by omega) (by decide) dX0_namedBy_41 ?_
      refine lv_ior hx hb dX0_namedBy_42 ?_
      refine lv_ior hx hb dX0_namedBy_43 ?_
      refine lv_istore_n (lv' := [(2, .int (((nmR σ (sR σ) q j).1) ||| ((rMu σ (q + j)) ||| (rMn σ (q + j))))), (0, .ref zB), (1, .int (nI q)), (3, .int ((nmR σ (sR σ) q j).2)), (4, .int (nI (q + j)))]) hx hb dX0_namedBy_44 rfl hl (by decide) rfl (fun ls hl => ?_)
      refine lv_iload_n hx hb dX0_namedBy_45 rfl (lv_at hl 3 rfl) ?_
      refine lv_aload_n hx hb dX0_namedBy_46 rfl (lv_at hl 1 rfl) ?_
      refine va_get (D := D) (ci := 0) (v := .ref zE) (C := RX0) (T := TX0) (N := 11) hx hb hts hiX0 hown hK hP 0 rfl rfl 10 (by decide) hf28 (fun _ h9 => h9) rfl dX0_namedBy_47 ?_
      refine lv_iload hx hb dX0_namedBy_50 (lv_at hl 4 rfl) ?_
      refine xald (k := (q + j)) hx hb hK hP 3 rfl (by omega) (by decide) dX0_namedBy_52 ?_
      refine lv_aload_n hx hb dX0_namedBy_53 rfl (lv_at hl 1 rfl) ?_
      refine va_get (D := D) (ci := 0) (v := .int (sR σ)) (C := RX0) (T := TX0) (N := 11) hx hb hts hiX0 hown hK hP 0 rfl rfl 5 (by decide) hf41 (fun _ h9 => h9) rfl dX0_namedBy_54 ?_
      refine lv_iconst (v := (-1)) hx hb dX0_namedBy_57 (by decide) ?_
      refine lv_ixor hx hb dX0_namedBy_58 ?_
      refine lv_iand hx hb dX0_namedBy_59 ?_
      refine lv_ior hx hb dX0_namedBy_60 ?_
      refine lv_istore_n (lv' := [(3, .int (((nmR σ (sR σ) q j).2) ||| ((rEr σ (q + j)) &&& ((sR σ) ^^^ (-1))))), (2, .int (((nmR σ (sR σ) q j).1) ||| ((rMu σ (q + j)) ||| (rMn σ (q + j))))), (0, .ref zB), (1, .int (nI q)), (4, .int (nI (q + j)))]) hx hb dX0_namedBy_61 rfl hl (by decide) rfl (fun ls hl => ?_)
      have hl : lv_has ls 5 [(3, .int (((nmR σ (sR σ) q j).2) ||| ((rEr σ (q + j)) &&& ((sR σ) ^^^ (-1))))), (2, .int ((nmR σ (sR σ) q (j + 1)).1)), (0, .ref zB), (1, .int (nI q)), (4, .int (nI (q + j)))] := by rw [← (show ((nmR σ (sR σ) q j).1) ||| ((rMu σ (q + j)) ||| (rMn σ (q + j))) = (nmR σ (sR σ) q (j + 1)).1 from (by rw [nmR_y c24]))]; exact hl
      have hl : lv_has ls 5 [(3, .int ((nmR σ (sR σ) q (j + 1)).2)), (2, .int ((nmR σ (sR σ) q (j + 1)).1)), (0, .ref zB), (1, .int (nI q)), (4, .int (nI (q + j)))] := by rw [← (show ((nmR σ (sR σ) q j).2) ||| ((rEr σ (q + j)) &&& ((sR σ) ^^^ (-1))) = (nmR σ (sR σ) q (j + 1)).2 from (by rw [nmR_y c24]))]; exact hl
      refine lv_iinc (k := 4) (x := nI (q + j)) (v := nI (q + (j + 1))) (lv' := [(4, .int (nI (q + (j + 1)))), (3, .int ((nmR σ (sR σ) q (j + 1)).2)), (2, .int ((nmR σ (sR σ) q (j + 1)).1)), (0, .ref zB), (1, .int (nI q))]) hx hb dX0_namedBy_62 hl rfl (show (nI (q + j)) + Int32.ofInt 1 = nI (q + (j + 1)) from nI_1 _) (by decide) rfl (fun ls hl => ?_)
      refine lv_goto (tgt := 9) hx hb dX0_namedBy_65 (by decide) ?_
      exact ih9 (j + 1) (show q + (j + 1) ≤ sN σ from (by omega)) (by show sN σ - (j + 1) < sN σ - j; omega) ls (lv_sub hl [3, 4, 2, 1, 0] rfl)

set_option maxHeartbeats 4000000 in
set_option maxRecDepth 100000 in
theorem c_X3_covers (l : Launch) (D : va_G) (cI cZ : ClassId) (zB : Nat) (zL : Nat) (zLo : Nat) (σ : ST) (lo : Nat → Int32) (rp : Int32) (k : Nat) (hok : Ok σ) (hk : k < 2 ^ sF σ) (hlo : ∀ k, k < 2 ^ sF σ → lo k = lawI σ rp k) : Met l yX3_covers wsX3_covers ({ frames := 0, cells := 0, slots := 0, locals := 0 }) (va_Pc [.ref zL, .int (nI k)] (XP D cI cZ [(zL, .inr (3, [.ref zB, .ref zLo])), (zLo, .inl (cI, 128, .inl lo))])) (vp_Si (fun r => r = b2 (covB σ rp k))) 0 0 (fun _ => False) := by
  refine Met.ofW (cc := cX3_covers) (maxL := 2) (ret := (some .boolean)) (by decide) rfl ?_
  intro p e s m args below meth c s₁ B hml hv
  obtain ⟨rfl, hP, hK, hN⟩ := hv
  have hx := B.exec
  have hb := B.bytes
  have hr := B.returns
  have hts := atoms_spec (ws := wsX3_covers) B.pre
  have hown : s.vm.findClass RX3 = some m.cls := findClass_of_methodNamed B.named
  have hlocks := B.notSynchronized
  have ho := hok.1
  have hk2 := hok.k
  have hf9 := hts (.fieldLink RX3 9 "BallCourt$Laws" "lineOf" "[I") (List.mem_of_getElem? (i := 1) (by decide +kernel))
  have hiX3 : ∀ w ∈ wsX30, w ∈ wsX3_covers := fun w h => List.mem_cons_of_mem _ (List.mem_append_right _ h)
  have hl := lv_entry ([.ref zL, .int (nI k)]) (n := 2) (Nat.le_of_ble_eq_true rfl)
  rw [lg_entry_eq]
  generalize (lg_sl ([.ref zL, .int (nI k)]) ++ List.replicate (2 - (lg_sl ([.ref zL, .int (nI k)])).length) Slot.unset).toArray = ls at hl ⊢
  have hl : lv_has ls 2 [(0, .ref zL), (1, .int (nI k))] := hl
  refine lv_aload_n hx hb dX3_covers_0 rfl (lv_at hl 0 rfl) ?_
  refine va_get (D := D) (ci := 3) (v := .ref zLo) (C := RX3) (T := TX3) (N := 2) hx hb hts hiX3 hown hK hP 0 rfl rfl 1 (by decide) hf9 (fun _ h9 => h9) rfl dX3_covers_1 ?_
  refine lv_iload_n hx hb dX3_covers_4 rfl (lv_at hl 1 rfl) ?_
  refine xald (k := k) hx hb hK hP 1 rfl (by omega) (by decide) dX3_covers_5 ?_
  refine lv_asi (show lo k = lawI σ rp k from hlo k hk) ?_
  refine lv_bipush (v := (-6)) hx hb dX3_covers_6 (by decide) ?_
  refine lv_icmp_eq (tgt := 15) hx hb dX3_covers_8 (by decide) (fun c8 => ?_) (fun c8 => ?_)
  · skip
    have c8 := (lawI_6 (by omega)).mp c8
    refine lv_iconst (v := 0) hx hb dX3_covers_15 (by decide) ?_
    exact W.zret (v := 0) (ty := .boolean) hx hb hr rfl (fun t ht hW => ⟨_, rfl, by simp [c8, b2], ht⟩) (fun _ h => absurd h List.not_mem_nil) dX3_covers_16
  · skip
    have c8 := nt (fun z => c8 ((lawI_6 (by omega)).mpr z))
    refine lv_iconst (v := 1) hx hb dX3_covers_11 (by decide) ?_
    refine lv_goto (tgt := 16) hx hb dX3_covers_12 (by decide) ?_
    exact W.zret (v := 1) (ty := .boolean) hx hb hr rfl (fun t ht hW => ⟨_, rfl, by simp [c8, b2], ht⟩) (fun _ h => absurd h List.not_mem_nil) dX3_covers_16

set_option maxHeartbeats 4000000 in
set_option maxRecDepth 100000 in
theorem c_X3_rulingFor (l : Launch) (D : va_G) (cI cZ : ClassId) (zB : Nat) (zL : Nat) (zK : Nat) (zW : Nat) (zU : Nat) (zV : Nat) (zR : Nat) (zE : Nat) (zLo : Nat) (σ : ST) (lo : Nat → Int32) (rp : Int32) (k : Nat) (hok : Ok σ) (hk : k < 2 ^ sF σ) (hlo : ∀ k, k < 2 ^ sF σ → lo k = lawI σ rp k) : Met l yX3_rulingFor wsX3_rulingFor ({ frames := 1, cells := 0, slots := 0, locals := 21 }) (va_Pc [.ref zL, .int (nI k)] (XP D cI cZ [(zL, .inr (3, [.ref zB, .ref zLo])), (zLo, .inl (cI, 128, .inl lo)), (zB, .inr (0, [.int (nI (sF σ)), .int (nI (2 ^ sF σ)), .ref zK, .ref zW, .int (nI (sN σ)), .int (sR σ), .int (orE (rEr σ) (sN σ)), .ref zU, .ref zV, .ref zR, .ref zE])), (zR, .inl (cI, 12, .inl (rRu σ)))])) (vp_Si (fun r => r = rulI σ rp k)) 0 0 (fun _ => False) := by
  refine Met.ofW (cc := cX3_rulingFor) (maxL := 2) (ret := (some .int)) (by decide) rfl ?_
  intro p e s m args below meth c s₁ B hml hv
  obtain ⟨rfl, hP, hK, hN⟩ := hv
  have hx := B.exec
  have hb := B.bytes
  have hr := B.returns
  have hts := atoms_spec (ws := wsX3_rulingFor) B.pre
  have hown : s.vm.findClass RX3 = some m.cls := findClass_of_methodNamed B.named
  have hlocks := B.notSynchronized
  have ho := hok.1
  have hk2 := hok.k
  have hf15 := hts (.fieldLink RX3 15 "BallCourt$Laws" "book" "LBallCourt$Book;") (List.mem_of_getElem? (i := 1) (by decide +kernel))
  have hiX3 : ∀ w ∈ wsX30, w ∈ wsX3_rulingFor := fun w h => List.mem_cons_of_mem _ (List.mem_append_left _ (List.mem_append_right _ h))
  have hiX0 : ∀ w ∈ wsX00, w ∈ wsX3_rulingFor := fun w h => List.mem_cons_of_mem _ (List.mem_append_right _ h)
  have hf9 := hts (.fieldLink RX3 9 "BallCourt$Laws" "lineOf" "[I") (List.mem_of_getElem? (i := 2) (by decide +kernel))
  have hl := lv_entry ([.ref zL, .int (nI k)]) (n := 2) (Nat.le_of_ble_eq_true rfl)
  rw [lg_entry_eq]
  generalize (lg_sl ([.ref zL, .int (nI k)]) ++ List.replicate (2 - (lg_sl ([.ref zL, .int (nI k)])).length) Slot.unset).toArray = ls at hl ⊢
  have hl : lv_has ls 2 [(0, .ref zL), (1, .int (nI k))] := hl
  refine lv_aload_n hx hb dX3_rulingFor_0 rfl (lv_at hl 0 rfl) ?_
  refine lv_iload_n hx hb dX3_rulingFor_1 rfl (lv_at hl 1 rfl) ?_
  refine xpV (rest := []) ⟨hx, hb, hml, hown, hts⟩ (c_X3_covers l D cI cZ zB zL zLo σ lo rp k hok hk hlo) (cwV 1 hts gX3_rulingFor_X3_covers rfl rfl rfl (by decide +kernel) ⟨Nat.le_of_ble_eq_true rfl, Nat.le_of_ble_eq_true rfl⟩) hP [0, 1] rfl hK hN (ci := 3) (q0 := 0) rfl rfl rfl hl.1 rfl (Nat.le_of_ble_eq_true rfl) dX3_rulingFor_2 ⟨Nat.zero_le _, Nat.zero_le _⟩ (fun r2 e2 => ?_)
  subst e2
  refine lv_if_eq (tgt := 25) hx hb dX3_rulingFor_5 (by decide) (fun c5 => ?_) (fun c5 => ?_)
  · skip
    have c5 := b2_0 c5
    have c5 := of_decide_eq_false c5
    refine lv_iconst (v := 0) hx hb dX3_rulingFor_25 (by decide) ?_
    exact W.iret (v := 0) hx hb hr (fun t ht hW => ⟨_, rfl, by rw [rulI, if_neg c5], ht⟩) (fun _ h => absurd h List.not_mem_nil) dX3_rulingFor_26
  · skip
    have c5 := b2_1 c5
    have c5 := of_decide_eq_true c5
    refine lv_aload_n hx hb dX3_rulingFor_8 rfl (lv_at hl 0 rfl) ?_
    refine va_get (D := D) (ci := 3) (v := .ref zB) (C := RX3) (T := TX3) (N := 2) hx hb hts hiX3 hown hK hP 0 rfl rfl 0 (by decide) hf15 (fun _ h9 => h9) rfl dX3_rulingFor_9 ?_
    refine va_getN (D := D) (ci := 0) (v := .ref zR) (C := RX0) (T := TX0) (N := 11) hx hb hts hiX0 hown hK hP 2 rfl rfl 9 (by decide) (NW.f hN 19 rfl _) (fun _ h9 => h9) rfl dX3_rulingFor_12 ?_
    refine lv_aload_n hx hb dX3_rulingFor_15 rfl (lv_at hl 0 rfl) ?_
    refine va_get (D := D) (ci := 3) (v := .ref zLo) (C := RX3) (T := TX3) (N := 2) hx hb hts hiX3 hown hK hP 0 rfl rfl 1 (by decide) hf9 (fun _ h9 => h9) rfl dX3_rulingFor_16 ?_
    refine lv_iload_n hx hb dX3_rulingFor_19 rfl (lv_at hl 1 rfl) ?_
    refine xald (k := k) hx hb hK hP 1 rfl (by omega) (by decide) dX3_rulingFor_20 ?_
    refine lv_asi (show lo k = nI (lawN σ rp k) from by rw [hlo k hk, lawI, if_pos c5]) ?_
    refine xald (k := (lawN σ rp k)) hx hb hK hP 3 rfl (by omega) (by decide) dX3_rulingFor_21 ?_
    refine lv_goto (tgt := 26) hx hb dX3_rulingFor_22 (by decide) ?_
    exact W.iret (v := rRu σ (lawN σ rp k)) hx hb hr (fun t ht hW => ⟨_, rfl, by rw [rulI, if_pos c5], ht⟩) (fun _ h => absurd h List.not_mem_nil) dX3_rulingFor_26

set_option maxHeartbeats 4000000 in
set_option maxRecDepth 100000 in
theorem c_X3_differFor (l : Launch) (D : va_G) (cI cZ : ClassId) (zB : Nat) (zL : Nat) (zF : Nat) (zK : Nat) (zW : Nat) (zU : Nat) (zV : Nat) (zR : Nat) (zE : Nat) (zLo : Nat) (zFo : Nat) (σ : ST) (lo : Nat → Int32) (lf : Nat → Int32) (rp : Int32) (k : Nat) (rq : Int32) (hok : Ok σ) (hk : k < 2 ^ sF σ) (hlo : ∀ k, k < 2 ^ sF σ → lo k = lawI σ rp k) (hlf : ∀ k, k < 2 ^ sF σ → lf k = lawI σ rq k) : Met l yX3_differFor wsX3_differFor ({ frames := 2, cells := 0, slots := 0, locals := 42 }) (va_Pc [.ref zL, .int (nI k), .ref zF] (XP D cI cZ [(zL, .inr (3, [.ref zB, .ref zLo])), (zLo, .inl (cI, 128, .inl lo)), (zB, .inr (0, [.int (nI (sF σ)), .int (nI (2 ^ sF σ)), .ref zK, .ref zW, .int (nI (sN σ)), .int (sR σ), .int (orE (rEr σ) (sN σ)), .ref zU, .ref zV, .ref zR, .ref zE])), (zR, .inl (cI, 12, .inl (rRu σ))), (zF, .inr (3, [.ref zB, .ref zFo])), (zFo, .inl (cI, 128, .inl lf))])) (vp_Si (fun r => r = b2 (difB σ rp rq k))) 0 0 (fun _ => False) := by
  refine Met.ofW (cc := cX3_differFor) (maxL := 3) (ret := (some .boolean)) (by decide) rfl ?_
  intro p e s m args below meth c s₁ B hml hv
  obtain ⟨rfl, hP, hK, hN⟩ := hv
  have hx := B.exec
  have hb := B.bytes
  have hr := B.returns
  have hts := atoms_spec (ws := wsX3_differFor) B.pre
  have hown : s.vm.findClass RX3 = some m.cls := findClass_of_methodNamed B.named
  have hlocks := B.notSynchronized
  have ho := hok.1
  have hk2 := hok.k
  have hl := lv_entry ([.ref zL, .int (nI k), .ref zF]) (n := 3) (Nat.le_of_ble_eq_true rfl)
  rw [lg_entry_eq]
  generalize (lg_sl ([.ref zL, .int (nI k), .ref zF]) ++ List.replicate (3 - (lg_sl ([.ref zL, .int (nI k), .ref zF])).length) Slot.unset).toArray = ls at hl ⊢
  have hl : lv_has ls 3 [(0, .ref zL), (1, .int (nI k)), (2, .ref zF)] := hl
  refine lv_aload_n hx hb dX3_differFor_0 rfl (lv_at hl 0 rfl) ?_
  refine lv_iload_n hx hb dX3_differFor_1 rfl (lv_at hl 1 rfl) ?_
  refine xpV (rest := []) ⟨hx, hb, hml, hown, hts⟩ (c_X3_rulingFor l D cI cZ zB zL zK zW zU zV zR zE zLo σ lo rp k hok hk hlo) (cwV 1 hts gX3_differFor_X3_rulingFor rfl rfl rfl (by decide +kernel) ⟨Nat.le_of_ble_eq_true rfl, Nat.le_of_ble_eq_true rfl⟩) hP [0, 1, 2, 3] rfl hK hN (ci := 3) (q0 := 0) rfl rfl rfl hl.1 rfl (Nat.le_of_ble_eq_true rfl) dX3_differFor_2 ⟨Nat.zero_le _, Nat.zero_le _⟩ (fun r2 e2 => ?_)
  subst e2
  refine lv_aload_n hx hb dX3_differFor_5 rfl (lv_at hl 2 rfl) ?_
  refine lv_iload_n hx hb dX3_differFor_6 rfl (lv_at hl 1 rfl) ?_
  refine xpV (rest := [.int (rulI σ rp k)]) ⟨hx, hb, hml, hown, hts⟩ (c_X3_rulingFor l D cI cZ zB zF zK zW zU zV zR zE zFo σ lf rq k hok hk hlf) (cwV 1 hts gX3_differFor_X3_rulingFor rfl rfl rfl (by decide +kernel) ⟨Nat.le_of_ble_eq_true rfl, Nat.le_of_ble_eq_true rfl⟩) hP [4, 5, 2, 3] rfl hK hN (ci := 3) (q0 := 4) rfl rfl rfl hl.1 rfl (Nat.le_of_ble_eq_true rfl) dX3_differFor_7 ⟨Nat.zero_le _, Nat.zero_le _⟩ (fun r7 e7 => ?_)
  subst e7
  refine lv_icmp_ne (tgt := 26) hx hb dX3_differFor_10 (by decide) (fun c10 => ?_) (fun c10 => ?_)
  · skip
    refine lv_iconst (v := 1) hx hb dX3_differFor_26 (by decide) ?_
    refine lv_goto (tgt := 31) hx hb dX3_differFor_27 (by decide) ?_
    exact W.zret (v := 1) (ty := .boolean) hx hb hr rfl (fun t ht hW => ⟨_, rfl, by rw [difB, decide_eq_false c10]; rfl, ht⟩) (fun _ h => absurd h List.not_mem_nil) dX3_differFor_31
  · skip
    refine lv_aload_n hx hb dX3_differFor_13 rfl (lv_at hl 0 rfl) ?_
    refine lv_iload_n hx hb dX3_differFor_14 rfl (lv_at hl 1 rfl) ?_
    refine xpV (rest := []) ⟨hx, hb, hml, hown, hts⟩ (c_X3_covers l D cI cZ zB zL zLo σ lo rp k hok hk hlo) (cwV 1 hts gX3_differFor_X3_covers rfl rfl rfl (by decide +kernel) ⟨Nat.le_of_ble_eq_true rfl, Nat.le_of_ble_eq_true rfl⟩) hP [0, 1] rfl hK hN (ci := 3) (q0 := 0) rfl rfl rfl hl.1 rfl (Nat.le_of_ble_eq_true rfl) dX3_differFor_15 ⟨Nat.zero_le _, Nat.zero_le _⟩ (fun r15 e15 => ?_)
    subst e15
    refine lv_aload_n hx hb dX3_differFor_18 rfl (lv_at hl 2 rfl) ?_
    refine lv_iload_n hx hb dX3_differFor_19 rfl (lv_at hl 1 rfl) ?_
    refine xpV (rest := [.int (b2 (covB σ rp k))]) ⟨hx, hb, hml, hown, hts⟩ (c_X3_covers l D cI cZ zB zF zFo σ lf rq k hok hk hlf) (cwV 1 hts gX3_differFor_X3_covers rfl rfl rfl (by decide +kernel) ⟨Nat.le_of_ble_eq_true rfl, Nat.le_of_ble_eq_true rfl⟩) hP [4, 5] rfl hK hN (ci := 3) (q0 := 4) rfl rfl rfl hl.1 rfl (Nat.le_of_ble_eq_true rfl) dX3_differFor_20 ⟨Nat.zero_le _, Nat.zero_le _⟩ (fun r20 e20 => ?_)
    subst e20
    refine lv_icmp_eq (tgt := 30) hx hb dX3_differFor_23 (by decide) (fun c23 => ?_) (fun c23 => ?_)
    · skip
      have c23 := b2_inj.mp c23
      refine lv_iconst (v := 0) hx hb dX3_differFor_30 (by decide) ?_
      exact W.zret (v := 0) (ty := .boolean) hx hb hr rfl (fun t ht hW => ⟨_, rfl, by rw [difB, decide_eq_true c10, decide_eq_true c23]; rfl, ht⟩) (fun _ h => absurd h List.not_mem_nil) dX3_differFor_31
    · skip
      have c23 : ¬ covB σ rp k = covB σ rq k := fun z => c23 (b2_inj.mpr z)
      refine lv_iconst (v := 1) hx hb dX3_differFor_26 (by decide) ?_
      refine lv_goto (tgt := 31) hx hb dX3_differFor_27 (by decide) ?_
      exact W.zret (v := 1) (ty := .boolean) hx hb hr rfl (fun t ht hW => ⟨_, rfl, by rw [difB, decide_eq_true c10, decide_eq_false c23]; rfl, ht⟩) (fun _ h => absurd h List.not_mem_nil) dX3_differFor_31

set_option maxHeartbeats 4000000 in
set_option maxRecDepth 100000 in
theorem c_X3_countMayBeRuled (l : Launch) (D : va_G) (cI cZ : ClassId) (zB : Nat) (zL : Nat) (zK : Nat) (zW : Nat) (zU : Nat) (zV : Nat) (zR : Nat) (zE : Nat) (zLo : Nat) (σ : ST) (kI : Nat → Int32) (lo : Nat → Int32) (rp : Int32) (so : Int32) (ns : Int32) (rr : Int32) (hok : Ok σ) (hkI : ∀ k, k < 2 ^ sF σ → kI k = b2 (kok σ k)) (hlo : ∀ k, k < 2 ^ sF σ → lo k = lawI σ rp k) : Met l yX3_countMayBeRuled wsX3_countMayBeRuled ({ frames := 2, cells := 0, slots := 0, locals := 42 }) (va_Pc [.ref zL, .int so, .int ns, .int rr] (XP D cI cZ [(zL, .inr (3, [.ref zB, .ref zLo])), (zLo, .inl (cI, 128, .inl lo)), (zB, .inr (0, [.int (nI (sF σ)), .int (nI (2 ^ sF σ)), .ref zK, .ref zW, .int (nI (sN σ)), .int (sR σ), .int (orE (rEr σ) (sN σ)), .ref zU, .ref zV, .ref zR, .ref zE])), (zK, .inl (cZ, 128, .inl kI)), (zR, .inl (cI, 12, .inl (rRu σ)))])) (vp_Si (fun r => r = nI (cmr σ rp so ns rr))) 0 0 (fun _ => False) := by
  refine Met.ofW (cc := cX3_countMayBeRuled) (maxL := 6) (ret := (some .int)) (by decide) rfl ?_
  intro p e s m args below meth c s₁ B hml hv
  obtain ⟨rfl, hP, hK, hN⟩ := hv
  have hx := B.exec
  have hb := B.bytes
  have hr := B.returns
  have hts := atoms_spec (ws := wsX3_countMayBeRuled) B.pre
  have hown : s.vm.findClass RX3 = some m.cls := findClass_of_methodNamed B.named
  have hlocks := B.notSynchronized
  have ho := hok.1
  have hk2 := hok.k
  have hf15 := hts (.fieldLink RX3 15 "BallCourt$Laws" "book" "LBallCourt$Book;") (List.mem_of_getElem? (i := 1) (by decide +kernel))
  have hiX3 : ∀ w ∈ wsX30, w ∈ wsX3_countMayBeRuled := fun w h => List.mem_cons_of_mem _ (List.mem_append_left _ (List.mem_append_right _ h))
  have hiX0 : ∀ w ∈ wsX00, w ∈ wsX3_countMayBeRuled := fun w h => List.mem_cons_of_mem _ (List.mem_append_right _ h)
  have hl := lv_entry ([.ref zL, .int so, .int ns, .int rr]) (n := 6) (Nat.le_of_ble_eq_true rfl)
  rw [lg_entry_eq]
  generalize (lg_sl ([.ref zL, .int so, .int ns, .int rr]) ++ List.replicate (6 - (lg_sl ([.ref zL, .int so, .int ns, .int rr])).length) Slot.unset).toArray = ls at hl ⊢
  have hl : lv_has ls 6 [(0, .ref zL), (1, .int so), (2, .int ns), (3, .int rr)] := hl
  refine lv_iconst (v := nI 0) hx hb dX3_countMayBeRuled_0 (by decide) ?_
  refine lv_istore (lv' := [(4, .int (nI 0)), (0, .ref zL), (1, .int so), (2, .int ns), (3, .int rr)]) hx hb dX3_countMayBeRuled_1 hl (by decide) rfl (fun ls hl => ?_)
  refine lv_iconst (v := nI 0) hx hb dX3_countMayBeRuled_3 (by decide) ?_
  refine lv_istore (lv' := [(5, .int (nI 0)), (4, .int (nI 0)), (0, .ref zL), (1, .int so), (2, .int ns), (3, .int rr)]) hx hb dX3_countMayBeRuled_4 hl (by decide) rfl (fun ls hl => ?_)
  refine wloop (α := Nat) (fun v => 2 ^ sF σ - v) (fun v => [(0, .ref zL), (1, .int so), (2, .int ns), (3, .int rr), (4, .int (nI (cnt (mrB σ rp so ns rr) v))), (5, .int (nI v))]) (fun v => (v ≤ 2 ^ sF σ)) 6 (fun v hv ih6 ls hl => ?_) 0 (show 0 ≤ 2 ^ sF σ from Nat.zero_le _) ls (lv_sub hl [2, 3, 4, 5, 1, 0] rfl)
  obtain ⟨k, rfl⟩ : ∃ z : Nat, z = v := ⟨_, rfl⟩
  have hk : k ≤ 2 ^ sF σ := hv
  have hl : lv_has ls 6 [(0, .ref zL), (1, .int so), (2, .int ns), (3, .int rr), (4, .int (nI (cnt (mrB σ rp so ns rr) k))), (5, .int (nI k))] := hl
  refine lv_iload hx hb dX3_countMayBeRuled_6 (lv_at hl 5 rfl) ?_
  refine lv_aload_n hx hb dX3_countMayBeRuled_8 rfl (lv_at hl 0 rfl) ?_
  refine va_get (D := D) (ci := 3) (v := .ref zB) (C := RX3) (T := TX3) (N := 2) hx hb hts hiX3 hown hK hP 0 rfl rfl 0 (by decide) hf15 (fun _ h9 => h9) rfl dX3_countMayBeRuled_9 ?_
  refine va_getN (D := D) (ci := 0) (v := .int (nI (2 ^ sF σ))) (C := RX0) (T := TX0) (N := 11) hx hb hts hiX0 hown hK hP 2 rfl rfl 1 (by decide) (NW.f hN 18 rfl _) (fun _ h9 => h9) rfl dX3_countMayBeRuled_12 ?_
  refine lv_icmp_ge (tgt := 51) hx hb dX3_countMayBeRuled_15 (by decide) (fun c15 => ?_) (fun c15 => ?_)
  · skip
    have c15 := (nI_leI (by omega) (by omega)).mp c15
    refine lv_iload hx hb dX3_countMayBeRuled_51 (lv_at hl 4 rfl) ?_
    exact W.iret (v := nI (cnt (mrB σ rp so ns rr) k)) hx hb hr (fun t ht hW => ⟨_, rfl, by rw [show k = 2 ^ sF σ by omega]; rfl, ht⟩) (fun _ h => absurd h List.not_mem_nil) dX3_countMayBeRuled_53
  · skip
    have c15 := Nat.lt_of_not_le (fun z => c15 ((nI_leI (by omega) (by omega)).mpr z))
    refine lv_aload_n hx hb dX3_countMayBeRuled_18 rfl (lv_at hl 0 rfl) ?_
    refine va_get (D := D) (ci := 3) (v := .ref zB) (C := RX3) (T := TX3) (N := 2) hx hb hts hiX3 hown hK hP 0 rfl rfl 0 (by decide) hf15 (fun _ h9 => h9) rfl dX3_countMayBeRuled_19 ?_
    refine lv_iload hx hb dX3_countMayBeRuled_22 (lv_at hl 5 rfl) ?_
    refine lv_iload_n hx hb dX3_countMayBeRuled_24 rfl (lv_at hl 1 rfl) ?_
    refine lv_iload_n hx hb dX3_countMayBeRuled_25 rfl (lv_at hl 2 rfl) ?_
    refine xpV (rest := []) ⟨hx, hb, hml, hown, hts⟩ (c_X0_mayBe l D cI cZ zB zK zW zU zV zR zE σ kI k so ns hok c15 hkI) (cwV 3 hts gX3_countMayBeRuled_X0_mayBe rfl rfl rfl (by decide +kernel) ⟨Nat.le_of_ble_eq_true rfl, Nat.le_of_ble_eq_true rfl⟩) hP [2, 3] rfl hK hN (ci := 0) (q0 := 2) rfl rfl rfl hl.1 rfl (Nat.le_of_ble_eq_true rfl) dX3_countMayBeRuled_26 ⟨Nat.zero_le _, Nat.zero_le _⟩ (fun r26 e26 => ?_)
    subst e26
    refine lv_if_eq (tgt := 45) hx hb dX3_countMayBeRuled_29 (by decide) (fun c29 => ?_) (fun c29 => ?_)
    · skip
      have c29 := b2_0 c29
      have hl : lv_has ls 6 [(0, .ref zL), (1, .int so), (2, .int ns), (3, .int rr), (4, .int (nI (cnt (mrB σ rp so ns rr) (k + 1)))), (5, .int (nI k))] := by rw [← (show nI (cnt (mrB σ rp so ns rr) k) = nI (cnt (mrB σ rp so ns rr) (k + 1)) from congrArg nI (cnt_n (by simp [mrB, c29])))]; exact hl
      refine lv_iinc (k := 5) (x := nI k) (v := nI (k + 1)) (lv' := [(5, .int (nI (k + 1))), (0, .ref zL), (1, .int so), (2, .int ns), (3, .int rr), (4, .int (nI (cnt (mrB σ rp so ns rr) (k + 1))))]) hx hb dX3_countMayBeRuled_45 hl rfl (show (nI k) + Int32.ofInt 1 = nI (k + 1) from nI_1 _) (by decide) rfl (fun ls hl => ?_)
      refine lv_goto (tgt := 6) hx hb dX3_countMayBeRuled_48 (by decide) ?_
      exact ih6 (k + 1) (show (k + 1) ≤ 2 ^ sF σ from (by omega)) (by show 2 ^ sF σ - (k + 1) < 2 ^ sF σ - k; omega) ls (lv_sub hl [1, 2, 3, 4, 5, 0] rfl)
    · skip
      have c29 := b2_1 c29
      refine lv_aload_n hx hb dX3_countMayBeRuled_32 rfl (lv_at hl 0 rfl) ?_
      refine lv_iload hx hb dX3_countMayBeRuled_33 (lv_at hl 5 rfl) ?_
      refine xpV (rest := []) ⟨hx, hb, hml, hown, hts⟩ (c_X3_rulingFor l D cI cZ zB zL zK zW zU zV zR zE zLo σ lo rp k hok c15 hlo) (cwV 1 hts gX3_countMayBeRuled_X3_rulingFor rfl rfl rfl (by decide +kernel) ⟨Nat.le_of_ble_eq_true rfl, Nat.le_of_ble_eq_true rfl⟩) hP [0, 1, 2, 4] rfl hK hN (ci := 3) (q0 := 0) rfl rfl rfl hl.1 rfl (Nat.le_of_ble_eq_true rfl) dX3_countMayBeRuled_35 ⟨Nat.zero_le _, Nat.zero_le _⟩ (fun r35 e35 => ?_)
      subst e35
      refine lv_iload_n hx hb dX3_countMayBeRuled_38 rfl (lv_at hl 3 rfl) ?_
      refine lv_icmp_ne (tgt := 45) hx hb dX3_countMayBeRuled_39 (by decide) (fun c39 => ?_) (fun c39 => ?_)
      · skip
        have hl : lv_has ls 6 [(0, .ref zL), (1, .int so), (2, .int ns), (3, .int rr), (4, .int (nI (cnt (mrB σ rp so ns rr) (k + 1)))), (5, .int (nI k))] := by rw [← (show nI (cnt (mrB σ rp so ns rr) k) = nI (cnt (mrB σ rp so ns rr) (k + 1)) from congrArg nI (cnt_n (by simp [mrB, c39])))]; exact hl
        refine lv_iinc (k := 5) (x := nI k) (v := nI (k + 1)) (lv' := [(5, .int (nI (k + 1))), (0, .ref zL), (1, .int so), (2, .int ns), (3, .int rr), (4, .int (nI (cnt (mrB σ rp so ns rr) (k + 1))))]) hx hb dX3_countMayBeRuled_45 hl rfl (show (nI k) + Int32.ofInt 1 = nI (k + 1) from nI_1 _) (by decide) rfl (fun ls hl => ?_)
        refine lv_goto (tgt := 6) hx hb dX3_countMayBeRuled_48 (by decide) ?_
        exact ih6 (k + 1) (show (k + 1) ≤ 2 ^ sF σ from (by omega)) (by show 2 ^ sF σ - (k + 1) < 2 ^ sF σ - k; omega) ls (lv_sub hl [1, 2, 3, 4, 5, 0] rfl)
      · skip
        refine lv_iinc (k := 4) (x := nI (cnt (mrB σ rp so ns rr) k)) (v := nI (cnt (mrB σ rp so ns rr) (k + 1))) (lv' := [(4, .int (nI (cnt (mrB σ rp so ns rr) (k + 1)))), (0, .ref zL), (1, .int so), (2, .int ns), (3, .int rr), (5, .int (nI k))]) hx hb dX3_countMayBeRuled_42 hl rfl (show (nI (cnt (mrB σ rp so ns rr) k)) + Int32.ofInt 1 = nI (cnt (mrB σ rp so ns rr) (k + 1)) from cnt_y (by simp [mrB, c29, c39])) (by decide) rfl (fun ls hl => ?_)
        refine lv_iinc (k := 5) (x := nI k) (v := nI (k + 1)) (lv' := [(5, .int (nI (k + 1))), (4, .int (nI (cnt (mrB σ rp so ns rr) (k + 1)))), (0, .ref zL), (1, .int so), (2, .int ns), (3, .int rr)]) hx hb dX3_countMayBeRuled_45 hl rfl (show (nI k) + Int32.ofInt 1 = nI (k + 1) from nI_1 _) (by decide) rfl (fun ls hl => ?_)
        refine lv_goto (tgt := 6) hx hb dX3_countMayBeRuled_48 (by decide) ?_
        exact ih6 (k + 1) (show (k + 1) ≤ 2 ^ sF σ from (by omega)) (by show 2 ^ sF σ - (k + 1) < 2 ^ sF σ - k; omega) ls (lv_sub hl [2, 3, 4, 5, 1, 0] rfl)

set_option maxHeartbeats 4000000 in
set_option maxRecDepth 100000 in
theorem c_X3_rulingForAll (l : Launch) (D : va_G) (cI cZ : ClassId) (zB : Nat) (zL : Nat) (zK : Nat) (zW : Nat) (zU : Nat) (zV : Nat) (zR : Nat) (zE : Nat) (zLo : Nat) (σ : ST) (kI : Nat → Int32) (lo : Nat → Int32) (rp : Int32) (so : Int32) (ns : Int32) (hok : Ok σ) (hkI : ∀ k, k < 2 ^ sF σ → kI k = b2 (kok σ k)) (hlo : ∀ k, k < 2 ^ sF σ → lo k = lawI σ rp k) : Met l yX3_rulingForAll wsX3_rulingForAll ({ frames := 2, cells := 0, slots := 0, locals := 42 }) (va_Pc [.ref zL, .int so, .int ns] (XP D cI cZ [(zL, .inr (3, [.ref zB, .ref zLo])), (zLo, .inl (cI, 128, .inl lo)), (zB, .inr (0, [.int (nI (sF σ)), .int (nI (2 ^ sF σ)), .ref zK, .ref zW, .int (nI (sN σ)), .int (sR σ), .int (orE (rEr σ) (sN σ)), .ref zU, .ref zV, .ref zR, .ref zE])), (zK, .inl (cZ, 128, .inl kI)), (zR, .inl (cI, 12, .inl (rRu σ)))])) (vp_Si (fun r => r = rfaI σ rp so ns)) 0 0 (fun _ => False) := by
  refine Met.ofW (cc := cX3_rulingForAll) (maxL := 6) (ret := (some .int)) (by decide) rfl ?_
  intro p e s m args below meth c s₁ B hml hv
  obtain ⟨rfl, hP, hK, hN⟩ := hv
  have hx := B.exec
  have hb := B.bytes
  have hr := B.returns
  have hts := atoms_spec (ws := wsX3_rulingForAll) B.pre
  have hown : s.vm.findClass RX3 = some m.cls := findClass_of_methodNamed B.named
  have hlocks := B.notSynchronized
  have ho := hok.1
  have hk2 := hok.k
  have hf15 := hts (.fieldLink RX3 15 "BallCourt$Laws" "book" "LBallCourt$Book;") (List.mem_of_getElem? (i := 1) (by decide +kernel))
  have hiX3 : ∀ w ∈ wsX30, w ∈ wsX3_rulingForAll := fun w h => List.mem_cons_of_mem _ (List.mem_append_left _ (List.mem_append_right _ h))
  have hiX0 : ∀ w ∈ wsX00, w ∈ wsX3_rulingForAll := fun w h => List.mem_cons_of_mem _ (List.mem_append_right _ h)
  have hl := lv_entry ([.ref zL, .int so, .int ns]) (n := 6) (Nat.le_of_ble_eq_true rfl)
  rw [lg_entry_eq]
  generalize (lg_sl ([.ref zL, .int so, .int ns]) ++ List.replicate (6 - (lg_sl ([.ref zL, .int so, .int ns])).length) Slot.unset).toArray = ls at hl ⊢
  have hl : lv_has ls 6 [(0, .ref zL), (1, .int so), (2, .int ns)] := hl
  refine lv_iconst (v := (-1)) hx hb dX3_rulingForAll_0 (by decide) ?_
  refine lv_istore_n (lv' := [(3, .int (-1)), (0, .ref zL), (1, .int so), (2, .int ns)]) hx hb dX3_rulingForAll_1 rfl hl (by decide) rfl (fun ls hl => ?_)
  refine lv_iconst (v := nI 0) hx hb dX3_rulingForAll_2 (by decide) ?_
  refine lv_istore (lv' := [(4, .int (nI 0)), (3, .int (-1)), (0, .ref zL), (1, .int so), (2, .int ns)]) hx hb dX3_rulingForAll_3 hl (by decide) rfl (fun ls hl => ?_)
  refine wloop (α := Nat × Int32) (fun v => 2 ^ sF σ - v.1) (fun v => [(0, .ref zL), (1, .int so), (2, .int ns), (3, .int v.2), (4, .int (nI v.1))]) (fun v => (v.1 ≤ 2 ^ sF σ) ∧ (rfV σ rp so ns v.1 v.2)) 6 (fun v hv ih5 ls hl => ?_) (0, (-1)) ⟨(show 0 ≤ 2 ^ sF σ from Nat.zero_le _), (show rfV σ rp so ns 0 (-1) from Or.inl ⟨rfl, fun j hj => absurd hj (Nat.not_lt_zero _)⟩)⟩ ls (lv_sub hl [2, 3, 4, 1, 0] rfl)
  obtain ⟨k, x⟩ := v
  obtain ⟨hk, hv⟩ := hv
  have hk : k ≤ 2 ^ sF σ := hk
  have hv : rfV σ rp so ns k x := hv
  have hl : lv_has ls 6 [(0, .ref zL), (1, .int so), (2, .int ns), (3, .int x), (4, .int (nI k))] := hl
  refine lv_iload hx hb dX3_rulingForAll_5 (lv_at hl 4 rfl) ?_
  refine lv_aload_n hx hb dX3_rulingForAll_7 rfl (lv_at hl 0 rfl) ?_
  refine va_get (D := D) (ci := 3) (v := .ref zB) (C := RX3) (T := TX3) (N := 2) hx hb hts hiX3 hown hK hP 0 rfl rfl 0 (by decide) hf15 (fun _ h9 => h9) rfl dX3_rulingForAll_8 ?_
  refine va_getN (D := D) (ci := 0) (v := .int (nI (2 ^ sF σ))) (C := RX0) (T := TX0) (N := 11) hx hb hts hiX0 hown hK hP 2 rfl rfl 1 (by decide) (NW.f hN 18 rfl _) (fun _ h9 => h9) rfl dX3_rulingForAll_11 ?_
  refine lv_icmp_ge (tgt := 61) hx hb dX3_rulingForAll_14 (by decide) (fun c14 => ?_) (fun c14 => ?_)
  · skip
    have c14 := (nI_leI (by omega) (by omega)).mp c14
    refine lv_iload_n hx hb dX3_rulingForAll_61 rfl (lv_at hl 3 rfl) ?_
    refine lv_iconst (v := (-1)) hx hb dX3_rulingForAll_62 (by decide) ?_
    refine lv_icmp_ne (tgt := 70) hx hb dX3_rulingForAll_63 (by decide) (fun c63 => ?_) (fun c63 => ?_)
    · skip
      refine lv_iload_n hx hb dX3_rulingForAll_70 rfl (lv_at hl 3 rfl) ?_
      exact W.iret (v := x) hx hb hr (fun t ht hW => ⟨_, rfl, (rfa_one (show k = 2 ^ sF σ by omega) hv c63).symm, ht⟩) (fun _ h => absurd h List.not_mem_nil) dX3_rulingForAll_71
    · skip
      refine lv_iconst (v := 0) hx hb dX3_rulingForAll_66 (by decide) ?_
      refine lv_goto (tgt := 71) hx hb dX3_rulingForAll_67 (by decide) ?_
      exact W.iret (v := 0) hx hb hr (fun t ht hW => ⟨_, rfl, (rfa_none (show k = 2 ^ sF σ by omega) hv c63).symm, ht⟩) (fun _ h => absurd h List.not_mem_nil) dX3_rulingForAll_71
  · skip
    have c14 := Nat.lt_of_not_le (fun z => c14 ((nI_leI (by omega) (by omega)).mpr z))
    refine lv_aload_n hx hb dX3_rulingForAll_17 rfl (lv_at hl 0 rfl) ?_
    refine va_get (D := D) (ci := 3) (v := .ref zB) (C := RX3) (T := TX3) (N := 2) hx hb hts hiX3 hown hK hP 0 rfl rfl 0 (by decide) hf15 (fun _ h9 => h9) rfl dX3_rulingForAll_18 ?_
    refine lv_iload hx hb dX3_rulingForAll_21 (lv_at hl 4 rfl) ?_
    refine lv_iload_n hx hb dX3_rulingForAll_23 rfl (lv_at hl 1 rfl) ?_
    refine lv_iload_n hx hb dX3_rulingForAll_24 rfl (lv_at hl 2 rfl) ?_
    refine xpV (rest := []) ⟨hx, hb, hml, hown, hts⟩ (c_X0_mayBe l D cI cZ zB zK zW zU zV zR zE σ kI k so ns hok c14 hkI) (cwV 3 hts gX3_rulingForAll_X0_mayBe rfl rfl rfl (by decide +kernel) ⟨Nat.le_of_ble_eq_true rfl, Nat.le_of_ble_eq_true rfl⟩) hP [2, 3] rfl hK hN (ci := 0) (q0 := 2) rfl rfl rfl hl.1 rfl (Nat.le_of_ble_eq_true rfl) dX3_rulingForAll_25 ⟨Nat.zero_le _, Nat.zero_le _⟩ (fun r25 e25 => ?_)
    subst e25
    refine lv_if_eq (tgt := 55) hx hb dX3_rulingForAll_28 (by decide) (fun c28 => ?_) (fun c28 => ?_)
    · skip
      have c28 := b2_0 c28
      refine lv_iinc (k := 4) (x := nI k) (v := nI (k + 1)) (lv' := [(4, .int (nI (k + 1))), (0, .ref zL), (1, .int so), (2, .int ns), (3, .int x)]) hx hb dX3_rulingForAll_55 hl rfl (show (nI k) + Int32.ofInt 1 = nI (k + 1) from nI_1 _) (by decide) rfl (fun ls hl => ?_)
      refine lv_goto (tgt := 5) hx hb dX3_rulingForAll_58 (by decide) ?_
      exact ih5 (k + 1, x) ⟨(show (k + 1) ≤ 2 ^ sF σ from (by omega)), (show rfV σ rp so ns (k + 1) x from rfa_skip hv c28)⟩ (by show 2 ^ sF σ - (k + 1) < 2 ^ sF σ - k; omega) ls (lv_sub hl [1, 2, 3, 4, 0] rfl)
    · skip
      have c28 := b2_1 c28
      refine lv_aload_n hx hb dX3_rulingForAll_31 rfl (lv_at hl 0 rfl) ?_
      refine lv_iload hx hb dX3_rulingForAll_32 (lv_at hl 4 rfl) ?_
      refine xpV (rest := []) ⟨hx, hb, hml, hown, hts⟩ (c_X3_rulingFor l D cI cZ zB zL zK zW zU zV zR zE zLo σ lo rp k hok c14 hlo) (cwV 1 hts gX3_rulingForAll_X3_rulingFor rfl rfl rfl (by decide +kernel) ⟨Nat.le_of_ble_eq_true rfl, Nat.le_of_ble_eq_true rfl⟩) hP [0, 1, 2, 4] rfl hK hN (ci := 3) (q0 := 0) rfl rfl rfl hl.1 rfl (Nat.le_of_ble_eq_true rfl) dX3_rulingForAll_34 ⟨Nat.zero_le _, Nat.zero_le _⟩ (fun r34 e34 => ?_)
      subst e34
      refine lv_istore (lv' := [(5, .int (rulI σ rp k)), (0, .ref zL), (1, .int so), (2, .int ns), (3, .int x), (4, .int (nI k))]) hx hb dX3_rulingForAll_37 hl (by decide) rfl (fun ls hl => ?_)
      refine lv_iload_n hx hb dX3_rulingForAll_39 rfl (lv_at hl 4 rfl) ?_
      refine lv_iconst (v := (-1)) hx hb dX3_rulingForAll_40 (by decide) ?_
      refine lv_icmp_eq (tgt := 52) hx hb dX3_rulingForAll_41 (by decide) (fun c41 => ?_) (fun c41 => ?_)
      · skip
        refine lv_iload hx hb dX3_rulingForAll_52 (lv_at hl 0 rfl) ?_
        refine lv_istore_n (lv' := [(3, .int (rulI σ rp k)), (5, .int (rulI σ rp k)), (0, .ref zL), (1, .int so), (2, .int ns), (4, .int (nI k))]) hx hb dX3_rulingForAll_54 rfl hl (by decide) rfl (fun ls hl => ?_)
        refine lv_iinc (k := 5) (x := nI k) (v := nI (k + 1)) (lv' := [(4, .int (nI (k + 1))), (3, .int (rulI σ rp k)), (5, .int (rulI σ rp k)), (0, .ref zL), (1, .int so), (2, .int ns)]) hx hb dX3_rulingForAll_55 hl rfl (show (nI k) + Int32.ofInt 1 = nI (k + 1) from nI_1 _) (by decide) rfl (fun ls hl => ?_)
        refine lv_goto (tgt := 5) hx hb dX3_rulingForAll_58 (by decide) ?_
        exact ih5 (k + 1, rulI σ rp k) ⟨(show (k + 1) ≤ 2 ^ sF σ from (by omega)), (show rfV σ rp so ns (k + 1) (rulI σ rp k) from rfa_step hok c14 hv c28 (Or.inl c41))⟩ (by show 2 ^ sF σ - (k + 1) < 2 ^ sF σ - k; omega) ls (lv_sub hl [3, 4, 5, 1, 0] rfl)
      · skip
        refine lv_iload_n hx hb dX3_rulingForAll_44 rfl (lv_at hl 4 rfl) ?_
        refine lv_iload hx hb dX3_rulingForAll_45 (lv_at hl 0 rfl) ?_
        refine lv_icmp_eq (tgt := 52) hx hb dX3_rulingForAll_47 (by decide) (fun c47 => ?_) (fun c47 => ?_)
        · skip
          refine lv_iload hx hb dX3_rulingForAll_52 (lv_at hl 0 rfl) ?_
          refine lv_istore_n (lv' := [(3, .int (rulI σ rp k)), (5, .int (rulI σ rp k)), (0, .ref zL), (1, .int so), (2, .int ns), (4, .int (nI k))]) hx hb dX3_rulingForAll_54 rfl hl (by decide) rfl (fun ls hl => ?_)
          refine lv_iinc (k := 5) (x := nI k) (v := nI (k + 1)) (lv' := [(4, .int (nI (k + 1))), (3, .int (rulI σ rp k)), (5, .int (rulI σ rp k)), (0, .ref zL), (1, .int so), (2, .int ns)]) hx hb dX3_rulingForAll_55 hl rfl (show (nI k) + Int32.ofInt 1 = nI (k + 1) from nI_1 _) (by decide) rfl (fun ls hl => ?_)
          refine lv_goto (tgt := 5) hx hb dX3_rulingForAll_58 (by decide) ?_
          exact ih5 (k + 1, rulI σ rp k) ⟨(show (k + 1) ≤ 2 ^ sF σ from (by omega)), (show rfV σ rp so ns (k + 1) (rulI σ rp k) from rfa_step hok c14 hv c28 (Or.inr c47))⟩ (by show 2 ^ sF σ - (k + 1) < 2 ^ sF σ - k; omega) ls (lv_sub hl [3, 4, 5, 1, 0] rfl)
        · skip
          refine lv_iconst (v := 0) hx hb dX3_rulingForAll_50 (by decide) ?_
          exact W.iret (v := 0) hx hb hr (fun t ht hW => ⟨_, rfl, (rfa_two c14 hv c28 c41 c47).symm, ht⟩) (fun _ h => absurd h List.not_mem_nil) dX3_rulingForAll_51

set_option maxHeartbeats 4000000 in
set_option maxRecDepth 100000 in
theorem c_X4_ofAll (l : Launch) (D : va_G) (cI cZ : ClassId) (zS : Nat) (tr : Nat → Int32) (k : Nat) (hk : k < 30) : Met l yX4_ofAll wsX4_ofAll ({ frames := 0, cells := 0, slots := 0, locals := 0 }) (va_Pc [.ref zS, .int (nI k)] (XP D cI cZ [(zS, .inl (cI, 90, .inl tr))])) (vp_Si (fun r => r = yesI tr k)) 0 0 (fun _ => False) := by
  refine Met.ofW (cc := cX4_ofAll) (maxL := 4) (ret := (some .int)) (by decide) rfl ?_
  intro p e s m args below meth c s₁ B hml hv
  obtain ⟨rfl, hP, hK, hN⟩ := hv
  have hx := B.exec
  have hb := B.bytes
  have hr := B.returns
  have hts := atoms_spec (ws := wsX4_ofAll) B.pre
  have hown : s.vm.findClass RX4 = some m.cls := findClass_of_methodNamed B.named
  have hlocks := B.notSynchronized
  have hl := lv_entry ([.ref zS, .int (nI k)]) (n := 4) (Nat.le_of_ble_eq_true rfl)
  rw [lg_entry_eq]
  generalize (lg_sl ([.ref zS, .int (nI k)]) ++ List.replicate (4 - (lg_sl ([.ref zS, .int (nI k)])).length) Slot.unset).toArray = ls at hl ⊢
  have hl : lv_has ls 4 [(0, .ref zS), (1, .int (nI k))] := hl
  refine lv_iconst (v := 0) hx hb dX4_ofAll_0 (by decide) ?_
  refine lv_istore_n (lv' := [(2, .int 0), (0, .ref zS), (1, .int (nI k))]) hx hb dX4_ofAll_1 rfl hl (by decide) rfl (fun ls hl => ?_)
  refine lv_iconst (v := nI 0) hx hb dX4_ofAll_2 (by decide) ?_
  refine lv_istore_n (lv' := [(3, .int (nI 0)), (2, .int 0), (0, .ref zS), (1, .int (nI k))]) hx hb dX4_ofAll_3 rfl hl (by decide) rfl (fun ls hl => ?_)
  refine lv_iload_n hx hb dX4_ofAll_4 rfl (lv_at hl 0 rfl) ?_
  refine lv_iconst (v := nI 3) hx hb dX4_ofAll_5 (by decide) ?_
  refine lv_icmp_ge (tgt := 25) hx hb dX4_ofAll_6 (by decide) (fun c6 => ?_) (fun c6 => ?_)
  · skip
    exact absurd c6 (by decide)
  · skip
    refine lv_iload_n hx hb dX4_ofAll_9 rfl (lv_at hl 1 rfl) ?_
    refine lv_aload_n hx hb dX4_ofAll_10 rfl (lv_at hl 2 rfl) ?_
    refine lv_iload_n hx hb dX4_ofAll_11 rfl (lv_at hl 3 rfl) ?_
    refine lv_iconst (v := nI 3) hx hb dX4_ofAll_12 (by decide) ?_
    refine lv_imul hx hb dX4_ofAll_13 ?_
    refine lv_asi (show (nI k) * (nI 3) = nI (3 * k) from by rw [pk_mul, Nat.mul_comm]) ?_
    refine lv_iload_n hx hb dX4_ofAll_14 rfl (lv_at hl 0 rfl) ?_
    refine lv_iadd hx hb dX4_ofAll_15 ?_
    refine lv_asi (show (nI (3 * k)) + (nI 0) = nI (3 * k + 0) from nI_add _ _) ?_
    refine xald (k := (3 * k + 0)) hx hb hK hP 0 rfl (by omega) (by decide) dX4_ofAll_16 ?_
    refine lv_ior hx hb dX4_ofAll_17 ?_
    refine lv_istore_n (lv' := [(2, .int (0 ||| (tr (3 * k + 0)))), (3, .int (nI 0)), (0, .ref zS), (1, .int (nI k))]) hx hb dX4_ofAll_18 rfl hl (by decide) rfl (fun ls hl => ?_)
    refine lv_iinc (k := 1) (x := nI 0) (v := nI 1) (lv' := [(3, .int (nI 1)), (2, .int (0 ||| (tr (3 * k + 0)))), (0, .ref zS), (1, .int (nI k))]) hx hb dX4_ofAll_19 hl rfl (show (nI 0) + Int32.ofInt 1 = nI 1 from (by decide)) (by decide) rfl (fun ls hl => ?_)
    refine lv_goto (tgt := 4) hx hb dX4_ofAll_22 (by decide) ?_
    refine lv_iload_n hx hb dX4_ofAll_4 rfl (lv_at hl 0 rfl) ?_
    refine lv_iconst (v := nI 3) hx hb dX4_ofAll_5 (by decide) ?_
    refine lv_icmp_ge (tgt := 25) hx hb dX4_ofAll_6 (by decide) (fun c6 => ?_) (fun c6 => ?_)
    · skip
      exact absurd c6 (by decide)
    · skip
      refine lv_iload_n hx hb dX4_ofAll_9 rfl (lv_at hl 1 rfl) ?_
      refine lv_aload_n hx hb dX4_ofAll_10 rfl (lv_at hl 2 rfl) ?_
      refine lv_iload_n hx hb dX4_ofAll_11 rfl (lv_at hl 3 rfl) ?_
      refine lv_iconst (v := nI 3) hx hb dX4_ofAll_12 (by decide) ?_
      refine lv_imul hx hb dX4_ofAll_13 ?_
      refine lv_asi (show (nI k) * (nI 3) = nI (3 * k) from by rw [pk_mul, Nat.mul_comm]) ?_
      refine lv_iload_n hx hb dX4_ofAll_14 rfl (lv_at hl 0 rfl) ?_
      refine lv_iadd hx hb dX4_ofAll_15 ?_
      refine lv_asi (show (nI (3 * k)) + (nI 1) = nI (3 * k + 1) from nI_add _ _) ?_
      refine xald (k := (3 * k + 1)) hx hb hK hP 0 rfl (by omega) (by decide) dX4_ofAll_16 ?_
      refine lv_ior hx hb dX4_ofAll_17 ?_
      refine lv_istore_n (lv' := [(2, .int ((0 ||| (tr (3 * k + 0))) ||| (tr (3 * k + 1)))), (3, .int (nI 1)), (0, .ref zS), (1, .int (nI k))]) hx hb dX4_ofAll_18 rfl hl (by decide) rfl (fun ls hl => ?_)
      refine lv_iinc (k := 1) (x := nI 1) (v := nI 2) (lv' := [(3, .int (nI 2)), (2, .int ((0 ||| (tr (3 * k + 0))) ||| (tr (3 * k + 1)))), (0, .ref zS), (1, .int (nI k))]) hx hb dX4_ofAll_19 hl rfl (show (nI 1) + Int32.ofInt 1 = nI 2 from (by decide)) (by decide) rfl (fun ls hl => ?_)
      refine lv_goto (tgt := 4) hx hb dX4_ofAll_22 (by decide) ?_
      refine lv_iload_n hx hb dX4_ofAll_4 rfl (lv_at hl 0 rfl) ?_
      refine lv_iconst (v := nI 3) hx hb dX4_ofAll_5 (by decide) ?_
      refine lv_icmp_ge (tgt := 25) hx hb dX4_ofAll_6 (by decide) (fun c6 => ?_) (fun c6 => ?_)
      · skip
        exact absurd c6 (by decide)
      · skip
        refine lv_iload_n hx hb dX4_ofAll_9 rfl (lv_at hl 1 rfl) ?_
        refine lv_aload_n hx hb dX4_ofAll_10 rfl (lv_at hl 2 rfl) ?_
        refine lv_iload_n hx hb dX4_ofAll_11 rfl (lv_at hl 3 rfl) ?_
        refine lv_iconst (v := nI 3) hx hb dX4_ofAll_12 (by decide) ?_
        refine lv_imul hx hb dX4_ofAll_13 ?_
        refine lv_asi (show (nI k) * (nI 3) = nI (3 * k) from by rw [pk_mul, Nat.mul_comm]) ?_
        refine lv_iload_n hx hb dX4_ofAll_14 rfl (lv_at hl 0 rfl) ?_
        refine lv_iadd hx hb dX4_ofAll_15 ?_
        refine lv_asi (show (nI (3 * k)) + (nI 2) = nI (3 * k + 2) from nI_add _ _) ?_
        refine xald (k := (3 * k + 2)) hx hb hK hP 0 rfl (by omega) (by decide) dX4_ofAll_16 ?_
        refine lv_ior hx hb dX4_ofAll_17 ?_
        refine lv_istore_n (lv' := [(2, .int (((0 ||| (tr (3 * k + 0))) ||| (tr (3 * k + 1))) ||| (tr (3 * k + 2)))), (3, .int (nI 2)), (0, .ref zS), (1, .int (nI k))]) hx hb dX4_ofAll_18 rfl hl (by decide) rfl (fun ls hl => ?_)
        refine lv_iinc (k := 1) (x := nI 2) (v := nI 3) (lv' := [(3, .int (nI 3)), (2, .int (((0 ||| (tr (3 * k + 0))) ||| (tr (3 * k + 1))) ||| (tr (3 * k + 2)))), (0, .ref zS), (1, .int (nI k))]) hx hb dX4_ofAll_19 hl rfl (show (nI 2) + Int32.ofInt 1 = nI 3 from (by decide)) (by decide) rfl (fun ls hl => ?_)
        refine lv_goto (tgt := 4) hx hb dX4_ofAll_22 (by decide) ?_
        refine lv_iload_n hx hb dX4_ofAll_4 rfl (lv_at hl 0 rfl) ?_
        refine lv_iconst (v := nI 3) hx hb dX4_ofAll_5 (by decide) ?_
        refine lv_icmp_ge (tgt := 25) hx hb dX4_ofAll_6 (by decide) (fun c6 => ?_) (fun c6 => ?_)
        · skip
          refine lv_iload_n hx hb dX4_ofAll_25 rfl (lv_at hl 1 rfl) ?_
          exact W.iret (v := ((0 ||| (tr (3 * k + 0))) ||| (tr (3 * k + 1))) ||| (tr (3 * k + 2))) hx hb hr (fun t ht hW => ⟨_, rfl, by rw [or_0']; rfl, ht⟩) (fun _ h => absurd h List.not_mem_nil) dX4_ofAll_26
        · skip
          exact absurd (by decide) c6

set_option maxHeartbeats 4000000 in
set_option maxRecDepth 100000 in
theorem c_X4_knownSo (l : Launch) (D : va_G) (cI cZ : ClassId) (zM : Nat) (zS : Nat) (zT : Nat) (zD : Nat) (σ : ST) (k : Nat) (hk : k < 30) : Met l yX4_knownSo wsX4_knownSo ({ frames := 1, cells := 0, slots := 0, locals := 23 }) (va_Pc [.ref zM, .int (nI k)] (XP D cI cZ [(zM, .inr (4, [.int (nI (sM σ)), .ref zS, .ref zT, .ref zD])), (zS, .inl (cI, 90, .inl (rTs σ))), (zT, .inl (cI, 90, .inl (rTn σ)))])) (vp_Si (fun r => r = soI σ k)) 0 0 (fun _ => False) := by
  refine Met.ofW (cc := cX4_knownSo) (maxL := 2) (ret := (some .int)) (by decide) rfl ?_
  intro p e s m args below meth c s₁ B hml hv
  obtain ⟨rfl, hP, hK, hN⟩ := hv
  have hx := B.exec
  have hb := B.bytes
  have hr := B.returns
  have hts := atoms_spec (ws := wsX4_knownSo) B.pre
  have hown : s.vm.findClass RX4 = some m.cls := findClass_of_methodNamed B.named
  have hlocks := B.notSynchronized
  have hf9 := hts (.fieldLink RX4 9 "BallCourt$Moments" "toldSo" "[I") (List.mem_of_getElem? (i := 1) (by decide +kernel))
  have hiX4 : ∀ w ∈ wsX40, w ∈ wsX4_knownSo := fun w h => List.mem_cons_of_mem _ (List.mem_append_right _ h)
  have hf15 := hts (.fieldLink RX4 15 "BallCourt$Moments" "toldNotSo" "[I") (List.mem_of_getElem? (i := 2) (by decide +kernel))
  have hl := lv_entry ([.ref zM, .int (nI k)]) (n := 2) (Nat.le_of_ble_eq_true rfl)
  rw [lg_entry_eq]
  generalize (lg_sl ([.ref zM, .int (nI k)]) ++ List.replicate (2 - (lg_sl ([.ref zM, .int (nI k)])).length) Slot.unset).toArray = ls at hl ⊢
  have hl : lv_has ls 2 [(0, .ref zM), (1, .int (nI k))] := hl
  refine lv_aload_n hx hb dX4_knownSo_0 rfl (lv_at hl 0 rfl) ?_
  refine va_get (D := D) (ci := 4) (v := .ref zS) (C := RX4) (T := TX4) (N := 4) hx hb hts hiX4 hown hK hP 0 rfl rfl 1 (by decide) hf9 (fun _ h9 => h9) rfl dX4_knownSo_1 ?_
  refine lv_iload_n hx hb dX4_knownSo_4 rfl (lv_at hl 1 rfl) ?_
  refine xpS (rest := []) ⟨hx, hb, hml, hown, hts⟩ (c_X4_ofAll l D cI cZ zS (rTs σ) k hk) (va_cwS 2 hts gX4_knownSo_X4_ofAll rfl rfl rfl (by decide +kernel) ⟨Nat.le_of_ble_eq_true rfl, Nat.le_of_ble_eq_true rfl⟩) hP [1] rfl hK hN rfl hl.1 rfl (Nat.le_of_ble_eq_true rfl) dX4_knownSo_5 ⟨Nat.zero_le _, Nat.zero_le _⟩ (fun r5 e5 => ?_)
  subst e5
  refine lv_aload_n hx hb dX4_knownSo_8 rfl (lv_at hl 0 rfl) ?_
  refine va_get (D := D) (ci := 4) (v := .ref zT) (C := RX4) (T := TX4) (N := 4) hx hb hts hiX4 hown hK hP 0 rfl rfl 2 (by decide) hf15 (fun _ h9 => h9) rfl dX4_knownSo_9 ?_
  refine lv_iload_n hx hb dX4_knownSo_12 rfl (lv_at hl 1 rfl) ?_
  refine xpS (rest := [.int (yesI (rTs σ) k)]) ⟨hx, hb, hml, hown, hts⟩ (c_X4_ofAll l D cI cZ zT (rTn σ) k hk) (va_cwS 2 hts gX4_knownSo_X4_ofAll rfl rfl rfl (by decide +kernel) ⟨Nat.le_of_ble_eq_true rfl, Nat.le_of_ble_eq_true rfl⟩) hP [2] rfl hK hN rfl hl.1 rfl (Nat.le_of_ble_eq_true rfl) dX4_knownSo_13 ⟨Nat.zero_le _, Nat.zero_le _⟩ (fun r13 e13 => ?_)
  subst e13
  refine lv_iconst (v := (-1)) hx hb dX4_knownSo_16 (by decide) ?_
  refine lv_ixor hx hb dX4_knownSo_17 ?_
  refine lv_iand hx hb dX4_knownSo_18 ?_
  exact W.iret (v := (yesI (rTs σ) k) &&& ((yesI (rTn σ) k) ^^^ (-1))) hx hb hr (fun t ht hW => ⟨_, rfl, rfl, ht⟩) (fun _ h => absurd h List.not_mem_nil) dX4_knownSo_19

set_option maxHeartbeats 4000000 in
set_option maxRecDepth 100000 in
theorem c_X4_knownNotSo (l : Launch) (D : va_G) (cI cZ : ClassId) (zM : Nat) (zS : Nat) (zT : Nat) (zD : Nat) (σ : ST) (k : Nat) (hk : k < 30) : Met l yX4_knownNotSo wsX4_knownNotSo ({ frames := 1, cells := 0, slots := 0, locals := 23 }) (va_Pc [.ref zM, .int (nI k)] (XP D cI cZ [(zM, .inr (4, [.int (nI (sM σ)), .ref zS, .ref zT, .ref zD])), (zS, .inl (cI, 90, .inl (rTs σ))), (zT, .inl (cI, 90, .inl (rTn σ)))])) (vp_Si (fun r => r = nsI σ k)) 0 0 (fun _ => False) := by
  refine Met.ofW (cc := cX4_knownNotSo) (maxL := 2) (ret := (some .int)) (by decide) rfl ?_
  intro p e s m args below meth c s₁ B hml hv
  obtain ⟨rfl, hP, hK, hN⟩ := hv
  have hx := B.exec
  have hb := B.bytes
  have hr := B.returns
  have hts := atoms_spec (ws := wsX4_knownNotSo) B.pre
  have hown : s.vm.findClass RX4 = some m.cls := findClass_of_methodNamed B.named
  have hlocks := B.notSynchronized
  have hf15 := hts (.fieldLink RX4 15 "BallCourt$Moments" "toldNotSo" "[I") (List.mem_of_getElem? (i := 1) (by decide +kernel))
  have hiX4 : ∀ w ∈ wsX40, w ∈ wsX4_knownNotSo := fun w h => List.mem_cons_of_mem _ (List.mem_append_right _ h)
  have hf9 := hts (.fieldLink RX4 9 "BallCourt$Moments" "toldSo" "[I") (List.mem_of_getElem? (i := 2) (by decide +kernel))
  have hl := lv_entry ([.ref zM, .int (nI k)]) (n := 2) (Nat.le_of_ble_eq_true rfl)
  rw [lg_entry_eq]
  generalize (lg_sl ([.ref zM, .int (nI k)]) ++ List.replicate (2 - (lg_sl ([.ref zM, .int (nI k)])).length) Slot.unset).toArray = ls at hl ⊢
  have hl : lv_has ls 2 [(0, .ref zM), (1, .int (nI k))] := hl
  refine lv_aload_n hx hb dX4_knownNotSo_0 rfl (lv_at hl 0 rfl) ?_
  refine va_get (D := D) (ci := 4) (v := .ref zT) (C := RX4) (T := TX4) (N := 4) hx hb hts hiX4 hown hK hP 0 rfl rfl 2 (by decide) hf15 (fun _ h9 => h9) rfl dX4_knownNotSo_1 ?_
  refine lv_iload_n hx hb dX4_knownNotSo_4 rfl (lv_at hl 1 rfl) ?_
  refine xpS (rest := []) ⟨hx, hb, hml, hown, hts⟩ (c_X4_ofAll l D cI cZ zT (rTn σ) k hk) (va_cwS 2 hts gX4_knownNotSo_X4_ofAll rfl rfl rfl (by decide +kernel) ⟨Nat.le_of_ble_eq_true rfl, Nat.le_of_ble_eq_true rfl⟩) hP [2] rfl hK hN rfl hl.1 rfl (Nat.le_of_ble_eq_true rfl) dX4_knownNotSo_5 ⟨Nat.zero_le _, Nat.zero_le _⟩ (fun r5 e5 => ?_)
  subst e5
  refine lv_aload_n hx hb dX4_knownNotSo_8 rfl (lv_at hl 0 rfl) ?_
  refine va_get (D := D) (ci := 4) (v := .ref zS) (C := RX4) (T := TX4) (N := 4) hx hb hts hiX4 hown hK hP 0 rfl rfl 1 (by decide) hf9 (fun _ h9 => h9) rfl dX4_knownNotSo_9 ?_
  refine lv_iload_n hx hb dX4_knownNotSo_12 rfl (lv_at hl 1 rfl) ?_
  refine xpS (rest := [.int (yesI (rTn σ) k)]) ⟨hx, hb, hml, hown, hts⟩ (c_X4_ofAll l D cI cZ zS (rTs σ) k hk) (va_cwS 2 hts gX4_knownNotSo_X4_ofAll rfl rfl rfl (by decide +kernel) ⟨Nat.le_of_ble_eq_true rfl, Nat.le_of_ble_eq_true rfl⟩) hP [1] rfl hK hN rfl hl.1 rfl (Nat.le_of_ble_eq_true rfl) dX4_knownNotSo_13 ⟨Nat.zero_le _, Nat.zero_le _⟩ (fun r13 e13 => ?_)
  subst e13
  refine lv_iconst (v := (-1)) hx hb dX4_knownNotSo_16 (by decide) ?_
  refine lv_ixor hx hb dX4_knownNotSo_17 ?_
  refine lv_iand hx hb dX4_knownNotSo_18 ?_
  exact W.iret (v := (yesI (rTn σ) k) &&& ((yesI (rTs σ) k) ^^^ (-1))) hx hb hr (fun t ht hW => ⟨_, rfl, rfl, ht⟩) (fun _ h => absurd h List.not_mem_nil) dX4_knownNotSo_19

set_option maxHeartbeats 4000000 in
set_option maxRecDepth 100000 in
theorem c_X1_firstThatBinds (l : Launch) (D : va_G) (cI cZ : ClassId) (zC : Nat) (zQ : Nat) (zP : Nat) (zN : Nat) (σ : ST) (so : Int32) (ns : Int32) (hok : Ok σ) : Met l yX1_firstThatBinds wsX1_firstThatBinds ({ frames := 0, cells := 0, slots := 0, locals := 0 }) (va_Pc [.ref zC, .int so, .int ns] (XP D cI cZ [(zC, .inr (1, [.int (nI (sC σ)), .ref zQ, .ref zP, .ref zN])), (zQ, .inl (cI, 12, .inl (rCk σ))), (zN, .inl (cI, 12, .inl (rCn σ)))])) (vp_Si (fun r => r = bnI σ so ns)) 0 0 (fun _ => False) := by
  refine Met.ofW (cc := cX1_firstThatBinds) (maxL := 6) (ret := (some .int)) (by decide) rfl ?_
  intro p e s m args below meth c s₁ B hml hv
  obtain ⟨rfl, hP, hK, hN⟩ := hv
  have hx := B.exec
  have hb := B.bytes
  have hr := B.returns
  have hts := atoms_spec (ws := wsX1_firstThatBinds) B.pre
  have hown : s.vm.findClass RX1 = some m.cls := findClass_of_methodNamed B.named
  have hlocks := B.notSynchronized
  have ho := hok.1
  have hk2 := hok.k
  have hf21 := hts (.fieldLink RX1 21 "BallCourt$Cases" "count" "I") (List.mem_of_getElem? (i := 1) (by decide +kernel))
  have hiX1 : ∀ w ∈ wsX10, w ∈ wsX1_firstThatBinds := fun w h => List.mem_cons_of_mem _ (List.mem_append_right _ h)
  have hf18 := hts (.fieldLink RX1 18 "BallCourt$Cases" "names" "[I") (List.mem_of_getElem? (i := 2) (by decide +kernel))
  have hf9 := hts (.fieldLink RX1 9 "BallCourt$Cases" "kind" "[I") (List.mem_of_getElem? (i := 3) (by decide +kernel))
  have hl := lv_entry ([.ref zC, .int so, .int ns]) (n := 6) (Nat.le_of_ble_eq_true rfl)
  rw [lg_entry_eq]
  generalize (lg_sl ([.ref zC, .int so, .int ns]) ++ List.replicate (6 - (lg_sl ([.ref zC, .int so, .int ns])).length) Slot.unset).toArray = ls at hl ⊢
  have hl : lv_has ls 6 [(0, .ref zC), (1, .int so), (2, .int ns)] := hl
  refine lv_iconst (v := nI 0) hx hb dX1_firstThatBinds_0 (by decide) ?_
  refine lv_istore_n (lv' := [(3, .int (nI 0)), (0, .ref zC), (1, .int so), (2, .int ns)]) hx hb dX1_firstThatBinds_1 rfl hl (by decide) rfl (fun ls hl => ?_)
  refine wloop (α := Nat) (fun v => sC σ - v) (fun v => [(0, .ref zC), (1, .int so), (2, .int ns), (3, .int (nI v))]) (fun v => (v ≤ sC σ) ∧ (∀ j, j < v → bnB σ so ns j = false)) 6 (fun v hv ih2 ls hl => ?_) 0 ⟨(show 0 ≤ sC σ from Nat.zero_le _), (show ∀ j, j < 0 → bnB σ so ns j = false from fun j hj => absurd hj (Nat.not_lt_zero _))⟩ ls (lv_sub hl [1, 2, 3, 0] rfl)
  obtain ⟨i, rfl⟩ : ∃ z : Nat, z = v := ⟨_, rfl⟩
  obtain ⟨hi, hn⟩ := hv
  have hi : i ≤ sC σ := hi
  have hn : ∀ j, j < i → bnB σ so ns j = false := hn
  have hl : lv_has ls 6 [(0, .ref zC), (1, .int so), (2, .int ns), (3, .int (nI i))] := hl
  refine lv_iload_n hx hb dX1_firstThatBinds_2 rfl (lv_at hl 3 rfl) ?_
  refine lv_aload_n hx hb dX1_firstThatBinds_3 rfl (lv_at hl 0 rfl) ?_
  refine va_get (D := D) (ci := 1) (v := .int (nI (sC σ))) (C := RX1) (T := TX1) (N := 4) hx hb hts hiX1 hown hK hP 0 rfl rfl 0 (by decide) hf21 (fun _ h9 => h9) rfl dX1_firstThatBinds_4 ?_
  refine lv_icmp_ge (tgt := 68) hx hb dX1_firstThatBinds_7 (by decide) (fun c7 => ?_) (fun c7 => ?_)
  · skip
    have c7 := (nI_leI (by omega) (by omega)).mp c7
    refine lv_bipush (v := (-6)) hx hb dX1_firstThatBinds_68 (by decide) ?_
    exact W.iret (v := (-6)) hx hb hr (fun t ht hW => ⟨_, rfl, by rw [bnI, bnN, fst_no (fun j hj => hn j (by omega)), if_neg (Nat.lt_irrefl _)], ht⟩) (fun _ h => absurd h List.not_mem_nil) dX1_firstThatBinds_70
  · skip
    have c7 := Nat.lt_of_not_le (fun z => c7 ((nI_leI (by omega) (by omega)).mpr z))
    refine lv_aload_n hx hb dX1_firstThatBinds_10 rfl (lv_at hl 0 rfl) ?_
    refine va_get (D := D) (ci := 1) (v := .ref zN) (C := RX1) (T := TX1) (N := 4) hx hb hts hiX1 hown hK hP 0 rfl rfl 3 (by decide) hf18 (fun _ h9 => h9) rfl dX1_firstThatBinds_11 ?_
    refine lv_iload_n hx hb dX1_firstThatBinds_14 rfl (lv_at hl 3 rfl) ?_
    refine xald (k := i) hx hb hK hP 2 rfl (by omega) (by decide) dX1_firstThatBinds_15 ?_
    refine lv_aload_n hx hb dX1_firstThatBinds_16 rfl (lv_at hl 0 rfl) ?_
    refine va_get (D := D) (ci := 1) (v := .ref zQ) (C := RX1) (T := TX1) (N := 4) hx hb hts hiX1 hown hK hP 0 rfl rfl 1 (by decide) hf9 (fun _ h9 => h9) rfl dX1_firstThatBinds_17 ?_
    refine lv_iload_n hx hb dX1_firstThatBinds_20 rfl (lv_at hl 3 rfl) ?_
    refine xald (k := i) hx hb hK hP 1 rfl (by omega) (by decide) dX1_firstThatBinds_21 ?_
    refine lv_iand hx hb dX1_firstThatBinds_22 ?_
    refine lv_istore (lv' := [(4, .int ((rCn σ i) &&& (rCk σ i))), (0, .ref zC), (1, .int so), (2, .int ns), (3, .int (nI i))]) hx hb dX1_firstThatBinds_23 hl (by decide) rfl (fun ls hl => ?_)
    refine lv_aload_n hx hb dX1_firstThatBinds_25 rfl (lv_at hl 1 rfl) ?_
    refine va_get (D := D) (ci := 1) (v := .ref zN) (C := RX1) (T := TX1) (N := 4) hx hb hts hiX1 hown hK hP 0 rfl rfl 3 (by decide) hf18 (fun _ h9 => h9) rfl dX1_firstThatBinds_26 ?_
    refine lv_iload_n hx hb dX1_firstThatBinds_29 rfl (lv_at hl 4 rfl) ?_
    refine xald (k := i) hx hb hK hP 2 rfl (by omega) (by decide) dX1_firstThatBinds_30 ?_
    refine lv_aload_n hx hb dX1_firstThatBinds_31 rfl (lv_at hl 1 rfl) ?_
    refine va_get (D := D) (ci := 1) (v := .ref zQ) (C := RX1) (T := TX1) (N := 4) hx hb hts hiX1 hown hK hP 0 rfl rfl 1 (by decide) hf9 (fun _ h9 => h9) rfl dX1_firstThatBinds_32 ?_
    refine lv_iload_n hx hb dX1_firstThatBinds_35 rfl (lv_at hl 4 rfl) ?_
    refine xald (k := i) hx hb hK hP 1 rfl (by omega) (by decide) dX1_firstThatBinds_36 ?_
    refine lv_iconst (v := (-1)) hx hb dX1_firstThatBinds_37 (by decide) ?_
    refine lv_ixor hx hb dX1_firstThatBinds_38 ?_
    refine lv_iand hx hb dX1_firstThatBinds_39 ?_
    refine lv_istore (lv' := [(5, .int ((rCn σ i) &&& ((rCk σ i) ^^^ (-1)))), (4, .int ((rCn σ i) &&& (rCk σ i))), (0, .ref zC), (1, .int so), (2, .int ns), (3, .int (nI i))]) hx hb dX1_firstThatBinds_40 hl (by decide) rfl (fun ls hl => ?_)
    refine lv_iload_n hx hb dX1_firstThatBinds_42 rfl (lv_at hl 3 rfl) ?_
    refine lv_iload hx hb dX1_firstThatBinds_43 (lv_at hl 1 rfl) ?_
    refine lv_iand hx hb dX1_firstThatBinds_45 ?_
    refine lv_iload hx hb dX1_firstThatBinds_46 (lv_at hl 1 rfl) ?_
    refine lv_icmp_ne (tgt := 62) hx hb dX1_firstThatBinds_48 (by decide) (fun c48 => ?_) (fun c48 => ?_)
    · skip
      refine lv_iinc (k := 5) (x := nI i) (v := nI (i + 1)) (lv' := [(3, .int (nI (i + 1))), (5, .int ((rCn σ i) &&& ((rCk σ i) ^^^ (-1)))), (4, .int ((rCn σ i) &&& (rCk σ i))), (0, .ref zC), (1, .int so), (2, .int ns)]) hx hb dX1_firstThatBinds_62 hl rfl (show (nI i) + Int32.ofInt 1 = nI (i + 1) from nI_1 _) (by decide) rfl (fun ls hl => ?_)
      refine lv_goto (tgt := 2) hx hb dX1_firstThatBinds_65 (by decide) ?_
      exact ih2 (i + 1) ⟨(show (i + 1) ≤ sC σ from (by omega)), (show ∀ j, j < (i + 1) → bnB σ so ns j = false from lt_s hn (by rw [bnB, decide_eq_false c48]; rfl))⟩ (by show sC σ - (i + 1) < sC σ - i; omega) ls (lv_sub hl [3, 4, 5, 0] rfl)
    · skip
      refine lv_iload_n hx hb dX1_firstThatBinds_51 rfl (lv_at hl 4 rfl) ?_
      refine lv_iload hx hb dX1_firstThatBinds_52 (lv_at hl 0 rfl) ?_
      refine lv_iand hx hb dX1_firstThatBinds_54 ?_
      refine lv_iload hx hb dX1_firstThatBinds_55 (lv_at hl 0 rfl) ?_
      refine lv_icmp_ne (tgt := 62) hx hb dX1_firstThatBinds_57 (by decide) (fun c57 => ?_) (fun c57 => ?_)
      · skip
        refine lv_iinc (k := 5) (x := nI i) (v := nI (i + 1)) (lv' := [(3, .int (nI (i + 1))), (5, .int ((rCn σ i) &&& ((rCk σ i) ^^^ (-1)))), (4, .int ((rCn σ i) &&& (rCk σ i))), (0, .ref zC), (1, .int so), (2, .int ns)]) hx hb dX1_firstThatBinds_62 hl rfl (show (nI i) + Int32.ofInt 1 = nI (i + 1) from nI_1 _) (by decide) rfl (fun ls hl => ?_)
        refine lv_goto (tgt := 2) hx hb dX1_firstThatBinds_65 (by decide) ?_
        exact ih2 (i + 1) ⟨(show (i + 1) ≤ sC σ from (by omega)), (show ∀ j, j < (i + 1) → bnB σ so ns j = false from lt_s hn (by rw [bnB, decide_eq_true c48, decide_eq_false c57]; rfl))⟩ (by show sC σ - (i + 1) < sC σ - i; omega) ls (lv_sub hl [3, 4, 5, 0] rfl)
      · skip
        refine lv_iload_n hx hb dX1_firstThatBinds_60 rfl (lv_at hl 5 rfl) ?_
        exact W.iret (v := nI i) hx hb hr (fun t ht hW => ⟨_, rfl, by rw [bnI, bnN, fst_at (by rw [bnB, decide_eq_true c48, decide_eq_true c57]; rfl) hn c7, if_pos c7], ht⟩) (fun _ h => absurd h List.not_mem_nil) dX1_firstThatBinds_61
