set_option maxHeartbeats 4000000 in
set_option maxRecDepth 100000 in
theorem c_X0_hasKind (l : Launch) (D : va_G) (cI cZ : ClassId) (zB : Nat) (zK : Nat) (zW : Nat) (zU : Nat) (zV : Nat) (zR : Nat) (zE : Nat) (σ : ST) (kI : Nat → Int32) (x : Int32) (hok : Ok σ) (hkI : ∀ k, k < 2 ^ sF σ → kI k = b2 (kok σ k)) : Met l yX0_hasKind wsX0_hasKind ({ frames := 0, cells := 0, slots := 0, locals := 0 }) (va_Pc [.ref zB, .int x] (XP D cI cZ [(zB, .inr (0, [.int (nI (sF σ)), .int (nI (2 ^ sF σ)), .ref zK, .ref zW, .int (nI (sN σ)), .int (sR σ), .int (orE (rEr σ) (sN σ)), .ref zU, .ref zV, .ref zR, .ref zE])), (zK, .inl (cZ, 128, .inl kI))])) (vp_Si (fun r => r = b2 (kin σ x))) 0 0 (fun _ => False) := by
  refine Met.ofW (cc := cX0_hasKind) (maxL := 2) (ret := (some .boolean)) (by decide) rfl ?_
  intro p e s m args below meth c s₁ B hml hv
  obtain ⟨rfl, hP, hK, hN⟩ := hv
  have hx := B.exec
  have hb := B.bytes
  have hr := B.returns
  have hts := atoms_spec (ws := wsX0_hasKind) B.pre
  have hown : s.vm.findClass RX0 = some m.cls := findClass_of_methodNamed B.named
  have hlocks := B.notSynchronized
  have ho := hok.1
  have hk2 := hok.k
  have hf35 := hts (.fieldLink RX0 35 "BallCourt$Book" "numbers" "I") (List.mem_of_getElem? (i := 1) (by decide +kernel))
  have hiX0 : ∀ w ∈ wsX00, w ∈ wsX0_hasKind := fun w h => List.mem_cons_of_mem _ (List.mem_append_right _ h)
  have hf9 := hts (.fieldLink RX0 9 "BallCourt$Book" "isKind" "[Z") (List.mem_of_getElem? (i := 2) (by decide +kernel))
  have hl := lv_entry ([.ref zB, .int x]) (n := 2) (Nat.le_of_ble_eq_true rfl)
  rw [lg_entry_eq]
  generalize (lg_sl ([.ref zB, .int x]) ++ List.replicate (2 - (lg_sl ([.ref zB, .int x])).length) Slot.unset).toArray = ls at hl ⊢
  have hl : lv_has ls 2 [(0, .ref zB), (1, .int x)] := hl
  refine lv_iload_n hx hb dX0_hasKind_0 rfl (lv_at hl 1 rfl) ?_
  refine lv_if_lt (tgt := 25) hx hb dX0_hasKind_1 (by decide) (fun c1 => ?_) (fun c1 => ?_)
  · skip
    refine lv_iconst (v := 0) hx hb dX0_hasKind_25 (by decide) ?_
    exact W.zret (v := 0) (ty := .boolean) hx hb hr rfl (fun t ht hW => ⟨_, rfl, b2_f (by simp [kin, inN, c1]), ht⟩) (fun _ h => absurd h List.not_mem_nil) dX0_hasKind_26
  · skip
    refine lv_iload_n hx hb dX0_hasKind_4 rfl (lv_at hl 1 rfl) ?_
    refine lv_aload_n hx hb dX0_hasKind_5 rfl (lv_at hl 0 rfl) ?_
    refine va_get (D := D) (ci := 0) (v := .int (nI (2 ^ sF σ))) (C := RX0) (T := TX0) (N := 11) hx hb hts hiX0 hown hK hP 0 rfl rfl 1 (by decide) hf35 (fun _ h9 => h9) rfl dX0_hasKind_6 ?_
    refine lv_icmp_ge (tgt := 25) hx hb dX0_hasKind_9 (by decide) (fun c9 => ?_) (fun c9 => ?_)
    · skip
      refine lv_iconst (v := 0) hx hb dX0_hasKind_25 (by decide) ?_
      exact W.zret (v := 0) (ty := .boolean) hx hb hr rfl (fun t ht hW => ⟨_, rfl, b2_f (by simp [kin, inN, c9]), ht⟩) (fun _ h => absurd h List.not_mem_nil) dX0_hasKind_26
    · skip
      obtain ⟨k, hk, rfl⟩ := inN_t (x := x) (n := 2 ^ sF σ) (by simp only [inN, decide_eq_false c1, decide_eq_false c9]; rfl) (by omega)
      refine lv_aload_n hx hb dX0_hasKind_12 rfl (lv_at hl 0 rfl) ?_
      refine va_get (D := D) (ci := 0) (v := .ref zK) (C := RX0) (T := TX0) (N := 11) hx hb hts hiX0 hown hK hP 0 rfl rfl 2 (by decide) hf9 (fun _ h9 => h9) rfl dX0_hasKind_13 ?_
      refine lv_iload_n hx hb dX0_hasKind_16 rfl (lv_at hl 1 rfl) ?_
      refine xzld (k := k) hx hb hK hP 1 rfl (by omega) (by decide) dX0_hasKind_17 ?_
      refine lv_asi (show kI k = b2 (kok σ k) from hkI k hk) ?_
      refine lv_if_eq (tgt := 25) hx hb dX0_hasKind_18 (by decide) (fun c18 => ?_) (fun c18 => ?_)
      · skip
        have c18 := b2_0 c18
        refine lv_iconst (v := 0) hx hb dX0_hasKind_25 (by decide) ?_
        exact W.zret (v := 0) (ty := .boolean) hx hb hr rfl (fun t ht hW => ⟨_, rfl, b2_f (by rw [kin_nI hk (by omega), c18]), ht⟩) (fun _ h => absurd h List.not_mem_nil) dX0_hasKind_26
      · skip
        have c18 := b2_1 c18
        refine lv_iconst (v := 1) hx hb dX0_hasKind_21 (by decide) ?_
        refine lv_goto (tgt := 26) hx hb dX0_hasKind_22 (by decide) ?_
        exact W.zret (v := 1) (ty := .boolean) hx hb hr rfl (fun t ht hW => ⟨_, rfl, b2_t (by rw [kin_nI hk (by omega), c18]), ht⟩) (fun _ h => absurd h List.not_mem_nil) dX0_hasKind_26

set_option maxHeartbeats 4000000 in
set_option maxRecDepth 100000 in
theorem c_X0_areBarred (l : Launch) (D : va_G) (cI cZ : ClassId) (zB : Nat) (zK : Nat) (zW : Nat) (zU : Nat) (zV : Nat) (zR : Nat) (zE : Nat) (σ : ST) (a : Nat) (b : Nat) (ha : a < 7) : Met l yX0_areBarred wsX0_areBarred ({ frames := 1, cells := 0, slots := 0, locals := 21 }) (va_Pc [.ref zB, .int (nI a), .int (nI b)] (XP D cI cZ [(zB, .inr (0, [.int (nI (sF σ)), .int (nI (2 ^ sF σ)), .ref zK, .ref zW, .int (nI (sN σ)), .int (sR σ), .int (orE (rEr σ) (sN σ)), .ref zU, .ref zV, .ref zR, .ref zE])), (zW, .inl (cI, 7, .inl (rB σ)))])) (vp_Si (fun r => r = b2 (bit (rB σ a) (nI b)))) 0 0 (fun _ => False) := by
  refine Met.ofW (cc := cX0_areBarred) (maxL := 3) (ret := (some .boolean)) (by decide) rfl ?_
  intro p e s m args below meth c s₁ B hml hv
  obtain ⟨rfl, hP, hK, hN⟩ := hv
  have hx := B.exec
  have hb := B.bytes
  have hr := B.returns
  have hts := atoms_spec (ws := wsX0_areBarred) B.pre
  have hown : s.vm.findClass RX0 = some m.cls := findClass_of_methodNamed B.named
  have hlocks := B.notSynchronized
  have hf15 := hts (.fieldLink RX0 15 "BallCourt$Book" "barredWith" "[I") (List.mem_of_getElem? (i := 1) (by decide +kernel))
  have hiX0 : ∀ w ∈ wsX00, w ∈ wsX0_areBarred := fun w h => List.mem_cons_of_mem _ (List.mem_append_right _ h)
  have hl := lv_entry ([.ref zB, .int (nI a), .int (nI b)]) (n := 3) (Nat.le_of_ble_eq_true rfl)
  rw [lg_entry_eq]
  generalize (lg_sl ([.ref zB, .int (nI a), .int (nI b)]) ++ List.replicate (3 - (lg_sl ([.ref zB, .int (nI a), .int (nI b)])).length) Slot.unset).toArray = ls at hl ⊢
  have hl : lv_has ls 3 [(0, .ref zB), (1, .int (nI a)), (2, .int (nI b))] := hl
  refine lv_aload_n hx hb dX0_areBarred_0 rfl (lv_at hl 0 rfl) ?_
  refine va_get (D := D) (ci := 0) (v := .ref zW) (C := RX0) (T := TX0) (N := 11) hx hb hts hiX0 hown hK hP 0 rfl rfl 3 (by decide) hf15 (fun _ h9 => h9) rfl dX0_areBarred_1 ?_
  refine lv_iload_n hx hb dX0_areBarred_4 rfl (lv_at hl 1 rfl) ?_
  refine xald (k := a) hx hb hK hP 1 rfl (by omega) (by decide) dX0_areBarred_5 ?_
  refine lv_iload_n hx hb dX0_areBarred_6 rfl (lv_at hl 2 rfl) ?_
  refine xpSN (host := "BallCourt") (rest := []) ⟨hx, hb, hml, hown, hts⟩ (c_X5_hasBit l D cI cZ (rB σ a) (nI b)) (va_cnB 2 hts gX0_areBarred_X5_hasBit_n50 rfl rfl rfl (NW.m hN 4 rfl) (hts (.initialized RX5) (List.mem_of_getElem? (i := 3) (by decide +kernel))) (by decide +kernel) ⟨Nat.le_of_ble_eq_true rfl, Nat.le_of_ble_eq_true rfl⟩) (hts (.static yX5_hasBit) (List.mem_of_getElem? (i := 2) (by decide +kernel))) hP [] rfl hK hN rfl hl.1 rfl (Nat.le_of_ble_eq_true rfl) dX0_areBarred_7 ⟨Nat.zero_le _, Nat.zero_le _⟩ (fun r7 e7 => ?_)
  subst e7
  exact W.zret (v := b2 (bit (rB σ a) (nI b))) (ty := .boolean) hx hb hr (nab2 _) (fun t ht hW => ⟨_, rfl, rfl, ht⟩) (fun _ h => absurd h List.not_mem_nil) dX0_areBarred_10

set_option maxHeartbeats 4000000 in
set_option maxRecDepth 100000 in
theorem c_X0_excepts (l : Launch) (D : va_G) (cI cZ : ClassId) (zB : Nat) (zK : Nat) (zW : Nat) (zU : Nat) (zV : Nat) (zR : Nat) (zE : Nat) (σ : ST) (j : Nat) (i : Nat) (hi : i < 12) : Met l yX0_excepts wsX0_excepts ({ frames := 1, cells := 0, slots := 0, locals := 21 }) (va_Pc [.ref zB, .int (nI j), .int (nI i)] (XP D cI cZ [(zB, .inr (0, [.int (nI (sF σ)), .int (nI (2 ^ sF σ)), .ref zK, .ref zW, .int (nI (sN σ)), .int (sR σ), .int (orE (rEr σ) (sN σ)), .ref zU, .ref zV, .ref zR, .ref zE])), (zE, .inl (cI, 12, .inl (rEr σ)))])) (vp_Si (fun r => r = b2 (bit (rEr σ i) (nI j)))) 0 0 (fun _ => False) := by
  refine Met.ofW (cc := cX0_excepts) (maxL := 3) (ret := (some .boolean)) (by decide) rfl ?_
  intro p e s m args below meth c s₁ B hml hv
  obtain ⟨rfl, hP, hK, hN⟩ := hv
  have hx := B.exec
  have hb := B.bytes
  have hr := B.returns
  have hts := atoms_spec (ws := wsX0_excepts) B.pre
  have hown : s.vm.findClass RX0 = some m.cls := findClass_of_methodNamed B.named
  have hlocks := B.notSynchronized
  have hf28 := hts (.fieldLink RX0 28 "BallCourt$Book" "excepters" "[I") (List.mem_of_getElem? (i := 1) (by decide +kernel))
  have hiX0 : ∀ w ∈ wsX00, w ∈ wsX0_excepts := fun w h => List.mem_cons_of_mem _ (List.mem_append_right _ h)
  have hl := lv_entry ([.ref zB, .int (nI j), .int (nI i)]) (n := 3) (Nat.le_of_ble_eq_true rfl)
  rw [lg_entry_eq]
  generalize (lg_sl ([.ref zB, .int (nI j), .int (nI i)]) ++ List.replicate (3 - (lg_sl ([.ref zB, .int (nI j), .int (nI i)])).length) Slot.unset).toArray = ls at hl ⊢
  have hl : lv_has ls 3 [(0, .ref zB), (1, .int (nI j)), (2, .int (nI i))] := hl
  refine lv_aload_n hx hb dX0_excepts_0 rfl (lv_at hl 0 rfl) ?_
  refine va_get (D := D) (ci := 0) (v := .ref zE) (C := RX0) (T := TX0) (N := 11) hx hb hts hiX0 hown hK hP 0 rfl rfl 10 (by decide) hf28 (fun _ h9 => h9) rfl dX0_excepts_1 ?_
  refine lv_iload_n hx hb dX0_excepts_4 rfl (lv_at hl 2 rfl) ?_
  refine xald (k := i) hx hb hK hP 1 rfl (by omega) (by decide) dX0_excepts_5 ?_
  refine lv_iload_n hx hb dX0_excepts_6 rfl (lv_at hl 1 rfl) ?_
  refine xpSN (host := "BallCourt") (rest := []) ⟨hx, hb, hml, hown, hts⟩ (c_X5_hasBit l D cI cZ (rEr σ i) (nI j)) (va_cnB 2 hts gX0_excepts_X5_hasBit_n50 rfl rfl rfl (NW.m hN 4 rfl) (hts (.initialized RX5) (List.mem_of_getElem? (i := 3) (by decide +kernel))) (by decide +kernel) ⟨Nat.le_of_ble_eq_true rfl, Nat.le_of_ble_eq_true rfl⟩) (hts (.static yX5_hasBit) (List.mem_of_getElem? (i := 2) (by decide +kernel))) hP [] rfl hK hN rfl hl.1 rfl (Nat.le_of_ble_eq_true rfl) dX0_excepts_7 ⟨Nat.zero_le _, Nat.zero_le _⟩ (fun r7 e7 => ?_)
  subst e7
  exact W.zret (v := b2 (bit (rEr σ i) (nI j))) (ty := .boolean) hx hb hr (nab2 _) (fun t ht hW => ⟨_, rfl, rfl, ht⟩) (fun _ h => absurd h List.not_mem_nil) dX0_excepts_10

set_option maxHeartbeats 4000000 in
set_option maxRecDepth 100000 in
theorem c_X0_isRepealed (l : Launch) (D : va_G) (cI cZ : ClassId) (zB : Nat) (zK : Nat) (zW : Nat) (zU : Nat) (zV : Nat) (zR : Nat) (zE : Nat) (σ : ST) (q : Nat) : Met l yX0_isRepealed wsX0_isRepealed ({ frames := 1, cells := 0, slots := 0, locals := 21 }) (va_Pc [.ref zB, .int (nI q)] (XP D cI cZ [(zB, .inr (0, [.int (nI (sF σ)), .int (nI (2 ^ sF σ)), .ref zK, .ref zW, .int (nI (sN σ)), .int (sR σ), .int (orE (rEr σ) (sN σ)), .ref zU, .ref zV, .ref zR, .ref zE]))])) (vp_Si (fun r => r = b2 (bit (sR σ) (nI q)))) 0 0 (fun _ => False) := by
  refine Met.ofW (cc := cX0_isRepealed) (maxL := 2) (ret := (some .boolean)) (by decide) rfl ?_
  intro p e s m args below meth c s₁ B hml hv
  obtain ⟨rfl, hP, hK, hN⟩ := hv
  have hx := B.exec
  have hb := B.bytes
  have hr := B.returns
  have hts := atoms_spec (ws := wsX0_isRepealed) B.pre
  have hown : s.vm.findClass RX0 = some m.cls := findClass_of_methodNamed B.named
  have hlocks := B.notSynchronized
  have hf41 := hts (.fieldLink RX0 41 "BallCourt$Book" "repealed" "I") (List.mem_of_getElem? (i := 1) (by decide +kernel))
  have hiX0 : ∀ w ∈ wsX00, w ∈ wsX0_isRepealed := fun w h => List.mem_cons_of_mem _ (List.mem_append_right _ h)
  have hl := lv_entry ([.ref zB, .int (nI q)]) (n := 2) (Nat.le_of_ble_eq_true rfl)
  rw [lg_entry_eq]
  generalize (lg_sl ([.ref zB, .int (nI q)]) ++ List.replicate (2 - (lg_sl ([.ref zB, .int (nI q)])).length) Slot.unset).toArray = ls at hl ⊢
  have hl : lv_has ls 2 [(0, .ref zB), (1, .int (nI q))] := hl
  refine lv_aload_n hx hb dX0_isRepealed_0 rfl (lv_at hl 0 rfl) ?_
  refine va_get (D := D) (ci := 0) (v := .int (sR σ)) (C := RX0) (T := TX0) (N := 11) hx hb hts hiX0 hown hK hP 0 rfl rfl 5 (by decide) hf41 (fun _ h9 => h9) rfl dX0_isRepealed_1 ?_
  refine lv_iload_n hx hb dX0_isRepealed_4 rfl (lv_at hl 1 rfl) ?_
  refine xpSN (host := "BallCourt") (rest := []) ⟨hx, hb, hml, hown, hts⟩ (c_X5_hasBit l D cI cZ (sR σ) (nI q)) (va_cnB 2 hts gX0_isRepealed_X5_hasBit_n50 rfl rfl rfl (NW.m hN 4 rfl) (hts (.initialized RX5) (List.mem_of_getElem? (i := 3) (by decide +kernel))) (by decide +kernel) ⟨Nat.le_of_ble_eq_true rfl, Nat.le_of_ble_eq_true rfl⟩) (hts (.static yX5_hasBit) (List.mem_of_getElem? (i := 2) (by decide +kernel))) hP [] rfl hK hN rfl hl.1 rfl (Nat.le_of_ble_eq_true rfl) dX0_isRepealed_5 ⟨Nat.zero_le _, Nat.zero_le _⟩ (fun r5 e5 => ?_)
  subst e5
  exact W.zret (v := b2 (bit (sR σ) (nI q))) (ty := .boolean) hx hb hr (nab2 _) (fun t ht hW => ⟨_, rfl, rfl, ht⟩) (fun _ h => absurd h List.not_mem_nil) dX0_isRepealed_8

set_option maxHeartbeats 4000000 in
set_option maxRecDepth 100000 in
theorem c_X0_repealedIfMended (l : Launch) (D : va_G) (cI cZ : ClassId) (zB : Nat) (zK : Nat) (zW : Nat) (zU : Nat) (zV : Nat) (zR : Nat) (zE : Nat) (σ : ST) (q : Nat) (hq : q < 12) : Met l yX0_repealedIfMended wsX0_repealedIfMended ({ frames := 0, cells := 0, slots := 0, locals := 0 }) (va_Pc [.ref zB, .int (nI q)] (XP D cI cZ [(zB, .inr (0, [.int (nI (sF σ)), .int (nI (2 ^ sF σ)), .ref zK, .ref zW, .int (nI (sN σ)), .int (sR σ), .int (orE (rEr σ) (sN σ)), .ref zU, .ref zV, .ref zR, .ref zE]))])) (vp_Si (fun r => r = sR σ ^^^ nI (2 ^ q))) 0 0 (fun _ => False) := by
  refine Met.ofW (cc := cX0_repealedIfMended) (maxL := 2) (ret := (some .int)) (by decide) rfl ?_
  intro p e s m args below meth c s₁ B hml hv
  obtain ⟨rfl, hP, hK, hN⟩ := hv
  have hx := B.exec
  have hb := B.bytes
  have hr := B.returns
  have hts := atoms_spec (ws := wsX0_repealedIfMended) B.pre
  have hown : s.vm.findClass RX0 = some m.cls := findClass_of_methodNamed B.named
  have hlocks := B.notSynchronized
  have hf41 := hts (.fieldLink RX0 41 "BallCourt$Book" "repealed" "I") (List.mem_of_getElem? (i := 1) (by decide +kernel))
  have hiX0 : ∀ w ∈ wsX00, w ∈ wsX0_repealedIfMended := fun w h => List.mem_cons_of_mem _ (List.mem_append_right _ h)
  have hl := lv_entry ([.ref zB, .int (nI q)]) (n := 2) (Nat.le_of_ble_eq_true rfl)
  rw [lg_entry_eq]
  generalize (lg_sl ([.ref zB, .int (nI q)]) ++ List.replicate (2 - (lg_sl ([.ref zB, .int (nI q)])).length) Slot.unset).toArray = ls at hl ⊢
  have hl : lv_has ls 2 [(0, .ref zB), (1, .int (nI q))] := hl
  refine lv_aload_n hx hb dX0_repealedIfMended_0 rfl (lv_at hl 0 rfl) ?_
  refine va_get (D := D) (ci := 0) (v := .int (sR σ)) (C := RX0) (T := TX0) (N := 11) hx hb hts hiX0 hown hK hP 0 rfl rfl 5 (by decide) hf41 (fun _ h9 => h9) rfl dX0_repealedIfMended_1 ?_
  refine lv_iconst (v := 1) hx hb dX0_repealedIfMended_4 (by decide) ?_
  refine lv_iload_n hx hb dX0_repealedIfMended_5 rfl (lv_at hl 1 rfl) ?_
  refine lv_ishl hx hb dX0_repealedIfMended_6 ?_
  refine lv_asi (show 1 <<< ((nI q) &&& 31) = nI (2 ^ q) from shl1 q (by omega)) ?_
  refine lv_ixor hx hb dX0_repealedIfMended_7 ?_
  exact W.iret (v := (sR σ) ^^^ (nI (2 ^ q))) hx hb hr (fun t ht hW => ⟨_, rfl, by simp [b2], ht⟩) (fun _ h => absurd h List.not_mem_nil) dX0_repealedIfMended_8

set_option maxHeartbeats 4000000 in
set_option maxRecDepth 100000 in
theorem c_X0_workKinds (l : Launch) (D : va_G) (cI cZ : ClassId) (sz : Nat) (zB : Nat) (zK : Nat) (zW : Nat) (zU : Nat) (zV : Nat) (zR : Nat) (zE : Nat) (σ : ST) (kI : Nat → Int32) (hok : Ok σ) : Met l yX0_workKinds wsX0_workKinds ({ frames := 2, cells := 0, slots := 0, locals := 43 }) (va_Pc [.ref zB] (XW D cI cZ [(zB, .inr (0, [.int (nI (sF σ)), .int (nI (2 ^ sF σ)), .ref zK, .ref zW, .int (nI (sN σ)), .int (sR σ), .int (orE (rEr σ) (sN σ)), .ref zU, .ref zV, .ref zR, .ref zE])), (zK, .inl (cZ, 128, .inl kI)), (zW, .inl (cI, 7, .inl (rB σ)))] sz)) (va_Qv (fun u : Nat → Int32 => ∀ k, k < 2 ^ sF σ → u k = b2 (kok σ k)) (fun u => XB D cI cZ (va_A [(zB, .inr (0, [.int (nI (sF σ)), .int (nI (2 ^ sF σ)), .ref zK, .ref zW, .int (nI (sN σ)), .int (sR σ), .int (orE (rEr σ) (sN σ)), .ref zU, .ref zV, .ref zR, .ref zE])), (zK, .inl (cZ, 128, .inl kI)), (zW, .inl (cI, 7, .inl (rB σ)))] sz) [(zB, .inr (0, [.int (nI (sF σ)), .int (nI (2 ^ sF σ)), .ref zK, .ref zW, .int (nI (sN σ)), .int (sR σ), .int (orE (rEr σ) (sN σ)), .ref zU, .ref zV, .ref zR, .ref zE])), (zK, .inl (cZ, 128, .inl u)), (zW, .inl (cI, 7, .inl (rB σ)))]) (va_A [(zB, .inr (0, [.int (nI (sF σ)), .int (nI (2 ^ sF σ)), .ref zK, .ref zW, .int (nI (sN σ)), .int (sR σ), .int (orE (rEr σ) (sN σ)), .ref zU, .ref zV, .ref zR, .ref zE])), (zK, .inl (cZ, 128, .inl kI)), (zW, .inl (cI, 7, .inl (rB σ)))] sz)) 0 0 (va_A [(zB, .inr (0, [.int (nI (sF σ)), .int (nI (2 ^ sF σ)), .ref zK, .ref zW, .int (nI (sN σ)), .int (sR σ), .int (orE (rEr σ) (sN σ)), .ref zU, .ref zV, .ref zR, .ref zE])), (zK, .inl (cZ, 128, .inl kI)), (zW, .inl (cI, 7, .inl (rB σ)))] sz) := by
  refine Met.ofW (cc := cX0_workKinds) (maxL := 2) (ret := none) (by decide) rfl ?_
  intro p e s m args below meth c s₁ B hml hv
  obtain ⟨rfl, hsz, ⟨hP, hK, hN⟩, hD0⟩ := hv
  have hx := B.exec
  have hb := B.bytes
  have hr := B.returns
  have hts := atoms_spec (ws := wsX0_workKinds) B.pre
  have hown : s.vm.findClass RX0 = some m.cls := findClass_of_methodNamed B.named
  have hlocks := B.notSynchronized
  subst hsz
  have hD := hD0.self (sz := s.heap.size)
  generalize hAe : va_A [(zB, .inr (0, [.int (nI (sF σ)), .int (nI (2 ^ sF σ)), .ref zK, .ref zW, .int (nI (sN σ)), .int (sR σ), .int (orE (rEr σ) (sN σ)), .ref zU, .ref zV, .ref zR, .ref zE])), (zK, .inl (cZ, 128, .inl kI)), (zW, .inl (cI, 7, .inl (rB σ)))] s.heap.size = A at hD ⊢
  have hA : ∀ q : Nat, s.heap.size ≤ q → A q := fun q h => by rw [← hAe]; exact Or.inr h
  have hS : va_S A s.heap s.heap [] := va_S.rf
  have ho := hok.1
  have hk2 := hok.k
  have hf35 := hts (.fieldLink RX0 35 "BallCourt$Book" "numbers" "I") (List.mem_of_getElem? (i := 1) (by decide +kernel))
  have hiX0 : ∀ w ∈ wsX00, w ∈ wsX0_workKinds := fun w h => List.mem_cons_of_mem _ (List.mem_append_right _ h)
  have hf9 := hts (.fieldLink RX0 9 "BallCourt$Book" "isKind" "[Z") (List.mem_of_getElem? (i := 2) (by decide +kernel))
  have hl := lv_entry ([.ref zB]) (n := 2) (Nat.le_of_ble_eq_true rfl)
  rw [lg_entry_eq]
  generalize (lg_sl ([.ref zB]) ++ List.replicate (2 - (lg_sl ([.ref zB])).length) Slot.unset).toArray = ls at hl ⊢
  have hl : lv_has ls 2 [(0, .ref zB)] := hl
  refine lv_iconst (v := nI 0) hx hb dX0_workKinds_0 (by decide) ?_
  refine lv_istore_n (lv' := [(1, .int (nI 0)), (0, .ref zB)]) hx hb dX0_workKinds_1 rfl hl (by decide) rfl (fun ls hl => ?_)
  refine wloopW (α := Nat × (Nat → Int32)) (fun v => 2 ^ sF σ - v.1) (fun v => [(zB, .inr (0, [.int (nI (sF σ)), .int (nI (2 ^ sF σ)), .ref zK, .ref zW, .int (nI (sN σ)), .int (sR σ), .int (orE (rEr σ) (sN σ)), .ref zU, .ref zV, .ref zR, .ref zE])), (zK, .inl (cZ, 128, .inl v.2)), (zW, .inl (cI, 7, .inl (rB σ)))]) (fun v => [(0, .ref zB), (1, .int (nI v.1))]) (fun v => (v.1 ≤ 2 ^ sF σ) ∧ (∀ j, j < v.1 → v.2 j = b2 (kok σ j))) 2 (fun v hv ih2 H locs hP hD hS ls hl => ?_) (0, kI) ⟨(show 0 ≤ 2 ^ sF σ from Nat.zero_le _), (show ∀ j, j < 0 → kI j = b2 (kok σ j) from fun j hj => absurd hj (Nat.not_lt_zero _))⟩ hP hD hS ls (lv_sub hl [1, 0] rfl)
  obtain ⟨i, r⟩ := v
  obtain ⟨hi, hv⟩ := hv
  have hi : i ≤ 2 ^ sF σ := hi
  have hv : ∀ j, j < i → r j = b2 (kok σ j) := hv
  have hl : lv_has ls 2 [(0, .ref zB), (1, .int (nI i))] := hl
  have hP : va_P D vwCl [(zB, .inr (0, [.int (nI (sF σ)), .int (nI (2 ^ sF σ)), .ref zK, .ref zW, .int (nI (sN σ)), .int (sR σ), .int (orE (rEr σ) (sN σ)), .ref zU, .ref zV, .ref zR, .ref zE])), (zK, .inl (cZ, 128, .inl r)), (zW, .inl (cI, 7, .inl (rB σ)))] H := hP
  have hD : va_D A [(zB, .inr (0, [.int (nI (sF σ)), .int (nI (2 ^ sF σ)), .ref zK, .ref zW, .int (nI (sN σ)), .int (sR σ), .int (orE (rEr σ) (sN σ)), .ref zU, .ref zV, .ref zR, .ref zE])), (zK, .inl (cZ, 128, .inl r)), (zW, .inl (cI, 7, .inl (rB σ)))] := hD
  refine lv_iload_n hx hb dX0_workKinds_2 rfl (lv_at hl 1 rfl) ?_
  refine lv_aload_n hx hb dX0_workKinds_3 rfl (lv_at hl 0 rfl) ?_
  refine va_get (D := D) (ci := 0) (v := .int (nI (2 ^ sF σ))) (C := RX0) (T := TX0) (N := 11) hx hb hts hiX0 hown hK hP 0 rfl rfl 1 (by decide) hf35 (fun _ h9 => h9) rfl dX0_workKinds_4 ?_
  refine lv_icmp_ge (tgt := 35) hx hb dX0_workKinds_7 (by decide) (fun c7 => ?_) (fun c7 => ?_)
  · skip
    have c7 := (nI_leI (by omega) (by omega)).mp c7
    have hP9 := hP
    have hD9 := hD
    exact W.vret hx hb hr (fun t ht hW => ⟨⟨r, rfl, (fun k hk => hv k (by omega)), ⟨⟨by rw [ht]; exact hP9, va_K.moved hW.alike hK, NW.warm hW hN⟩, hD9⟩⟩, hS.F ht⟩) hS.2.2 dX0_workKinds_35
  · skip
    have c7 := Nat.lt_of_not_le (fun z => c7 ((nI_leI (by omega) (by omega)).mpr z))
    refine lv_aload_n hx hb dX0_workKinds_10 rfl (lv_at hl 0 rfl) ?_
    refine va_get (D := D) (ci := 0) (v := .ref zK) (C := RX0) (T := TX0) (N := 11) hx hb hts hiX0 hown hK hP 0 rfl rfl 2 (by decide) hf9 (fun _ h9 => h9) rfl dX0_workKinds_11 ?_
    refine lv_iload_n hx hb dX0_workKinds_14 rfl (lv_at hl 1 rfl) ?_
    refine lv_aload_n hx hb dX0_workKinds_15 rfl (lv_at hl 0 rfl) ?_
    refine lv_iload_n hx hb dX0_workKinds_16 rfl (lv_at hl 1 rfl) ?_
    refine xpV (rest := [.int (nI i), .ref zK]) ⟨hx, hb, hml, hown, hts⟩ (c_X0_hasBarredPair l D cI cZ zB zK zW zU zV zR zE σ i hok) (cwV 1 hts gX0_workKinds_X0_hasBarredPair rfl rfl rfl (by decide +kernel) ⟨Nat.le_of_ble_eq_true rfl, Nat.le_of_ble_eq_true rfl⟩) hP [0, 2] rfl hK hN (ci := 0) (q0 := 0) rfl rfl rfl hl.1 rfl (Nat.le_of_ble_eq_true rfl) dX0_workKinds_17 ⟨Nat.zero_le _, Nat.zero_le _⟩ (fun r17 e17 => ?_)
    subst e17
    refine wjoin (pcJ := 28) (lv := [(0, .ref zB), (1, .int (nI i))]) (nL := 2) (st := [.int (b2 (kok σ i)), .int (nI i), .ref zK]) (fun ls hl => ?_) (fun J28 => ?_)
    · skip
      refine xzst (k := i) hx hb hK hP hD hS 1 rfl (nar_b2 _) (by omega) (by decide) dX0_workKinds_28 (fun H locs hP hD hS => ?_)
      have hP : va_P D vwCl [(zB, .inr (0, [.int (nI (sF σ)), .int (nI (2 ^ sF σ)), .ref zK, .ref zW, .int (nI (sN σ)), .int (sR σ), .int (orE (rEr σ) (sN σ)), .ref zU, .ref zV, .ref zR, .ref zE])), (zK, .inl (cZ, 128, .inl (upd r i (b2 (kok σ i))))), (zW, .inl (cI, 7, .inl (rB σ)))] H := hP
      have hD : va_D A [(zB, .inr (0, [.int (nI (sF σ)), .int (nI (2 ^ sF σ)), .ref zK, .ref zW, .int (nI (sN σ)), .int (sR σ), .int (orE (rEr σ) (sN σ)), .ref zU, .ref zV, .ref zR, .ref zE])), (zK, .inl (cZ, 128, .inl (upd r i (b2 (kok σ i))))), (zW, .inl (cI, 7, .inl (rB σ)))] := hD
      refine lv_iinc (k := 1) (x := nI i) (v := nI (i + 1)) (lv' := [(1, .int (nI (i + 1))), (0, .ref zB)]) hx hb dX0_workKinds_29 hl rfl (show (nI i) + Int32.ofInt 1 = nI (i + 1) from nI_1 _) (by decide) rfl (fun ls hl => ?_)
      refine lv_goto (tgt := 2) hx hb dX0_workKinds_32 (by decide) ?_
      exact ih2 (i + 1, upd r i (b2 (kok σ i))) ⟨(show (i + 1) ≤ 2 ^ sF σ from (by omega)), (show ∀ j, j < (i + 1) → (upd r i (b2 (kok σ i))) j = b2 (kok σ j) from lt_s (fun j hj => by rw [pk_un (by omega)]; exact hv j hj) (by rw [pk_us]))⟩ (by show 2 ^ sF σ - (i + 1) < 2 ^ sF σ - i; omega) _ _ hP hD hS ls (lv_sub hl [1, 0] rfl)
    · skip
      refine lv_if_ne (tgt := 27) hx hb dX0_workKinds_20 (by decide) (fun c20 => ?_) (fun c20 => ?_)
      · skip
        have c20 := b2_1 c20
        refine lv_iconst (v := 0) hx hb dX0_workKinds_27 (by decide) ?_
        refine lv_asi (show (0 : Int32) = b2 (kok σ i) from b2_f (by simpa using c20)) ?_
        exact J28 ls (lv_sub hl [0, 1] rfl)
      · skip
        have c20 := b2_0 c20
        refine lv_iconst (v := 1) hx hb dX0_workKinds_23 (by decide) ?_
        refine lv_goto (tgt := 28) hx hb dX0_workKinds_24 (by decide) ?_
        refine lv_asi (show (1 : Int32) = b2 (kok σ i) from b2_t (by simpa using c20)) ?_
        exact J28 ls (lv_sub hl [0, 1] rfl)

set_option maxHeartbeats 4000000 in
set_option maxRecDepth 100000 in
theorem c_X0_begin (l : Launch) (D : va_G) (cI cZ : ClassId) (sz : Nat) (zB : Nat) (zK : Nat) (zW : Nat) (zU : Nat) (zV : Nat) (zR : Nat) (zE : Nat) (σ : ST) (kI : Nat → Int32) (i0 : Int32) (i1 : Int32) (i2 : Int32) (i3 : Int32) (i4 : Int32) (q : Nat) (hq : 1 ≤ q ∧ q ≤ 7) (hg : 1 ≤ sG σ ∧ sG σ ≤ 20) : Met l yX0_begin wsX0_begin ({ frames := 3, cells := 0, slots := 0, locals := 64 }) (va_Pc [.ref zB, .int (nI q)] (XW D cI cZ [(zB, .inr (0, [.int i0, .int i1, .ref zK, .ref zW, .int i2, .int i3, .int i4, .ref zU, .ref zV, .ref zR, .ref zE])), (zK, .inl (cZ, 128, .inl kI)), (zW, .inl (cI, 7, .inl (rB σ)))] sz)) (va_Qv (fun u : Nat → Int32 => ∀ k, k < 2 ^ q → u k = b2 (kok (bgS σ q) k)) (fun u => XB D cI cZ (va_A [(zB, .inr (0, [.int i0, .int i1, .ref zK, .ref zW, .int i2, .int i3, .int i4, .ref zU, .ref zV, .ref zR, .ref zE])), (zK, .inl (cZ, 128, .inl kI)), (zW, .inl (cI, 7, .inl (rB σ)))] sz) [(zB, .inr (0, [.int (nI (sF (bgS σ q))), .int (nI (2 ^ sF (bgS σ q))), .ref zK, .ref zW, .int (nI (sN (bgS σ q))), .int (sR (bgS σ q)), .int (orE (rEr (bgS σ q)) (sN (bgS σ q))), .ref zU, .ref zV, .ref zR, .ref zE])), (zK, .inl (cZ, 128, .inl u)), (zW, .inl (cI, 7, .inl (rB (bgS σ q))))]) (va_A [(zB, .inr (0, [.int i0, .int i1, .ref zK, .ref zW, .int i2, .int i3, .int i4, .ref zU, .ref zV, .ref zR, .ref zE])), (zK, .inl (cZ, 128, .inl kI)), (zW, .inl (cI, 7, .inl (rB σ)))] sz)) 0 0 (va_A [(zB, .inr (0, [.int i0, .int i1, .ref zK, .ref zW, .int i2, .int i3, .int i4, .ref zU, .ref zV, .ref zR, .ref zE])), (zK, .inl (cZ, 128, .inl kI)), (zW, .inl (cI, 7, .inl (rB σ)))] sz) := by
  refine Met.ofW (cc := cX0_begin) (maxL := 3) (ret := none) (by decide) rfl ?_
  intro p e s m args below meth c s₁ B hml hv
  obtain ⟨rfl, hsz, ⟨hP, hK, hN⟩, hD0⟩ := hv
  have hx := B.exec
  have hb := B.bytes
  have hr := B.returns
  have hts := atoms_spec (ws := wsX0_begin) B.pre
  have hown : s.vm.findClass RX0 = some m.cls := findClass_of_methodNamed B.named
  have hlocks := B.notSynchronized
  subst hsz
  have hD := hD0.self (sz := s.heap.size)
  generalize hAe : va_A [(zB, .inr (0, [.int i0, .int i1, .ref zK, .ref zW, .int i2, .int i3, .int i4, .ref zU, .ref zV, .ref zR, .ref zE])), (zK, .inl (cZ, 128, .inl kI)), (zW, .inl (cI, 7, .inl (rB σ)))] s.heap.size = A at hD ⊢
  have hA : ∀ q : Nat, s.heap.size ≤ q → A q := fun q h => by rw [← hAe]; exact Or.inr h
  have hS : va_S A s.heap s.heap [] := va_S.rf
  have hf31 := hts (.fieldLink RX0 31 "BallCourt$Book" "facts" "I") (List.mem_of_getElem? (i := 1) (by decide +kernel))
  have hiX0 : ∀ w ∈ wsX00, w ∈ wsX0_begin := fun w h => List.mem_cons_of_mem _ (List.mem_append_right _ h)
  have hf35 := hts (.fieldLink RX0 35 "BallCourt$Book" "numbers" "I") (List.mem_of_getElem? (i := 2) (by decide +kernel))
  have hf38 := hts (.fieldLink RX0 38 "BallCourt$Book" "lines" "I") (List.mem_of_getElem? (i := 3) (by decide +kernel))
  have hf41 := hts (.fieldLink RX0 41 "BallCourt$Book" "repealed" "I") (List.mem_of_getElem? (i := 4) (by decide +kernel))
  have hf44 := hts (.fieldLink RX0 44 "BallCourt$Book" "excepting" "I") (List.mem_of_getElem? (i := 5) (by decide +kernel))
  have hf15 := hts (.fieldLink RX0 15 "BallCourt$Book" "barredWith" "[I") (List.mem_of_getElem? (i := 6) (by decide +kernel))
  have hl := lv_entry ([.ref zB, .int (nI q)]) (n := 3) (Nat.le_of_ble_eq_true rfl)
  rw [lg_entry_eq]
  generalize (lg_sl ([.ref zB, .int (nI q)]) ++ List.replicate (3 - (lg_sl ([.ref zB, .int (nI q)])).length) Slot.unset).toArray = ls at hl ⊢
  have hl : lv_has ls 3 [(0, .ref zB), (1, .int (nI q))] := hl
  refine lv_aload_n hx hb dX0_begin_0 rfl (lv_at hl 0 rfl) ?_
  refine lv_iload_n hx hb dX0_begin_1 rfl (lv_at hl 1 rfl) ?_
  refine va_put (D := D) (ci := 0) (v := .int (nI q)) (ty := .int) (C := RX0) (T := TX0) (N := 11) hx hb hts hiX0 tyX0 tyX0_ok nmX0 hown hK hP hD hS 0 rfl rfl 0 (by decide) hf31 (fun _ h9 => h9) rfl (by decide +kernel) rfl rfl (Nat.le_of_ble_eq_true rfl) dX0_begin_2 (fun H locs hP hD hS => ?_)
  have hP : va_P D vwCl [(zB, .inr (0, [.int (nI q), .int i1, .ref zK, .ref zW, .int i2, .int i3, .int i4, .ref zU, .ref zV, .ref zR, .ref zE])), (zK, .inl (cZ, 128, .inl kI)), (zW, .inl (cI, 7, .inl (rB σ)))] H := hP
  have hD : va_D A [(zB, .inr (0, [.int (nI q), .int i1, .ref zK, .ref zW, .int i2, .int i3, .int i4, .ref zU, .ref zV, .ref zR, .ref zE])), (zK, .inl (cZ, 128, .inl kI)), (zW, .inl (cI, 7, .inl (rB σ)))] := hD
  refine lv_aload_n hx hb dX0_begin_5 rfl (lv_at hl 0 rfl) ?_
  refine lv_iconst (v := 1) hx hb dX0_begin_6 (by decide) ?_
  refine lv_iload_n hx hb dX0_begin_7 rfl (lv_at hl 1 rfl) ?_
  refine lv_ishl hx hb dX0_begin_8 ?_
  refine lv_asi (show 1 <<< ((nI q) &&& 31) = nI (2 ^ q) from shl1 q (by omega)) ?_
  refine va_put (D := D) (ci := 0) (v := .int (nI (2 ^ q))) (ty := .int) (C := RX0) (T := TX0) (N := 11) hx hb hts hiX0 tyX0 tyX0_ok nmX0 hown hK hP hD hS 0 rfl rfl 1 (by decide) hf35 (fun _ h9 => h9) rfl (by decide +kernel) rfl rfl (Nat.le_of_ble_eq_true rfl) dX0_begin_9 (fun H locs hP hD hS => ?_)
  have hP : va_P D vwCl [(zB, .inr (0, [.int (nI q), .int (nI (2 ^ q)), .ref zK, .ref zW, .int i2, .int i3, .int i4, .ref zU, .ref zV, .ref zR, .ref zE])), (zK, .inl (cZ, 128, .inl kI)), (zW, .inl (cI, 7, .inl (rB σ)))] H := hP
  have hD : va_D A [(zB, .inr (0, [.int (nI q), .int (nI (2 ^ q)), .ref zK, .ref zW, .int i2, .int i3, .int i4, .ref zU, .ref zV, .ref zR, .ref zE])), (zK, .inl (cZ, 128, .inl kI)), (zW, .inl (cI, 7, .inl (rB σ)))] := hD
  refine lv_aload_n hx hb dX0_begin_12 rfl (lv_at hl 0 rfl) ?_
  refine lv_iconst (v := nI 0) hx hb dX0_begin_13 (by decide) ?_
  refine va_put (D := D) (ci := 0) (v := .int (nI 0)) (ty := .int) (C := RX0) (T := TX0) (N := 11) hx hb hts hiX0 tyX0 tyX0_ok nmX0 hown hK hP hD hS 0 rfl rfl 4 (by decide) hf38 (fun _ h9 => h9) rfl (by decide +kernel) rfl rfl (Nat.le_of_ble_eq_true rfl) dX0_begin_14 (fun H locs hP hD hS => ?_)
  have hP : va_P D vwCl [(zB, .inr (0, [.int (nI q), .int (nI (2 ^ q)), .ref zK, .ref zW, .int (nI 0), .int i3, .int i4, .ref zU, .ref zV, .ref zR, .ref zE])), (zK, .inl (cZ, 128, .inl kI)), (zW, .inl (cI, 7, .inl (rB σ)))] H := hP
  have hD : va_D A [(zB, .inr (0, [.int (nI q), .int (nI (2 ^ q)), .ref zK, .ref zW, .int (nI 0), .int i3, .int i4, .ref zU, .ref zV, .ref zR, .ref zE])), (zK, .inl (cZ, 128, .inl kI)), (zW, .inl (cI, 7, .inl (rB σ)))] := hD
  refine lv_aload_n hx hb dX0_begin_17 rfl (lv_at hl 0 rfl) ?_
  refine lv_iconst (v := 0) hx hb dX0_begin_18 (by decide) ?_
  refine va_put (D := D) (ci := 0) (v := .int 0) (ty := .int) (C := RX0) (T := TX0) (N := 11) hx hb hts hiX0 tyX0 tyX0_ok nmX0 hown hK hP hD hS 0 rfl rfl 5 (by decide) hf41 (fun _ h9 => h9) rfl (by decide +kernel) rfl rfl (Nat.le_of_ble_eq_true rfl) dX0_begin_19 (fun H locs hP hD hS => ?_)
  have hP : va_P D vwCl [(zB, .inr (0, [.int (nI q), .int (nI (2 ^ q)), .ref zK, .ref zW, .int (nI 0), .int 0, .int i4, .ref zU, .ref zV, .ref zR, .ref zE])), (zK, .inl (cZ, 128, .inl kI)), (zW, .inl (cI, 7, .inl (rB σ)))] H := hP
  have hD : va_D A [(zB, .inr (0, [.int (nI q), .int (nI (2 ^ q)), .ref zK, .ref zW, .int (nI 0), .int 0, .int i4, .ref zU, .ref zV, .ref zR, .ref zE])), (zK, .inl (cZ, 128, .inl kI)), (zW, .inl (cI, 7, .inl (rB σ)))] := hD
  refine lv_aload_n hx hb dX0_begin_22 rfl (lv_at hl 0 rfl) ?_
  refine lv_iconst (v := 0) hx hb dX0_begin_23 (by decide) ?_
  refine va_put (D := D) (ci := 0) (v := .int 0) (ty := .int) (C := RX0) (T := TX0) (N := 11) hx hb hts hiX0 tyX0 tyX0_ok nmX0 hown hK hP hD hS 0 rfl rfl 6 (by decide) hf44 (fun _ h9 => h9) rfl (by decide +kernel) rfl rfl (Nat.le_of_ble_eq_true rfl) dX0_begin_24 (fun H locs hP hD hS => ?_)
  have hP : va_P D vwCl [(zB, .inr (0, [.int (nI q), .int (nI (2 ^ q)), .ref zK, .ref zW, .int (nI 0), .int 0, .int 0, .ref zU, .ref zV, .ref zR, .ref zE])), (zK, .inl (cZ, 128, .inl kI)), (zW, .inl (cI, 7, .inl (rB σ)))] H := hP
  have hD : va_D A [(zB, .inr (0, [.int (nI q), .int (nI (2 ^ q)), .ref zK, .ref zW, .int (nI 0), .int 0, .int 0, .ref zU, .ref zV, .ref zR, .ref zE])), (zK, .inl (cZ, 128, .inl kI)), (zW, .inl (cI, 7, .inl (rB σ)))] := hD
  refine lv_iconst (v := nI 0) hx hb dX0_begin_27 (by decide) ?_
  refine lv_istore_n (lv' := [(2, .int (nI 0)), (0, .ref zB), (1, .int (nI q))]) hx hb dX0_begin_28 rfl hl (by decide) rfl (fun ls hl => ?_)
  have e_rw : (rB σ : Nat → Int32) = zf (rB σ) 0 := (zf_0 _)
  have hP : va_P D vwCl [(zB, .inr (0, [.int (nI q), .int (nI (2 ^ q)), .ref zK, .ref zW, .int (nI 0), .int 0, .int 0, .ref zU, .ref zV, .ref zR, .ref zE])), (zK, .inl (cZ, 128, .inl kI)), (zW, .inl (cI, 7, .inl (zf (rB σ) 0)))] H := by rw [← e_rw]; exact hP
  have hD : va_D A [(zB, .inr (0, [.int (nI q), .int (nI (2 ^ q)), .ref zK, .ref zW, .int (nI 0), .int 0, .int 0, .ref zU, .ref zV, .ref zR, .ref zE])), (zK, .inl (cZ, 128, .inl kI)), (zW, .inl (cI, 7, .inl (zf (rB σ) 0)))] := by rw [← e_rw]; exact hD
  clear e_rw
  refine wloopW (α := Nat) (fun v => 7 - v) (fun v => [(zB, .inr (0, [.int (nI q), .int (nI (2 ^ q)), .ref zK, .ref zW, .int (nI 0), .int 0, .int 0, .ref zU, .ref zV, .ref zR, .ref zE])), (zK, .inl (cZ, 128, .inl kI)), (zW, .inl (cI, 7, .inl (zf (rB σ) v)))]) (fun v => [(0, .ref zB), (1, .int (nI q)), (2, .int (nI v))]) (fun v => (v ≤ 7)) 3 (fun v hv ih29 H locs hP hD hS ls hl => ?_) 0 (show 0 ≤ 7 from Nat.zero_le _) hP hD hS ls (lv_sub hl [1, 2, 0] rfl)
  obtain ⟨i, rfl⟩ : ∃ z : Nat, z = v := ⟨_, rfl⟩
  have hi : i ≤ 7 := hv
  have hl : lv_has ls 3 [(0, .ref zB), (1, .int (nI q)), (2, .int (nI i))] := hl
  have hP : va_P D vwCl [(zB, .inr (0, [.int (nI q), .int (nI (2 ^ q)), .ref zK, .ref zW, .int (nI 0), .int 0, .int 0, .ref zU, .ref zV, .ref zR, .ref zE])), (zK, .inl (cZ, 128, .inl kI)), (zW, .inl (cI, 7, .inl (zf (rB σ) i)))] H := hP
  have hD : va_D A [(zB, .inr (0, [.int (nI q), .int (nI (2 ^ q)), .ref zK, .ref zW, .int (nI 0), .int 0, .int 0, .ref zU, .ref zV, .ref zR, .ref zE])), (zK, .inl (cZ, 128, .inl kI)), (zW, .inl (cI, 7, .inl (zf (rB σ) i)))] := hD
  refine lv_iload_n hx hb dX0_begin_29 rfl (lv_at hl 2 rfl) ?_
  refine lv_bipush (v := nI 7) hx hb dX0_begin_30 (by decide) ?_
  refine lv_icmp_ge (tgt := 48) hx hb dX0_begin_32 (by decide) (fun c32 => ?_) (fun c32 => ?_)
  · skip
    have c32 := (nI_leI (by omega) (by omega)).mp c32
    obtain rfl : i = 7 := by omega
    refine lv_aload_n hx hb dX0_begin_48 rfl (lv_at hl 0 rfl) ?_
    refine xwVv (rest := []) (wr := []) ⟨hx, hb, hml, hown, hts⟩ (c_X0_workKinds l D cI cZ H.size zB zK zW zU zV zR zE (bgS σ q) kI (Ok_bg hq hg)) (cwV 0 hts gX0_begin_X0_workKinds rfl rfl rfl (by decide +kernel) ⟨Nat.le_of_ble_eq_true rfl, Nat.le_of_ble_eq_true rfl⟩) hP hD hS hA [0, 1, 2] [] rfl rfl (by decide) (by decide) (by decide) hK hN (ci := 0) (q0 := 0) rfl rfl rfl hl.1 rfl (Nat.le_of_ble_eq_true rfl) dX0_begin_49 ⟨Nat.zero_le _, Nat.zero_le _⟩ (fun u49 H locs e49 hP hD hS => ?_)
    obtain ⟨kI2, rfl⟩ : ∃ z, z = u49 := ⟨_, rfl⟩
    have hP : va_P D vwCl [(zB, .inr (0, [.int (nI (sF (bgS σ q))), .int (nI (2 ^ sF (bgS σ q))), .ref zK, .ref zW, .int (nI (sN (bgS σ q))), .int (sR (bgS σ q)), .int (orE (rEr (bgS σ q)) (sN (bgS σ q))), .ref zU, .ref zV, .ref zR, .ref zE])), (zK, .inl (cZ, 128, .inl kI2)), (zW, .inl (cI, 7, .inl (rB (bgS σ q))))] H := hP
    have hD : va_D A [(zB, .inr (0, [.int (nI (sF (bgS σ q))), .int (nI (2 ^ sF (bgS σ q))), .ref zK, .ref zW, .int (nI (sN (bgS σ q))), .int (sR (bgS σ q)), .int (orE (rEr (bgS σ q)) (sN (bgS σ q))), .ref zU, .ref zV, .ref zR, .ref zE])), (zK, .inl (cZ, 128, .inl kI2)), (zW, .inl (cI, 7, .inl (rB (bgS σ q))))] := hD
    have hP9 := hP
    have hD9 := hD
    exact W.vret hx hb hr (fun t ht hW => ⟨⟨kI2, rfl, e49, ⟨⟨by rw [ht]; exact hP9, va_K.moved hW.alike hK, NW.warm hW hN⟩, hD9⟩⟩, hS.F ht⟩) hS.2.2 dX0_begin_52
  · skip
    have c32 := Nat.lt_of_not_le (fun z => c32 ((nI_leI (by omega) (by omega)).mpr z))
    refine lv_aload_n hx hb dX0_begin_35 rfl (lv_at hl 0 rfl) ?_
    refine va_get (D := D) (ci := 0) (v := .ref zW) (C := RX0) (T := TX0) (N := 11) hx hb hts hiX0 hown hK hP 0 rfl rfl 3 (by decide) hf15 (fun _ h9 => h9) rfl dX0_begin_36 ?_
    refine lv_iload_n hx hb dX0_begin_39 rfl (lv_at hl 2 rfl) ?_
    refine lv_iconst (v := 0) hx hb dX0_begin_40 (by decide) ?_
    refine xast (k := i) hx hb hK hP hD hS 2 rfl (by omega) (by decide) dX0_begin_41 (fun H locs hP hD hS => ?_)
    have hP : va_P D vwCl [(zB, .inr (0, [.int (nI q), .int (nI (2 ^ q)), .ref zK, .ref zW, .int (nI 0), .int 0, .int 0, .ref zU, .ref zV, .ref zR, .ref zE])), (zK, .inl (cZ, 128, .inl kI)), (zW, .inl (cI, 7, .inl (upd (zf (rB σ) i) i 0)))] H := hP
    have hD : va_D A [(zB, .inr (0, [.int (nI q), .int (nI (2 ^ q)), .ref zK, .ref zW, .int (nI 0), .int 0, .int 0, .ref zU, .ref zV, .ref zR, .ref zE])), (zK, .inl (cZ, 128, .inl kI)), (zW, .inl (cI, 7, .inl (upd (zf (rB σ) i) i 0)))] := hD
    refine lv_iinc (k := 2) (x := nI i) (v := nI (i + 1)) (lv' := [(2, .int (nI (i + 1))), (0, .ref zB), (1, .int (nI q))]) hx hb dX0_begin_42 hl rfl (show (nI i) + Int32.ofInt 1 = nI (i + 1) from nI_1 _) (by decide) rfl (fun ls hl => ?_)
    refine lv_goto (tgt := 29) hx hb dX0_begin_45 (by decide) ?_
    have e_rw : (upd (zf (rB σ) i) i 0 : Nat → Int32) = zf (rB σ) (i + 1) := zf_up _ _
    have hP : va_P D vwCl [(zB, .inr (0, [.int (nI q), .int (nI (2 ^ q)), .ref zK, .ref zW, .int (nI 0), .int 0, .int 0, .ref zU, .ref zV, .ref zR, .ref zE])), (zK, .inl (cZ, 128, .inl kI)), (zW, .inl (cI, 7, .inl (zf (rB σ) (i + 1))))] H := by rw [← e_rw]; exact hP
    have hD : va_D A [(zB, .inr (0, [.int (nI q), .int (nI (2 ^ q)), .ref zK, .ref zW, .int (nI 0), .int 0, .int 0, .ref zU, .ref zV, .ref zR, .ref zE])), (zK, .inl (cZ, 128, .inl kI)), (zW, .inl (cI, 7, .inl (zf (rB σ) (i + 1))))] := by rw [← e_rw]; exact hD
    clear e_rw
    exact ih29 (i + 1) (show (i + 1) ≤ 7 from (by omega)) (by show 7 - (i + 1) < 7 - i; omega) _ _ hP hD hS ls (lv_sub hl [1, 2, 0] rfl)

set_option maxHeartbeats 4000000 in
set_option maxRecDepth 100000 in
theorem c_X0_bar (l : Launch) (D : va_G) (cI cZ : ClassId) (sz : Nat) (zB : Nat) (zK : Nat) (zW : Nat) (zU : Nat) (zV : Nat) (zR : Nat) (zE : Nat) (σ : ST) (kI : Nat → Int32) (a : Nat) (b : Nat) (is : Bool) (hok : Ok σ) (ha : a < sF σ) (hb2 : b < sF σ) : Met l yX0_bar wsX0_bar ({ frames := 3, cells := 0, slots := 0, locals := 64 }) (va_Pc [.ref zB, .int (nI a), .int (nI b), .int (b2 is)] (XW D cI cZ [(zB, .inr (0, [.int (nI (sF σ)), .int (nI (2 ^ sF σ)), .ref zK, .ref zW, .int (nI (sN σ)), .int (sR σ), .int (orE (rEr σ) (sN σ)), .ref zU, .ref zV, .ref zR, .ref zE])), (zK, .inl (cZ, 128, .inl kI)), (zW, .inl (cI, 7, .inl (rB σ)))] sz)) (va_Qv (fun u : Nat → Int32 => ∀ k, k < 2 ^ sF σ → u k = b2 (kok (barS σ a b is) k)) (fun u => XB D cI cZ (va_A [(zB, .inr (0, [.int (nI (sF σ)), .int (nI (2 ^ sF σ)), .ref zK, .ref zW, .int (nI (sN σ)), .int (sR σ), .int (orE (rEr σ) (sN σ)), .ref zU, .ref zV, .ref zR, .ref zE])), (zK, .inl (cZ, 128, .inl kI)), (zW, .inl (cI, 7, .inl (rB σ)))] sz) [(zB, .inr (0, [.int (nI (sF (barS σ a b is))), .int (nI (2 ^ sF (barS σ a b is))), .ref zK, .ref zW, .int (nI (sN (barS σ a b is))), .int (sR (barS σ a b is)), .int (orE (rEr (barS σ a b is)) (sN (barS σ a b is))), .ref zU, .ref zV, .ref zR, .ref zE])), (zK, .inl (cZ, 128, .inl u)), (zW, .inl (cI, 7, .inl (rB (barS σ a b is))))]) (va_A [(zB, .inr (0, [.int (nI (sF σ)), .int (nI (2 ^ sF σ)), .ref zK, .ref zW, .int (nI (sN σ)), .int (sR σ), .int (orE (rEr σ) (sN σ)), .ref zU, .ref zV, .ref zR, .ref zE])), (zK, .inl (cZ, 128, .inl kI)), (zW, .inl (cI, 7, .inl (rB σ)))] sz)) 0 0 (va_A [(zB, .inr (0, [.int (nI (sF σ)), .int (nI (2 ^ sF σ)), .ref zK, .ref zW, .int (nI (sN σ)), .int (sR σ), .int (orE (rEr σ) (sN σ)), .ref zU, .ref zV, .ref zR, .ref zE])), (zK, .inl (cZ, 128, .inl kI)), (zW, .inl (cI, 7, .inl (rB σ)))] sz) := by
  refine Met.ofW (cc := cX0_bar) (maxL := 4) (ret := none) (by decide) rfl ?_
  intro p e s m args below meth c s₁ B hml hv
  obtain ⟨rfl, hsz, ⟨hP, hK, hN⟩, hD0⟩ := hv
  have hx := B.exec
  have hb := B.bytes
  have hr := B.returns
  have hts := atoms_spec (ws := wsX0_bar) B.pre
  have hown : s.vm.findClass RX0 = some m.cls := findClass_of_methodNamed B.named
  have hlocks := B.notSynchronized
  subst hsz
  have hD := hD0.self (sz := s.heap.size)
  generalize hAe : va_A [(zB, .inr (0, [.int (nI (sF σ)), .int (nI (2 ^ sF σ)), .ref zK, .ref zW, .int (nI (sN σ)), .int (sR σ), .int (orE (rEr σ) (sN σ)), .ref zU, .ref zV, .ref zR, .ref zE])), (zK, .inl (cZ, 128, .inl kI)), (zW, .inl (cI, 7, .inl (rB σ)))] s.heap.size = A at hD ⊢
  have hA : ∀ q : Nat, s.heap.size ≤ q → A q := fun q h => by rw [← hAe]; exact Or.inr h
  have hS : va_S A s.heap s.heap [] := va_S.rf
  have ho := hok.1
  have hk2 := hok.k
  have hf15 := hts (.fieldLink RX0 15 "BallCourt$Book" "barredWith" "[I") (List.mem_of_getElem? (i := 1) (by decide +kernel))
  have hiX0 : ∀ w ∈ wsX00, w ∈ wsX0_bar := fun w h => List.mem_cons_of_mem _ (List.mem_append_right _ h)
  have hl := lv_entry ([.ref zB, .int (nI a), .int (nI b), .int (b2 is)]) (n := 4) (Nat.le_of_ble_eq_true rfl)
  rw [lg_entry_eq]
  generalize (lg_sl ([.ref zB, .int (nI a), .int (nI b), .int (b2 is)]) ++ List.replicate (4 - (lg_sl ([.ref zB, .int (nI a), .int (nI b), .int (b2 is)])).length) Slot.unset).toArray = ls at hl ⊢
  have hl : lv_has ls 4 [(0, .ref zB), (1, .int (nI a)), (2, .int (nI b)), (3, .int (b2 is))] := hl
  refine lv_iload_n hx hb dX0_bar_0 rfl (lv_at hl 3 rfl) ?_
  refine lv_if_eq (tgt := 31) hx hb dX0_bar_1 (by decide) (fun c1 => ?_) (fun c1 => ?_)
  · skip
    have c1 := b2_0 c1
    refine lv_aload_n hx hb dX0_bar_31 rfl (lv_at hl 0 rfl) ?_
    refine va_get (D := D) (ci := 0) (v := .ref zW) (C := RX0) (T := TX0) (N := 11) hx hb hts hiX0 hown hK hP 0 rfl rfl 3 (by decide) hf15 (fun _ h9 => h9) rfl dX0_bar_32 ?_
    refine lv_iload_n hx hb dX0_bar_35 rfl (lv_at hl 1 rfl) ?_
    refine lv_dup2_11 hx hb dX0_bar_36 rfl rfl ?_
    refine xald (k := a) hx hb hK hP 2 rfl (by omega) (by decide) dX0_bar_37 ?_
    refine lv_iconst (v := 1) hx hb dX0_bar_38 (by decide) ?_
    refine lv_iload_n hx hb dX0_bar_39 rfl (lv_at hl 2 rfl) ?_
    refine lv_ishl hx hb dX0_bar_40 ?_
    refine lv_asi (show 1 <<< ((nI b) &&& 31) = nI (2 ^ b) from shl1 b (by omega)) ?_
    refine lv_iconst (v := (-1)) hx hb dX0_bar_41 (by decide) ?_
    refine lv_ixor hx hb dX0_bar_42 ?_
    refine lv_iand hx hb dX0_bar_43 ?_
    refine xast (k := a) hx hb hK hP hD hS 2 rfl (by omega) (by decide) dX0_bar_44 (fun H locs hP hD hS => ?_)
    have hP : va_P D vwCl [(zB, .inr (0, [.int (nI (sF σ)), .int (nI (2 ^ sF σ)), .ref zK, .ref zW, .int (nI (sN σ)), .int (sR σ), .int (orE (rEr σ) (sN σ)), .ref zU, .ref zV, .ref zR, .ref zE])), (zK, .inl (cZ, 128, .inl kI)), (zW, .inl (cI, 7, .inl (upd (rB σ) a ((rB σ a) &&& ((nI (2 ^ b)) ^^^ (-1))))))] H := hP
    have hD : va_D A [(zB, .inr (0, [.int (nI (sF σ)), .int (nI (2 ^ sF σ)), .ref zK, .ref zW, .int (nI (sN σ)), .int (sR σ), .int (orE (rEr σ) (sN σ)), .ref zU, .ref zV, .ref zR, .ref zE])), (zK, .inl (cZ, 128, .inl kI)), (zW, .inl (cI, 7, .inl (upd (rB σ) a ((rB σ a) &&& ((nI (2 ^ b)) ^^^ (-1))))))] := hD
    refine lv_aload_n hx hb dX0_bar_45 rfl (lv_at hl 0 rfl) ?_
    refine va_get (D := D) (ci := 0) (v := .ref zW) (C := RX0) (T := TX0) (N := 11) hx hb hts hiX0 hown hK hP 0 rfl rfl 3 (by decide) hf15 (fun _ h9 => h9) rfl dX0_bar_46 ?_
    refine lv_iload_n hx hb dX0_bar_49 rfl (lv_at hl 2 rfl) ?_
    refine lv_dup2_11 hx hb dX0_bar_50 rfl rfl ?_
    refine xald (k := b) hx hb hK hP 2 rfl (by omega) (by decide) dX0_bar_51 ?_
    refine lv_iconst (v := 1) hx hb dX0_bar_52 (by decide) ?_
    refine lv_iload_n hx hb dX0_bar_53 rfl (lv_at hl 1 rfl) ?_
    refine lv_ishl hx hb dX0_bar_54 ?_
    refine lv_asi (show 1 <<< ((nI a) &&& 31) = nI (2 ^ a) from shl1 a (by omega)) ?_
    refine lv_iconst (v := (-1)) hx hb dX0_bar_55 (by decide) ?_
    refine lv_ixor hx hb dX0_bar_56 ?_
    refine lv_iand hx hb dX0_bar_57 ?_
    refine xast (k := b) hx hb hK hP hD hS 2 rfl (by omega) (by decide) dX0_bar_58 (fun H locs hP hD hS => ?_)
    have hP : va_P D vwCl [(zB, .inr (0, [.int (nI (sF σ)), .int (nI (2 ^ sF σ)), .ref zK, .ref zW, .int (nI (sN σ)), .int (sR σ), .int (orE (rEr σ) (sN σ)), .ref zU, .ref zV, .ref zR, .ref zE])), (zK, .inl (cZ, 128, .inl kI)), (zW, .inl (cI, 7, .inl (upd (upd (rB σ) a ((rB σ a) &&& ((nI (2 ^ b)) ^^^ (-1)))) b (((upd (rB σ) a ((rB σ a) &&& ((nI (2 ^ b)) ^^^ (-1)))) b) &&& ((nI (2 ^ a)) ^^^ (-1))))))] H := hP
    have hD : va_D A [(zB, .inr (0, [.int (nI (sF σ)), .int (nI (2 ^ sF σ)), .ref zK, .ref zW, .int (nI (sN σ)), .int (sR σ), .int (orE (rEr σ) (sN σ)), .ref zU, .ref zV, .ref zR, .ref zE])), (zK, .inl (cZ, 128, .inl kI)), (zW, .inl (cI, 7, .inl (upd (upd (rB σ) a ((rB σ a) &&& ((nI (2 ^ b)) ^^^ (-1)))) b (((upd (rB σ) a ((rB σ a) &&& ((nI (2 ^ b)) ^^^ (-1)))) b) &&& ((nI (2 ^ a)) ^^^ (-1))))))] := hD
    have e_rw : (upd (upd (rB σ) a ((rB σ a) &&& ((nI (2 ^ b)) ^^^ (-1)))) b (((upd (rB σ) a ((rB σ a) &&& ((nI (2 ^ b)) ^^^ (-1)))) b) &&& ((nI (2 ^ a)) ^^^ (-1))) : Nat → Int32) = rB (barS σ a b is) := (by rw [c1]; rfl)
    have hP : va_P D vwCl [(zB, .inr (0, [.int (nI (sF σ)), .int (nI (2 ^ sF σ)), .ref zK, .ref zW, .int (nI (sN σ)), .int (sR σ), .int (orE (rEr σ) (sN σ)), .ref zU, .ref zV, .ref zR, .ref zE])), (zK, .inl (cZ, 128, .inl kI)), (zW, .inl (cI, 7, .inl (rB (barS σ a b is))))] H := by rw [← e_rw]; exact hP
    have hD : va_D A [(zB, .inr (0, [.int (nI (sF σ)), .int (nI (2 ^ sF σ)), .ref zK, .ref zW, .int (nI (sN σ)), .int (sR σ), .int (orE (rEr σ) (sN σ)), .ref zU, .ref zV, .ref zR, .ref zE])), (zK, .inl (cZ, 128, .inl kI)), (zW, .inl (cI, 7, .inl (rB (barS σ a b is))))] := by rw [← e_rw]; exact hD
    clear e_rw
    refine lv_aload_n hx hb dX0_bar_59 rfl (lv_at hl 0 rfl) ?_
    refine xwVv (rest := []) (wr := []) ⟨hx, hb, hml, hown, hts⟩ (c_X0_workKinds l D cI cZ H.size zB zK zW zU zV zR zE (barS σ a b is) kI (Ok_bar hok a b is)) (cwV 0 hts gX0_bar_X0_workKinds rfl rfl rfl (by decide +kernel) ⟨Nat.le_of_ble_eq_true rfl, Nat.le_of_ble_eq_true rfl⟩) hP hD hS hA [0, 1, 2] [] rfl rfl (by decide) (by decide) (by decide) hK hN (ci := 0) (q0 := 0) rfl rfl rfl hl.1 rfl (Nat.le_of_ble_eq_true rfl) dX0_bar_60 ⟨Nat.zero_le _, Nat.zero_le _⟩ (fun u60 H locs e60 hP hD hS => ?_)
    obtain ⟨kI2, rfl⟩ : ∃ z, z = u60 := ⟨_, rfl⟩
    have hP : va_P D vwCl [(zB, .inr (0, [.int (nI (sF (barS σ a b is))), .int (nI (2 ^ sF (barS σ a b is))), .ref zK, .ref zW, .int (nI (sN (barS σ a b is))), .int (sR (barS σ a b is)), .int (orE (rEr (barS σ a b is)) (sN (barS σ a b is))), .ref zU, .ref zV, .ref zR, .ref zE])), (zK, .inl (cZ, 128, .inl kI2)), (zW, .inl (cI, 7, .inl (rB (barS σ a b is))))] H := hP
    have hD : va_D A [(zB, .inr (0, [.int (nI (sF (barS σ a b is))), .int (nI (2 ^ sF (barS σ a b is))), .ref zK, .ref zW, .int (nI (sN (barS σ a b is))), .int (sR (barS σ a b is)), .int (orE (rEr (barS σ a b is)) (sN (barS σ a b is))), .ref zU, .ref zV, .ref zR, .ref zE])), (zK, .inl (cZ, 128, .inl kI2)), (zW, .inl (cI, 7, .inl (rB (barS σ a b is))))] := hD
    have hP9 := hP
    have hD9 := hD
    exact W.vret hx hb hr (fun t ht hW => ⟨⟨kI2, rfl, e60, ⟨⟨by rw [ht]; exact hP9, va_K.moved hW.alike hK, NW.warm hW hN⟩, hD9⟩⟩, hS.F ht⟩) hS.2.2 dX0_bar_63
  · skip
    have c1 := b2_1 c1
    refine lv_aload_n hx hb dX0_bar_4 rfl (lv_at hl 0 rfl) ?_
    refine va_get (D := D) (ci := 0) (v := .ref zW) (C := RX0) (T := TX0) (N := 11) hx hb hts hiX0 hown hK hP 0 rfl rfl 3 (by decide) hf15 (fun _ h9 => h9) rfl dX0_bar_5 ?_
    refine lv_iload_n hx hb dX0_bar_8 rfl (lv_at hl 1 rfl) ?_
    refine lv_dup2_11 hx hb dX0_bar_9 rfl rfl ?_
    refine xald (k := a) hx hb hK hP 2 rfl (by omega) (by decide) dX0_bar_10 ?_
    refine lv_iconst (v := 1) hx hb dX0_bar_11 (by decide) ?_
    refine lv_iload_n hx hb dX0_bar_12 rfl (lv_at hl 2 rfl) ?_
    refine lv_ishl hx hb dX0_bar_13 ?_
    refine lv_asi (show 1 <<< ((nI b) &&& 31) = nI (2 ^ b) from shl1 b (by omega)) ?_
    refine lv_ior hx hb dX0_bar_14 ?_
    refine xast (k := a) hx hb hK hP hD hS 2 rfl (by omega) (by decide) dX0_bar_15 (fun H locs hP hD hS => ?_)
    have hP : va_P D vwCl [(zB, .inr (0, [.int (nI (sF σ)), .int (nI (2 ^ sF σ)), .ref zK, .ref zW, .int (nI (sN σ)), .int (sR σ), .int (orE (rEr σ) (sN σ)), .ref zU, .ref zV, .ref zR, .ref zE])), (zK, .inl (cZ, 128, .inl kI)), (zW, .inl (cI, 7, .inl (upd (rB σ) a ((rB σ a) ||| (nI (2 ^ b))))))] H := hP
    have hD : va_D A [(zB, .inr (0, [.int (nI (sF σ)), .int (nI (2 ^ sF σ)), .ref zK, .ref zW, .int (nI (sN σ)), .int (sR σ), .int (orE (rEr σ) (sN σ)), .ref zU, .ref zV, .ref zR, .ref zE])), (zK, .inl (cZ, 128, .inl kI)), (zW, .inl (cI, 7, .inl (upd (rB σ) a ((rB σ a) ||| (nI (2 ^ b))))))] := hD
    refine lv_aload_n hx hb dX0_bar_16 rfl (lv_at hl 0 rfl) ?_
    refine va_get (D := D) (ci := 0) (v := .ref zW) (C := RX0) (T := TX0) (N := 11) hx hb hts hiX0 hown hK hP 0 rfl rfl 3 (by decide) hf15 (fun _ h9 => h9) rfl dX0_bar_17 ?_
    refine lv_iload_n hx hb dX0_bar_20 rfl (lv_at hl 2 rfl) ?_
    refine lv_dup2_11 hx hb dX0_bar_21 rfl rfl ?_
    refine xald (k := b) hx hb hK hP 2 rfl (by omega) (by decide) dX0_bar_22 ?_
    refine lv_iconst (v := 1) hx hb dX0_bar_23 (by decide) ?_
    refine lv_iload_n hx hb dX0_bar_24 rfl (lv_at hl 1 rfl) ?_
    refine lv_ishl hx hb dX0_bar_25 ?_
    refine lv_asi (show 1 <<< ((nI a) &&& 31) = nI (2 ^ a) from shl1 a (by omega)) ?_
    refine lv_ior hx hb dX0_bar_26 ?_
    refine xast (k := b) hx hb hK hP hD hS 2 rfl (by omega) (by decide) dX0_bar_27 (fun H locs hP hD hS => ?_)
    have hP : va_P D vwCl [(zB, .inr (0, [.int (nI (sF σ)), .int (nI (2 ^ sF σ)), .ref zK, .ref zW, .int (nI (sN σ)), .int (sR σ), .int (orE (rEr σ) (sN σ)), .ref zU, .ref zV, .ref zR, .ref zE])), (zK, .inl (cZ, 128, .inl kI)), (zW, .inl (cI, 7, .inl (upd (upd (rB σ) a ((rB σ a) ||| (nI (2 ^ b)))) b (((upd (rB σ) a ((rB σ a) ||| (nI (2 ^ b)))) b) ||| (nI (2 ^ a))))))] H := hP
    have hD : va_D A [(zB, .inr (0, [.int (nI (sF σ)), .int (nI (2 ^ sF σ)), .ref zK, .ref zW, .int (nI (sN σ)), .int (sR σ), .int (orE (rEr σ) (sN σ)), .ref zU, .ref zV, .ref zR, .ref zE])), (zK, .inl (cZ, 128, .inl kI)), (zW, .inl (cI, 7, .inl (upd (upd (rB σ) a ((rB σ a) ||| (nI (2 ^ b)))) b (((upd (rB σ) a ((rB σ a) ||| (nI (2 ^ b)))) b) ||| (nI (2 ^ a))))))] := hD
    refine lv_goto (tgt := 59) hx hb dX0_bar_28 (by decide) ?_
    have e_rw : (upd (upd (rB σ) a ((rB σ a) ||| (nI (2 ^ b)))) b (((upd (rB σ) a ((rB σ a) ||| (nI (2 ^ b)))) b) ||| (nI (2 ^ a))) : Nat → Int32) = rB (barS σ a b is) := (by rw [c1]; rfl)
    have hP : va_P D vwCl [(zB, .inr (0, [.int (nI (sF σ)), .int (nI (2 ^ sF σ)), .ref zK, .ref zW, .int (nI (sN σ)), .int (sR σ), .int (orE (rEr σ) (sN σ)), .ref zU, .ref zV, .ref zR, .ref zE])), (zK, .inl (cZ, 128, .inl kI)), (zW, .inl (cI, 7, .inl (rB (barS σ a b is))))] H := by rw [← e_rw]; exact hP
    have hD : va_D A [(zB, .inr (0, [.int (nI (sF σ)), .int (nI (2 ^ sF σ)), .ref zK, .ref zW, .int (nI (sN σ)), .int (sR σ), .int (orE (rEr σ) (sN σ)), .ref zU, .ref zV, .ref zR, .ref zE])), (zK, .inl (cZ, 128, .inl kI)), (zW, .inl (cI, 7, .inl (rB (barS σ a b is))))] := by rw [← e_rw]; exact hD
    clear e_rw
    refine lv_aload_n hx hb dX0_bar_59 rfl (lv_at hl 0 rfl) ?_
    refine xwVv (rest := []) (wr := []) ⟨hx, hb, hml, hown, hts⟩ (c_X0_workKinds l D cI cZ H.size zB zK zW zU zV zR zE (barS σ a b is) kI (Ok_bar hok a b is)) (cwV 0 hts gX0_bar_X0_workKinds rfl rfl rfl (by decide +kernel) ⟨Nat.le_of_ble_eq_true rfl, Nat.le_of_ble_eq_true rfl⟩) hP hD hS hA [0, 1, 2] [] rfl rfl (by decide) (by decide) (by decide) hK hN (ci := 0) (q0 := 0) rfl rfl rfl hl.1 rfl (Nat.le_of_ble_eq_true rfl) dX0_bar_60 ⟨Nat.zero_le _, Nat.zero_le _⟩ (fun u60 H locs e60 hP hD hS => ?_)
    obtain ⟨kI2, rfl⟩ : ∃ z, z = u60 := ⟨_, rfl⟩
    have hP : va_P D vwCl [(zB, .inr (0, [.int (nI (sF (barS σ a b is))), .int (nI (2 ^ sF (barS σ a b is))), .ref zK, .ref zW, .int (nI (sN (barS σ a b is))), .int (sR (barS σ a b is)), .int (orE (rEr (barS σ a b is)) (sN (barS σ a b is))), .ref zU, .ref zV, .ref zR, .ref zE])), (zK, .inl (cZ, 128, .inl kI2)), (zW, .inl (cI, 7, .inl (rB (barS σ a b is))))] H := hP
    have hD : va_D A [(zB, .inr (0, [.int (nI (sF (barS σ a b is))), .int (nI (2 ^ sF (barS σ a b is))), .ref zK, .ref zW, .int (nI (sN (barS σ a b is))), .int (sR (barS σ a b is)), .int (orE (rEr (barS σ a b is)) (sN (barS σ a b is))), .ref zU, .ref zV, .ref zR, .ref zE])), (zK, .inl (cZ, 128, .inl kI2)), (zW, .inl (cI, 7, .inl (rB (barS σ a b is))))] := hD
    have hP9 := hP
    have hD9 := hD
    exact W.vret hx hb hr (fun t ht hW => ⟨⟨kI2, rfl, e60, ⟨⟨by rw [ht]; exact hP9, va_K.moved hW.alike hK, NW.warm hW hN⟩, hD9⟩⟩, hS.F ht⟩) hS.2.2 dX0_bar_63

set_option maxHeartbeats 4000000 in
set_option maxRecDepth 100000 in
theorem c_X0_addLine (l : Launch) (D : va_G) (cI cZ : ClassId) (sz : Nat) (zB : Nat) (zK : Nat) (zW : Nat) (zU : Nat) (zV : Nat) (zR : Nat) (zE : Nat) (σ : ST) (so : Int32) (ns : Int32) (rr : Int32) (hn : sN σ < 12) : Met l yX0_addLine wsX0_addLine ({ frames := 0, cells := 0, slots := 0, locals := 0 }) (va_Pc [.ref zB, .int so, .int ns, .int rr] (XW D cI cZ [(zB, .inr (0, [.int (nI (sF σ)), .int (nI (2 ^ sF σ)), .ref zK, .ref zW, .int (nI (sN σ)), .int (sR σ), .int (orE (rEr σ) (sN σ)), .ref zU, .ref zV, .ref zR, .ref zE])), (zU, .inl (cI, 12, .inl (rMu σ))), (zV, .inl (cI, 12, .inl (rMn σ))), (zR, .inl (cI, 12, .inl (rRu σ))), (zE, .inl (cI, 12, .inl (rEr σ)))] sz)) (va_Qi (fun (r : Int32) (u : Unit) => r = nI (sN σ)) (fun u => XB D cI cZ (va_A [(zB, .inr (0, [.int (nI (sF σ)), .int (nI (2 ^ sF σ)), .ref zK, .ref zW, .int (nI (sN σ)), .int (sR σ), .int (orE (rEr σ) (sN σ)), .ref zU, .ref zV, .ref zR, .ref zE])), (zU, .inl (cI, 12, .inl (rMu σ))), (zV, .inl (cI, 12, .inl (rMn σ))), (zR, .inl (cI, 12, .inl (rRu σ))), (zE, .inl (cI, 12, .inl (rEr σ)))] sz) [(zB, .inr (0, [.int (nI (sF (lnS σ so ns rr))), .int (nI (2 ^ sF (lnS σ so ns rr))), .ref zK, .ref zW, .int (nI (sN (lnS σ so ns rr))), .int (sR (lnS σ so ns rr)), .int (orE (rEr (lnS σ so ns rr)) (sN (lnS σ so ns rr))), .ref zU, .ref zV, .ref zR, .ref zE])), (zU, .inl (cI, 12, .inl (rMu (lnS σ so ns rr)))), (zV, .inl (cI, 12, .inl (rMn (lnS σ so ns rr)))), (zR, .inl (cI, 12, .inl (rRu (lnS σ so ns rr)))), (zE, .inl (cI, 12, .inl (rEr (lnS σ so ns rr))))]) (va_A [(zB, .inr (0, [.int (nI (sF σ)), .int (nI (2 ^ sF σ)), .ref zK, .ref zW, .int (nI (sN σ)), .int (sR σ), .int (orE (rEr σ) (sN σ)), .ref zU, .ref zV, .ref zR, .ref zE])), (zU, .inl (cI, 12, .inl (rMu σ))), (zV, .inl (cI, 12, .inl (rMn σ))), (zR, .inl (cI, 12, .inl (rRu σ))), (zE, .inl (cI, 12, .inl (rEr σ)))] sz)) 0 0 (va_A [(zB, .inr (0, [.int (nI (sF σ)), .int (nI (2 ^ sF σ)), .ref zK, .ref zW, .int (nI (sN σ)), .int (sR σ), .int (orE (rEr σ) (sN σ)), .ref zU, .ref zV, .ref zR, .ref zE])), (zU, .inl (cI, 12, .inl (rMu σ))), (zV, .inl (cI, 12, .inl (rMn σ))), (zR, .inl (cI, 12, .inl (rRu σ))), (zE, .inl (cI, 12, .inl (rEr σ)))] sz) := by
  refine Met.ofW (cc := cX0_addLine) (maxL := 5) (ret := (some .int)) (by decide) rfl ?_
  intro p e s m args below meth c s₁ B hml hv
  obtain ⟨rfl, hsz, ⟨hP, hK, hN⟩, hD0⟩ := hv
  have hx := B.exec
  have hb := B.bytes
  have hr := B.returns
  have hts := atoms_spec (ws := wsX0_addLine) B.pre
  have hown : s.vm.findClass RX0 = some m.cls := findClass_of_methodNamed B.named
  have hlocks := B.notSynchronized
  subst hsz
  have hD := hD0.self (sz := s.heap.size)
  generalize hAe : va_A [(zB, .inr (0, [.int (nI (sF σ)), .int (nI (2 ^ sF σ)), .ref zK, .ref zW, .int (nI (sN σ)), .int (sR σ), .int (orE (rEr σ) (sN σ)), .ref zU, .ref zV, .ref zR, .ref zE])), (zU, .inl (cI, 12, .inl (rMu σ))), (zV, .inl (cI, 12, .inl (rMn σ))), (zR, .inl (cI, 12, .inl (rRu σ))), (zE, .inl (cI, 12, .inl (rEr σ)))] s.heap.size = A at hD ⊢
  have hA : ∀ q : Nat, s.heap.size ≤ q → A q := fun q h => by rw [← hAe]; exact Or.inr h
  have hS : va_S A s.heap s.heap [] := va_S.rf
  have hf38 := hts (.fieldLink RX0 38 "BallCourt$Book" "lines" "I") (List.mem_of_getElem? (i := 1) (by decide +kernel))
  have hiX0 : ∀ w ∈ wsX00, w ∈ wsX0_addLine := fun w h => List.mem_cons_of_mem _ (List.mem_append_right _ h)
  have hf19 := hts (.fieldLink RX0 19 "BallCourt$Book" "must" "[I") (List.mem_of_getElem? (i := 2) (by decide +kernel))
  have hf22 := hts (.fieldLink RX0 22 "BallCourt$Book" "mustNot" "[I") (List.mem_of_getElem? (i := 3) (by decide +kernel))
  have hf25 := hts (.fieldLink RX0 25 "BallCourt$Book" "ruling" "[I") (List.mem_of_getElem? (i := 4) (by decide +kernel))
  have hf28 := hts (.fieldLink RX0 28 "BallCourt$Book" "excepters" "[I") (List.mem_of_getElem? (i := 5) (by decide +kernel))
  have hl := lv_entry ([.ref zB, .int so, .int ns, .int rr]) (n := 5) (Nat.le_of_ble_eq_true rfl)
  rw [lg_entry_eq]
  generalize (lg_sl ([.ref zB, .int so, .int ns, .int rr]) ++ List.replicate (5 - (lg_sl ([.ref zB, .int so, .int ns, .int rr])).length) Slot.unset).toArray = ls at hl ⊢
  have hl : lv_has ls 5 [(0, .ref zB), (1, .int so), (2, .int ns), (3, .int rr)] := hl
  refine lv_aload_n hx hb dX0_addLine_0 rfl (lv_at hl 0 rfl) ?_
  refine va_get (D := D) (ci := 0) (v := .int (nI (sN σ))) (C := RX0) (T := TX0) (N := 11) hx hb hts hiX0 hown hK hP 0 rfl rfl 4 (by decide) hf38 (fun _ h9 => h9) rfl dX0_addLine_1 ?_
  refine lv_istore (lv' := [(4, .int (nI (sN σ))), (0, .ref zB), (1, .int so), (2, .int ns), (3, .int rr)]) hx hb dX0_addLine_4 hl (by decide) rfl (fun ls hl => ?_)
  refine lv_aload_n hx hb dX0_addLine_6 rfl (lv_at hl 1 rfl) ?_
  refine va_get (D := D) (ci := 0) (v := .ref zU) (C := RX0) (T := TX0) (N := 11) hx hb hts hiX0 hown hK hP 0 rfl rfl 7 (by decide) hf19 (fun _ h9 => h9) rfl dX0_addLine_7 ?_
  refine lv_iload hx hb dX0_addLine_10 (lv_at hl 0 rfl) ?_
  refine lv_iload_n hx hb dX0_addLine_12 rfl (lv_at hl 2 rfl) ?_
  refine xast (k := (sN σ)) hx hb hK hP hD hS 1 rfl (by omega) (by decide) dX0_addLine_13 (fun H locs hP hD hS => ?_)
  have hP : va_P D vwCl [(zB, .inr (0, [.int (nI (sF σ)), .int (nI (2 ^ sF σ)), .ref zK, .ref zW, .int (nI (sN σ)), .int (sR σ), .int (orE (rEr σ) (sN σ)), .ref zU, .ref zV, .ref zR, .ref zE])), (zU, .inl (cI, 12, .inl (upd (rMu σ) (sN σ) so))), (zV, .inl (cI, 12, .inl (rMn σ))), (zR, .inl (cI, 12, .inl (rRu σ))), (zE, .inl (cI, 12, .inl (rEr σ)))] H := hP
  have hD : va_D A [(zB, .inr (0, [.int (nI (sF σ)), .int (nI (2 ^ sF σ)), .ref zK, .ref zW, .int (nI (sN σ)), .int (sR σ), .int (orE (rEr σ) (sN σ)), .ref zU, .ref zV, .ref zR, .ref zE])), (zU, .inl (cI, 12, .inl (upd (rMu σ) (sN σ) so))), (zV, .inl (cI, 12, .inl (rMn σ))), (zR, .inl (cI, 12, .inl (rRu σ))), (zE, .inl (cI, 12, .inl (rEr σ)))] := hD
  refine lv_aload_n hx hb dX0_addLine_14 rfl (lv_at hl 1 rfl) ?_
  refine va_get (D := D) (ci := 0) (v := .ref zV) (C := RX0) (T := TX0) (N := 11) hx hb hts hiX0 hown hK hP 0 rfl rfl 8 (by decide) hf22 (fun _ h9 => h9) rfl dX0_addLine_15 ?_
  refine lv_iload hx hb dX0_addLine_18 (lv_at hl 0 rfl) ?_
  refine lv_iload_n hx hb dX0_addLine_20 rfl (lv_at hl 3 rfl) ?_
  refine xast (k := (sN σ)) hx hb hK hP hD hS 2 rfl (by omega) (by decide) dX0_addLine_21 (fun H locs hP hD hS => ?_)
  have hP : va_P D vwCl [(zB, .inr (0, [.int (nI (sF σ)), .int (nI (2 ^ sF σ)), .ref zK, .ref zW, .int (nI (sN σ)), .int (sR σ), .int (orE (rEr σ) (sN σ)), .ref zU, .ref zV, .ref zR, .ref zE])), (zU, .inl (cI, 12, .inl (upd (rMu σ) (sN σ) so))), (zV, .inl (cI, 12, .inl (upd (rMn σ) (sN σ) ns))), (zR, .inl (cI, 12, .inl (rRu σ))), (zE, .inl (cI, 12, .inl (rEr σ)))] H := hP
  have hD : va_D A [(zB, .inr (0, [.int (nI (sF σ)), .int (nI (2 ^ sF σ)), .ref zK, .ref zW, .int (nI (sN σ)), .int (sR σ), .int (orE (rEr σ) (sN σ)), .ref zU, .ref zV, .ref zR, .ref zE])), (zU, .inl (cI, 12, .inl (upd (rMu σ) (sN σ) so))), (zV, .inl (cI, 12, .inl (upd (rMn σ) (sN σ) ns))), (zR, .inl (cI, 12, .inl (rRu σ))), (zE, .inl (cI, 12, .inl (rEr σ)))] := hD
  refine lv_aload_n hx hb dX0_addLine_22 rfl (lv_at hl 1 rfl) ?_
  refine va_get (D := D) (ci := 0) (v := .ref zR) (C := RX0) (T := TX0) (N := 11) hx hb hts hiX0 hown hK hP 0 rfl rfl 9 (by decide) hf25 (fun _ h9 => h9) rfl dX0_addLine_23 ?_
  refine lv_iload hx hb dX0_addLine_26 (lv_at hl 0 rfl) ?_
  refine lv_iload_n hx hb dX0_addLine_28 rfl (lv_at hl 4 rfl) ?_
  refine xast (k := (sN σ)) hx hb hK hP hD hS 3 rfl (by omega) (by decide) dX0_addLine_29 (fun H locs hP hD hS => ?_)
  have hP : va_P D vwCl [(zB, .inr (0, [.int (nI (sF σ)), .int (nI (2 ^ sF σ)), .ref zK, .ref zW, .int (nI (sN σ)), .int (sR σ), .int (orE (rEr σ) (sN σ)), .ref zU, .ref zV, .ref zR, .ref zE])), (zU, .inl (cI, 12, .inl (upd (rMu σ) (sN σ) so))), (zV, .inl (cI, 12, .inl (upd (rMn σ) (sN σ) ns))), (zR, .inl (cI, 12, .inl (upd (rRu σ) (sN σ) rr))), (zE, .inl (cI, 12, .inl (rEr σ)))] H := hP
  have hD : va_D A [(zB, .inr (0, [.int (nI (sF σ)), .int (nI (2 ^ sF σ)), .ref zK, .ref zW, .int (nI (sN σ)), .int (sR σ), .int (orE (rEr σ) (sN σ)), .ref zU, .ref zV, .ref zR, .ref zE])), (zU, .inl (cI, 12, .inl (upd (rMu σ) (sN σ) so))), (zV, .inl (cI, 12, .inl (upd (rMn σ) (sN σ) ns))), (zR, .inl (cI, 12, .inl (upd (rRu σ) (sN σ) rr))), (zE, .inl (cI, 12, .inl (rEr σ)))] := hD
  refine lv_aload_n hx hb dX0_addLine_30 rfl (lv_at hl 1 rfl) ?_
  refine va_get (D := D) (ci := 0) (v := .ref zE) (C := RX0) (T := TX0) (N := 11) hx hb hts hiX0 hown hK hP 0 rfl rfl 10 (by decide) hf28 (fun _ h9 => h9) rfl dX0_addLine_31 ?_
  refine lv_iload hx hb dX0_addLine_34 (lv_at hl 0 rfl) ?_
  refine lv_iconst (v := 0) hx hb dX0_addLine_36 (by decide) ?_
  refine xast (k := (sN σ)) hx hb hK hP hD hS 4 rfl (by omega) (by decide) dX0_addLine_37 (fun H locs hP hD hS => ?_)
  have hP : va_P D vwCl [(zB, .inr (0, [.int (nI (sF σ)), .int (nI (2 ^ sF σ)), .ref zK, .ref zW, .int (nI (sN σ)), .int (sR σ), .int (orE (rEr σ) (sN σ)), .ref zU, .ref zV, .ref zR, .ref zE])), (zU, .inl (cI, 12, .inl (upd (rMu σ) (sN σ) so))), (zV, .inl (cI, 12, .inl (upd (rMn σ) (sN σ) ns))), (zR, .inl (cI, 12, .inl (upd (rRu σ) (sN σ) rr))), (zE, .inl (cI, 12, .inl (upd (rEr σ) (sN σ) 0)))] H := hP
  have hD : va_D A [(zB, .inr (0, [.int (nI (sF σ)), .int (nI (2 ^ sF σ)), .ref zK, .ref zW, .int (nI (sN σ)), .int (sR σ), .int (orE (rEr σ) (sN σ)), .ref zU, .ref zV, .ref zR, .ref zE])), (zU, .inl (cI, 12, .inl (upd (rMu σ) (sN σ) so))), (zV, .inl (cI, 12, .inl (upd (rMn σ) (sN σ) ns))), (zR, .inl (cI, 12, .inl (upd (rRu σ) (sN σ) rr))), (zE, .inl (cI, 12, .inl (upd (rEr σ) (sN σ) 0)))] := hD
  refine lv_aload_n hx hb dX0_addLine_38 rfl (lv_at hl 1 rfl) ?_
  refine lv_dup hx hb dX0_addLine_39 rfl ?_
  refine va_get (D := D) (ci := 0) (v := .int (nI (sN σ))) (C := RX0) (T := TX0) (N := 11) hx hb hts hiX0 hown hK hP 0 rfl rfl 4 (by decide) hf38 (fun _ h9 => h9) rfl dX0_addLine_40 ?_
  refine lv_iconst (v := 1) hx hb dX0_addLine_43 (by decide) ?_
  refine lv_iadd hx hb dX0_addLine_44 ?_
  refine lv_asi (show (nI (sN σ)) + 1 = nI (sN σ + 1) from nI_1 _) ?_
  refine va_put (D := D) (ci := 0) (v := .int (nI (sN σ + 1))) (ty := .int) (C := RX0) (T := TX0) (N := 11) hx hb hts hiX0 tyX0 tyX0_ok nmX0 hown hK hP hD hS 0 rfl rfl 4 (by decide) hf38 (fun _ h9 => h9) rfl (by decide +kernel) rfl rfl (Nat.le_of_ble_eq_true rfl) dX0_addLine_45 (fun H locs hP hD hS => ?_)
  have hP : va_P D vwCl [(zB, .inr (0, [.int (nI (sF σ)), .int (nI (2 ^ sF σ)), .ref zK, .ref zW, .int (nI (sN σ + 1)), .int (sR σ), .int (orE (rEr σ) (sN σ)), .ref zU, .ref zV, .ref zR, .ref zE])), (zU, .inl (cI, 12, .inl (upd (rMu σ) (sN σ) so))), (zV, .inl (cI, 12, .inl (upd (rMn σ) (sN σ) ns))), (zR, .inl (cI, 12, .inl (upd (rRu σ) (sN σ) rr))), (zE, .inl (cI, 12, .inl (upd (rEr σ) (sN σ) 0)))] H := hP
  have hD : va_D A [(zB, .inr (0, [.int (nI (sF σ)), .int (nI (2 ^ sF σ)), .ref zK, .ref zW, .int (nI (sN σ + 1)), .int (sR σ), .int (orE (rEr σ) (sN σ)), .ref zU, .ref zV, .ref zR, .ref zE])), (zU, .inl (cI, 12, .inl (upd (rMu σ) (sN σ) so))), (zV, .inl (cI, 12, .inl (upd (rMn σ) (sN σ) ns))), (zR, .inl (cI, 12, .inl (upd (rRu σ) (sN σ) rr))), (zE, .inl (cI, 12, .inl (upd (rEr σ) (sN σ) 0)))] := hD
  have e_rw : (orE (rEr σ) (sN σ) : Int32) = orE (rEr (lnS σ so ns rr)) (sN (lnS σ so ns rr)) := (orE_ln σ so ns rr).symm
  have hP : va_P D vwCl [(zB, .inr (0, [.int (nI (sF σ)), .int (nI (2 ^ sF σ)), .ref zK, .ref zW, .int (nI (sN σ + 1)), .int (sR σ), .int (orE (rEr (lnS σ so ns rr)) (sN (lnS σ so ns rr))), .ref zU, .ref zV, .ref zR, .ref zE])), (zU, .inl (cI, 12, .inl (upd (rMu σ) (sN σ) so))), (zV, .inl (cI, 12, .inl (upd (rMn σ) (sN σ) ns))), (zR, .inl (cI, 12, .inl (upd (rRu σ) (sN σ) rr))), (zE, .inl (cI, 12, .inl (upd (rEr σ) (sN σ) 0)))] H := by rw [← e_rw]; exact hP
  have hD : va_D A [(zB, .inr (0, [.int (nI (sF σ)), .int (nI (2 ^ sF σ)), .ref zK, .ref zW, .int (nI (sN σ + 1)), .int (sR σ), .int (orE (rEr (lnS σ so ns rr)) (sN (lnS σ so ns rr))), .ref zU, .ref zV, .ref zR, .ref zE])), (zU, .inl (cI, 12, .inl (upd (rMu σ) (sN σ) so))), (zV, .inl (cI, 12, .inl (upd (rMn σ) (sN σ) ns))), (zR, .inl (cI, 12, .inl (upd (rRu σ) (sN σ) rr))), (zE, .inl (cI, 12, .inl (upd (rEr σ) (sN σ) 0)))] := by rw [← e_rw]; exact hD
  clear e_rw
  refine lv_iload hx hb dX0_addLine_48 (lv_at hl 0 rfl) ?_
  have hP9 := hP
  have hD9 := hD
  exact W.iret (v := nI (sN σ)) hx hb hr (fun t ht hW => ⟨⟨nI (sN σ), (), rfl, rfl, ⟨⟨by rw [ht]; exact hP9, va_K.moved hW.alike hK, NW.warm hW hN⟩, hD9⟩⟩, hS.F ht⟩) hS.2.2 dX0_addLine_50

set_option maxHeartbeats 4000000 in
set_option maxRecDepth 100000 in
theorem c_X0_addException (l : Launch) (D : va_G) (cI cZ : ClassId) (sz : Nat) (zB : Nat) (zK : Nat) (zW : Nat) (zU : Nat) (zV : Nat) (zR : Nat) (zE : Nat) (σ : ST) (j : Nat) (i : Nat) (hok : Ok σ) (hj : j < 12) (hi : i < sN σ) : Met l yX0_addException wsX0_addException ({ frames := 0, cells := 0, slots := 0, locals := 0 }) (va_Pc [.ref zB, .int (nI j), .int (nI i)] (XW D cI cZ [(zB, .inr (0, [.int (nI (sF σ)), .int (nI (2 ^ sF σ)), .ref zK, .ref zW, .int (nI (sN σ)), .int (sR σ), .int (orE (rEr σ) (sN σ)), .ref zU, .ref zV, .ref zR, .ref zE])), (zE, .inl (cI, 12, .inl (rEr σ)))] sz)) (va_Qv (fun u : Unit => True) (fun u => XB D cI cZ (va_A [(zB, .inr (0, [.int (nI (sF σ)), .int (nI (2 ^ sF σ)), .ref zK, .ref zW, .int (nI (sN σ)), .int (sR σ), .int (orE (rEr σ) (sN σ)), .ref zU, .ref zV, .ref zR, .ref zE])), (zE, .inl (cI, 12, .inl (rEr σ)))] sz) [(zB, .inr (0, [.int (nI (sF (exS σ j i))), .int (nI (2 ^ sF (exS σ j i))), .ref zK, .ref zW, .int (nI (sN (exS σ j i))), .int (sR (exS σ j i)), .int (orE (rEr (exS σ j i)) (sN (exS σ j i))), .ref zU, .ref zV, .ref zR, .ref zE])), (zE, .inl (cI, 12, .inl (rEr (exS σ j i))))]) (va_A [(zB, .inr (0, [.int (nI (sF σ)), .int (nI (2 ^ sF σ)), .ref zK, .ref zW, .int (nI (sN σ)), .int (sR σ), .int (orE (rEr σ) (sN σ)), .ref zU, .ref zV, .ref zR, .ref zE])), (zE, .inl (cI, 12, .inl (rEr σ)))] sz)) 0 0 (va_A [(zB, .inr (0, [.int (nI (sF σ)), .int (nI (2 ^ sF σ)), .ref zK, .ref zW, .int (nI (sN σ)), .int (sR σ), .int (orE (rEr σ) (sN σ)), .ref zU, .ref zV, .ref zR, .ref zE])), (zE, .inl (cI, 12, .inl (rEr σ)))] sz) := by
  refine Met.ofW (cc := cX0_addException) (maxL := 3) (ret := none) (by decide) rfl ?_
  intro p e s m args below meth c s₁ B hml hv
  obtain ⟨rfl, hsz, ⟨hP, hK, hN⟩, hD0⟩ := hv
  have hx := B.exec
  have hb := B.bytes
  have hr := B.returns
  have hts := atoms_spec (ws := wsX0_addException) B.pre
  have hown : s.vm.findClass RX0 = some m.cls := findClass_of_methodNamed B.named
  have hlocks := B.notSynchronized
  subst hsz
  have hD := hD0.self (sz := s.heap.size)
  generalize hAe : va_A [(zB, .inr (0, [.int (nI (sF σ)), .int (nI (2 ^ sF σ)), .ref zK, .ref zW, .int (nI (sN σ)), .int (sR σ), .int (orE (rEr σ) (sN σ)), .ref zU, .ref zV, .ref zR, .ref zE])), (zE, .inl (cI, 12, .inl (rEr σ)))] s.heap.size = A at hD ⊢
  have hA : ∀ q : Nat, s.heap.size ≤ q → A q := fun q h => by rw [← hAe]; exact Or.inr h
  have hS : va_S A s.heap s.heap [] := va_S.rf
  have ho := hok.1
  have hk2 := hok.k
  have hf28 := hts (.fieldLink RX0 28 "BallCourt$Book" "excepters" "[I") (List.mem_of_getElem? (i := 1) (by decide +kernel))
  have hiX0 : ∀ w ∈ wsX00, w ∈ wsX0_addException := fun w h => List.mem_cons_of_mem _ (List.mem_append_right _ h)
  have hf44 := hts (.fieldLink RX0 44 "BallCourt$Book" "excepting" "I") (List.mem_of_getElem? (i := 2) (by decide +kernel))
  have hl := lv_entry ([.ref zB, .int (nI j), .int (nI i)]) (n := 3) (Nat.le_of_ble_eq_true rfl)
  rw [lg_entry_eq]
  generalize (lg_sl ([.ref zB, .int (nI j), .int (nI i)]) ++ List.replicate (3 - (lg_sl ([.ref zB, .int (nI j), .int (nI i)])).length) Slot.unset).toArray = ls at hl ⊢
  have hl : lv_has ls 3 [(0, .ref zB), (1, .int (nI j)), (2, .int (nI i))] := hl
  refine lv_aload_n hx hb dX0_addException_0 rfl (lv_at hl 0 rfl) ?_
  refine va_get (D := D) (ci := 0) (v := .ref zE) (C := RX0) (T := TX0) (N := 11) hx hb hts hiX0 hown hK hP 0 rfl rfl 10 (by decide) hf28 (fun _ h9 => h9) rfl dX0_addException_1 ?_
  refine lv_iload_n hx hb dX0_addException_4 rfl (lv_at hl 2 rfl) ?_
  refine lv_dup2_11 hx hb dX0_addException_5 rfl rfl ?_
  refine xald (k := i) hx hb hK hP 1 rfl (by omega) (by decide) dX0_addException_6 ?_
  refine lv_iconst (v := 1) hx hb dX0_addException_7 (by decide) ?_
  refine lv_iload_n hx hb dX0_addException_8 rfl (lv_at hl 1 rfl) ?_
  refine lv_ishl hx hb dX0_addException_9 ?_
  refine lv_asi (show 1 <<< ((nI j) &&& 31) = nI (2 ^ j) from shl1 j (by omega)) ?_
  refine lv_ior hx hb dX0_addException_10 ?_
  refine xast (k := i) hx hb hK hP hD hS 1 rfl (by omega) (by decide) dX0_addException_11 (fun H locs hP hD hS => ?_)
  have hP : va_P D vwCl [(zB, .inr (0, [.int (nI (sF σ)), .int (nI (2 ^ sF σ)), .ref zK, .ref zW, .int (nI (sN σ)), .int (sR σ), .int (orE (rEr σ) (sN σ)), .ref zU, .ref zV, .ref zR, .ref zE])), (zE, .inl (cI, 12, .inl (upd (rEr σ) i ((rEr σ i) ||| (nI (2 ^ j))))))] H := hP
  have hD : va_D A [(zB, .inr (0, [.int (nI (sF σ)), .int (nI (2 ^ sF σ)), .ref zK, .ref zW, .int (nI (sN σ)), .int (sR σ), .int (orE (rEr σ) (sN σ)), .ref zU, .ref zV, .ref zR, .ref zE])), (zE, .inl (cI, 12, .inl (upd (rEr σ) i ((rEr σ i) ||| (nI (2 ^ j))))))] := hD
  refine lv_aload_n hx hb dX0_addException_12 rfl (lv_at hl 0 rfl) ?_
  refine lv_dup hx hb dX0_addException_13 rfl ?_
  refine va_get (D := D) (ci := 0) (v := .int (orE (rEr σ) (sN σ))) (C := RX0) (T := TX0) (N := 11) hx hb hts hiX0 hown hK hP 0 rfl rfl 6 (by decide) hf44 (fun _ h9 => h9) rfl dX0_addException_14 ?_
  refine lv_iconst (v := 1) hx hb dX0_addException_17 (by decide) ?_
  refine lv_iload_n hx hb dX0_addException_18 rfl (lv_at hl 1 rfl) ?_
  refine lv_ishl hx hb dX0_addException_19 ?_
  refine lv_asi (show 1 <<< ((nI j) &&& 31) = nI (2 ^ j) from shl1 j (by omega)) ?_
  refine lv_ior hx hb dX0_addException_20 ?_
  refine va_put (D := D) (ci := 0) (v := .int ((orE (rEr σ) (sN σ)) ||| (nI (2 ^ j)))) (ty := .int) (C := RX0) (T := TX0) (N := 11) hx hb hts hiX0 tyX0 tyX0_ok nmX0 hown hK hP hD hS 0 rfl rfl 6 (by decide) hf44 (fun _ h9 => h9) rfl (by decide +kernel) rfl rfl (Nat.le_of_ble_eq_true rfl) dX0_addException_21 (fun H locs hP hD hS => ?_)
  have hP : va_P D vwCl [(zB, .inr (0, [.int (nI (sF σ)), .int (nI (2 ^ sF σ)), .ref zK, .ref zW, .int (nI (sN σ)), .int (sR σ), .int ((orE (rEr σ) (sN σ)) ||| (nI (2 ^ j))), .ref zU, .ref zV, .ref zR, .ref zE])), (zE, .inl (cI, 12, .inl (upd (rEr σ) i ((rEr σ i) ||| (nI (2 ^ j))))))] H := hP
  have hD : va_D A [(zB, .inr (0, [.int (nI (sF σ)), .int (nI (2 ^ sF σ)), .ref zK, .ref zW, .int (nI (sN σ)), .int (sR σ), .int ((orE (rEr σ) (sN σ)) ||| (nI (2 ^ j))), .ref zU, .ref zV, .ref zR, .ref zE])), (zE, .inl (cI, 12, .inl (upd (rEr σ) i ((rEr σ i) ||| (nI (2 ^ j))))))] := hD
  have e_rw : ((orE (rEr σ) (sN σ)) ||| (nI (2 ^ j)) : Int32) = orE (rEr (exS σ j i)) (sN (exS σ j i)) := (orE_ex σ j hi).symm
  have hP : va_P D vwCl [(zB, .inr (0, [.int (nI (sF σ)), .int (nI (2 ^ sF σ)), .ref zK, .ref zW, .int (nI (sN σ)), .int (sR σ), .int (orE (rEr (exS σ j i)) (sN (exS σ j i))), .ref zU, .ref zV, .ref zR, .ref zE])), (zE, .inl (cI, 12, .inl (upd (rEr σ) i ((rEr σ i) ||| (nI (2 ^ j))))))] H := by rw [← e_rw]; exact hP
  have hD : va_D A [(zB, .inr (0, [.int (nI (sF σ)), .int (nI (2 ^ sF σ)), .ref zK, .ref zW, .int (nI (sN σ)), .int (sR σ), .int (orE (rEr (exS σ j i)) (sN (exS σ j i))), .ref zU, .ref zV, .ref zR, .ref zE])), (zE, .inl (cI, 12, .inl (upd (rEr σ) i ((rEr σ i) ||| (nI (2 ^ j))))))] := by rw [← e_rw]; exact hD
  clear e_rw
  have hP9 := hP
  have hD9 := hD
  exact W.vret hx hb hr (fun t ht hW => ⟨⟨(), rfl, trivial, ⟨⟨by rw [ht]; exact hP9, va_K.moved hW.alike hK, NW.warm hW hN⟩, hD9⟩⟩, hS.F ht⟩) hS.2.2 dX0_addException_24

set_option maxHeartbeats 4000000 in
set_option maxRecDepth 100000 in
theorem c_X3_work (l : Launch) (D : va_G) (cI cZ : ClassId) (sz : Nat) (zB : Nat) (zL : Nat) (zK : Nat) (zW : Nat) (zU : Nat) (zV : Nat) (zR : Nat) (zE : Nat) (zLo : Nat) (σ : ST) (lo : Nat → Int32) (rp : Int32) (hok : Ok σ) : Met l yX3_work wsX3_work ({ frames := 3, cells := 0, slots := 0, locals := 70 }) (va_Pc [.ref zL, .int rp] (XW D cI cZ [(zL, .inr (3, [.ref zB, .ref zLo])), (zLo, .inl (cI, 128, .inl lo)), (zB, .inr (0, [.int (nI (sF σ)), .int (nI (2 ^ sF σ)), .ref zK, .ref zW, .int (nI (sN σ)), .int (sR σ), .int (orE (rEr σ) (sN σ)), .ref zU, .ref zV, .ref zR, .ref zE])), (zU, .inl (cI, 12, .inl (rMu σ))), (zV, .inl (cI, 12, .inl (rMn σ))), (zE, .inl (cI, 12, .inl (rEr σ)))] sz)) (va_Qv (fun u : Nat → Int32 => ∀ k, k < 2 ^ sF σ → u k = lawI σ rp k) (fun u => XB D cI cZ (va_A [(zL, .inr (3, [.ref zB, .ref zLo])), (zLo, .inl (cI, 128, .inl lo)), (zB, .inr (0, [.int (nI (sF σ)), .int (nI (2 ^ sF σ)), .ref zK, .ref zW, .int (nI (sN σ)), .int (sR σ), .int (orE (rEr σ) (sN σ)), .ref zU, .ref zV, .ref zR, .ref zE])), (zU, .inl (cI, 12, .inl (rMu σ))), (zV, .inl (cI, 12, .inl (rMn σ))), (zE, .inl (cI, 12, .inl (rEr σ)))] sz) [(zL, .inr (3, [.ref zB, .ref zLo])), (zLo, .inl (cI, 128, .inl u)), (zB, .inr (0, [.int (nI (sF σ)), .int (nI (2 ^ sF σ)), .ref zK, .ref zW, .int (nI (sN σ)), .int (sR σ), .int (orE (rEr σ) (sN σ)), .ref zU, .ref zV, .ref zR, .ref zE])), (zU, .inl (cI, 12, .inl (rMu σ))), (zV, .inl (cI, 12, .inl (rMn σ))), (zE, .inl (cI, 12, .inl (rEr σ)))]) (va_A [(zL, .inr (3, [.ref zB, .ref zLo])), (zLo, .inl (cI, 128, .inl lo)), (zB, .inr (0, [.int (nI (sF σ)), .int (nI (2 ^ sF σ)), .ref zK, .ref zW, .int (nI (sN σ)), .int (sR σ), .int (orE (rEr σ) (sN σ)), .ref zU, .ref zV, .ref zR, .ref zE])), (zU, .inl (cI, 12, .inl (rMu σ))), (zV, .inl (cI, 12, .inl (rMn σ))), (zE, .inl (cI, 12, .inl (rEr σ)))] sz)) 0 0 (va_A [(zL, .inr (3, [.ref zB, .ref zLo])), (zLo, .inl (cI, 128, .inl lo)), (zB, .inr (0, [.int (nI (sF σ)), .int (nI (2 ^ sF σ)), .ref zK, .ref zW, .int (nI (sN σ)), .int (sR σ), .int (orE (rEr σ) (sN σ)), .ref zU, .ref zV, .ref zR, .ref zE])), (zU, .inl (cI, 12, .inl (rMu σ))), (zV, .inl (cI, 12, .inl (rMn σ))), (zE, .inl (cI, 12, .inl (rEr σ)))] sz) := by
  refine Met.ofW (cc := cX3_work) (maxL := 3) (ret := none) (by decide) rfl ?_
  intro p e s m args below meth c s₁ B hml hv
  obtain ⟨rfl, hsz, ⟨hP, hK, hN⟩, hD0⟩ := hv
  have hx := B.exec
  have hb := B.bytes
  have hr := B.returns
  have hts := atoms_spec (ws := wsX3_work) B.pre
  have hown : s.vm.findClass RX3 = some m.cls := findClass_of_methodNamed B.named
  have hlocks := B.notSynchronized
  subst hsz
  have hD := hD0.self (sz := s.heap.size)
  generalize hAe : va_A [(zL, .inr (3, [.ref zB, .ref zLo])), (zLo, .inl (cI, 128, .inl lo)), (zB, .inr (0, [.int (nI (sF σ)), .int (nI (2 ^ sF σ)), .ref zK, .ref zW, .int (nI (sN σ)), .int (sR σ), .int (orE (rEr σ) (sN σ)), .ref zU, .ref zV, .ref zR, .ref zE])), (zU, .inl (cI, 12, .inl (rMu σ))), (zV, .inl (cI, 12, .inl (rMn σ))), (zE, .inl (cI, 12, .inl (rEr σ)))] s.heap.size = A at hD ⊢
  have hA : ∀ q : Nat, s.heap.size ≤ q → A q := fun q h => by rw [← hAe]; exact Or.inr h
  have hS : va_S A s.heap s.heap [] := va_S.rf
  have ho := hok.1
  have hk2 := hok.k
  have hf15 := hts (.fieldLink RX3 15 "BallCourt$Laws" "book" "LBallCourt$Book;") (List.mem_of_getElem? (i := 1) (by decide +kernel))
  have hiX3 : ∀ w ∈ wsX30, w ∈ wsX3_work := fun w h => List.mem_cons_of_mem _ (List.mem_append_left _ (List.mem_append_right _ h))
  have hiX0 : ∀ w ∈ wsX00, w ∈ wsX3_work := fun w h => List.mem_cons_of_mem _ (List.mem_append_right _ h)
  have hf9 := hts (.fieldLink RX3 9 "BallCourt$Laws" "lineOf" "[I") (List.mem_of_getElem? (i := 2) (by decide +kernel))
  have hl := lv_entry ([.ref zL, .int rp]) (n := 3) (Nat.le_of_ble_eq_true rfl)
  rw [lg_entry_eq]
  generalize (lg_sl ([.ref zL, .int rp]) ++ List.replicate (3 - (lg_sl ([.ref zL, .int rp])).length) Slot.unset).toArray = ls at hl ⊢
  have hl : lv_has ls 3 [(0, .ref zL), (1, .int rp)] := hl
  refine lv_iconst (v := nI 0) hx hb dX3_work_0 (by decide) ?_
  refine lv_istore_n (lv' := [(2, .int (nI 0)), (0, .ref zL), (1, .int rp)]) hx hb dX3_work_1 rfl hl (by decide) rfl (fun ls hl => ?_)
  refine wloopW (α := Nat × (Nat → Int32)) (fun v => 2 ^ sF σ - v.1) (fun v => [(zL, .inr (3, [.ref zB, .ref zLo])), (zLo, .inl (cI, 128, .inl v.2)), (zB, .inr (0, [.int (nI (sF σ)), .int (nI (2 ^ sF σ)), .ref zK, .ref zW, .int (nI (sN σ)), .int (sR σ), .int (orE (rEr σ) (sN σ)), .ref zU, .ref zV, .ref zR, .ref zE])), (zU, .inl (cI, 12, .inl (rMu σ))), (zV, .inl (cI, 12, .inl (rMn σ))), (zE, .inl (cI, 12, .inl (rEr σ)))]) (fun v => [(0, .ref zL), (1, .int rp), (2, .int (nI v.1))]) (fun v => (v.1 ≤ 2 ^ sF σ) ∧ (∀ j, j < v.1 → v.2 j = lawI σ rp j)) 3 (fun v hv ih2 H locs hP hD hS ls hl => ?_) (0, lo) ⟨(show 0 ≤ 2 ^ sF σ from Nat.zero_le _), (show ∀ j, j < 0 → lo j = lawI σ rp j from fun j hj => absurd hj (Nat.not_lt_zero _))⟩ hP hD hS ls (lv_sub hl [1, 2, 0] rfl)
  obtain ⟨i, r⟩ := v
  obtain ⟨hi, hv⟩ := hv
  have hi : i ≤ 2 ^ sF σ := hi
  have hv : ∀ j, j < i → r j = lawI σ rp j := hv
  have hl : lv_has ls 3 [(0, .ref zL), (1, .int rp), (2, .int (nI i))] := hl
  have hP : va_P D vwCl [(zL, .inr (3, [.ref zB, .ref zLo])), (zLo, .inl (cI, 128, .inl r)), (zB, .inr (0, [.int (nI (sF σ)), .int (nI (2 ^ sF σ)), .ref zK, .ref zW, .int (nI (sN σ)), .int (sR σ), .int (orE (rEr σ) (sN σ)), .ref zU, .ref zV, .ref zR, .ref zE])), (zU, .inl (cI, 12, .inl (rMu σ))), (zV, .inl (cI, 12, .inl (rMn σ))), (zE, .inl (cI, 12, .inl (rEr σ)))] H := hP
  have hD : va_D A [(zL, .inr (3, [.ref zB, .ref zLo])), (zLo, .inl (cI, 128, .inl r)), (zB, .inr (0, [.int (nI (sF σ)), .int (nI (2 ^ sF σ)), .ref zK, .ref zW, .int (nI (sN σ)), .int (sR σ), .int (orE (rEr σ) (sN σ)), .ref zU, .ref zV, .ref zR, .ref zE])), (zU, .inl (cI, 12, .inl (rMu σ))), (zV, .inl (cI, 12, .inl (rMn σ))), (zE, .inl (cI, 12, .inl (rEr σ)))] := hD
  refine lv_iload_n hx hb dX3_work_2 rfl (lv_at hl 2 rfl) ?_
  refine lv_aload_n hx hb dX3_work_3 rfl (lv_at hl 0 rfl) ?_
  refine va_get (D := D) (ci := 3) (v := .ref zB) (C := RX3) (T := TX3) (N := 2) hx hb hts hiX3 hown hK hP 0 rfl rfl 0 (by decide) hf15 (fun _ h9 => h9) rfl dX3_work_4 ?_
  refine va_getN (D := D) (ci := 0) (v := .int (nI (2 ^ sF σ))) (C := RX0) (T := TX0) (N := 11) hx hb hts hiX0 hown hK hP 2 rfl rfl 1 (by decide) (NW.f hN 18 rfl _) (fun _ h9 => h9) rfl dX3_work_7 ?_
  refine lv_icmp_ge (tgt := 34) hx hb dX3_work_10 (by decide) (fun c10 => ?_) (fun c10 => ?_)
  · skip
    have c10 := (nI_leI (by omega) (by omega)).mp c10
    have hP9 := hP
    have hD9 := hD
    exact W.vret hx hb hr (fun t ht hW => ⟨⟨r, rfl, (fun k hk => hv k (by omega)), ⟨⟨by rw [ht]; exact hP9, va_K.moved hW.alike hK, NW.warm hW hN⟩, hD9⟩⟩, hS.F ht⟩) hS.2.2 dX3_work_34
  · skip
    have c10 := Nat.lt_of_not_le (fun z => c10 ((nI_leI (by omega) (by omega)).mpr z))
    refine lv_aload_n hx hb dX3_work_13 rfl (lv_at hl 0 rfl) ?_
    refine va_get (D := D) (ci := 3) (v := .ref zLo) (C := RX3) (T := TX3) (N := 2) hx hb hts hiX3 hown hK hP 0 rfl rfl 1 (by decide) hf9 (fun _ h9 => h9) rfl dX3_work_14 ?_
    refine lv_iload_n hx hb dX3_work_17 rfl (lv_at hl 2 rfl) ?_
    refine lv_aload_n hx hb dX3_work_18 rfl (lv_at hl 0 rfl) ?_
    refine va_get (D := D) (ci := 3) (v := .ref zB) (C := RX3) (T := TX3) (N := 2) hx hb hts hiX3 hown hK hP 0 rfl rfl 0 (by decide) hf15 (fun _ h9 => h9) rfl dX3_work_19 ?_
    refine lv_iload_n hx hb dX3_work_22 rfl (lv_at hl 2 rfl) ?_
    refine lv_iload_n hx hb dX3_work_23 rfl (lv_at hl 1 rfl) ?_
    refine xpV (rest := [.int (nI i), .ref zLo]) ⟨hx, hb, hml, hown, hts⟩ (c_X0_lawLine l D cI cZ zB zK zW zU zV zR zE σ rp i hok) (cwV 2 hts gX3_work_X0_lawLine rfl rfl rfl (by decide +kernel) ⟨Nat.le_of_ble_eq_true rfl, Nat.le_of_ble_eq_true rfl⟩) hP [2, 3, 4, 5] rfl hK hN (ci := 0) (q0 := 2) rfl rfl rfl hl.1 rfl (Nat.le_of_ble_eq_true rfl) dX3_work_24 ⟨Nat.zero_le _, Nat.zero_le _⟩ (fun r24 e24 => ?_)
    subst e24
    refine xast (k := i) hx hb hK hP hD hS 1 rfl (by omega) (by decide) dX3_work_27 (fun H locs hP hD hS => ?_)
    have hP : va_P D vwCl [(zL, .inr (3, [.ref zB, .ref zLo])), (zLo, .inl (cI, 128, .inl (upd r i (lawI σ rp i)))), (zB, .inr (0, [.int (nI (sF σ)), .int (nI (2 ^ sF σ)), .ref zK, .ref zW, .int (nI (sN σ)), .int (sR σ), .int (orE (rEr σ) (sN σ)), .ref zU, .ref zV, .ref zR, .ref zE])), (zU, .inl (cI, 12, .inl (rMu σ))), (zV, .inl (cI, 12, .inl (rMn σ))), (zE, .inl (cI, 12, .inl (rEr σ)))] H := hP
    have hD : va_D A [(zL, .inr (3, [.ref zB, .ref zLo])), (zLo, .inl (cI, 128, .inl (upd r i (lawI σ rp i)))), (zB, .inr (0, [.int (nI (sF σ)), .int (nI (2 ^ sF σ)), .ref zK, .ref zW, .int (nI (sN σ)), .int (sR σ), .int (orE (rEr σ) (sN σ)), .ref zU, .ref zV, .ref zR, .ref zE])), (zU, .inl (cI, 12, .inl (rMu σ))), (zV, .inl (cI, 12, .inl (rMn σ))), (zE, .inl (cI, 12, .inl (rEr σ)))] := hD
    refine lv_iinc (k := 2) (x := nI i) (v := nI (i + 1)) (lv' := [(2, .int (nI (i + 1))), (0, .ref zL), (1, .int rp)]) hx hb dX3_work_28 hl rfl (show (nI i) + Int32.ofInt 1 = nI (i + 1) from nI_1 _) (by decide) rfl (fun ls hl => ?_)
    refine lv_goto (tgt := 2) hx hb dX3_work_31 (by decide) ?_
    exact ih2 (i + 1, upd r i (lawI σ rp i)) ⟨(show (i + 1) ≤ 2 ^ sF σ from (by omega)), (show ∀ j, j < (i + 1) → (upd r i (lawI σ rp i)) j = lawI σ rp j from lt_s (fun j hj => by rw [pk_un (by omega)]; exact hv j hj) (by rw [pk_us]))⟩ (by show 2 ^ sF σ - (i + 1) < 2 ^ sF σ - i; omega) _ _ hP hD hS ls (lv_sub hl [1, 2, 0] rfl)

set_option maxHeartbeats 4000000 in
set_option maxRecDepth 100000 in
theorem c_X4_add (l : Launch) (D : va_G) (cI cZ : ClassId) (sz : Nat) (zM : Nat) (zS : Nat) (zT : Nat) (zD : Nat) (σ : ST) (hm : sM σ < 30) : Met l yX4_add wsX4_add ({ frames := 0, cells := 0, slots := 0, locals := 0 }) (va_Pc [.ref zM] (XW D cI cZ [(zM, .inr (4, [.int (nI (sM σ)), .ref zS, .ref zT, .ref zD])), (zS, .inl (cI, 90, .inl (rTs σ))), (zT, .inl (cI, 90, .inl (rTn σ))), (zD, .inl (cI, 30, .inl (rRd σ)))] sz)) (va_Qi (fun (r : Int32) (u : Unit) => r = nI (sM σ)) (fun u => XB D cI cZ (va_A [(zM, .inr (4, [.int (nI (sM σ)), .ref zS, .ref zT, .ref zD])), (zS, .inl (cI, 90, .inl (rTs σ))), (zT, .inl (cI, 90, .inl (rTn σ))), (zD, .inl (cI, 30, .inl (rRd σ)))] sz) [(zM, .inr (4, [.int (nI (sM (moS σ))), .ref zS, .ref zT, .ref zD])), (zS, .inl (cI, 90, .inl (rTs (moS σ)))), (zT, .inl (cI, 90, .inl (rTn (moS σ)))), (zD, .inl (cI, 30, .inl (rRd (moS σ))))]) (va_A [(zM, .inr (4, [.int (nI (sM σ)), .ref zS, .ref zT, .ref zD])), (zS, .inl (cI, 90, .inl (rTs σ))), (zT, .inl (cI, 90, .inl (rTn σ))), (zD, .inl (cI, 30, .inl (rRd σ)))] sz)) 0 0 (va_A [(zM, .inr (4, [.int (nI (sM σ)), .ref zS, .ref zT, .ref zD])), (zS, .inl (cI, 90, .inl (rTs σ))), (zT, .inl (cI, 90, .inl (rTn σ))), (zD, .inl (cI, 30, .inl (rRd σ)))] sz) := by
  refine Met.ofW (cc := cX4_add) (maxL := 3) (ret := (some .int)) (by decide) rfl ?_
  intro p e s m args below meth c s₁ B hml hv
  obtain ⟨rfl, hsz, ⟨hP, hK, hN⟩, hD0⟩ := hv
  have hx := B.exec
  have hb := B.bytes
  have hr := B.returns
  have hts := atoms_spec (ws := wsX4_add) B.pre
  have hown : s.vm.findClass RX4 = some m.cls := findClass_of_methodNamed B.named
  have hlocks := B.notSynchronized
  subst hsz
  have hD := hD0.self (sz := s.heap.size)
  generalize hAe : va_A [(zM, .inr (4, [.int (nI (sM σ)), .ref zS, .ref zT, .ref zD])), (zS, .inl (cI, 90, .inl (rTs σ))), (zT, .inl (cI, 90, .inl (rTn σ))), (zD, .inl (cI, 30, .inl (rRd σ)))] s.heap.size = A at hD ⊢
  have hA : ∀ q : Nat, s.heap.size ≤ q → A q := fun q h => by rw [← hAe]; exact Or.inr h
  have hS : va_S A s.heap s.heap [] := va_S.rf
  have hf21 := hts (.fieldLink RX4 21 "BallCourt$Moments" "count" "I") (List.mem_of_getElem? (i := 1) (by decide +kernel))
  have hiX4 : ∀ w ∈ wsX40, w ∈ wsX4_add := fun w h => List.mem_cons_of_mem _ (List.mem_append_right _ h)
  have hf9 := hts (.fieldLink RX4 9 "BallCourt$Moments" "toldSo" "[I") (List.mem_of_getElem? (i := 2) (by decide +kernel))
  have hf15 := hts (.fieldLink RX4 15 "BallCourt$Moments" "toldNotSo" "[I") (List.mem_of_getElem? (i := 3) (by decide +kernel))
  have hf18 := hts (.fieldLink RX4 18 "BallCourt$Moments" "ruled" "[I") (List.mem_of_getElem? (i := 4) (by decide +kernel))
  have hl := lv_entry ([.ref zM]) (n := 3) (Nat.le_of_ble_eq_true rfl)
  rw [lg_entry_eq]
  generalize (lg_sl ([.ref zM]) ++ List.replicate (3 - (lg_sl ([.ref zM])).length) Slot.unset).toArray = ls at hl ⊢
  have hl : lv_has ls 3 [(0, .ref zM)] := hl
  refine lv_aload_n hx hb dX4_add_0 rfl (lv_at hl 0 rfl) ?_
  refine va_get (D := D) (ci := 4) (v := .int (nI (sM σ))) (C := RX4) (T := TX4) (N := 4) hx hb hts hiX4 hown hK hP 0 rfl rfl 0 (by decide) hf21 (fun _ h9 => h9) rfl dX4_add_1 ?_
  refine lv_istore_n (lv' := [(1, .int (nI (sM σ))), (0, .ref zM)]) hx hb dX4_add_4 rfl hl (by decide) rfl (fun ls hl => ?_)
  refine lv_iconst (v := nI 0) hx hb dX4_add_5 (by decide) ?_
  refine lv_istore_n (lv' := [(2, .int (nI 0)), (1, .int (nI (sM σ))), (0, .ref zM)]) hx hb dX4_add_6 rfl hl (by decide) rfl (fun ls hl => ?_)
  refine lv_iload_n hx hb dX4_add_7 rfl (lv_at hl 0 rfl) ?_
  refine lv_iconst (v := nI 3) hx hb dX4_add_8 (by decide) ?_
  refine lv_icmp_ge (tgt := 40) hx hb dX4_add_9 (by decide) (fun c9 => ?_) (fun c9 => ?_)
  · exact absurd c9 (by decide)
  · skip
    refine lv_aload_n hx hb dX4_add_12 rfl (lv_at hl 2 rfl) ?_
    refine va_get (D := D) (ci := 4) (v := .ref zS) (C := RX4) (T := TX4) (N := 4) hx hb hts hiX4 hown hK hP 0 rfl rfl 1 (by decide) hf9 (fun _ h9 => h9) rfl dX4_add_13 ?_
    refine lv_iload_n hx hb dX4_add_16 rfl (lv_at hl 1 rfl) ?_
    refine lv_iconst (v := nI 3) hx hb dX4_add_17 (by decide) ?_
    refine lv_imul hx hb dX4_add_18 ?_
    refine lv_asi (show (nI (sM σ)) * (nI 3) = nI (3 * sM σ) from by rw [pk_mul, Nat.mul_comm]) ?_
    refine lv_iload_n hx hb dX4_add_19 rfl (lv_at hl 0 rfl) ?_
    refine lv_iadd hx hb dX4_add_20 ?_
    refine lv_asi (show (nI (3 * sM σ)) + (nI 0) = nI (3 * sM σ + 0) from nI_add _ _) ?_
    refine lv_iconst (v := 0) hx hb dX4_add_21 (by decide) ?_
    refine xast (k := (3 * sM σ + 0)) hx hb hK hP hD hS 1 rfl (by omega) (by decide) dX4_add_22 (fun H locs hP hD hS => ?_)
    have hP : va_P D vwCl [(zM, .inr (4, [.int (nI (sM σ)), .ref zS, .ref zT, .ref zD])), (zS, .inl (cI, 90, .inl (upd (rTs σ) (3 * sM σ + 0) 0))), (zT, .inl (cI, 90, .inl (rTn σ))), (zD, .inl (cI, 30, .inl (rRd σ)))] H := hP
    have hD : va_D A [(zM, .inr (4, [.int (nI (sM σ)), .ref zS, .ref zT, .ref zD])), (zS, .inl (cI, 90, .inl (upd (rTs σ) (3 * sM σ + 0) 0))), (zT, .inl (cI, 90, .inl (rTn σ))), (zD, .inl (cI, 30, .inl (rRd σ)))] := hD
    refine lv_aload_n hx hb dX4_add_23 rfl (lv_at hl 2 rfl) ?_
    refine va_get (D := D) (ci := 4) (v := .ref zT) (C := RX4) (T := TX4) (N := 4) hx hb hts hiX4 hown hK hP 0 rfl rfl 2 (by decide) hf15 (fun _ h9 => h9) rfl dX4_add_24 ?_
    refine lv_iload_n hx hb dX4_add_27 rfl (lv_at hl 1 rfl) ?_
    refine lv_iconst (v := nI 3) hx hb dX4_add_28 (by decide) ?_
    refine lv_imul hx hb dX4_add_29 ?_
    refine lv_asi (show (nI (sM σ)) * (nI 3) = nI (3 * sM σ) from by rw [pk_mul, Nat.mul_comm]) ?_
    refine lv_iload_n hx hb dX4_add_30 rfl (lv_at hl 0 rfl) ?_
    refine lv_iadd hx hb dX4_add_31 ?_
    refine lv_asi (show (nI (3 * sM σ)) + (nI 0) = nI (3 * sM σ + 0) from nI_add _ _) ?_
    refine lv_iconst (v := 0) hx hb dX4_add_32 (by decide) ?_
    refine xast (k := (3 * sM σ + 0)) hx hb hK hP hD hS 2 rfl (by omega) (by decide) dX4_add_33 (fun H locs hP hD hS => ?_)
    have hP : va_P D vwCl [(zM, .inr (4, [.int (nI (sM σ)), .ref zS, .ref zT, .ref zD])), (zS, .inl (cI, 90, .inl (upd (rTs σ) (3 * sM σ + 0) 0))), (zT, .inl (cI, 90, .inl (upd (rTn σ) (3 * sM σ + 0) 0))), (zD, .inl (cI, 30, .inl (rRd σ)))] H := hP
    have hD : va_D A [(zM, .inr (4, [.int (nI (sM σ)), .ref zS, .ref zT, .ref zD])), (zS, .inl (cI, 90, .inl (upd (rTs σ) (3 * sM σ + 0) 0))), (zT, .inl (cI, 90, .inl (upd (rTn σ) (3 * sM σ + 0) 0))), (zD, .inl (cI, 30, .inl (rRd σ)))] := hD
    refine lv_iinc (k := 0) (x := nI 0) (v := nI 1) (lv' := [(2, .int (nI 1)), (1, .int (nI (sM σ))), (0, .ref zM)]) hx hb dX4_add_34 hl rfl (show (nI 0) + Int32.ofInt 1 = nI 1 from (by decide)) (by decide) rfl (fun ls hl => ?_)
    refine lv_goto (tgt := 7) hx hb dX4_add_37 (by decide) ?_
    refine lv_iload_n hx hb dX4_add_7 rfl (lv_at hl 0 rfl) ?_
    refine lv_iconst (v := nI 3) hx hb dX4_add_8 (by decide) ?_
    refine lv_icmp_ge (tgt := 40) hx hb dX4_add_9 (by decide) (fun c9 => ?_) (fun c9 => ?_)
    · exact absurd c9 (by decide)
    · skip
      refine lv_aload_n hx hb dX4_add_12 rfl (lv_at hl 2 rfl) ?_
      refine va_get (D := D) (ci := 4) (v := .ref zS) (C := RX4) (T := TX4) (N := 4) hx hb hts hiX4 hown hK hP 0 rfl rfl 1 (by decide) hf9 (fun _ h9 => h9) rfl dX4_add_13 ?_
      refine lv_iload_n hx hb dX4_add_16 rfl (lv_at hl 1 rfl) ?_
      refine lv_iconst (v := nI 3) hx hb dX4_add_17 (by decide) ?_
      refine lv_imul hx hb dX4_add_18 ?_
      refine lv_asi (show (nI (sM σ)) * (nI 3) = nI (3 * sM σ) from by rw [pk_mul, Nat.mul_comm]) ?_
      refine lv_iload_n hx hb dX4_add_19 rfl (lv_at hl 0 rfl) ?_
      refine lv_iadd hx hb dX4_add_20 ?_
      refine lv_asi (show (nI (3 * sM σ)) + (nI 1) = nI (3 * sM σ + 1) from nI_add _ _) ?_
      refine lv_iconst (v := 0) hx hb dX4_add_21 (by decide) ?_
      refine xast (k := (3 * sM σ + 1)) hx hb hK hP hD hS 1 rfl (by omega) (by decide) dX4_add_22 (fun H locs hP hD hS => ?_)
      have hP : va_P D vwCl [(zM, .inr (4, [.int (nI (sM σ)), .ref zS, .ref zT, .ref zD])), (zS, .inl (cI, 90, .inl (upd (upd (rTs σ) (3 * sM σ + 0) 0) (3 * sM σ + 1) 0))), (zT, .inl (cI, 90, .inl (upd (rTn σ) (3 * sM σ + 0) 0))), (zD, .inl (cI, 30, .inl (rRd σ)))] H := hP
      have hD : va_D A [(zM, .inr (4, [.int (nI (sM σ)), .ref zS, .ref zT, .ref zD])), (zS, .inl (cI, 90, .inl (upd (upd (rTs σ) (3 * sM σ + 0) 0) (3 * sM σ + 1) 0))), (zT, .inl (cI, 90, .inl (upd (rTn σ) (3 * sM σ + 0) 0))), (zD, .inl (cI, 30, .inl (rRd σ)))] := hD
      refine lv_aload_n hx hb dX4_add_23 rfl (lv_at hl 2 rfl) ?_
      refine va_get (D := D) (ci := 4) (v := .ref zT) (C := RX4) (T := TX4) (N := 4) hx hb hts hiX4 hown hK hP 0 rfl rfl 2 (by decide) hf15 (fun _ h9 => h9) rfl dX4_add_24 ?_
      refine lv_iload_n hx hb dX4_add_27 rfl (lv_at hl 1 rfl) ?_
      refine lv_iconst (v := nI 3) hx hb dX4_add_28 (by decide) ?_
      refine lv_imul hx hb dX4_add_29 ?_
      refine lv_asi (show (nI (sM σ)) * (nI 3) = nI (3 * sM σ) from by rw [pk_mul, Nat.mul_comm]) ?_
      refine lv_iload_n hx hb dX4_add_30 rfl (lv_at hl 0 rfl) ?_
      refine lv_iadd hx hb dX4_add_31 ?_
      refine lv_asi (show (nI (3 * sM σ)) + (nI 1) = nI (3 * sM σ + 1) from nI_add _ _) ?_
      refine lv_iconst (v := 0) hx hb dX4_add_32 (by decide) ?_
      refine xast (k := (3 * sM σ + 1)) hx hb hK hP hD hS 2 rfl (by omega) (by decide) dX4_add_33 (fun H locs hP hD hS => ?_)
      have hP : va_P D vwCl [(zM, .inr (4, [.int (nI (sM σ)), .ref zS, .ref zT, .ref zD])), (zS, .inl (cI, 90, .inl (upd (upd (rTs σ) (3 * sM σ + 0) 0) (3 * sM σ + 1) 0))), (zT, .inl (cI, 90, .inl (upd (upd (rTn σ) (3 * sM σ + 0) 0) (3 * sM σ + 1) 0))), (zD, .inl (cI, 30, .inl (rRd σ)))] H := hP
      have hD : va_D A [(zM, .inr (4, [.int (nI (sM σ)), .ref zS, .ref zT, .ref zD])), (zS, .inl (cI, 90, .inl (upd (upd (rTs σ) (3 * sM σ + 0) 0) (3 * sM σ + 1) 0))), (zT, .inl (cI, 90, .inl (upd (upd (rTn σ) (3 * sM σ + 0) 0) (3 * sM σ + 1) 0))), (zD, .inl (cI, 30, .inl (rRd σ)))] := hD
      refine lv_iinc (k := 0) (x := nI 1) (v := nI 2) (lv' := [(2, .int (nI 2)), (1, .int (nI (sM σ))), (0, .ref zM)]) hx hb dX4_add_34 hl rfl (show (nI 1) + Int32.ofInt 1 = nI 2 from (by decide)) (by decide) rfl (fun ls hl => ?_)
      refine lv_goto (tgt := 7) hx hb dX4_add_37 (by decide) ?_
      refine lv_iload_n hx hb dX4_add_7 rfl (lv_at hl 0 rfl) ?_
      refine lv_iconst (v := nI 3) hx hb dX4_add_8 (by decide) ?_
      refine lv_icmp_ge (tgt := 40) hx hb dX4_add_9 (by decide) (fun c9 => ?_) (fun c9 => ?_)
      · exact absurd c9 (by decide)
      · skip
        refine lv_aload_n hx hb dX4_add_12 rfl (lv_at hl 2 rfl) ?_
        refine va_get (D := D) (ci := 4) (v := .ref zS) (C := RX4) (T := TX4) (N := 4) hx hb hts hiX4 hown hK hP 0 rfl rfl 1 (by decide) hf9 (fun _ h9 => h9) rfl dX4_add_13 ?_
        refine lv_iload_n hx hb dX4_add_16 rfl (lv_at hl 1 rfl) ?_
        refine lv_iconst (v := nI 3) hx hb dX4_add_17 (by decide) ?_
        refine lv_imul hx hb dX4_add_18 ?_
        refine lv_asi (show (nI (sM σ)) * (nI 3) = nI (3 * sM σ) from by rw [pk_mul, Nat.mul_comm]) ?_
        refine lv_iload_n hx hb dX4_add_19 rfl (lv_at hl 0 rfl) ?_
        refine lv_iadd hx hb dX4_add_20 ?_
        refine lv_asi (show (nI (3 * sM σ)) + (nI 2) = nI (3 * sM σ + 2) from nI_add _ _) ?_
        refine lv_iconst (v := 0) hx hb dX4_add_21 (by decide) ?_
        refine xast (k := (3 * sM σ + 2)) hx hb hK hP hD hS 1 rfl (by omega) (by decide) dX4_add_22 (fun H locs hP hD hS => ?_)
        have hP : va_P D vwCl [(zM, .inr (4, [.int (nI (sM σ)), .ref zS, .ref zT, .ref zD])), (zS, .inl (cI, 90, .inl (upd (upd (upd (rTs σ) (3 * sM σ + 0) 0) (3 * sM σ + 1) 0) (3 * sM σ + 2) 0))), (zT, .inl (cI, 90, .inl (upd (upd (rTn σ) (3 * sM σ + 0) 0) (3 * sM σ + 1) 0))), (zD, .inl (cI, 30, .inl (rRd σ)))] H := hP
        have hD : va_D A [(zM, .inr (4, [.int (nI (sM σ)), .ref zS, .ref zT, .ref zD])), (zS, .inl (cI, 90, .inl (upd (upd (upd (rTs σ) (3 * sM σ + 0) 0) (3 * sM σ + 1) 0) (3 * sM σ + 2) 0))), (zT, .inl (cI, 90, .inl (upd (upd (rTn σ) (3 * sM σ + 0) 0) (3 * sM σ + 1) 0))), (zD, .inl (cI, 30, .inl (rRd σ)))] := hD
        refine lv_aload_n hx hb dX4_add_23 rfl (lv_at hl 2 rfl) ?_
        refine va_get (D := D) (ci := 4) (v := .ref zT) (C := RX4) (T := TX4) (N := 4) hx hb hts hiX4 hown hK hP 0 rfl rfl 2 (by decide) hf15 (fun _ h9 => h9) rfl dX4_add_24 ?_
        refine lv_iload_n hx hb dX4_add_27 rfl (lv_at hl 1 rfl) ?_
        refine lv_iconst (v := nI 3) hx hb dX4_add_28 (by decide) ?_
        refine lv_imul hx hb dX4_add_29 ?_
        refine lv_asi (show (nI (sM σ)) * (nI 3) = nI (3 * sM σ) from by rw [pk_mul, Nat.mul_comm]) ?_
        refine lv_iload_n hx hb dX4_add_30 rfl (lv_at hl 0 rfl) ?_
        refine lv_iadd hx hb dX4_add_31 ?_
        refine lv_asi (show (nI (3 * sM σ)) + (nI 2) = nI (3 * sM σ + 2) from nI_add _ _) ?_
        refine lv_iconst (v := 0) hx hb dX4_add_32 (by decide) ?_
        refine xast (k := (3 * sM σ + 2)) hx hb hK hP hD hS 2 rfl (by omega) (by decide) dX4_add_33 (fun H locs hP hD hS => ?_)
        have hP : va_P D vwCl [(zM, .inr (4, [.int (nI (sM σ)), .ref zS, .ref zT, .ref zD])), (zS, .inl (cI, 90, .inl (upd (upd (upd (rTs σ) (3 * sM σ + 0) 0) (3 * sM σ + 1) 0) (3 * sM σ + 2) 0))), (zT, .inl (cI, 90, .inl (upd (upd (upd (rTn σ) (3 * sM σ + 0) 0) (3 * sM σ + 1) 0) (3 * sM σ + 2) 0))), (zD, .inl (cI, 30, .inl (rRd σ)))] H := hP
        have hD : va_D A [(zM, .inr (4, [.int (nI (sM σ)), .ref zS, .ref zT, .ref zD])), (zS, .inl (cI, 90, .inl (upd (upd (upd (rTs σ) (3 * sM σ + 0) 0) (3 * sM σ + 1) 0) (3 * sM σ + 2) 0))), (zT, .inl (cI, 90, .inl (upd (upd (upd (rTn σ) (3 * sM σ + 0) 0) (3 * sM σ + 1) 0) (3 * sM σ + 2) 0))), (zD, .inl (cI, 30, .inl (rRd σ)))] := hD
        refine lv_iinc (k := 0) (x := nI 2) (v := nI 3) (lv' := [(2, .int (nI 3)), (1, .int (nI (sM σ))), (0, .ref zM)]) hx hb dX4_add_34 hl rfl (show (nI 2) + Int32.ofInt 1 = nI 3 from (by decide)) (by decide) rfl (fun ls hl => ?_)
        refine lv_goto (tgt := 7) hx hb dX4_add_37 (by decide) ?_
        refine lv_iload_n hx hb dX4_add_7 rfl (lv_at hl 0 rfl) ?_
        refine lv_iconst (v := nI 3) hx hb dX4_add_8 (by decide) ?_
        refine lv_icmp_ge (tgt := 40) hx hb dX4_add_9 (by decide) (fun c9 => ?_) (fun c9 => ?_)
        · skip
          refine lv_aload_n hx hb dX4_add_40 rfl (lv_at hl 2 rfl) ?_
          refine va_get (D := D) (ci := 4) (v := .ref zD) (C := RX4) (T := TX4) (N := 4) hx hb hts hiX4 hown hK hP 0 rfl rfl 3 (by decide) hf18 (fun _ h9 => h9) rfl dX4_add_41 ?_
          refine lv_iload_n hx hb dX4_add_44 rfl (lv_at hl 1 rfl) ?_
          refine lv_iconst (v := (-1)) hx hb dX4_add_45 (by decide) ?_
          refine xast (k := (sM σ)) hx hb hK hP hD hS 3 rfl (by omega) (by decide) dX4_add_46 (fun H locs hP hD hS => ?_)
          have hP : va_P D vwCl [(zM, .inr (4, [.int (nI (sM σ)), .ref zS, .ref zT, .ref zD])), (zS, .inl (cI, 90, .inl (upd (upd (upd (rTs σ) (3 * sM σ + 0) 0) (3 * sM σ + 1) 0) (3 * sM σ + 2) 0))), (zT, .inl (cI, 90, .inl (upd (upd (upd (rTn σ) (3 * sM σ + 0) 0) (3 * sM σ + 1) 0) (3 * sM σ + 2) 0))), (zD, .inl (cI, 30, .inl (upd (rRd σ) (sM σ) (-1))))] H := hP
          have hD : va_D A [(zM, .inr (4, [.int (nI (sM σ)), .ref zS, .ref zT, .ref zD])), (zS, .inl (cI, 90, .inl (upd (upd (upd (rTs σ) (3 * sM σ + 0) 0) (3 * sM σ + 1) 0) (3 * sM σ + 2) 0))), (zT, .inl (cI, 90, .inl (upd (upd (upd (rTn σ) (3 * sM σ + 0) 0) (3 * sM σ + 1) 0) (3 * sM σ + 2) 0))), (zD, .inl (cI, 30, .inl (upd (rRd σ) (sM σ) (-1))))] := hD
          refine lv_aload_n hx hb dX4_add_47 rfl (lv_at hl 2 rfl) ?_
          refine lv_dup hx hb dX4_add_48 rfl ?_
          refine va_get (D := D) (ci := 4) (v := .int (nI (sM σ))) (C := RX4) (T := TX4) (N := 4) hx hb hts hiX4 hown hK hP 0 rfl rfl 0 (by decide) hf21 (fun _ h9 => h9) rfl dX4_add_49 ?_
          refine lv_iconst (v := 1) hx hb dX4_add_52 (by decide) ?_
          refine lv_iadd hx hb dX4_add_53 ?_
          refine lv_asi (show (nI (sM σ)) + 1 = nI (sM σ + 1) from nI_1 _) ?_
          refine va_put (D := D) (ci := 4) (v := .int (nI (sM σ + 1))) (ty := .int) (C := RX4) (T := TX4) (N := 4) hx hb hts hiX4 tyX4 tyX4_ok nmX4 hown hK hP hD hS 0 rfl rfl 0 (by decide) hf21 (fun _ h9 => h9) rfl (by decide +kernel) rfl rfl (Nat.le_of_ble_eq_true rfl) dX4_add_54 (fun H locs hP hD hS => ?_)
          have hP : va_P D vwCl [(zM, .inr (4, [.int (nI (sM σ + 1)), .ref zS, .ref zT, .ref zD])), (zS, .inl (cI, 90, .inl (upd (upd (upd (rTs σ) (3 * sM σ + 0) 0) (3 * sM σ + 1) 0) (3 * sM σ + 2) 0))), (zT, .inl (cI, 90, .inl (upd (upd (upd (rTn σ) (3 * sM σ + 0) 0) (3 * sM σ + 1) 0) (3 * sM σ + 2) 0))), (zD, .inl (cI, 30, .inl (upd (rRd σ) (sM σ) (-1))))] H := hP
          have hD : va_D A [(zM, .inr (4, [.int (nI (sM σ + 1)), .ref zS, .ref zT, .ref zD])), (zS, .inl (cI, 90, .inl (upd (upd (upd (rTs σ) (3 * sM σ + 0) 0) (3 * sM σ + 1) 0) (3 * sM σ + 2) 0))), (zT, .inl (cI, 90, .inl (upd (upd (upd (rTn σ) (3 * sM σ + 0) 0) (3 * sM σ + 1) 0) (3 * sM σ + 2) 0))), (zD, .inl (cI, 30, .inl (upd (rRd σ) (sM σ) (-1))))] := hD
          refine lv_iload_n hx hb dX4_add_57 rfl (lv_at hl 1 rfl) ?_
          have hP9 := hP
          have hD9 := hD
          exact W.iret (v := nI (sM σ)) hx hb hr (fun t ht hW => ⟨⟨nI (sM σ), (), rfl, rfl, ⟨⟨by rw [ht]; exact hP9, va_K.moved hW.alike hK, NW.warm hW hN⟩, hD9⟩⟩, hS.F ht⟩) hS.2.2 dX4_add_58
        · exact absurd (by decide) c9

set_option maxHeartbeats 4000000 in
set_option maxRecDepth 100000 in
theorem c_X4_hear (l : Launch) (D : va_G) (cI cZ : ClassId) (sz : Nat) (zM : Nat) (zS : Nat) (zT : Nat) (zD : Nat) (σ : ST) (m0 : Nat) (w0 : Nat) (f : Nat) (v : Int32) (hm : m0 < 30) (hw : w0 < 3) (hf : f < 7) : Met l yX4_hear wsX4_hear ({ frames := 1, cells := 0, slots := 0, locals := 21 }) (va_Pc [.ref zM, .int (nI m0), .int (nI w0), .int (nI f), .int v] (XW D cI cZ [(zM, .inr (4, [.int (nI (sM σ)), .ref zS, .ref zT, .ref zD])), (zS, .inl (cI, 90, .inl (rTs σ))), (zT, .inl (cI, 90, .inl (rTn σ)))] sz)) (va_Qi (fun (r : Int32) (u : Unit) => r = teR σ (3 * m0 + w0) f) (fun u => XB D cI cZ (va_A [(zM, .inr (4, [.int (nI (sM σ)), .ref zS, .ref zT, .ref zD])), (zS, .inl (cI, 90, .inl (rTs σ))), (zT, .inl (cI, 90, .inl (rTn σ)))] sz) [(zM, .inr (4, [.int (nI (sM (teS σ (3 * m0 + w0) f v))), .ref zS, .ref zT, .ref zD])), (zS, .inl (cI, 90, .inl (rTs (teS σ (3 * m0 + w0) f v)))), (zT, .inl (cI, 90, .inl (rTn (teS σ (3 * m0 + w0) f v))))]) (va_A [(zM, .inr (4, [.int (nI (sM σ)), .ref zS, .ref zT, .ref zD])), (zS, .inl (cI, 90, .inl (rTs σ))), (zT, .inl (cI, 90, .inl (rTn σ)))] sz)) 0 0 (va_A [(zM, .inr (4, [.int (nI (sM σ)), .ref zS, .ref zT, .ref zD])), (zS, .inl (cI, 90, .inl (rTs σ))), (zT, .inl (cI, 90, .inl (rTn σ)))] sz) := by
  refine Met.ofW (cc := cX4_hear) (maxL := 7) (ret := (some .int)) (by decide) rfl ?_
  intro p e s m args below meth c s₁ B hml hv
  obtain ⟨rfl, hsz, ⟨hP, hK, hN⟩, hD0⟩ := hv
  have hx := B.exec
  have hb := B.bytes
  have hr := B.returns
  have hts := atoms_spec (ws := wsX4_hear) B.pre
  have hown : s.vm.findClass RX4 = some m.cls := findClass_of_methodNamed B.named
  have hlocks := B.notSynchronized
  subst hsz
  have hD := hD0.self (sz := s.heap.size)
  generalize hAe : va_A [(zM, .inr (4, [.int (nI (sM σ)), .ref zS, .ref zT, .ref zD])), (zS, .inl (cI, 90, .inl (rTs σ))), (zT, .inl (cI, 90, .inl (rTn σ)))] s.heap.size = A at hD ⊢
  have hA : ∀ q : Nat, s.heap.size ≤ q → A q := fun q h => by rw [← hAe]; exact Or.inr h
  have hS : va_S A s.heap s.heap [] := va_S.rf
  have hf9 := hts (.fieldLink RX4 9 "BallCourt$Moments" "toldSo" "[I") (List.mem_of_getElem? (i := 1) (by decide +kernel))
  have hiX4 : ∀ w ∈ wsX40, w ∈ wsX4_hear := fun w h => List.mem_cons_of_mem _ (List.mem_append_right _ h)
  have hf15 := hts (.fieldLink RX4 15 "BallCourt$Moments" "toldNotSo" "[I") (List.mem_of_getElem? (i := 2) (by decide +kernel))
  have hl := lv_entry ([.ref zM, .int (nI m0), .int (nI w0), .int (nI f), .int v]) (n := 7) (Nat.le_of_ble_eq_true rfl)
  rw [lg_entry_eq]
  generalize (lg_sl ([.ref zM, .int (nI m0), .int (nI w0), .int (nI f), .int v]) ++ List.replicate (7 - (lg_sl ([.ref zM, .int (nI m0), .int (nI w0), .int (nI f), .int v])).length) Slot.unset).toArray = ls at hl ⊢
  have hl : lv_has ls 7 [(0, .ref zM), (1, .int (nI m0)), (2, .int (nI w0)), (3, .int (nI f)), (4, .int v)] := hl
  refine lv_iload_n hx hb dX4_hear_0 rfl (lv_at hl 1 rfl) ?_
  refine lv_iconst (v := nI 3) hx hb dX4_hear_1 (by decide) ?_
  refine lv_imul hx hb dX4_hear_2 ?_
  refine lv_asi (show (nI m0) * (nI 3) = nI (3 * m0) from by rw [pk_mul, Nat.mul_comm]) ?_
  refine lv_iload_n hx hb dX4_hear_3 rfl (lv_at hl 2 rfl) ?_
  refine lv_iadd hx hb dX4_hear_4 ?_
  refine lv_asi (show (nI (3 * m0)) + (nI w0) = nI (3 * m0 + w0) from nI_add _ _) ?_
  refine lv_istore (lv' := [(5, .int (nI (3 * m0 + w0))), (0, .ref zM), (1, .int (nI m0)), (2, .int (nI w0)), (3, .int (nI f)), (4, .int v)]) hx hb dX4_hear_5 hl (by decide) rfl (fun ls hl => ?_)
  refine lv_iconst (v := 2) hx hb dX4_hear_7 (by decide) ?_
  refine lv_istore (lv' := [(6, .int 2), (5, .int (nI (3 * m0 + w0))), (0, .ref zM), (1, .int (nI m0)), (2, .int (nI w0)), (3, .int (nI f)), (4, .int v)]) hx hb dX4_hear_8 hl (by decide) rfl (fun ls hl => ?_)
  refine wjoin (pcJ := 47) (lv := [(5, .int (nI (3 * m0 + w0))), (0, .ref zM), (1, .int (nI m0)), (2, .int (nI w0)), (3, .int (nI f)), (4, .int v), (6, .int (teR σ (3 * m0 + w0) f))]) (nL := 7) (st := []) (fun ls hl => ?_) (fun J47 => ?_)
  · skip
    refine lv_aload_n hx hb dX4_hear_47 rfl (lv_at hl 1 rfl) ?_
    refine va_get (D := D) (ci := 4) (v := .ref zS) (C := RX4) (T := TX4) (N := 4) hx hb hts hiX4 hown hK hP 0 rfl rfl 1 (by decide) hf9 (fun _ h9 => h9) rfl dX4_hear_48 ?_
    refine lv_iload hx hb dX4_hear_51 (lv_at hl 0 rfl) ?_
    refine lv_dup2_11 hx hb dX4_hear_53 rfl rfl ?_
    refine xald (k := (3 * m0 + w0)) hx hb hK hP 1 rfl (by omega) (by decide) dX4_hear_54 ?_
    refine lv_iconst (v := 1) hx hb dX4_hear_55 (by decide) ?_
    refine lv_iload_n hx hb dX4_hear_56 rfl (lv_at hl 4 rfl) ?_
    refine lv_ishl hx hb dX4_hear_57 ?_
    refine lv_asi (show 1 <<< ((nI f) &&& 31) = nI (2 ^ f) from shl1 f (by omega)) ?_
    refine lv_iconst (v := (-1)) hx hb dX4_hear_58 (by decide) ?_
    refine lv_ixor hx hb dX4_hear_59 ?_
    refine lv_iand hx hb dX4_hear_60 ?_
    refine xast (k := (3 * m0 + w0)) hx hb hK hP hD hS 1 rfl (by omega) (by decide) dX4_hear_61 (fun H locs hP hD hS => ?_)
    have hP : va_P D vwCl [(zM, .inr (4, [.int (nI (sM σ)), .ref zS, .ref zT, .ref zD])), (zS, .inl (cI, 90, .inl (upd (rTs σ) (3 * m0 + w0) ((rTs σ (3 * m0 + w0)) &&& ((nI (2 ^ f)) ^^^ (-1)))))), (zT, .inl (cI, 90, .inl (rTn σ)))] H := hP
    have hD : va_D A [(zM, .inr (4, [.int (nI (sM σ)), .ref zS, .ref zT, .ref zD])), (zS, .inl (cI, 90, .inl (upd (rTs σ) (3 * m0 + w0) ((rTs σ (3 * m0 + w0)) &&& ((nI (2 ^ f)) ^^^ (-1)))))), (zT, .inl (cI, 90, .inl (rTn σ)))] := hD
    refine lv_aload_n hx hb dX4_hear_62 rfl (lv_at hl 1 rfl) ?_
    refine va_get (D := D) (ci := 4) (v := .ref zT) (C := RX4) (T := TX4) (N := 4) hx hb hts hiX4 hown hK hP 0 rfl rfl 2 (by decide) hf15 (fun _ h9 => h9) rfl dX4_hear_63 ?_
    refine lv_iload hx hb dX4_hear_66 (lv_at hl 0 rfl) ?_
    refine lv_dup2_11 hx hb dX4_hear_68 rfl rfl ?_
    refine xald (k := (3 * m0 + w0)) hx hb hK hP 2 rfl (by omega) (by decide) dX4_hear_69 ?_
    refine lv_iconst (v := 1) hx hb dX4_hear_70 (by decide) ?_
    refine lv_iload_n hx hb dX4_hear_71 rfl (lv_at hl 4 rfl) ?_
    refine lv_ishl hx hb dX4_hear_72 ?_
    refine lv_asi (show 1 <<< ((nI f) &&& 31) = nI (2 ^ f) from shl1 f (by omega)) ?_
    refine lv_iconst (v := (-1)) hx hb dX4_hear_73 (by decide) ?_
    refine lv_ixor hx hb dX4_hear_74 ?_
    refine lv_iand hx hb dX4_hear_75 ?_
    refine xast (k := (3 * m0 + w0)) hx hb hK hP hD hS 2 rfl (by omega) (by decide) dX4_hear_76 (fun H locs hP hD hS => ?_)
    have hP : va_P D vwCl [(zM, .inr (4, [.int (nI (sM σ)), .ref zS, .ref zT, .ref zD])), (zS, .inl (cI, 90, .inl (upd (rTs σ) (3 * m0 + w0) ((rTs σ (3 * m0 + w0)) &&& ((nI (2 ^ f)) ^^^ (-1)))))), (zT, .inl (cI, 90, .inl (upd (rTn σ) (3 * m0 + w0) ((rTn σ (3 * m0 + w0)) &&& ((nI (2 ^ f)) ^^^ (-1))))))] H := hP
    have hD : va_D A [(zM, .inr (4, [.int (nI (sM σ)), .ref zS, .ref zT, .ref zD])), (zS, .inl (cI, 90, .inl (upd (rTs σ) (3 * m0 + w0) ((rTs σ (3 * m0 + w0)) &&& ((nI (2 ^ f)) ^^^ (-1)))))), (zT, .inl (cI, 90, .inl (upd (rTn σ) (3 * m0 + w0) ((rTn σ (3 * m0 + w0)) &&& ((nI (2 ^ f)) ^^^ (-1))))))] := hD
    refine lv_iload hx hb dX4_hear_77 (lv_at hl 5 rfl) ?_
    refine lv_iconst (v := 1) hx hb dX4_hear_79 (by decide) ?_
    refine lv_icmp_ne (tgt := 99) hx hb dX4_hear_80 (by decide) (fun c80 => ?_) (fun c80 => ?_)
    · skip
      refine lv_iload hx hb dX4_hear_99 (lv_at hl 5 rfl) ?_
      refine lv_if_ne (tgt := 117) hx hb dX4_hear_101 (by decide) (fun c101 => ?_) (fun c101 => ?_)
      · skip
        have e_rw : (upd (rTs σ) (3 * m0 + w0) ((rTs σ (3 * m0 + w0)) &&& ((nI (2 ^ f)) ^^^ (-1))) : Nat → Int32) = rTs (teS σ (3 * m0 + w0) f v) := (te_s0 σ _ f c80)
        have hP : va_P D vwCl [(zM, .inr (4, [.int (nI (sM σ)), .ref zS, .ref zT, .ref zD])), (zS, .inl (cI, 90, .inl (rTs (teS σ (3 * m0 + w0) f v)))), (zT, .inl (cI, 90, .inl (upd (rTn σ) (3 * m0 + w0) ((rTn σ (3 * m0 + w0)) &&& ((nI (2 ^ f)) ^^^ (-1))))))] H := by rw [← e_rw]; exact hP
        have hD : va_D A [(zM, .inr (4, [.int (nI (sM σ)), .ref zS, .ref zT, .ref zD])), (zS, .inl (cI, 90, .inl (rTs (teS σ (3 * m0 + w0) f v)))), (zT, .inl (cI, 90, .inl (upd (rTn σ) (3 * m0 + w0) ((rTn σ (3 * m0 + w0)) &&& ((nI (2 ^ f)) ^^^ (-1))))))] := by rw [← e_rw]; exact hD
        clear e_rw
        have e_rw : (upd (rTn σ) (3 * m0 + w0) ((rTn σ (3 * m0 + w0)) &&& ((nI (2 ^ f)) ^^^ (-1))) : Nat → Int32) = rTn (teS σ (3 * m0 + w0) f v) := (te_nn σ _ f c101)
        have hP : va_P D vwCl [(zM, .inr (4, [.int (nI (sM σ)), .ref zS, .ref zT, .ref zD])), (zS, .inl (cI, 90, .inl (rTs (teS σ (3 * m0 + w0) f v)))), (zT, .inl (cI, 90, .inl (rTn (teS σ (3 * m0 + w0) f v))))] H := by rw [← e_rw]; exact hP
        have hD : va_D A [(zM, .inr (4, [.int (nI (sM σ)), .ref zS, .ref zT, .ref zD])), (zS, .inl (cI, 90, .inl (rTs (teS σ (3 * m0 + w0) f v)))), (zT, .inl (cI, 90, .inl (rTn (teS σ (3 * m0 + w0) f v))))] := by rw [← e_rw]; exact hD
        clear e_rw
        refine lv_iload hx hb dX4_hear_117 (lv_at hl 6 rfl) ?_
        have hP9 := hP
        have hD9 := hD
        exact W.iret (v := teR σ (3 * m0 + w0) f) hx hb hr (fun t ht hW => ⟨⟨teR σ (3 * m0 + w0) f, (), rfl, rfl, ⟨⟨by rw [ht]; exact hP9, va_K.moved hW.alike hK, NW.warm hW hN⟩, hD9⟩⟩, hS.F ht⟩) hS.2.2 dX4_hear_119
      · skip
        refine lv_aload_n hx hb dX4_hear_104 rfl (lv_at hl 1 rfl) ?_
        refine va_get (D := D) (ci := 4) (v := .ref zT) (C := RX4) (T := TX4) (N := 4) hx hb hts hiX4 hown hK hP 0 rfl rfl 2 (by decide) hf15 (fun _ h9 => h9) rfl dX4_hear_105 ?_
        refine lv_iload hx hb dX4_hear_108 (lv_at hl 0 rfl) ?_
        refine lv_dup2_11 hx hb dX4_hear_110 rfl rfl ?_
        refine xald (k := (3 * m0 + w0)) hx hb hK hP 2 rfl (by omega) (by decide) dX4_hear_111 ?_
        refine lv_iconst (v := 1) hx hb dX4_hear_112 (by decide) ?_
        refine lv_iload_n hx hb dX4_hear_113 rfl (lv_at hl 4 rfl) ?_
        refine lv_ishl hx hb dX4_hear_114 ?_
        refine lv_asi (show 1 <<< ((nI f) &&& 31) = nI (2 ^ f) from shl1 f (by omega)) ?_
        refine lv_ior hx hb dX4_hear_115 ?_
        refine xast (k := (3 * m0 + w0)) hx hb hK hP hD hS 2 rfl (by omega) (by decide) dX4_hear_116 (fun H locs hP hD hS => ?_)
        have hP : va_P D vwCl [(zM, .inr (4, [.int (nI (sM σ)), .ref zS, .ref zT, .ref zD])), (zS, .inl (cI, 90, .inl (upd (rTs σ) (3 * m0 + w0) ((rTs σ (3 * m0 + w0)) &&& ((nI (2 ^ f)) ^^^ (-1)))))), (zT, .inl (cI, 90, .inl (upd (upd (rTn σ) (3 * m0 + w0) ((rTn σ (3 * m0 + w0)) &&& ((nI (2 ^ f)) ^^^ (-1)))) (3 * m0 + w0) (((upd (rTn σ) (3 * m0 + w0) ((rTn σ (3 * m0 + w0)) &&& ((nI (2 ^ f)) ^^^ (-1)))) (3 * m0 + w0)) ||| (nI (2 ^ f))))))] H := hP
        have hD : va_D A [(zM, .inr (4, [.int (nI (sM σ)), .ref zS, .ref zT, .ref zD])), (zS, .inl (cI, 90, .inl (upd (rTs σ) (3 * m0 + w0) ((rTs σ (3 * m0 + w0)) &&& ((nI (2 ^ f)) ^^^ (-1)))))), (zT, .inl (cI, 90, .inl (upd (upd (rTn σ) (3 * m0 + w0) ((rTn σ (3 * m0 + w0)) &&& ((nI (2 ^ f)) ^^^ (-1)))) (3 * m0 + w0) (((upd (rTn σ) (3 * m0 + w0) ((rTn σ (3 * m0 + w0)) &&& ((nI (2 ^ f)) ^^^ (-1)))) (3 * m0 + w0)) ||| (nI (2 ^ f))))))] := hD
        have e_rw : (upd (rTs σ) (3 * m0 + w0) ((rTs σ (3 * m0 + w0)) &&& ((nI (2 ^ f)) ^^^ (-1))) : Nat → Int32) = rTs (teS σ (3 * m0 + w0) f v) := (te_s0 σ _ f c80)
        have hP : va_P D vwCl [(zM, .inr (4, [.int (nI (sM σ)), .ref zS, .ref zT, .ref zD])), (zS, .inl (cI, 90, .inl (rTs (teS σ (3 * m0 + w0) f v)))), (zT, .inl (cI, 90, .inl (upd (upd (rTn σ) (3 * m0 + w0) ((rTn σ (3 * m0 + w0)) &&& ((nI (2 ^ f)) ^^^ (-1)))) (3 * m0 + w0) (((upd (rTn σ) (3 * m0 + w0) ((rTn σ (3 * m0 + w0)) &&& ((nI (2 ^ f)) ^^^ (-1)))) (3 * m0 + w0)) ||| (nI (2 ^ f))))))] H := by rw [← e_rw]; exact hP
        have hD : va_D A [(zM, .inr (4, [.int (nI (sM σ)), .ref zS, .ref zT, .ref zD])), (zS, .inl (cI, 90, .inl (rTs (teS σ (3 * m0 + w0) f v)))), (zT, .inl (cI, 90, .inl (upd (upd (rTn σ) (3 * m0 + w0) ((rTn σ (3 * m0 + w0)) &&& ((nI (2 ^ f)) ^^^ (-1)))) (3 * m0 + w0) (((upd (rTn σ) (3 * m0 + w0) ((rTn σ (3 * m0 + w0)) &&& ((nI (2 ^ f)) ^^^ (-1)))) (3 * m0 + w0)) ||| (nI (2 ^ f))))))] := by rw [← e_rw]; exact hD
        clear e_rw
        have e_rw : (upd (upd (rTn σ) (3 * m0 + w0) ((rTn σ (3 * m0 + w0)) &&& ((nI (2 ^ f)) ^^^ (-1)))) (3 * m0 + w0) (((upd (rTn σ) (3 * m0 + w0) ((rTn σ (3 * m0 + w0)) &&& ((nI (2 ^ f)) ^^^ (-1)))) (3 * m0 + w0)) ||| (nI (2 ^ f))) : Nat → Int32) = rTn (teS σ (3 * m0 + w0) f v) := (by rw [c101]; exact te_n0 σ _ f)
        have hP : va_P D vwCl [(zM, .inr (4, [.int (nI (sM σ)), .ref zS, .ref zT, .ref zD])), (zS, .inl (cI, 90, .inl (rTs (teS σ (3 * m0 + w0) f v)))), (zT, .inl (cI, 90, .inl (rTn (teS σ (3 * m0 + w0) f v))))] H := by rw [← e_rw]; exact hP
        have hD : va_D A [(zM, .inr (4, [.int (nI (sM σ)), .ref zS, .ref zT, .ref zD])), (zS, .inl (cI, 90, .inl (rTs (teS σ (3 * m0 + w0) f v)))), (zT, .inl (cI, 90, .inl (rTn (teS σ (3 * m0 + w0) f v))))] := by rw [← e_rw]; exact hD
        clear e_rw
        refine lv_iload hx hb dX4_hear_117 (lv_at hl 6 rfl) ?_
        have hP9 := hP
        have hD9 := hD
        exact W.iret (v := teR σ (3 * m0 + w0) f) hx hb hr (fun t ht hW => ⟨⟨teR σ (3 * m0 + w0) f, (), rfl, rfl, ⟨⟨by rw [ht]; exact hP9, va_K.moved hW.alike hK, NW.warm hW hN⟩, hD9⟩⟩, hS.F ht⟩) hS.2.2 dX4_hear_119
    · skip
      refine lv_aload_n hx hb dX4_hear_83 rfl (lv_at hl 1 rfl) ?_
      refine va_get (D := D) (ci := 4) (v := .ref zS) (C := RX4) (T := TX4) (N := 4) hx hb hts hiX4 hown hK hP 0 rfl rfl 1 (by decide) hf9 (fun _ h9 => h9) rfl dX4_hear_84 ?_
      refine lv_iload hx hb dX4_hear_87 (lv_at hl 0 rfl) ?_
      refine lv_dup2_11 hx hb dX4_hear_89 rfl rfl ?_
      refine xald (k := (3 * m0 + w0)) hx hb hK hP 1 rfl (by omega) (by decide) dX4_hear_90 ?_
      refine lv_iconst (v := 1) hx hb dX4_hear_91 (by decide) ?_
      refine lv_iload_n hx hb dX4_hear_92 rfl (lv_at hl 4 rfl) ?_
      refine lv_ishl hx hb dX4_hear_93 ?_
      refine lv_asi (show 1 <<< ((nI f) &&& 31) = nI (2 ^ f) from shl1 f (by omega)) ?_
      refine lv_ior hx hb dX4_hear_94 ?_
      refine xast (k := (3 * m0 + w0)) hx hb hK hP hD hS 1 rfl (by omega) (by decide) dX4_hear_95 (fun H locs hP hD hS => ?_)
      have hP : va_P D vwCl [(zM, .inr (4, [.int (nI (sM σ)), .ref zS, .ref zT, .ref zD])), (zS, .inl (cI, 90, .inl (upd (upd (rTs σ) (3 * m0 + w0) ((rTs σ (3 * m0 + w0)) &&& ((nI (2 ^ f)) ^^^ (-1)))) (3 * m0 + w0) (((upd (rTs σ) (3 * m0 + w0) ((rTs σ (3 * m0 + w0)) &&& ((nI (2 ^ f)) ^^^ (-1)))) (3 * m0 + w0)) ||| (nI (2 ^ f)))))), (zT, .inl (cI, 90, .inl (upd (rTn σ) (3 * m0 + w0) ((rTn σ (3 * m0 + w0)) &&& ((nI (2 ^ f)) ^^^ (-1))))))] H := hP
      have hD : va_D A [(zM, .inr (4, [.int (nI (sM σ)), .ref zS, .ref zT, .ref zD])), (zS, .inl (cI, 90, .inl (upd (upd (rTs σ) (3 * m0 + w0) ((rTs σ (3 * m0 + w0)) &&& ((nI (2 ^ f)) ^^^ (-1)))) (3 * m0 + w0) (((upd (rTs σ) (3 * m0 + w0) ((rTs σ (3 * m0 + w0)) &&& ((nI (2 ^ f)) ^^^ (-1)))) (3 * m0 + w0)) ||| (nI (2 ^ f)))))), (zT, .inl (cI, 90, .inl (upd (rTn σ) (3 * m0 + w0) ((rTn σ (3 * m0 + w0)) &&& ((nI (2 ^ f)) ^^^ (-1))))))] := hD
      refine lv_goto (tgt := 117) hx hb dX4_hear_96 (by decide) ?_
      have e_rw : (upd (upd (rTs σ) (3 * m0 + w0) ((rTs σ (3 * m0 + w0)) &&& ((nI (2 ^ f)) ^^^ (-1)))) (3 * m0 + w0) (((upd (rTs σ) (3 * m0 + w0) ((rTs σ (3 * m0 + w0)) &&& ((nI (2 ^ f)) ^^^ (-1)))) (3 * m0 + w0)) ||| (nI (2 ^ f))) : Nat → Int32) = rTs (teS σ (3 * m0 + w0) f v) := (by rw [c80]; exact te_s1 σ _ f)
      have hP : va_P D vwCl [(zM, .inr (4, [.int (nI (sM σ)), .ref zS, .ref zT, .ref zD])), (zS, .inl (cI, 90, .inl (rTs (teS σ (3 * m0 + w0) f v)))), (zT, .inl (cI, 90, .inl (upd (rTn σ) (3 * m0 + w0) ((rTn σ (3 * m0 + w0)) &&& ((nI (2 ^ f)) ^^^ (-1))))))] H := by rw [← e_rw]; exact hP
      have hD : va_D A [(zM, .inr (4, [.int (nI (sM σ)), .ref zS, .ref zT, .ref zD])), (zS, .inl (cI, 90, .inl (rTs (teS σ (3 * m0 + w0) f v)))), (zT, .inl (cI, 90, .inl (upd (rTn σ) (3 * m0 + w0) ((rTn σ (3 * m0 + w0)) &&& ((nI (2 ^ f)) ^^^ (-1))))))] := by rw [← e_rw]; exact hD
      clear e_rw
      have e_rw : (upd (rTn σ) (3 * m0 + w0) ((rTn σ (3 * m0 + w0)) &&& ((nI (2 ^ f)) ^^^ (-1))) : Nat → Int32) = rTn (teS σ (3 * m0 + w0) f v) := (by rw [c80]; exact te_n1 σ _ f)
      have hP : va_P D vwCl [(zM, .inr (4, [.int (nI (sM σ)), .ref zS, .ref zT, .ref zD])), (zS, .inl (cI, 90, .inl (rTs (teS σ (3 * m0 + w0) f v)))), (zT, .inl (cI, 90, .inl (rTn (teS σ (3 * m0 + w0) f v))))] H := by rw [← e_rw]; exact hP
      have hD : va_D A [(zM, .inr (4, [.int (nI (sM σ)), .ref zS, .ref zT, .ref zD])), (zS, .inl (cI, 90, .inl (rTs (teS σ (3 * m0 + w0) f v)))), (zT, .inl (cI, 90, .inl (rTn (teS σ (3 * m0 + w0) f v))))] := by rw [← e_rw]; exact hD
      clear e_rw
      refine lv_iload hx hb dX4_hear_117 (lv_at hl 6 rfl) ?_
      have hP9 := hP
      have hD9 := hD
      exact W.iret (v := teR σ (3 * m0 + w0) f) hx hb hr (fun t ht hW => ⟨⟨teR σ (3 * m0 + w0) f, (), rfl, rfl, ⟨⟨by rw [ht]; exact hP9, va_K.moved hW.alike hK, NW.warm hW hN⟩, hD9⟩⟩, hS.F ht⟩) hS.2.2 dX4_hear_119
  · skip
    refine lv_aload_n hx hb dX4_hear_10 rfl (lv_at hl 2 rfl) ?_
    refine va_get (D := D) (ci := 4) (v := .ref zS) (C := RX4) (T := TX4) (N := 4) hx hb hts hiX4 hown hK hP 0 rfl rfl 1 (by decide) hf9 (fun _ h9 => h9) rfl dX4_hear_11 ?_
    refine lv_iload hx hb dX4_hear_14 (lv_at hl 1 rfl) ?_
    refine xald (k := (3 * m0 + w0)) hx hb hK hP 1 rfl (by omega) (by decide) dX4_hear_16 ?_
    refine lv_iload_n hx hb dX4_hear_17 rfl (lv_at hl 5 rfl) ?_
    refine xpSN (host := "BallCourt") (rest := []) ⟨hx, hb, hml, hown, hts⟩ (c_X5_hasBit l D cI cZ (rTs σ (3 * m0 + w0)) (nI f)) (va_cnB 2 hts gX4_hear_X5_hasBit_n25 rfl rfl rfl (NW.m hN 5 rfl) (hts (.initialized RX5) (List.mem_of_getElem? (i := 4) (by decide +kernel))) (by decide +kernel) ⟨Nat.le_of_ble_eq_true rfl, Nat.le_of_ble_eq_true rfl⟩) (hts (.static yX5_hasBit) (List.mem_of_getElem? (i := 3) (by decide +kernel))) hP [] rfl hK hN rfl hl.1 rfl (Nat.le_of_ble_eq_true rfl) dX4_hear_18 ⟨Nat.zero_le _, Nat.zero_le _⟩ (fun r18 e18 => ?_)
    subst e18
    refine lv_if_eq (tgt := 30) hx hb dX4_hear_21 (by decide) (fun c21 => ?_) (fun c21 => ?_)
    · skip
      have c21 := b2_0 c21
      refine lv_aload_n hx hb dX4_hear_30 rfl (lv_at hl 2 rfl) ?_
      refine va_get (D := D) (ci := 4) (v := .ref zT) (C := RX4) (T := TX4) (N := 4) hx hb hts hiX4 hown hK hP 0 rfl rfl 2 (by decide) hf15 (fun _ h9 => h9) rfl dX4_hear_31 ?_
      refine lv_iload hx hb dX4_hear_34 (lv_at hl 1 rfl) ?_
      refine xald (k := (3 * m0 + w0)) hx hb hK hP 2 rfl (by omega) (by decide) dX4_hear_36 ?_
      refine lv_iload_n hx hb dX4_hear_37 rfl (lv_at hl 5 rfl) ?_
      refine xpSN (host := "BallCourt") (rest := []) ⟨hx, hb, hml, hown, hts⟩ (c_X5_hasBit l D cI cZ (rTn σ (3 * m0 + w0)) (nI f)) (va_cnB 2 hts gX4_hear_X5_hasBit_n25 rfl rfl rfl (NW.m hN 5 rfl) (hts (.initialized RX5) (List.mem_of_getElem? (i := 4) (by decide +kernel))) (by decide +kernel) ⟨Nat.le_of_ble_eq_true rfl, Nat.le_of_ble_eq_true rfl⟩) (hts (.static yX5_hasBit) (List.mem_of_getElem? (i := 3) (by decide +kernel))) hP [] rfl hK hN rfl hl.1 rfl (Nat.le_of_ble_eq_true rfl) dX4_hear_38 ⟨Nat.zero_le _, Nat.zero_le _⟩ (fun r38 e38 => ?_)
      subst e38
      refine lv_if_eq (tgt := 47) hx hb dX4_hear_41 (by decide) (fun c41 => ?_) (fun c41 => ?_)
      · skip
        have c41 := b2_0 c41
        have hl : lv_has ls 7 [(6, .int (teR σ (3 * m0 + w0) f)), (5, .int (nI (3 * m0 + w0))), (0, .ref zM), (1, .int (nI m0)), (2, .int (nI w0)), (3, .int (nI f)), (4, .int v)] := by rw [← (show 2 = teR σ (3 * m0 + w0) f from (by rw [teR, if_neg (by rw [c21]; decide), if_neg (by rw [c41]; decide)]))]; exact hl
        exact J47 ls (lv_sub hl [1, 2, 3, 4, 5, 6, 0] rfl)
      · skip
        have c41 := b2_1 c41
        refine lv_iconst (v := 0) hx hb dX4_hear_44 (by decide) ?_
        refine lv_istore (lv' := [(6, .int 0), (5, .int (nI (3 * m0 + w0))), (0, .ref zM), (1, .int (nI m0)), (2, .int (nI w0)), (3, .int (nI f)), (4, .int v)]) hx hb dX4_hear_45 hl (by decide) rfl (fun ls hl => ?_)
        have hl : lv_has ls 7 [(6, .int (teR σ (3 * m0 + w0) f)), (5, .int (nI (3 * m0 + w0))), (0, .ref zM), (1, .int (nI m0)), (2, .int (nI w0)), (3, .int (nI f)), (4, .int v)] := by rw [← (show 0 = teR σ (3 * m0 + w0) f from (by rw [teR, if_neg (by rw [c21]; decide), if_pos c41]))]; exact hl
        exact J47 ls (lv_sub hl [1, 2, 3, 4, 5, 6, 0] rfl)
    · skip
      have c21 := b2_1 c21
      refine lv_iconst (v := 1) hx hb dX4_hear_24 (by decide) ?_
      refine lv_istore (lv' := [(6, .int 1), (5, .int (nI (3 * m0 + w0))), (0, .ref zM), (1, .int (nI m0)), (2, .int (nI w0)), (3, .int (nI f)), (4, .int v)]) hx hb dX4_hear_25 hl (by decide) rfl (fun ls hl => ?_)
      refine lv_goto (tgt := 47) hx hb dX4_hear_27 (by decide) ?_
      have hl : lv_has ls 7 [(6, .int (teR σ (3 * m0 + w0) f)), (5, .int (nI (3 * m0 + w0))), (0, .ref zM), (1, .int (nI m0)), (2, .int (nI w0)), (3, .int (nI f)), (4, .int v)] := by rw [← (show 1 = teR σ (3 * m0 + w0) f from (by rw [teR, if_pos c21]))]; exact hl
      exact J47 ls (lv_sub hl [1, 2, 3, 4, 5, 6, 0] rfl)

set_option maxHeartbeats 4000000 in
set_option maxRecDepth 100000 in
theorem c_X1_add (l : Launch) (D : va_G) (cI cZ : ClassId) (sz : Nat) (zC : Nat) (zQ : Nat) (zP : Nat) (zN : Nat) (σ : ST) (kk : Int32) (rr : Int32) (nn : Int32) (hc : sC σ < 12) : Met l yX1_add wsX1_add ({ frames := 0, cells := 0, slots := 0, locals := 0 }) (va_Pc [.ref zC, .int kk, .int rr, .int nn] (XW D cI cZ [(zC, .inr (1, [.int (nI (sC σ)), .ref zQ, .ref zP, .ref zN])), (zQ, .inl (cI, 12, .inl (rCk σ))), (zP, .inl (cI, 12, .inl (rCr σ))), (zN, .inl (cI, 12, .inl (rCn σ)))] sz)) (va_Qi (fun (r : Int32) (u : Unit) => r = nI (sC σ)) (fun u => XB D cI cZ (va_A [(zC, .inr (1, [.int (nI (sC σ)), .ref zQ, .ref zP, .ref zN])), (zQ, .inl (cI, 12, .inl (rCk σ))), (zP, .inl (cI, 12, .inl (rCr σ))), (zN, .inl (cI, 12, .inl (rCn σ)))] sz) [(zC, .inr (1, [.int (nI (sC (caS σ kk rr nn))), .ref zQ, .ref zP, .ref zN])), (zQ, .inl (cI, 12, .inl (rCk (caS σ kk rr nn)))), (zP, .inl (cI, 12, .inl (rCr (caS σ kk rr nn)))), (zN, .inl (cI, 12, .inl (rCn (caS σ kk rr nn))))]) (va_A [(zC, .inr (1, [.int (nI (sC σ)), .ref zQ, .ref zP, .ref zN])), (zQ, .inl (cI, 12, .inl (rCk σ))), (zP, .inl (cI, 12, .inl (rCr σ))), (zN, .inl (cI, 12, .inl (rCn σ)))] sz)) 0 0 (va_A [(zC, .inr (1, [.int (nI (sC σ)), .ref zQ, .ref zP, .ref zN])), (zQ, .inl (cI, 12, .inl (rCk σ))), (zP, .inl (cI, 12, .inl (rCr σ))), (zN, .inl (cI, 12, .inl (rCn σ)))] sz) := by
  refine Met.ofW (cc := cX1_add) (maxL := 5) (ret := (some .int)) (by decide) rfl ?_
  intro p e s m args below meth c s₁ B hml hv
  obtain ⟨rfl, hsz, ⟨hP, hK, hN⟩, hD0⟩ := hv
  have hx := B.exec
  have hb := B.bytes
  have hr := B.returns
  have hts := atoms_spec (ws := wsX1_add) B.pre
  have hown : s.vm.findClass RX1 = some m.cls := findClass_of_methodNamed B.named
  have hlocks := B.notSynchronized
  subst hsz
  have hD := hD0.self (sz := s.heap.size)
  generalize hAe : va_A [(zC, .inr (1, [.int (nI (sC σ)), .ref zQ, .ref zP, .ref zN])), (zQ, .inl (cI, 12, .inl (rCk σ))), (zP, .inl (cI, 12, .inl (rCr σ))), (zN, .inl (cI, 12, .inl (rCn σ)))] s.heap.size = A at hD ⊢
  have hA : ∀ q : Nat, s.heap.size ≤ q → A q := fun q h => by rw [← hAe]; exact Or.inr h
  have hS : va_S A s.heap s.heap [] := va_S.rf
  have hf21 := hts (.fieldLink RX1 21 "BallCourt$Cases" "count" "I") (List.mem_of_getElem? (i := 1) (by decide +kernel))
  have hiX1 : ∀ w ∈ wsX10, w ∈ wsX1_add := fun w h => List.mem_cons_of_mem _ (List.mem_append_right _ h)
  have hf9 := hts (.fieldLink RX1 9 "BallCourt$Cases" "kind" "[I") (List.mem_of_getElem? (i := 2) (by decide +kernel))
  have hf15 := hts (.fieldLink RX1 15 "BallCourt$Cases" "ruling" "[I") (List.mem_of_getElem? (i := 3) (by decide +kernel))
  have hf18 := hts (.fieldLink RX1 18 "BallCourt$Cases" "names" "[I") (List.mem_of_getElem? (i := 4) (by decide +kernel))
  have hl := lv_entry ([.ref zC, .int kk, .int rr, .int nn]) (n := 5) (Nat.le_of_ble_eq_true rfl)
  rw [lg_entry_eq]
  generalize (lg_sl ([.ref zC, .int kk, .int rr, .int nn]) ++ List.replicate (5 - (lg_sl ([.ref zC, .int kk, .int rr, .int nn])).length) Slot.unset).toArray = ls at hl ⊢
  have hl : lv_has ls 5 [(0, .ref zC), (1, .int kk), (2, .int rr), (3, .int nn)] := hl
  refine lv_aload_n hx hb dX1_add_0 rfl (lv_at hl 0 rfl) ?_
  refine va_get (D := D) (ci := 1) (v := .int (nI (sC σ))) (C := RX1) (T := TX1) (N := 4) hx hb hts hiX1 hown hK hP 0 rfl rfl 0 (by decide) hf21 (fun _ h9 => h9) rfl dX1_add_1 ?_
  refine lv_istore (lv' := [(4, .int (nI (sC σ))), (0, .ref zC), (1, .int kk), (2, .int rr), (3, .int nn)]) hx hb dX1_add_4 hl (by decide) rfl (fun ls hl => ?_)
  refine lv_aload_n hx hb dX1_add_6 rfl (lv_at hl 1 rfl) ?_
  refine va_get (D := D) (ci := 1) (v := .ref zQ) (C := RX1) (T := TX1) (N := 4) hx hb hts hiX1 hown hK hP 0 rfl rfl 1 (by decide) hf9 (fun _ h9 => h9) rfl dX1_add_7 ?_
  refine lv_iload hx hb dX1_add_10 (lv_at hl 0 rfl) ?_
  refine lv_iload_n hx hb dX1_add_12 rfl (lv_at hl 2 rfl) ?_
  refine xast (k := (sC σ)) hx hb hK hP hD hS 1 rfl (by omega) (by decide) dX1_add_13 (fun H locs hP hD hS => ?_)
  have hP : va_P D vwCl [(zC, .inr (1, [.int (nI (sC σ)), .ref zQ, .ref zP, .ref zN])), (zQ, .inl (cI, 12, .inl (upd (rCk σ) (sC σ) kk))), (zP, .inl (cI, 12, .inl (rCr σ))), (zN, .inl (cI, 12, .inl (rCn σ)))] H := hP
  have hD : va_D A [(zC, .inr (1, [.int (nI (sC σ)), .ref zQ, .ref zP, .ref zN])), (zQ, .inl (cI, 12, .inl (upd (rCk σ) (sC σ) kk))), (zP, .inl (cI, 12, .inl (rCr σ))), (zN, .inl (cI, 12, .inl (rCn σ)))] := hD
  refine lv_aload_n hx hb dX1_add_14 rfl (lv_at hl 1 rfl) ?_
  refine va_get (D := D) (ci := 1) (v := .ref zP) (C := RX1) (T := TX1) (N := 4) hx hb hts hiX1 hown hK hP 0 rfl rfl 2 (by decide) hf15 (fun _ h9 => h9) rfl dX1_add_15 ?_
  refine lv_iload hx hb dX1_add_18 (lv_at hl 0 rfl) ?_
  refine lv_iload_n hx hb dX1_add_20 rfl (lv_at hl 3 rfl) ?_
  refine xast (k := (sC σ)) hx hb hK hP hD hS 2 rfl (by omega) (by decide) dX1_add_21 (fun H locs hP hD hS => ?_)
  have hP : va_P D vwCl [(zC, .inr (1, [.int (nI (sC σ)), .ref zQ, .ref zP, .ref zN])), (zQ, .inl (cI, 12, .inl (upd (rCk σ) (sC σ) kk))), (zP, .inl (cI, 12, .inl (upd (rCr σ) (sC σ) rr))), (zN, .inl (cI, 12, .inl (rCn σ)))] H := hP
  have hD : va_D A [(zC, .inr (1, [.int (nI (sC σ)), .ref zQ, .ref zP, .ref zN])), (zQ, .inl (cI, 12, .inl (upd (rCk σ) (sC σ) kk))), (zP, .inl (cI, 12, .inl (upd (rCr σ) (sC σ) rr))), (zN, .inl (cI, 12, .inl (rCn σ)))] := hD
  refine lv_aload_n hx hb dX1_add_22 rfl (lv_at hl 1 rfl) ?_
  refine va_get (D := D) (ci := 1) (v := .ref zN) (C := RX1) (T := TX1) (N := 4) hx hb hts hiX1 hown hK hP 0 rfl rfl 3 (by decide) hf18 (fun _ h9 => h9) rfl dX1_add_23 ?_
  refine lv_iload hx hb dX1_add_26 (lv_at hl 0 rfl) ?_
  refine lv_iload_n hx hb dX1_add_28 rfl (lv_at hl 4 rfl) ?_
  refine xast (k := (sC σ)) hx hb hK hP hD hS 3 rfl (by omega) (by decide) dX1_add_29 (fun H locs hP hD hS => ?_)
  have hP : va_P D vwCl [(zC, .inr (1, [.int (nI (sC σ)), .ref zQ, .ref zP, .ref zN])), (zQ, .inl (cI, 12, .inl (upd (rCk σ) (sC σ) kk))), (zP, .inl (cI, 12, .inl (upd (rCr σ) (sC σ) rr))), (zN, .inl (cI, 12, .inl (upd (rCn σ) (sC σ) nn)))] H := hP
  have hD : va_D A [(zC, .inr (1, [.int (nI (sC σ)), .ref zQ, .ref zP, .ref zN])), (zQ, .inl (cI, 12, .inl (upd (rCk σ) (sC σ) kk))), (zP, .inl (cI, 12, .inl (upd (rCr σ) (sC σ) rr))), (zN, .inl (cI, 12, .inl (upd (rCn σ) (sC σ) nn)))] := hD
  refine lv_aload_n hx hb dX1_add_30 rfl (lv_at hl 1 rfl) ?_
  refine lv_dup hx hb dX1_add_31 rfl ?_
  refine va_get (D := D) (ci := 1) (v := .int (nI (sC σ))) (C := RX1) (T := TX1) (N := 4) hx hb hts hiX1 hown hK hP 0 rfl rfl 0 (by decide) hf21 (fun _ h9 => h9) rfl dX1_add_32 ?_
  refine lv_iconst (v := 1) hx hb dX1_add_35 (by decide) ?_
  refine lv_iadd hx hb dX1_add_36 ?_
  refine lv_asi (show (nI (sC σ)) + 1 = nI (sC σ + 1) from nI_1 _) ?_
  refine va_put (D := D) (ci := 1) (v := .int (nI (sC σ + 1))) (ty := .int) (C := RX1) (T := TX1) (N := 4) hx hb hts hiX1 tyX1 tyX1_ok nmX1 hown hK hP hD hS 0 rfl rfl 0 (by decide) hf21 (fun _ h9 => h9) rfl (by decide +kernel) rfl rfl (Nat.le_of_ble_eq_true rfl) dX1_add_37 (fun H locs hP hD hS => ?_)
  have hP : va_P D vwCl [(zC, .inr (1, [.int (nI (sC σ + 1)), .ref zQ, .ref zP, .ref zN])), (zQ, .inl (cI, 12, .inl (upd (rCk σ) (sC σ) kk))), (zP, .inl (cI, 12, .inl (upd (rCr σ) (sC σ) rr))), (zN, .inl (cI, 12, .inl (upd (rCn σ) (sC σ) nn)))] H := hP
  have hD : va_D A [(zC, .inr (1, [.int (nI (sC σ + 1)), .ref zQ, .ref zP, .ref zN])), (zQ, .inl (cI, 12, .inl (upd (rCk σ) (sC σ) kk))), (zP, .inl (cI, 12, .inl (upd (rCr σ) (sC σ) rr))), (zN, .inl (cI, 12, .inl (upd (rCn σ) (sC σ) nn)))] := hD
  refine lv_iload hx hb dX1_add_40 (lv_at hl 0 rfl) ?_
  have hP9 := hP
  have hD9 := hD
  exact W.iret (v := nI (sC σ)) hx hb hr (fun t ht hW => ⟨⟨nI (sC σ), (), rfl, rfl, ⟨⟨by rw [ht]; exact hP9, va_K.moved hW.alike hK, NW.warm hW hN⟩, hD9⟩⟩, hS.F ht⟩) hS.2.2 dX1_add_42

set_option maxHeartbeats 4000000 in
set_option maxRecDepth 100000 in
theorem c_X2_winner (l : Launch) (D : va_G) (cI cZ : ClassId) (zG : Nat) (tw : Nat) (pa : Nat) (pb : Nat) (ps : Nat) (hgm : tw ≤ 100 ∧ pa ≤ 100 ∧ pb ≤ 100 ∧ ps < 2) : Met l yX2_winner wsX2_winner ({ frames := 0, cells := 0, slots := 0, locals := 0 }) (va_Pc [.ref zG] (XP D cI cZ [(zG, .inr (2, [.int (nI tw), .int (nI pa), .int (nI pb), .int (nI ps)]))])) (vp_Si (fun r => r = gwin tw pa pb)) 0 0 (fun _ => False) := by
  refine Met.ofW (cc := cX2_winner) (maxL := 1) (ret := (some .int)) (by decide) rfl ?_
  intro p e s m args below meth c s₁ B hml hv
  obtain ⟨rfl, hP, hK, hN⟩ := hv
  have hx := B.exec
  have hb := B.bytes
  have hr := B.returns
  have hts := atoms_spec (ws := wsX2_winner) B.pre
  have hown : s.vm.findClass RX2 = some m.cls := findClass_of_methodNamed B.named
  have hlocks := B.notSynchronized
  have hf15 := hts (.fieldLink RX2 15 "BallCourt$Game" "hoopsOf0" "I") (List.mem_of_getElem? (i := 1) (by decide +kernel))
  have hiX2 : ∀ w ∈ wsX20, w ∈ wsX2_winner := fun w h => List.mem_cons_of_mem _ (List.mem_append_right _ h)
  have hf9 := hts (.fieldLink RX2 9 "BallCourt$Game" "toWin" "I") (List.mem_of_getElem? (i := 2) (by decide +kernel))
  have hf18 := hts (.fieldLink RX2 18 "BallCourt$Game" "hoopsOf1" "I") (List.mem_of_getElem? (i := 3) (by decide +kernel))
  have hl := lv_entry ([.ref zG]) (n := 1) (Nat.le_of_ble_eq_true rfl)
  rw [lg_entry_eq]
  generalize (lg_sl ([.ref zG]) ++ List.replicate (1 - (lg_sl ([.ref zG])).length) Slot.unset).toArray = ls at hl ⊢
  have hl : lv_has ls 1 [(0, .ref zG)] := hl
  refine lv_aload_n hx hb dX2_winner_0 rfl (lv_at hl 0 rfl) ?_
  refine va_get (D := D) (ci := 2) (v := .int (nI pa)) (C := RX2) (T := TX2) (N := 4) hx hb hts hiX2 hown hK hP 0 rfl rfl 1 (by decide) hf15 (fun _ h9 => h9) rfl dX2_winner_1 ?_
  refine lv_aload_n hx hb dX2_winner_4 rfl (lv_at hl 0 rfl) ?_
  refine va_get (D := D) (ci := 2) (v := .int (nI tw)) (C := RX2) (T := TX2) (N := 4) hx hb hts hiX2 hown hK hP 0 rfl rfl 0 (by decide) hf9 (fun _ h9 => h9) rfl dX2_winner_5 ?_
  refine lv_icmp_lt (tgt := 13) hx hb dX2_winner_8 (by decide) (fun c8 => ?_) (fun c8 => ?_)
  · skip
    have c8 := (nI_ltI (by omega) (by omega)).mp c8
    refine lv_aload_n hx hb dX2_winner_13 rfl (lv_at hl 0 rfl) ?_
    refine va_get (D := D) (ci := 2) (v := .int (nI pb)) (C := RX2) (T := TX2) (N := 4) hx hb hts hiX2 hown hK hP 0 rfl rfl 2 (by decide) hf18 (fun _ h9 => h9) rfl dX2_winner_14 ?_
    refine lv_aload_n hx hb dX2_winner_17 rfl (lv_at hl 0 rfl) ?_
    refine va_get (D := D) (ci := 2) (v := .int (nI tw)) (C := RX2) (T := TX2) (N := 4) hx hb hts hiX2 hown hK hP 0 rfl rfl 0 (by decide) hf9 (fun _ h9 => h9) rfl dX2_winner_18 ?_
    refine lv_icmp_lt (tgt := 28) hx hb dX2_winner_21 (by decide) (fun c21 => ?_) (fun c21 => ?_)
    · skip
      have c21 := (nI_ltI (by omega) (by omega)).mp c21
      refine lv_bipush (v := (-6)) hx hb dX2_winner_28 (by decide) ?_
      exact W.iret (v := (-6)) hx hb hr (fun t ht hW => ⟨_, rfl, by rw [gwin, if_neg (by omega), if_neg (by omega)], ht⟩) (fun _ h => absurd h List.not_mem_nil) dX2_winner_30
    · skip
      have c21 := Nat.le_of_not_lt (fun z => c21 ((nI_ltI (by omega) (by omega)).mpr z))
      refine lv_iconst (v := 1) hx hb dX2_winner_24 (by decide) ?_
      refine lv_goto (tgt := 30) hx hb dX2_winner_25 (by decide) ?_
      exact W.iret (v := 1) hx hb hr (fun t ht hW => ⟨_, rfl, by rw [gwin, if_neg (by omega), if_pos c21], ht⟩) (fun _ h => absurd h List.not_mem_nil) dX2_winner_30
  · skip
    have c8 := Nat.le_of_not_lt (fun z => c8 ((nI_ltI (by omega) (by omega)).mpr z))
    refine lv_iconst (v := 0) hx hb dX2_winner_11 (by decide) ?_
    exact W.iret (v := 0) hx hb hr (fun t ht hW => ⟨_, rfl, by rw [gwin, if_pos c8], ht⟩) (fun _ h => absurd h List.not_mem_nil) dX2_winner_12

set_option maxHeartbeats 4000000 in
set_option maxRecDepth 100000 in
theorem c_X2_standsAs (l : Launch) (D : va_G) (cI cZ : ClassId) (zG : Nat) (zJ : Nat) (tw : Nat) (pa : Nat) (pb : Nat) (ps : Nat) (qw : Nat) (qa : Nat) (qb : Nat) (qs : Nat) (hgm : tw ≤ 100 ∧ pa ≤ 100 ∧ pb ≤ 100 ∧ ps < 2) (hgj : qw ≤ 100 ∧ qa ≤ 100 ∧ qb ≤ 100 ∧ qs < 2) : Met l yX2_standsAs wsX2_standsAs ({ frames := 1, cells := 0, slots := 0, locals := 20 }) (va_Pc [.ref zG, .ref zJ] (XP D cI cZ [(zG, .inr (2, [.int (nI tw), .int (nI pa), .int (nI pb), .int (nI ps)])), (zJ, .inr (2, [.int (nI qw), .int (nI qa), .int (nI qb), .int (nI qs)]))])) (vp_Si (fun r => r = b2 (sameB tw pa pb ps qw qa qb qs))) 0 0 (fun _ => False) := by
  refine Met.ofW (cc := cX2_standsAs) (maxL := 2) (ret := (some .boolean)) (by decide) rfl ?_
  intro p e s m args below meth c s₁ B hml hv
  obtain ⟨rfl, hP, hK, hN⟩ := hv
  have hx := B.exec
  have hb := B.bytes
  have hr := B.returns
  have hts := atoms_spec (ws := wsX2_standsAs) B.pre
  have hown : s.vm.findClass RX2 = some m.cls := findClass_of_methodNamed B.named
  have hlocks := B.notSynchronized
  have hf15 := hts (.fieldLink RX2 15 "BallCourt$Game" "hoopsOf0" "I") (List.mem_of_getElem? (i := 1) (by decide +kernel))
  have hiX2 : ∀ w ∈ wsX20, w ∈ wsX2_standsAs := fun w h => List.mem_cons_of_mem _ (List.mem_append_right _ h)
  have hf18 := hts (.fieldLink RX2 18 "BallCourt$Game" "hoopsOf1" "I") (List.mem_of_getElem? (i := 2) (by decide +kernel))
  have hf21 := hts (.fieldLink RX2 21 "BallCourt$Game" "striker" "I") (List.mem_of_getElem? (i := 3) (by decide +kernel))
  have hl := lv_entry ([.ref zG, .ref zJ]) (n := 2) (Nat.le_of_ble_eq_true rfl)
  rw [lg_entry_eq]
  generalize (lg_sl ([.ref zG, .ref zJ]) ++ List.replicate (2 - (lg_sl ([.ref zG, .ref zJ])).length) Slot.unset).toArray = ls at hl ⊢
  have hl : lv_has ls 2 [(0, .ref zG), (1, .ref zJ)] := hl
  refine lv_aload_n hx hb dX2_standsAs_0 rfl (lv_at hl 0 rfl) ?_
  refine va_get (D := D) (ci := 2) (v := .int (nI pa)) (C := RX2) (T := TX2) (N := 4) hx hb hts hiX2 hown hK hP 0 rfl rfl 1 (by decide) hf15 (fun _ h9 => h9) rfl dX2_standsAs_1 ?_
  refine lv_aload_n hx hb dX2_standsAs_4 rfl (lv_at hl 1 rfl) ?_
  refine va_get (D := D) (ci := 2) (v := .int (nI qa)) (C := RX2) (T := TX2) (N := 4) hx hb hts hiX2 hown hK hP 1 rfl rfl 1 (by decide) hf15 (fun _ h9 => h9) rfl dX2_standsAs_5 ?_
  refine lv_icmp_ne (tgt := 48) hx hb dX2_standsAs_8 (by decide) (fun c8 => ?_) (fun c8 => ?_)
  · skip
    have c8 := mt (nI_eq (by omega) (by omega)).mpr c8
    refine lv_iconst (v := 0) hx hb dX2_standsAs_48 (by decide) ?_
    exact W.zret (v := 0) (ty := .boolean) hx hb hr rfl (fun t ht hW => ⟨_, rfl, by rw [sameB, decide_eq_false c8]; rfl, ht⟩) (fun _ h => absurd h List.not_mem_nil) dX2_standsAs_49
  · skip
    have c8 := (nI_eq (by omega) (by omega)).mp c8
    refine lv_aload_n hx hb dX2_standsAs_11 rfl (lv_at hl 0 rfl) ?_
    refine va_get (D := D) (ci := 2) (v := .int (nI pb)) (C := RX2) (T := TX2) (N := 4) hx hb hts hiX2 hown hK hP 0 rfl rfl 2 (by decide) hf18 (fun _ h9 => h9) rfl dX2_standsAs_12 ?_
    refine lv_aload_n hx hb dX2_standsAs_15 rfl (lv_at hl 1 rfl) ?_
    refine va_get (D := D) (ci := 2) (v := .int (nI qb)) (C := RX2) (T := TX2) (N := 4) hx hb hts hiX2 hown hK hP 1 rfl rfl 2 (by decide) hf18 (fun _ h9 => h9) rfl dX2_standsAs_16 ?_
    refine lv_icmp_ne (tgt := 48) hx hb dX2_standsAs_19 (by decide) (fun c19 => ?_) (fun c19 => ?_)
    · skip
      have c19 := mt (nI_eq (by omega) (by omega)).mpr c19
      refine lv_iconst (v := 0) hx hb dX2_standsAs_48 (by decide) ?_
      exact W.zret (v := 0) (ty := .boolean) hx hb hr rfl (fun t ht hW => ⟨_, rfl, by rw [sameB, decide_eq_true c8, decide_eq_false c19]; rfl, ht⟩) (fun _ h => absurd h List.not_mem_nil) dX2_standsAs_49
    · skip
      have c19 := (nI_eq (by omega) (by omega)).mp c19
      refine lv_aload_n hx hb dX2_standsAs_22 rfl (lv_at hl 0 rfl) ?_
      refine va_get (D := D) (ci := 2) (v := .int (nI ps)) (C := RX2) (T := TX2) (N := 4) hx hb hts hiX2 hown hK hP 0 rfl rfl 3 (by decide) hf21 (fun _ h9 => h9) rfl dX2_standsAs_23 ?_
      refine lv_aload_n hx hb dX2_standsAs_26 rfl (lv_at hl 1 rfl) ?_
      refine va_get (D := D) (ci := 2) (v := .int (nI qs)) (C := RX2) (T := TX2) (N := 4) hx hb hts hiX2 hown hK hP 1 rfl rfl 3 (by decide) hf21 (fun _ h9 => h9) rfl dX2_standsAs_27 ?_
      refine lv_icmp_ne (tgt := 48) hx hb dX2_standsAs_30 (by decide) (fun c30 => ?_) (fun c30 => ?_)
      · skip
        have c30 := mt (nI_eq (by omega) (by omega)).mpr c30
        refine lv_iconst (v := 0) hx hb dX2_standsAs_48 (by decide) ?_
        exact W.zret (v := 0) (ty := .boolean) hx hb hr rfl (fun t ht hW => ⟨_, rfl, by rw [sameB, decide_eq_true c8, decide_eq_true c19, decide_eq_false c30]; rfl, ht⟩) (fun _ h => absurd h List.not_mem_nil) dX2_standsAs_49
      · skip
        have c30 := (nI_eq (by omega) (by omega)).mp c30
        refine lv_aload_n hx hb dX2_standsAs_33 rfl (lv_at hl 0 rfl) ?_
        refine xpV (rest := []) ⟨hx, hb, hml, hown, hts⟩ (c_X2_winner l D cI cZ zG tw pa pb ps hgm) (cwV 0 hts gX2_standsAs_X2_winner rfl rfl rfl (by decide +kernel) ⟨Nat.le_of_ble_eq_true rfl, Nat.le_of_ble_eq_true rfl⟩) hP [0] rfl hK hN (ci := 2) (q0 := 0) rfl rfl rfl hl.1 rfl (Nat.le_of_ble_eq_true rfl) dX2_standsAs_34 ⟨Nat.zero_le _, Nat.zero_le _⟩ (fun r34 e34 => ?_)
        subst e34
        refine lv_aload_n hx hb dX2_standsAs_37 rfl (lv_at hl 1 rfl) ?_
        refine xpV (rest := [.int (gwin tw pa pb)]) ⟨hx, hb, hml, hown, hts⟩ (c_X2_winner l D cI cZ zJ qw qa qb qs hgj) (cwV 0 hts gX2_standsAs_X2_winner rfl rfl rfl (by decide +kernel) ⟨Nat.le_of_ble_eq_true rfl, Nat.le_of_ble_eq_true rfl⟩) hP [1] rfl hK hN (ci := 2) (q0 := 1) rfl rfl rfl hl.1 rfl (Nat.le_of_ble_eq_true rfl) dX2_standsAs_38 ⟨Nat.zero_le _, Nat.zero_le _⟩ (fun r38 e38 => ?_)
        subst e38
        refine lv_icmp_ne (tgt := 48) hx hb dX2_standsAs_41 (by decide) (fun c41 => ?_) (fun c41 => ?_)
        · skip
          refine lv_iconst (v := 0) hx hb dX2_standsAs_48 (by decide) ?_
          exact W.zret (v := 0) (ty := .boolean) hx hb hr rfl (fun t ht hW => ⟨_, rfl, by rw [sameB, decide_eq_true c8, decide_eq_true c19, decide_eq_true c30, decide_eq_false c41]; rfl, ht⟩) (fun _ h => absurd h List.not_mem_nil) dX2_standsAs_49
        · skip
          refine lv_iconst (v := 1) hx hb dX2_standsAs_44 (by decide) ?_
          refine lv_goto (tgt := 49) hx hb dX2_standsAs_45 (by decide) ?_
          exact W.zret (v := 1) (ty := .boolean) hx hb hr rfl (fun t ht hW => ⟨_, rfl, by rw [sameB, decide_eq_true c8, decide_eq_true c19, decide_eq_true c30, decide_eq_true c41]; rfl, ht⟩) (fun _ h => absurd h List.not_mem_nil) dX2_standsAs_49

set_option maxHeartbeats 4000000 in
set_option maxRecDepth 100000 in
theorem c_X2_begin (l : Launch) (D : va_G) (cI cZ : ClassId) (sz : Nat) (zG : Nat) (gt : Int32) (ga : Int32) (gb : Int32) (gs : Int32) (w : Nat) : Met l yX2_begin wsX2_begin ({ frames := 0, cells := 0, slots := 0, locals := 0 }) (va_Pc [.ref zG, .int (nI w)] (XW D cI cZ [(zG, .inr (2, [.int gt, .int ga, .int gb, .int gs]))] sz)) (va_Qv (fun u : Unit => True) (fun u => XB D cI cZ (va_A [(zG, .inr (2, [.int gt, .int ga, .int gb, .int gs]))] sz) [(zG, .inr (2, [.int (nI w), .int (nI 0), .int (nI 0), .int (nI 0)]))]) (va_A [(zG, .inr (2, [.int gt, .int ga, .int gb, .int gs]))] sz)) 0 0 (va_A [(zG, .inr (2, [.int gt, .int ga, .int gb, .int gs]))] sz) := by
  refine Met.ofW (cc := cX2_begin) (maxL := 2) (ret := none) (by decide) rfl ?_
  intro p e s m args below meth c s₁ B hml hv
  obtain ⟨rfl, hsz, ⟨hP, hK, hN⟩, hD0⟩ := hv
  have hx := B.exec
  have hb := B.bytes
  have hr := B.returns
  have hts := atoms_spec (ws := wsX2_begin) B.pre
  have hown : s.vm.findClass RX2 = some m.cls := findClass_of_methodNamed B.named
  have hlocks := B.notSynchronized
  subst hsz
  have hD := hD0.self (sz := s.heap.size)
  generalize hAe : va_A [(zG, .inr (2, [.int gt, .int ga, .int gb, .int gs]))] s.heap.size = A at hD ⊢
  have hA : ∀ q : Nat, s.heap.size ≤ q → A q := fun q h => by rw [← hAe]; exact Or.inr h
  have hS : va_S A s.heap s.heap [] := va_S.rf
  have hf9 := hts (.fieldLink RX2 9 "BallCourt$Game" "toWin" "I") (List.mem_of_getElem? (i := 1) (by decide +kernel))
  have hiX2 : ∀ w ∈ wsX20, w ∈ wsX2_begin := fun w h => List.mem_cons_of_mem _ (List.mem_append_right _ h)
  have hf15 := hts (.fieldLink RX2 15 "BallCourt$Game" "hoopsOf0" "I") (List.mem_of_getElem? (i := 2) (by decide +kernel))
  have hf18 := hts (.fieldLink RX2 18 "BallCourt$Game" "hoopsOf1" "I") (List.mem_of_getElem? (i := 3) (by decide +kernel))
  have hf21 := hts (.fieldLink RX2 21 "BallCourt$Game" "striker" "I") (List.mem_of_getElem? (i := 4) (by decide +kernel))
  have hl := lv_entry ([.ref zG, .int (nI w)]) (n := 2) (Nat.le_of_ble_eq_true rfl)
  rw [lg_entry_eq]
  generalize (lg_sl ([.ref zG, .int (nI w)]) ++ List.replicate (2 - (lg_sl ([.ref zG, .int (nI w)])).length) Slot.unset).toArray = ls at hl ⊢
  have hl : lv_has ls 2 [(0, .ref zG), (1, .int (nI w))] := hl
  refine lv_aload_n hx hb dX2_begin_0 rfl (lv_at hl 0 rfl) ?_
  refine lv_iload_n hx hb dX2_begin_1 rfl (lv_at hl 1 rfl) ?_
  refine va_put (D := D) (ci := 2) (v := .int (nI w)) (ty := .int) (C := RX2) (T := TX2) (N := 4) hx hb hts hiX2 tyX2 tyX2_ok nmX2 hown hK hP hD hS 0 rfl rfl 0 (by decide) hf9 (fun _ h9 => h9) rfl (by decide +kernel) rfl rfl (Nat.le_of_ble_eq_true rfl) dX2_begin_2 (fun H locs hP hD hS => ?_)
  have hP : va_P D vwCl [(zG, .inr (2, [.int (nI w), .int ga, .int gb, .int gs]))] H := hP
  have hD : va_D A [(zG, .inr (2, [.int (nI w), .int ga, .int gb, .int gs]))] := hD
  refine lv_aload_n hx hb dX2_begin_5 rfl (lv_at hl 0 rfl) ?_
  refine lv_iconst (v := nI 0) hx hb dX2_begin_6 (by decide) ?_
  refine va_put (D := D) (ci := 2) (v := .int (nI 0)) (ty := .int) (C := RX2) (T := TX2) (N := 4) hx hb hts hiX2 tyX2 tyX2_ok nmX2 hown hK hP hD hS 0 rfl rfl 1 (by decide) hf15 (fun _ h9 => h9) rfl (by decide +kernel) rfl rfl (Nat.le_of_ble_eq_true rfl) dX2_begin_7 (fun H locs hP hD hS => ?_)
  have hP : va_P D vwCl [(zG, .inr (2, [.int (nI w), .int (nI 0), .int gb, .int gs]))] H := hP
  have hD : va_D A [(zG, .inr (2, [.int (nI w), .int (nI 0), .int gb, .int gs]))] := hD
  refine lv_aload_n hx hb dX2_begin_10 rfl (lv_at hl 0 rfl) ?_
  refine lv_iconst (v := nI 0) hx hb dX2_begin_11 (by decide) ?_
  refine va_put (D := D) (ci := 2) (v := .int (nI 0)) (ty := .int) (C := RX2) (T := TX2) (N := 4) hx hb hts hiX2 tyX2 tyX2_ok nmX2 hown hK hP hD hS 0 rfl rfl 2 (by decide) hf18 (fun _ h9 => h9) rfl (by decide +kernel) rfl rfl (Nat.le_of_ble_eq_true rfl) dX2_begin_12 (fun H locs hP hD hS => ?_)
  have hP : va_P D vwCl [(zG, .inr (2, [.int (nI w), .int (nI 0), .int (nI 0), .int gs]))] H := hP
  have hD : va_D A [(zG, .inr (2, [.int (nI w), .int (nI 0), .int (nI 0), .int gs]))] := hD
  refine lv_aload_n hx hb dX2_begin_15 rfl (lv_at hl 0 rfl) ?_
  refine lv_iconst (v := nI 0) hx hb dX2_begin_16 (by decide) ?_
  refine va_put (D := D) (ci := 2) (v := .int (nI 0)) (ty := .int) (C := RX2) (T := TX2) (N := 4) hx hb hts hiX2 tyX2 tyX2_ok nmX2 hown hK hP hD hS 0 rfl rfl 3 (by decide) hf21 (fun _ h9 => h9) rfl (by decide +kernel) rfl rfl (Nat.le_of_ble_eq_true rfl) dX2_begin_17 (fun H locs hP hD hS => ?_)
  have hP : va_P D vwCl [(zG, .inr (2, [.int (nI w), .int (nI 0), .int (nI 0), .int (nI 0)]))] H := hP
  have hD : va_D A [(zG, .inr (2, [.int (nI w), .int (nI 0), .int (nI 0), .int (nI 0)]))] := hD
  have hP9 := hP
  have hD9 := hD
  exact W.vret hx hb hr (fun t ht hW => ⟨⟨(), rfl, trivial, ⟨⟨by rw [ht]; exact hP9, va_K.moved hW.alike hK, NW.warm hW hN⟩, hD9⟩⟩, hS.F ht⟩) hS.2.2 dX2_begin_20

set_option maxHeartbeats 4000000 in
set_option maxRecDepth 100000 in
theorem c_X2_giveHoop (l : Launch) (D : va_G) (cI cZ : ClassId) (sz : Nat) (zG : Nat) (tw : Nat) (pa : Nat) (pb : Nat) (ps : Nat) (sd : Nat) (hs : sd < 2) : Met l yX2_giveHoop wsX2_giveHoop ({ frames := 0, cells := 0, slots := 0, locals := 0 }) (va_Pc [.ref zG, .int (nI sd)] (XW D cI cZ [(zG, .inr (2, [.int (nI tw), .int (nI pa), .int (nI pb), .int (nI ps)]))] sz)) (va_Qv (fun u : Unit => True) (fun u => XB D cI cZ (va_A [(zG, .inr (2, [.int (nI tw), .int (nI pa), .int (nI pb), .int (nI ps)]))] sz) [(zG, .inr (2, [.int (nI tw), .int (nI (if sd = 0 then pa + 1 else pa)), .int (nI (if sd = 0 then pb else pb + 1)), .int (nI ps)]))]) (va_A [(zG, .inr (2, [.int (nI tw), .int (nI pa), .int (nI pb), .int (nI ps)]))] sz)) 0 0 (va_A [(zG, .inr (2, [.int (nI tw), .int (nI pa), .int (nI pb), .int (nI ps)]))] sz) := by
  refine Met.ofW (cc := cX2_giveHoop) (maxL := 2) (ret := none) (by decide) rfl ?_
  intro p e s m args below meth c s₁ B hml hv
  obtain ⟨rfl, hsz, ⟨hP, hK, hN⟩, hD0⟩ := hv
  have hx := B.exec
  have hb := B.bytes
  have hr := B.returns
  have hts := atoms_spec (ws := wsX2_giveHoop) B.pre
  have hown : s.vm.findClass RX2 = some m.cls := findClass_of_methodNamed B.named
  have hlocks := B.notSynchronized
  subst hsz
  have hD := hD0.self (sz := s.heap.size)
  generalize hAe : va_A [(zG, .inr (2, [.int (nI tw), .int (nI pa), .int (nI pb), .int (nI ps)]))] s.heap.size = A at hD ⊢
  have hA : ∀ q : Nat, s.heap.size ≤ q → A q := fun q h => by rw [← hAe]; exact Or.inr h
  have hS : va_S A s.heap s.heap [] := va_S.rf
  have hf18 := hts (.fieldLink RX2 18 "BallCourt$Game" "hoopsOf1" "I") (List.mem_of_getElem? (i := 2) (by decide +kernel))
  have hiX2 : ∀ w ∈ wsX20, w ∈ wsX2_giveHoop := fun w h => List.mem_cons_of_mem _ (List.mem_append_right _ h)
  have hf15 := hts (.fieldLink RX2 15 "BallCourt$Game" "hoopsOf0" "I") (List.mem_of_getElem? (i := 1) (by decide +kernel))
  have hl := lv_entry ([.ref zG, .int (nI sd)]) (n := 2) (Nat.le_of_ble_eq_true rfl)
  rw [lg_entry_eq]
  generalize (lg_sl ([.ref zG, .int (nI sd)]) ++ List.replicate (2 - (lg_sl ([.ref zG, .int (nI sd)])).length) Slot.unset).toArray = ls at hl ⊢
  have hl : lv_has ls 2 [(0, .ref zG), (1, .int (nI sd))] := hl
  refine lv_iload_n hx hb dX2_giveHoop_0 rfl (lv_at hl 1 rfl) ?_
  refine lv_if_ne (tgt := 17) hx hb dX2_giveHoop_1 (by decide) (fun c1 => ?_) (fun c1 => ?_)
  · skip
    have c1 : ¬ sd = 0 := fun z => c1 (by rw [z]; rfl)
    refine lv_aload_n hx hb dX2_giveHoop_17 rfl (lv_at hl 0 rfl) ?_
    refine lv_dup hx hb dX2_giveHoop_18 rfl ?_
    refine va_get (D := D) (ci := 2) (v := .int (nI pb)) (C := RX2) (T := TX2) (N := 4) hx hb hts hiX2 hown hK hP 0 rfl rfl 2 (by decide) hf18 (fun _ h9 => h9) rfl dX2_giveHoop_19 ?_
    refine lv_iconst (v := 1) hx hb dX2_giveHoop_22 (by decide) ?_
    refine lv_iadd hx hb dX2_giveHoop_23 ?_
    refine lv_asi (show (nI pb) + 1 = nI (pb + 1) from nI_1 _) ?_
    refine va_put (D := D) (ci := 2) (v := .int (nI (pb + 1))) (ty := .int) (C := RX2) (T := TX2) (N := 4) hx hb hts hiX2 tyX2 tyX2_ok nmX2 hown hK hP hD hS 0 rfl rfl 2 (by decide) hf18 (fun _ h9 => h9) rfl (by decide +kernel) rfl rfl (Nat.le_of_ble_eq_true rfl) dX2_giveHoop_24 (fun H locs hP hD hS => ?_)
    have hP : va_P D vwCl [(zG, .inr (2, [.int (nI tw), .int (nI pa), .int (nI (pb + 1)), .int (nI ps)]))] H := hP
    have hD : va_D A [(zG, .inr (2, [.int (nI tw), .int (nI pa), .int (nI (pb + 1)), .int (nI ps)]))] := hD
    have e_rw : (nI pa : Int32) = nI (if sd = 0 then pa + 1 else pa) := (by rw [if_neg c1])
    have hP : va_P D vwCl [(zG, .inr (2, [.int (nI tw), .int (nI (if sd = 0 then pa + 1 else pa)), .int (nI (pb + 1)), .int (nI ps)]))] H := by rw [← e_rw]; exact hP
    have hD : va_D A [(zG, .inr (2, [.int (nI tw), .int (nI (if sd = 0 then pa + 1 else pa)), .int (nI (pb + 1)), .int (nI ps)]))] := by rw [← e_rw]; exact hD
    clear e_rw
    have e_rw : (nI (pb + 1) : Int32) = nI (if sd = 0 then pb else pb + 1) := (by rw [if_neg c1])
    have hP : va_P D vwCl [(zG, .inr (2, [.int (nI tw), .int (nI (if sd = 0 then pa + 1 else pa)), .int (nI (if sd = 0 then pb else pb + 1)), .int (nI ps)]))] H := by rw [← e_rw]; exact hP
    have hD : va_D A [(zG, .inr (2, [.int (nI tw), .int (nI (if sd = 0 then pa + 1 else pa)), .int (nI (if sd = 0 then pb else pb + 1)), .int (nI ps)]))] := by rw [← e_rw]; exact hD
    clear e_rw
    have hP9 := hP
    have hD9 := hD
    exact W.vret hx hb hr (fun t ht hW => ⟨⟨(), rfl, trivial, ⟨⟨by rw [ht]; exact hP9, va_K.moved hW.alike hK, NW.warm hW hN⟩, hD9⟩⟩, hS.F ht⟩) hS.2.2 dX2_giveHoop_27
  · skip
    have c1 : sd = 0 := (nI_eq (by omega) (by omega)).mp c1
    refine lv_aload_n hx hb dX2_giveHoop_4 rfl (lv_at hl 0 rfl) ?_
    refine lv_dup hx hb dX2_giveHoop_5 rfl ?_
    refine va_get (D := D) (ci := 2) (v := .int (nI pa)) (C := RX2) (T := TX2) (N := 4) hx hb hts hiX2 hown hK hP 0 rfl rfl 1 (by decide) hf15 (fun _ h9 => h9) rfl dX2_giveHoop_6 ?_
    refine lv_iconst (v := 1) hx hb dX2_giveHoop_9 (by decide) ?_
    refine lv_iadd hx hb dX2_giveHoop_10 ?_
    refine lv_asi (show (nI pa) + 1 = nI (pa + 1) from nI_1 _) ?_
    refine va_put (D := D) (ci := 2) (v := .int (nI (pa + 1))) (ty := .int) (C := RX2) (T := TX2) (N := 4) hx hb hts hiX2 tyX2 tyX2_ok nmX2 hown hK hP hD hS 0 rfl rfl 1 (by decide) hf15 (fun _ h9 => h9) rfl (by decide +kernel) rfl rfl (Nat.le_of_ble_eq_true rfl) dX2_giveHoop_11 (fun H locs hP hD hS => ?_)
    have hP : va_P D vwCl [(zG, .inr (2, [.int (nI tw), .int (nI (pa + 1)), .int (nI pb), .int (nI ps)]))] H := hP
    have hD : va_D A [(zG, .inr (2, [.int (nI tw), .int (nI (pa + 1)), .int (nI pb), .int (nI ps)]))] := hD
    refine lv_goto (tgt := 27) hx hb dX2_giveHoop_14 (by decide) ?_
    have e_rw : (nI (pa + 1) : Int32) = nI (if sd = 0 then pa + 1 else pa) := (by rw [if_pos c1])
    have hP : va_P D vwCl [(zG, .inr (2, [.int (nI tw), .int (nI (if sd = 0 then pa + 1 else pa)), .int (nI pb), .int (nI ps)]))] H := by rw [← e_rw]; exact hP
    have hD : va_D A [(zG, .inr (2, [.int (nI tw), .int (nI (if sd = 0 then pa + 1 else pa)), .int (nI pb), .int (nI ps)]))] := by rw [← e_rw]; exact hD
    clear e_rw
    have e_rw : (nI pb : Int32) = nI (if sd = 0 then pb else pb + 1) := (by rw [if_pos c1])
    have hP : va_P D vwCl [(zG, .inr (2, [.int (nI tw), .int (nI (if sd = 0 then pa + 1 else pa)), .int (nI (if sd = 0 then pb else pb + 1)), .int (nI ps)]))] H := by rw [← e_rw]; exact hP
    have hD : va_D A [(zG, .inr (2, [.int (nI tw), .int (nI (if sd = 0 then pa + 1 else pa)), .int (nI (if sd = 0 then pb else pb + 1)), .int (nI ps)]))] := by rw [← e_rw]; exact hD
    clear e_rw
    have hP9 := hP
    have hD9 := hD
    exact W.vret hx hb hr (fun t ht hW => ⟨⟨(), rfl, trivial, ⟨⟨by rw [ht]; exact hP9, va_K.moved hW.alike hK, NW.warm hW hN⟩, hD9⟩⟩, hS.F ht⟩) hS.2.2 dX2_giveHoop_27

set_option maxHeartbeats 4000000 in
set_option maxRecDepth 100000 in
theorem c_X2_play (l : Launch) (D : va_G) (cI cZ : ClassId) (sz : Nat) (zG : Nat) (tw : Nat) (pa : Nat) (pb : Nat) (ps : Nat) (r0 : Int32) (hgm : tw ≤ 100 ∧ pa ≤ 100 ∧ pb ≤ 100 ∧ ps < 2) : Met l yX2_play wsX2_play ({ frames := 1, cells := 0, slots := 0, locals := 21 }) (va_Pc [.ref zG, .int r0] (XW D cI cZ [(zG, .inr (2, [.int (nI tw), .int (nI pa), .int (nI pb), .int (nI ps)]))] sz)) (va_Qv (fun u : Unit => True) (fun u => XB D cI cZ (va_A [(zG, .inr (2, [.int (nI tw), .int (nI pa), .int (nI pb), .int (nI ps)]))] sz) [(zG, .inr (2, [.int (nI tw), .int (nI (gst tw (pa, pb, ps) r0).1), .int (nI (gst tw (pa, pb, ps) r0).2.1), .int (nI (gst tw (pa, pb, ps) r0).2.2)]))]) (va_A [(zG, .inr (2, [.int (nI tw), .int (nI pa), .int (nI pb), .int (nI ps)]))] sz)) 0 0 (va_A [(zG, .inr (2, [.int (nI tw), .int (nI pa), .int (nI pb), .int (nI ps)]))] sz) := by
  refine Met.ofW (cc := cX2_play) (maxL := 2) (ret := none) (by decide) rfl ?_
  intro p e s m args below meth c s₁ B hml hv
  obtain ⟨rfl, hsz, ⟨hP, hK, hN⟩, hD0⟩ := hv
  have hx := B.exec
  have hb := B.bytes
  have hr := B.returns
  have hts := atoms_spec (ws := wsX2_play) B.pre
  have hown : s.vm.findClass RX2 = some m.cls := findClass_of_methodNamed B.named
  have hlocks := B.notSynchronized
  subst hsz
  have hD := hD0.self (sz := s.heap.size)
  generalize hAe : va_A [(zG, .inr (2, [.int (nI tw), .int (nI pa), .int (nI pb), .int (nI ps)]))] s.heap.size = A at hD ⊢
  have hA : ∀ q : Nat, s.heap.size ≤ q → A q := fun q h => by rw [← hAe]; exact Or.inr h
  have hS : va_S A s.heap s.heap [] := va_S.rf
  have hf21 := hts (.fieldLink RX2 21 "BallCourt$Game" "striker" "I") (List.mem_of_getElem? (i := 1) (by decide +kernel))
  have hiX2 : ∀ w ∈ wsX20, w ∈ wsX2_play := fun w h => List.mem_cons_of_mem _ (List.mem_append_right _ h)
  have hl := lv_entry ([.ref zG, .int r0]) (n := 2) (Nat.le_of_ble_eq_true rfl)
  rw [lg_entry_eq]
  generalize (lg_sl ([.ref zG, .int r0]) ++ List.replicate (2 - (lg_sl ([.ref zG, .int r0])).length) Slot.unset).toArray = ls at hl ⊢
  have hl : lv_has ls 2 [(0, .ref zG), (1, .int r0)] := hl
  refine lv_aload_n hx hb dX2_play_0 rfl (lv_at hl 0 rfl) ?_
  refine xpV (rest := []) ⟨hx, hb, hml, hown, hts⟩ (c_X2_winner l D cI cZ zG tw pa pb ps hgm) (cwV 0 hts gX2_play_X2_winner rfl rfl rfl (by decide +kernel) ⟨Nat.le_of_ble_eq_true rfl, Nat.le_of_ble_eq_true rfl⟩) hP [0] rfl hK hN (ci := 2) (q0 := 0) rfl rfl rfl hl.1 rfl (Nat.le_of_ble_eq_true rfl) dX2_play_1 ⟨Nat.zero_le _, Nat.zero_le _⟩ (fun r1 e1 => ?_)
  subst e1
  refine lv_bipush (v := (-6)) hx hb dX2_play_4 (by decide) ?_
  refine lv_icmp_eq (tgt := 10) hx hb dX2_play_6 (by decide) (fun c6 => ?_) (fun c6 => ?_)
  · skip
    have c6 := gwin_6.mp c6
    refine lv_iload_n hx hb dX2_play_10 rfl (lv_at hl 1 rfl) ?_
    refine lv_iconst (v := 1) hx hb dX2_play_11 (by decide) ?_
    refine lv_icmp_ne (tgt := 23) hx hb dX2_play_12 (by decide) (fun c12 => ?_) (fun c12 => ?_)
    · skip
      refine lv_iload_n hx hb dX2_play_23 rfl (lv_at hl 1 rfl) ?_
      refine lv_iconst (v := 3) hx hb dX2_play_24 (by decide) ?_
      refine lv_icmp_ne (tgt := 38) hx hb dX2_play_25 (by decide) (fun c25 => ?_) (fun c25 => ?_)
      · skip
        refine lv_iload_n hx hb dX2_play_38 rfl (lv_at hl 1 rfl) ?_
        refine lv_iconst (v := 2) hx hb dX2_play_39 (by decide) ?_
        refine lv_icmp_eq (tgt := 48) hx hb dX2_play_40 (by decide) (fun c40 => ?_) (fun c40 => ?_)
        · skip
          subst c40
          refine lv_aload_n hx hb dX2_play_48 rfl (lv_at hl 0 rfl) ?_
          refine lv_iconst (v := nI 1) hx hb dX2_play_49 (by decide) ?_
          refine lv_aload_n hx hb dX2_play_50 rfl (lv_at hl 0 rfl) ?_
          refine va_get (D := D) (ci := 2) (v := .int (nI ps)) (C := RX2) (T := TX2) (N := 4) hx hb hts hiX2 hown hK hP 0 rfl rfl 3 (by decide) hf21 (fun _ h9 => h9) rfl dX2_play_51 ?_
          refine lv_isub hx hb dX2_play_54 ?_
          refine lv_asi (show (nI 1) - (nI ps) = nI (1 - ps) from pk_sub (by omega)) ?_
          refine va_put (D := D) (ci := 2) (v := .int (nI (1 - ps))) (ty := .int) (C := RX2) (T := TX2) (N := 4) hx hb hts hiX2 tyX2 tyX2_ok nmX2 hown hK hP hD hS 0 rfl rfl 3 (by decide) hf21 (fun _ h9 => h9) rfl (by decide +kernel) rfl rfl (Nat.le_of_ble_eq_true rfl) dX2_play_55 (fun H locs hP hD hS => ?_)
          have hP : va_P D vwCl [(zG, .inr (2, [.int (nI tw), .int (nI pa), .int (nI pb), .int (nI (1 - ps))]))] H := hP
          have hD : va_D A [(zG, .inr (2, [.int (nI tw), .int (nI pa), .int (nI pb), .int (nI (1 - ps))]))] := hD
          have e_rw : (nI pa : Int32) = nI (gst tw (pa, pb, ps) 2).1 := (congrArg (fun z => nI z.1) (gst_2 c6)).symm
          have hP : va_P D vwCl [(zG, .inr (2, [.int (nI tw), .int (nI (gst tw (pa, pb, ps) 2).1), .int (nI pb), .int (nI (1 - ps))]))] H := by rw [← e_rw]; exact hP
          have hD : va_D A [(zG, .inr (2, [.int (nI tw), .int (nI (gst tw (pa, pb, ps) 2).1), .int (nI pb), .int (nI (1 - ps))]))] := by rw [← e_rw]; exact hD
          clear e_rw
          have e_rw : (nI pb : Int32) = nI (gst tw (pa, pb, ps) 2).2.1 := (congrArg (fun z => nI z.2.1) (gst_2 c6)).symm
          have hP : va_P D vwCl [(zG, .inr (2, [.int (nI tw), .int (nI (gst tw (pa, pb, ps) 2).1), .int (nI (gst tw (pa, pb, ps) 2).2.1), .int (nI (1 - ps))]))] H := by rw [← e_rw]; exact hP
          have hD : va_D A [(zG, .inr (2, [.int (nI tw), .int (nI (gst tw (pa, pb, ps) 2).1), .int (nI (gst tw (pa, pb, ps) 2).2.1), .int (nI (1 - ps))]))] := by rw [← e_rw]; exact hD
          clear e_rw
          have e_rw : (nI (1 - ps) : Int32) = nI (gst tw (pa, pb, ps) 2).2.2 := (congrArg (fun z => nI z.2.2) (gst_2 c6)).symm
          have hP : va_P D vwCl [(zG, .inr (2, [.int (nI tw), .int (nI (gst tw (pa, pb, ps) 2).1), .int (nI (gst tw (pa, pb, ps) 2).2.1), .int (nI (gst tw (pa, pb, ps) 2).2.2)]))] H := by rw [← e_rw]; exact hP
          have hD : va_D A [(zG, .inr (2, [.int (nI tw), .int (nI (gst tw (pa, pb, ps) 2).1), .int (nI (gst tw (pa, pb, ps) 2).2.1), .int (nI (gst tw (pa, pb, ps) 2).2.2)]))] := by rw [← e_rw]; exact hD
          clear e_rw
          have hP9 := hP
          have hD9 := hD
          exact W.vret hx hb hr (fun t ht hW => ⟨⟨(), rfl, trivial, ⟨⟨by rw [ht]; exact hP9, va_K.moved hW.alike hK, NW.warm hW hN⟩, hD9⟩⟩, hS.F ht⟩) hS.2.2 dX2_play_58
        · skip
          refine lv_iload_n hx hb dX2_play_43 rfl (lv_at hl 1 rfl) ?_
          refine lv_iconst (v := 3) hx hb dX2_play_44 (by decide) ?_
          refine lv_icmp_ne (tgt := 58) hx hb dX2_play_45 (by decide) (fun c45 => ?_) (fun c45 => ?_)
          · skip
            have e_rw : (nI pa : Int32) = nI (gst tw (pa, pb, ps) r0).1 := (congrArg (fun z => nI z.1) (gst_n c6 c12 c25 c40)).symm
            have hP : va_P D vwCl [(zG, .inr (2, [.int (nI tw), .int (nI (gst tw (pa, pb, ps) r0).1), .int (nI pb), .int (nI ps)]))] s.heap := by rw [← e_rw]; exact hP
            have hD : va_D A [(zG, .inr (2, [.int (nI tw), .int (nI (gst tw (pa, pb, ps) r0).1), .int (nI pb), .int (nI ps)]))] := by rw [← e_rw]; exact hD
            clear e_rw
            have e_rw : (nI pb : Int32) = nI (gst tw (pa, pb, ps) r0).2.1 := (congrArg (fun z => nI z.2.1) (gst_n c6 c12 c25 c40)).symm
            have hP : va_P D vwCl [(zG, .inr (2, [.int (nI tw), .int (nI (gst tw (pa, pb, ps) r0).1), .int (nI (gst tw (pa, pb, ps) r0).2.1), .int (nI ps)]))] s.heap := by rw [← e_rw]; exact hP
            have hD : va_D A [(zG, .inr (2, [.int (nI tw), .int (nI (gst tw (pa, pb, ps) r0).1), .int (nI (gst tw (pa, pb, ps) r0).2.1), .int (nI ps)]))] := by rw [← e_rw]; exact hD
            clear e_rw
            have e_rw : (nI ps : Int32) = nI (gst tw (pa, pb, ps) r0).2.2 := (congrArg (fun z => nI z.2.2) (gst_n c6 c12 c25 c40)).symm
            have hP : va_P D vwCl [(zG, .inr (2, [.int (nI tw), .int (nI (gst tw (pa, pb, ps) r0).1), .int (nI (gst tw (pa, pb, ps) r0).2.1), .int (nI (gst tw (pa, pb, ps) r0).2.2)]))] s.heap := by rw [← e_rw]; exact hP
            have hD : va_D A [(zG, .inr (2, [.int (nI tw), .int (nI (gst tw (pa, pb, ps) r0).1), .int (nI (gst tw (pa, pb, ps) r0).2.1), .int (nI (gst tw (pa, pb, ps) r0).2.2)]))] := by rw [← e_rw]; exact hD
            clear e_rw
            have hP9 := hP
            have hD9 := hD
            exact W.vret hx hb hr (fun t ht hW => ⟨⟨(), rfl, trivial, ⟨⟨by rw [ht]; exact hP9, va_K.moved hW.alike hK, NW.warm hW hN⟩, hD9⟩⟩, hS.F ht⟩) hS.2.2 dX2_play_58
          · skip
            exact absurd c45 c25
      · skip
        subst c25
        refine lv_aload_n hx hb dX2_play_28 rfl (lv_at hl 0 rfl) ?_
        refine lv_iconst (v := nI 1) hx hb dX2_play_29 (by decide) ?_
        refine lv_aload_n hx hb dX2_play_30 rfl (lv_at hl 0 rfl) ?_
        refine va_get (D := D) (ci := 2) (v := .int (nI ps)) (C := RX2) (T := TX2) (N := 4) hx hb hts hiX2 hown hK hP 0 rfl rfl 3 (by decide) hf21 (fun _ h9 => h9) rfl dX2_play_31 ?_
        refine lv_isub hx hb dX2_play_34 ?_
        refine lv_asi (show (nI 1) - (nI ps) = nI (1 - ps) from pk_sub (by omega)) ?_
        refine xwVv (rest := []) (wr := []) ⟨hx, hb, hml, hown, hts⟩ (c_X2_giveHoop l D cI cZ s.heap.size zG tw pa pb ps (1 - ps) (by omega)) (cwV 1 hts gX2_play_X2_giveHoop rfl rfl rfl (by decide +kernel) ⟨Nat.le_of_ble_eq_true rfl, Nat.le_of_ble_eq_true rfl⟩) hP hD hS hA [0] [] rfl rfl (by decide) (by decide) (by decide) hK hN (ci := 2) (q0 := 0) rfl rfl rfl hl.1 rfl (Nat.le_of_ble_eq_true rfl) dX2_play_35 ⟨Nat.zero_le _, Nat.zero_le _⟩ (fun u35 H locs e35 hP hD hS => ?_)
        have hP : va_P D vwCl [(zG, .inr (2, [.int (nI tw), .int (nI (if (1 - ps) = 0 then pa + 1 else pa)), .int (nI (if (1 - ps) = 0 then pb else pb + 1)), .int (nI ps)]))] H := hP
        have hD : va_D A [(zG, .inr (2, [.int (nI tw), .int (nI (if (1 - ps) = 0 then pa + 1 else pa)), .int (nI (if (1 - ps) = 0 then pb else pb + 1)), .int (nI ps)]))] := hD
        refine lv_iload_n hx hb dX2_play_38 rfl (lv_at hl 1 rfl) ?_
        refine lv_iconst (v := 2) hx hb dX2_play_39 (by decide) ?_
        refine lv_icmp_eq (tgt := 48) hx hb dX2_play_40 (by decide) (fun c40 => ?_) (fun c40 => ?_)
        · skip
          exact absurd c40 (by decide)
        · skip
          refine lv_iload_n hx hb dX2_play_43 rfl (lv_at hl 1 rfl) ?_
          refine lv_iconst (v := 3) hx hb dX2_play_44 (by decide) ?_
          refine lv_icmp_ne (tgt := 58) hx hb dX2_play_45 (by decide) (fun c45 => ?_) (fun c45 => ?_)
          · skip
            exact absurd (by decide) c45
          · skip
            refine lv_aload_n hx hb dX2_play_48 rfl (lv_at hl 0 rfl) ?_
            refine lv_iconst (v := nI 1) hx hb dX2_play_49 (by decide) ?_
            refine lv_aload_n hx hb dX2_play_50 rfl (lv_at hl 0 rfl) ?_
            refine va_get (D := D) (ci := 2) (v := .int (nI ps)) (C := RX2) (T := TX2) (N := 4) hx hb hts hiX2 hown hK hP 0 rfl rfl 3 (by decide) hf21 (fun _ h9 => h9) rfl dX2_play_51 ?_
            refine lv_isub hx hb dX2_play_54 ?_
            refine lv_asi (show (nI 1) - (nI ps) = nI (1 - ps) from pk_sub (by omega)) ?_
            refine va_put (D := D) (ci := 2) (v := .int (nI (1 - ps))) (ty := .int) (C := RX2) (T := TX2) (N := 4) hx hb hts hiX2 tyX2 tyX2_ok nmX2 hown hK hP hD hS 0 rfl rfl 3 (by decide) hf21 (fun _ h9 => h9) rfl (by decide +kernel) rfl rfl (Nat.le_of_ble_eq_true rfl) dX2_play_55 (fun H locs hP hD hS => ?_)
            have hP : va_P D vwCl [(zG, .inr (2, [.int (nI tw), .int (nI (if (1 - ps) = 0 then pa + 1 else pa)), .int (nI (if (1 - ps) = 0 then pb else pb + 1)), .int (nI (1 - ps))]))] H := hP
            have hD : va_D A [(zG, .inr (2, [.int (nI tw), .int (nI (if (1 - ps) = 0 then pa + 1 else pa)), .int (nI (if (1 - ps) = 0 then pb else pb + 1)), .int (nI (1 - ps))]))] := hD
            have e_rw : (nI (if (1 - ps) = 0 then pa + 1 else pa) : Int32) = nI (gst tw (pa, pb, ps) 3).1 := (congrArg (fun z => nI z.1) (gst_3 c6)).symm
            have hP : va_P D vwCl [(zG, .inr (2, [.int (nI tw), .int (nI (gst tw (pa, pb, ps) 3).1), .int (nI (if (1 - ps) = 0 then pb else pb + 1)), .int (nI (1 - ps))]))] H := by rw [← e_rw]; exact hP
            have hD : va_D A [(zG, .inr (2, [.int (nI tw), .int (nI (gst tw (pa, pb, ps) 3).1), .int (nI (if (1 - ps) = 0 then pb else pb + 1)), .int (nI (1 - ps))]))] := by rw [← e_rw]; exact hD
            clear e_rw
            have e_rw : (nI (if (1 - ps) = 0 then pb else pb + 1) : Int32) = nI (gst tw (pa, pb, ps) 3).2.1 := (congrArg (fun z => nI z.2.1) (gst_3 c6)).symm
            have hP : va_P D vwCl [(zG, .inr (2, [.int (nI tw), .int (nI (gst tw (pa, pb, ps) 3).1), .int (nI (gst tw (pa, pb, ps) 3).2.1), .int (nI (1 - ps))]))] H := by rw [← e_rw]; exact hP
            have hD : va_D A [(zG, .inr (2, [.int (nI tw), .int (nI (gst tw (pa, pb, ps) 3).1), .int (nI (gst tw (pa, pb, ps) 3).2.1), .int (nI (1 - ps))]))] := by rw [← e_rw]; exact hD
            clear e_rw
            have e_rw : (nI (1 - ps) : Int32) = nI (gst tw (pa, pb, ps) 3).2.2 := (congrArg (fun z => nI z.2.2) (gst_3 c6)).symm
            have hP : va_P D vwCl [(zG, .inr (2, [.int (nI tw), .int (nI (gst tw (pa, pb, ps) 3).1), .int (nI (gst tw (pa, pb, ps) 3).2.1), .int (nI (gst tw (pa, pb, ps) 3).2.2)]))] H := by rw [← e_rw]; exact hP
            have hD : va_D A [(zG, .inr (2, [.int (nI tw), .int (nI (gst tw (pa, pb, ps) 3).1), .int (nI (gst tw (pa, pb, ps) 3).2.1), .int (nI (gst tw (pa, pb, ps) 3).2.2)]))] := by rw [← e_rw]; exact hD
            clear e_rw
            have hP9 := hP
            have hD9 := hD
            exact W.vret hx hb hr (fun t ht hW => ⟨⟨(), rfl, trivial, ⟨⟨by rw [ht]; exact hP9, va_K.moved hW.alike hK, NW.warm hW hN⟩, hD9⟩⟩, hS.F ht⟩) hS.2.2 dX2_play_58
    · skip
      subst c12
      refine lv_aload_n hx hb dX2_play_15 rfl (lv_at hl 0 rfl) ?_
      refine lv_aload_n hx hb dX2_play_16 rfl (lv_at hl 0 rfl) ?_
      refine va_get (D := D) (ci := 2) (v := .int (nI ps)) (C := RX2) (T := TX2) (N := 4) hx hb hts hiX2 hown hK hP 0 rfl rfl 3 (by decide) hf21 (fun _ h9 => h9) rfl dX2_play_17 ?_
      refine xwVv (rest := []) (wr := []) ⟨hx, hb, hml, hown, hts⟩ (c_X2_giveHoop l D cI cZ s.heap.size zG tw pa pb ps ps hgm.2.2.2) (cwV 1 hts gX2_play_X2_giveHoop rfl rfl rfl (by decide +kernel) ⟨Nat.le_of_ble_eq_true rfl, Nat.le_of_ble_eq_true rfl⟩) hP hD hS hA [0] [] rfl rfl (by decide) (by decide) (by decide) hK hN (ci := 2) (q0 := 0) rfl rfl rfl hl.1 rfl (Nat.le_of_ble_eq_true rfl) dX2_play_20 ⟨Nat.zero_le _, Nat.zero_le _⟩ (fun u20 H locs e20 hP hD hS => ?_)
      have hP : va_P D vwCl [(zG, .inr (2, [.int (nI tw), .int (nI (if ps = 0 then pa + 1 else pa)), .int (nI (if ps = 0 then pb else pb + 1)), .int (nI ps)]))] H := hP
      have hD : va_D A [(zG, .inr (2, [.int (nI tw), .int (nI (if ps = 0 then pa + 1 else pa)), .int (nI (if ps = 0 then pb else pb + 1)), .int (nI ps)]))] := hD
      refine lv_iload_n hx hb dX2_play_23 rfl (lv_at hl 1 rfl) ?_
      refine lv_iconst (v := 3) hx hb dX2_play_24 (by decide) ?_
      refine lv_icmp_ne (tgt := 38) hx hb dX2_play_25 (by decide) (fun c25 => ?_) (fun c25 => ?_)
      · skip
        refine lv_iload_n hx hb dX2_play_38 rfl (lv_at hl 1 rfl) ?_
        refine lv_iconst (v := 2) hx hb dX2_play_39 (by decide) ?_
        refine lv_icmp_eq (tgt := 48) hx hb dX2_play_40 (by decide) (fun c40 => ?_) (fun c40 => ?_)
        · skip
          exact absurd c40 (by decide)
        · skip
          refine lv_iload_n hx hb dX2_play_43 rfl (lv_at hl 1 rfl) ?_
          refine lv_iconst (v := 3) hx hb dX2_play_44 (by decide) ?_
          refine lv_icmp_ne (tgt := 58) hx hb dX2_play_45 (by decide) (fun c45 => ?_) (fun c45 => ?_)
          · skip
            have e_rw : (nI (if ps = 0 then pa + 1 else pa) : Int32) = nI (gst tw (pa, pb, ps) 1).1 := (congrArg (fun z => nI z.1) (gst_1 c6)).symm
            have hP : va_P D vwCl [(zG, .inr (2, [.int (nI tw), .int (nI (gst tw (pa, pb, ps) 1).1), .int (nI (if ps = 0 then pb else pb + 1)), .int (nI ps)]))] H := by rw [← e_rw]; exact hP
            have hD : va_D A [(zG, .inr (2, [.int (nI tw), .int (nI (gst tw (pa, pb, ps) 1).1), .int (nI (if ps = 0 then pb else pb + 1)), .int (nI ps)]))] := by rw [← e_rw]; exact hD
            clear e_rw
            have e_rw : (nI (if ps = 0 then pb else pb + 1) : Int32) = nI (gst tw (pa, pb, ps) 1).2.1 := (congrArg (fun z => nI z.2.1) (gst_1 c6)).symm
            have hP : va_P D vwCl [(zG, .inr (2, [.int (nI tw), .int (nI (gst tw (pa, pb, ps) 1).1), .int (nI (gst tw (pa, pb, ps) 1).2.1), .int (nI ps)]))] H := by rw [← e_rw]; exact hP
            have hD : va_D A [(zG, .inr (2, [.int (nI tw), .int (nI (gst tw (pa, pb, ps) 1).1), .int (nI (gst tw (pa, pb, ps) 1).2.1), .int (nI ps)]))] := by rw [← e_rw]; exact hD
            clear e_rw
            have e_rw : (nI ps : Int32) = nI (gst tw (pa, pb, ps) 1).2.2 := (congrArg (fun z => nI z.2.2) (gst_1 c6)).symm
            have hP : va_P D vwCl [(zG, .inr (2, [.int (nI tw), .int (nI (gst tw (pa, pb, ps) 1).1), .int (nI (gst tw (pa, pb, ps) 1).2.1), .int (nI (gst tw (pa, pb, ps) 1).2.2)]))] H := by rw [← e_rw]; exact hP
            have hD : va_D A [(zG, .inr (2, [.int (nI tw), .int (nI (gst tw (pa, pb, ps) 1).1), .int (nI (gst tw (pa, pb, ps) 1).2.1), .int (nI (gst tw (pa, pb, ps) 1).2.2)]))] := by rw [← e_rw]; exact hD
            clear e_rw
            have hP9 := hP
            have hD9 := hD
            exact W.vret hx hb hr (fun t ht hW => ⟨⟨(), rfl, trivial, ⟨⟨by rw [ht]; exact hP9, va_K.moved hW.alike hK, NW.warm hW hN⟩, hD9⟩⟩, hS.F ht⟩) hS.2.2 dX2_play_58
          · skip
            exact absurd c45 (by decide)
      · skip
        exact absurd c25 (by decide)
  · skip
    have c6 := Classical.byContradiction (fun z => c6 (gwin_6.mpr z))
    have e_rw : (nI pa : Int32) = nI (gst tw (pa, pb, ps) r0).1 := (congrArg (fun z => nI z.1) (gst_w c6)).symm
    have hP : va_P D vwCl [(zG, .inr (2, [.int (nI tw), .int (nI (gst tw (pa, pb, ps) r0).1), .int (nI pb), .int (nI ps)]))] s.heap := by rw [← e_rw]; exact hP
    have hD : va_D A [(zG, .inr (2, [.int (nI tw), .int (nI (gst tw (pa, pb, ps) r0).1), .int (nI pb), .int (nI ps)]))] := by rw [← e_rw]; exact hD
    clear e_rw
    have e_rw : (nI pb : Int32) = nI (gst tw (pa, pb, ps) r0).2.1 := (congrArg (fun z => nI z.2.1) (gst_w c6)).symm
    have hP : va_P D vwCl [(zG, .inr (2, [.int (nI tw), .int (nI (gst tw (pa, pb, ps) r0).1), .int (nI (gst tw (pa, pb, ps) r0).2.1), .int (nI ps)]))] s.heap := by rw [← e_rw]; exact hP
    have hD : va_D A [(zG, .inr (2, [.int (nI tw), .int (nI (gst tw (pa, pb, ps) r0).1), .int (nI (gst tw (pa, pb, ps) r0).2.1), .int (nI ps)]))] := by rw [← e_rw]; exact hD
    clear e_rw
    have e_rw : (nI ps : Int32) = nI (gst tw (pa, pb, ps) r0).2.2 := (congrArg (fun z => nI z.2.2) (gst_w c6)).symm
    have hP : va_P D vwCl [(zG, .inr (2, [.int (nI tw), .int (nI (gst tw (pa, pb, ps) r0).1), .int (nI (gst tw (pa, pb, ps) r0).2.1), .int (nI (gst tw (pa, pb, ps) r0).2.2)]))] s.heap := by rw [← e_rw]; exact hP
    have hD : va_D A [(zG, .inr (2, [.int (nI tw), .int (nI (gst tw (pa, pb, ps) r0).1), .int (nI (gst tw (pa, pb, ps) r0).2.1), .int (nI (gst tw (pa, pb, ps) r0).2.2)]))] := by rw [← e_rw]; exact hD
    clear e_rw
    have hP9 := hP
    have hD9 := hD
    exact W.vret hx hb hr (fun t ht hW => ⟨⟨(), rfl, trivial, ⟨⟨by rw [ht]; exact hP9, va_K.moved hW.alike hK, NW.warm hW hN⟩, hD9⟩⟩, hS.F ht⟩) hS.2.2 dX2_play_9

set_option maxHeartbeats 4000000 in
set_option maxRecDepth 100000 in
theorem c_X0_init (l : Launch) (D : va_G) (cI cZ : ClassId) (sz : Nat) (zB : Nat) : Met l yX0_init wsX0_init ({ frames := 1, cells := 6, slots := 183, locals := 12 }) (va_Pc [.ref zB] (XW D cI cZ [(zB, .inr (0, [.int 0, .int 0, .null, .null, .int 0, .int 0, .int 0, .null, .null, .null, .null]))] sz)) (va_Qv (fun u : Nat × Nat × Nat × Nat × Nat × Nat => True) (fun u => XB D cI cZ (va_A [(zB, .inr (0, [.int 0, .int 0, .null, .null, .int 0, .int 0, .int 0, .null, .null, .null, .null]))] sz) [(zB, .inr (0, [.int 0, .int 0, .ref u.1, .ref u.2.1, .int 0, .int 0, .int 0, .ref u.2.2.1, .ref u.2.2.2.1, .ref u.2.2.2.2.1, .ref u.2.2.2.2.2])), (u.1, .inl (cZ, 128, .inl (fun _ => 0))), (u.2.1, .inl (cI, 7, .inl (fun _ => 0))), (u.2.2.1, .inl (cI, 12, .inl (fun _ => 0))), (u.2.2.2.1, .inl (cI, 12, .inl (fun _ => 0))), (u.2.2.2.2.1, .inl (cI, 12, .inl (fun _ => 0))), (u.2.2.2.2.2, .inl (cI, 12, .inl (fun _ => 0)))]) (va_A [(zB, .inr (0, [.int 0, .int 0, .null, .null, .int 0, .int 0, .int 0, .null, .null, .null, .null]))] sz)) 6 183 (va_A [(zB, .inr (0, [.int 0, .int 0, .null, .null, .int 0, .int 0, .int 0, .null, .null, .null, .null]))] sz) := by
  refine Met.ofW (cc := cX0_init) (maxL := 1) (ret := none) (by decide) rfl ?_
  intro p e s m args below meth c s₁ B hml hv
  obtain ⟨rfl, hsz, ⟨hP, hK, hN⟩, hD0⟩ := hv
  have hx := B.exec
  have hb := B.bytes
  have hr := B.returns
  have hts := atoms_spec (ws := wsX0_init) B.pre
  have hown : s.vm.findClass RX0 = some m.cls := findClass_of_methodNamed B.named
  have hlocks := B.notSynchronized
  have hin : meth.name = "<init>" := (name_of_methodNamed B.named B.method).1
  subst hsz
  have hD := hD0.self (sz := s.heap.size)
  generalize hAe : va_A [(zB, .inr (0, [.int 0, .int 0, .null, .null, .int 0, .int 0, .int 0, .null, .null, .null, .null]))] s.heap.size = A at hD ⊢
  have hA : ∀ q : Nat, s.heap.size ≤ q → A q := fun q h => by rw [← hAe]; exact Or.inr h
  have hS : va_S A s.heap s.heap [] := va_S.rf
  have hf9 := hts (.fieldLink RX0 9 "BallCourt$Book" "isKind" "[Z") (List.mem_of_getElem? (i := 5) (by decide +kernel))
  have hiX0 : ∀ w ∈ wsX00, w ∈ wsX0_init := fun w h => List.mem_cons_of_mem _ (List.mem_append_right _ h)
  have hf15 := hts (.fieldLink RX0 15 "BallCourt$Book" "barredWith" "[I") (List.mem_of_getElem? (i := 7) (by decide +kernel))
  have hf19 := hts (.fieldLink RX0 19 "BallCourt$Book" "must" "[I") (List.mem_of_getElem? (i := 8) (by decide +kernel))
  have hf22 := hts (.fieldLink RX0 22 "BallCourt$Book" "mustNot" "[I") (List.mem_of_getElem? (i := 9) (by decide +kernel))
  have hf25 := hts (.fieldLink RX0 25 "BallCourt$Book" "ruling" "[I") (List.mem_of_getElem? (i := 10) (by decide +kernel))
  have hf28 := hts (.fieldLink RX0 28 "BallCourt$Book" "excepters" "[I") (List.mem_of_getElem? (i := 11) (by decide +kernel))
  have hl := lv_entry ([.ref zB]) (n := 1) (Nat.le_of_ble_eq_true rfl)
  rw [lg_entry_eq]
  generalize (lg_sl ([.ref zB]) ++ List.replicate (1 - (lg_sl ([.ref zB])).length) Slot.unset).toArray = ls at hl ⊢
  have hl : lv_has ls 1 [(0, .ref zB)] := hl
  refine lv_aload_n hx hb dX0_init_0 rfl (lv_at hl 0 rfl) ?_
  refine W.objInit hx hb hown (hts (.methodLink RX0 3 objectInit) (List.mem_of_getElem? (i := 1) (by decide +kernel))) (hts (.instanceMethod objectInit) (List.mem_of_getElem? (i := 2) (by decide +kernel))) (hts _ (List.mem_of_getElem? (i := 3) rfl)) rfl (by rw [hml]; exact hl.1) rfl dX0_init_1 (Nat.le_of_ble_eq_true rfl) (Nat.le_of_ble_eq_true rfl) ?_
  refine W.eq (g2 := F0 m 4 ls []) rfl ?_
  refine lv_aload_n hx hb dX0_init_4 rfl (lv_at hl 0 rfl) ?_
  refine lv_sipush (v := 128) hx hb dX0_init_5 (by decide) ?_
  refine xnewZ (n := 128) hx hb (hts (.arrayClass .boolean) (List.mem_of_getElem? (i := 4) (by decide +kernel))) hK hP hD hS hA rfl (by decide) (Nat.le_of_ble_eq_true rfl) (Nat.le_of_ble_eq_true rfl) dX0_init_8 (fun q8 H hP hD hS => ?_)
  have hP : va_P D vwCl [(zB, .inr (0, [.int 0, .int 0, .null, .null, .int 0, .int 0, .int 0, .null, .null, .null, .null])), (q8, .inl (cZ, 128, .inl (fun _ => 0)))] H := hP
  have hD : va_D A [(zB, .inr (0, [.int 0, .int 0, .null, .null, .int 0, .int 0, .int 0, .null, .null, .null, .null])), (q8, .inl (cZ, 128, .inl (fun _ => 0)))] := hD
  refine va_putF (D := D) (ci := 0) (v := .ref q8) (ty := .array .boolean) (C := RX0) (T := TX0) (N := 11) hx hb hts hiX0 tyX0 tyX0_ok nmX0 hown hK hP hD hS 0 rfl rfl 2 (by decide) hf9 (fun _ h9 => h9) rfl hin rfl (by decide +kernel) rfl rfl (Nat.le_of_ble_eq_true rfl) dX0_init_10 (fun H locs hP hD hS => ?_)
  have hP : va_P D vwCl [(zB, .inr (0, [.int 0, .int 0, .ref q8, .null, .int 0, .int 0, .int 0, .null, .null, .null, .null])), (q8, .inl (cZ, 128, .inl (fun _ => 0)))] H := hP
  have hD : va_D A [(zB, .inr (0, [.int 0, .int 0, .ref q8, .null, .int 0, .int 0, .int 0, .null, .null, .null, .null])), (q8, .inl (cZ, 128, .inl (fun _ => 0)))] := hD
  refine lv_aload_n hx hb dX0_init_13 rfl (lv_at hl 0 rfl) ?_
  refine lv_bipush (v := 7) hx hb dX0_init_14 (by decide) ?_
  refine xnewI (n := 7) hx hb (hts (.arrayClass .int) (List.mem_of_getElem? (i := 6) (by decide +kernel))) hK hP hD hS hA rfl (by decide) (Nat.le_of_ble_eq_true rfl) (Nat.le_of_ble_eq_true rfl) dX0_init_16 (fun q16 H hP hD hS => ?_)
  have hP : va_P D vwCl [(zB, .inr (0, [.int 0, .int 0, .ref q8, .null, .int 0, .int 0, .int 0, .null, .null, .null, .null])), (q8, .inl (cZ, 128, .inl (fun _ => 0))), (q16, .inl (cI, 7, .inl (fun _ => 0)))] H := hP
  have hD : va_D A [(zB, .inr (0, [.int 0, .int 0, .ref q8, .null, .int 0, .int 0, .int 0, .null, .null, .null, .null])), (q8, .inl (cZ, 128, .inl (fun _ => 0))), (q16, .inl (cI, 7, .inl (fun _ => 0)))] := hD
  refine va_putF (D := D) (ci := 0) (v := .ref q16) (ty := .array .int) (C := RX0) (T := TX0) (N := 11) hx hb hts hiX0 tyX0 tyX0_ok nmX0 hown hK hP hD hS 0 rfl rfl 3 (by decide) hf15 (fun _ h9 => h9) rfl hin rfl (by decide +kernel) rfl rfl (Nat.le_of_ble_eq_true rfl) dX0_init_18 (fun H locs hP hD hS => ?_)
  have hP : va_P D vwCl [(zB, .inr (0, [.int 0, .int 0, .ref q8, .ref q16, .int 0, .int 0, .int 0, .null, .null, .null, .null])), (q8, .inl (cZ, 128, .inl (fun _ => 0))), (q16, .inl (cI, 7, .inl (fun _ => 0)))] H := hP
  have hD : va_D A [(zB, .inr (0, [.int 0, .int 0, .ref q8, .ref q16, .int 0, .int 0, .int 0, .null, .null, .null, .null])), (q8, .inl (cZ, 128, .inl (fun _ => 0))), (q16, .inl (cI, 7, .inl (fun _ => 0)))] := hD
  refine lv_aload_n hx hb dX0_init_21 rfl (lv_at hl 0 rfl) ?_
  refine lv_bipush (v := 12) hx hb dX0_init_22 (by decide) ?_
  refine xnewI (n := 12) hx hb (hts (.arrayClass .int) (List.mem_of_getElem? (i := 6) (by decide +kernel))) hK hP hD hS hA rfl (by decide) (Nat.le_of_ble_eq_true rfl) (Nat.le_of_ble_eq_true rfl) dX0_init_24 (fun q24 H hP hD hS => ?_)
  have hP : va_P D vwCl [(zB, .inr (0, [.int 0, .int 0, .ref q8, .ref q16, .int 0, .int 0, .int 0, .null, .null, .null, .null])), (q8, .inl (cZ, 128, .inl (fun _ => 0))), (q16, .inl (cI, 7, .inl (fun _ => 0))), (q24, .inl (cI, 12, .inl (fun _ => 0)))] H := hP
  have hD : va_D A [(zB, .inr (0, [.int 0, .int 0, .ref q8, .ref q16, .int 0, .int 0, .int 0, .null, .null, .null, .null])), (q8, .inl (cZ, 128, .inl (fun _ => 0))), (q16, .inl (cI, 7, .inl (fun _ => 0))), (q24, .inl (cI, 12, .inl (fun _ => 0)))] := hD
  refine va_putF (D := D) (ci := 0) (v := .ref q24) (ty := .array .int) (C := RX0) (T := TX0) (N := 11) hx hb hts hiX0 tyX0 tyX0_ok nmX0 hown hK hP hD hS 0 rfl rfl 7 (by decide) hf19 (fun _ h9 => h9) rfl hin rfl (by decide +kernel) rfl rfl (Nat.le_of_ble_eq_true rfl) dX0_init_26 (fun H locs hP hD hS => ?_)
  have hP : va_P D vwCl [(zB, .inr (0, [.int 0, .int 0, .ref q8, .ref q16, .int 0, .int 0, .int 0, .ref q24, .null, .null, .null])), (q8, .inl (cZ, 128, .inl (fun _ => 0))), (q16, .inl (cI, 7, .inl (fun _ => 0))), (q24, .inl (cI, 12, .inl (fun _ => 0)))] H := hP
  have hD : va_D A [(zB, .inr (0, [.int 0, .int 0, .ref q8, .ref q16, .int 0, .int 0, .int 0, .ref q24, .null, .null, .null])), (q8, .inl (cZ, 128, .inl (fun _ => 0))), (q16, .inl (cI, 7, .inl (fun _ => 0))), (q24, .inl (cI, 12, .inl (fun _ => 0)))] := hD
  refine lv_aload_n hx hb dX0_init_29 rfl (lv_at hl 0 rfl) ?_
  refine lv_bipush (v := 12) hx hb dX0_init_30 (by decide) ?_
  refine xnewI (n := 12) hx hb (hts (.arrayClass .int) (List.mem_of_getElem? (i := 6) (by decide +kernel))) hK hP hD hS hA rfl (by decide) (Nat.le_of_ble_eq_true rfl) (Nat.le_of_ble_eq_true rfl) dX0_init_32 (fun q32 H hP hD hS => ?_)
  have hP : va_P D vwCl [(zB, .inr (0, [.int 0, .int 0, .ref q8, .ref q16, .int 0, .int 0, .int 0, .ref q24, .null, .null, .null])), (q8, .inl (cZ, 128, .inl (fun _ => 0))), (q16, .inl (cI, 7, .inl (fun _ => 0))), (q24, .inl (cI, 12, .inl (fun _ => 0))), (q32, .inl (cI, 12, .inl (fun _ => 0)))] H := hP
  have hD : va_D A [(zB, .inr (0, [.int 0, .int 0, .ref q8, .ref q16, .int 0, .int 0, .int 0, .ref q24, .null, .null, .null])), (q8, .inl (cZ, 128, .inl (fun _ => 0))), (q16, .inl (cI, 7, .inl (fun _ => 0))), (q24, .inl (cI, 12, .inl (fun _ => 0))), (q32, .inl (cI, 12, .inl (fun _ => 0)))] := hD
  refine va_putF (D := D) (ci := 0) (v := .ref q32) (ty := .array .int) (C := RX0) (T := TX0) (N := 11) hx hb hts hiX0 tyX0 tyX0_ok nmX0 hown hK hP hD hS 0 rfl rfl 8 (by decide) hf22 (fun _ h9 => h9) rfl hin rfl (by decide +kernel) rfl rfl (Nat.le_of_ble_eq_true rfl) dX0_init_34 (fun H locs hP hD hS => ?_)
  have hP : va_P D vwCl [(zB, .inr (0, [.int 0, .int 0, .ref q8, .ref q16, .int 0, .int 0, .int 0, .ref q24, .ref q32, .null, .null])), (q8, .inl (cZ, 128, .inl (fun _ => 0))), (q16, .inl (cI, 7, .inl (fun _ => 0))), (q24, .inl (cI, 12, .inl (fun _ => 0))), (q32, .inl (cI, 12, .inl (fun _ => 0)))] H := hP
  have hD : va_D A [(zB, .inr (0, [.int 0, .int 0, .ref q8, .ref q16, .int 0, .int 0, .int 0, .ref q24, .ref q32, .null, .null])), (q8, .inl (cZ, 128, .inl (fun _ => 0))), (q16, .inl (cI, 7, .inl (fun _ => 0))), (q24, .inl (cI, 12, .inl (fun _ => 0))), (q32, .inl (cI, 12, .inl (fun _ => 0)))] := hD
  refine lv_aload_n hx hb dX0_init_37 rfl (lv_at hl 0 rfl) ?_
  refine lv_bipush (v := 12) hx hb dX0_init_38 (by decide) ?_
  refine xnewI (n := 12) hx hb (hts (.arrayClass .int) (List.mem_of_getElem? (i := 6) (by decide +kernel))) hK hP hD hS hA rfl (by decide) (Nat.le_of_ble_eq_true rfl) (Nat.le_of_ble_eq_true rfl) dX0_init_40 (fun q40 H hP hD hS => ?_)
  have hP : va_P D vwCl [(zB, .inr (0, [.int 0, .int 0, .ref q8, .ref q16, .int 0, .int 0, .int 0, .ref q24, .ref q32, .null, .null])), (q8, .inl (cZ, 128, .inl (fun _ => 0))), (q16, .inl (cI, 7, .inl (fun _ => 0))), (q24, .inl (cI, 12, .inl (fun _ => 0))), (q32, .inl (cI, 12, .inl (fun _ => 0))), (q40, .inl (cI, 12, .inl (fun _ => 0)))] H := hP
  have hD : va_D A [(zB, .inr (0, [.int 0, .int 0, .ref q8, .ref q16, .int 0, .int 0, .int 0, .ref q24, .ref q32, .null, .null])), (q8, .inl (cZ, 128, .inl (fun _ => 0))), (q16, .inl (cI, 7, .inl (fun _ => 0))), (q24, .inl (cI, 12, .inl (fun _ => 0))), (q32, .inl (cI, 12, .inl (fun _ => 0))), (q40, .inl (cI, 12, .inl (fun _ => 0)))] := hD
  refine va_putF (D := D) (ci := 0) (v := .ref q40) (ty := .array .int) (C := RX0) (T := TX0) (N := 11) hx hb hts hiX0 tyX0 tyX0_ok nmX0 hown hK hP hD hS 0 rfl rfl 9 (by decide) hf25 (fun _ h9 => h9) rfl hin rfl (by decide +kernel) rfl rfl (Nat.le_of_ble_eq_true rfl) dX0_init_42 (fun H locs hP hD hS => ?_)
  have hP : va_P D vwCl [(zB, .inr (0, [.int 0, .int 0, .ref q8, .ref q16, .int 0, .int 0, .int 0, .ref q24, .ref q32, .ref q40, .null])), (q8, .inl (cZ, 128, .inl (fun _ => 0))), (q16, .inl (cI, 7, .inl (fun _ => 0))), (q24, .inl (cI, 12, .inl (fun _ => 0))), (q32, .inl (cI, 12, .inl (fun _ => 0))), (q40, .inl (cI, 12, .inl (fun _ => 0)))] H := hP
  have hD : va_D A [(zB, .inr (0, [.int 0, .int 0, .ref q8, .ref q16, .int 0, .int 0, .int 0, .ref q24, .ref q32, .ref q40, .null])), (q8, .inl (cZ, 128, .inl (fun _ => 0))), (q16, .inl (cI, 7, .inl (fun _ => 0))), (q24, .inl (cI, 12, .inl (fun _ => 0))), (q32, .inl (cI, 12, .inl (fun _ => 0))), (q40, .inl (cI, 12, .inl (fun _ => 0)))] := hD
  refine lv_aload_n hx hb dX0_init_45 rfl (lv_at hl 0 rfl) ?_
  refine lv_bipush (v := 12) hx hb dX0_init_46 (by decide) ?_
  refine xnewI (n := 12) hx hb (hts (.arrayClass .int) (List.mem_of_getElem? (i := 6) (by decide +kernel))) hK hP hD hS hA rfl (by decide) (Nat.le_of_ble_eq_true rfl) (Nat.le_of_ble_eq_true rfl) dX0_init_48 (fun q48 H hP hD hS => ?_)
  have hP : va_P D vwCl [(zB, .inr (0, [.int 0, .int 0, .ref q8, .ref q16, .int 0, .int 0, .int 0, .ref q24, .ref q32, .ref q40, .null])), (q8, .inl (cZ, 128, .inl (fun _ => 0))), (q16, .inl (cI, 7, .inl (fun _ => 0))), (q24, .inl (cI, 12, .inl (fun _ => 0))), (q32, .inl (cI, 12, .inl (fun _ => 0))), (q40, .inl (cI, 12, .inl (fun _ => 0))), (q48, .inl (cI, 12, .inl (fun _ => 0)))] H := hP
  have hD : va_D A [(zB, .inr (0, [.int 0, .int 0, .ref q8, .ref q16, .int 0, .int 0, .int 0, .ref q24, .ref q32, .ref q40, .null])), (q8, .inl (cZ, 128, .inl (fun _ => 0))), (q16, .inl (cI, 7, .inl (fun _ => 0))), (q24, .inl (cI, 12, .inl (fun _ => 0))), (q32, .inl (cI, 12, .inl (fun _ => 0))), (q40, .inl (cI, 12, .inl (fun _ => 0))), (q48, .inl (cI, 12, .inl (fun _ => 0)))] := hD
  refine va_putF (D := D) (ci := 0) (v := .ref q48) (ty := .array .int) (C := RX0) (T := TX0) (N := 11) hx hb hts hiX0 tyX0 tyX0_ok nmX0 hown hK hP hD hS 0 rfl rfl 10 (by decide) hf28 (fun _ h9 => h9) rfl hin rfl (by decide +kernel) rfl rfl (Nat.le_of_ble_eq_true rfl) dX0_init_50 (fun H locs hP hD hS => ?_)
  have hP : va_P D vwCl [(zB, .inr (0, [.int 0, .int 0, .ref q8, .ref q16, .int 0, .int 0, .int 0, .ref q24, .ref q32, .ref q40, .ref q48])), (q8, .inl (cZ, 128, .inl (fun _ => 0))), (q16, .inl (cI, 7, .inl (fun _ => 0))), (q24, .inl (cI, 12, .inl (fun _ => 0))), (q32, .inl (cI, 12, .inl (fun _ => 0))), (q40, .inl (cI, 12, .inl (fun _ => 0))), (q48, .inl (cI, 12, .inl (fun _ => 0)))] H := hP
  have hD : va_D A [(zB, .inr (0, [.int 0, .int 0, .ref q8, .ref q16, .int 0, .int 0, .int 0, .ref q24, .ref q32, .ref q40, .ref q48])), (q8, .inl (cZ, 128, .inl (fun _ => 0))), (q16, .inl (cI, 7, .inl (fun _ => 0))), (q24, .inl (cI, 12, .inl (fun _ => 0))), (q32, .inl (cI, 12, .inl (fun _ => 0))), (q40, .inl (cI, 12, .inl (fun _ => 0))), (q48, .inl (cI, 12, .inl (fun _ => 0)))] := hD
  have hP9 := hP
  have hD9 := hD
  refine W.widen (k := 6) (n := 183) (Nat.le_of_ble_eq_true rfl) (Nat.le_of_ble_eq_true rfl) ?_
  exact W.vret hx hb hr (fun t ht hW => ⟨⟨(q8, q16, q24, q32, q40, q48), rfl, trivial, ⟨⟨by rw [ht]; exact hP9, va_K.moved hW.alike hK, NW.warm hW hN⟩, hD9⟩⟩, hS.F ht⟩) hS.2.2 dX0_init_53

set_option maxHeartbeats 4000000 in
set_option maxRecDepth 100000 in
theorem c_X3_init (l : Launch) (D : va_G) (cI cZ : ClassId) (sz : Nat) (zB : Nat) (zL : Nat) (zB : Nat) : Met l yX3_init wsX3_init ({ frames := 1, cells := 1, slots := 128, locals := 12 }) (va_Pc [.ref zL, .ref zB] (XW D cI cZ [(zL, .inr (3, [.null, .null]))] sz)) (va_Qv (fun u : Nat => True) (fun u => XB D cI cZ (va_A [(zL, .inr (3, [.null, .null]))] sz) [(zL, .inr (3, [.ref zB, .ref u])), (u, .inl (cI, 128, .inl (fun _ => 0)))]) (va_A [(zL, .inr (3, [.null, .null]))] sz)) 1 128 (va_A [(zL, .inr (3, [.null, .null]))] sz) := by
  refine Met.ofW (cc := cX3_init) (maxL := 2) (ret := none) (by decide) rfl ?_
  intro p e s m args below meth c s₁ B hml hv
  obtain ⟨rfl, hsz, ⟨hP, hK, hN⟩, hD0⟩ := hv
  have hx := B.exec
  have hb := B.bytes
  have hr := B.returns
  have hts := atoms_spec (ws := wsX3_init) B.pre
  have hown : s.vm.findClass RX3 = some m.cls := findClass_of_methodNamed B.named
  have hlocks := B.notSynchronized
  have hin : meth.name = "<init>" := (name_of_methodNamed B.named B.method).1
  subst hsz
  have hD := hD0.self (sz := s.heap.size)
  generalize hAe : va_A [(zL, .inr (3, [.null, .null]))] s.heap.size = A at hD ⊢
  have hA : ∀ q : Nat, s.heap.size ≤ q → A q := fun q h => by rw [← hAe]; exact Or.inr h
  have hS : va_S A s.heap s.heap [] := va_S.rf
  have hf9 := hts (.fieldLink RX3 9 "BallCourt$Laws" "lineOf" "[I") (List.mem_of_getElem? (i := 5) (by decide +kernel))
  have hiX3 : ∀ w ∈ wsX30, w ∈ wsX3_init := fun w h => List.mem_cons_of_mem _ (List.mem_append_right _ h)
  have hf15 := hts (.fieldLink RX3 15 "BallCourt$Laws" "book" "LBallCourt$Book;") (List.mem_of_getElem? (i := 6) (by decide +kernel))
  have hl := lv_entry ([.ref zL, .ref zB]) (n := 2) (Nat.le_of_ble_eq_true rfl)
  rw [lg_entry_eq]
  generalize (lg_sl ([.ref zL, .ref zB]) ++ List.replicate (2 - (lg_sl ([.ref zL, .ref zB])).length) Slot.unset).toArray = ls at hl ⊢
  have hl : lv_has ls 2 [(0, .ref zL), (1, .ref zB)] := hl
  refine lv_aload_n hx hb dX3_init_0 rfl (lv_at hl 0 rfl) ?_
  refine W.objInit hx hb hown (hts (.methodLink RX3 3 objectInit) (List.mem_of_getElem? (i := 1) (by decide +kernel))) (hts (.instanceMethod objectInit) (List.mem_of_getElem? (i := 2) (by decide +kernel))) (hts _ (List.mem_of_getElem? (i := 3) rfl)) rfl (by rw [hml]; exact hl.1) rfl dX3_init_1 (Nat.le_of_ble_eq_true rfl) (Nat.le_of_ble_eq_true rfl) ?_
  refine W.eq (g2 := F0 m 4 ls []) rfl ?_
  refine lv_aload_n hx hb dX3_init_4 rfl (lv_at hl 0 rfl) ?_
  refine lv_sipush (v := 128) hx hb dX3_init_5 (by decide) ?_
  refine xnewI (n := 128) hx hb (hts (.arrayClass .int) (List.mem_of_getElem? (i := 4) (by decide +kernel))) hK hP hD hS hA rfl (by decide) (Nat.le_of_ble_eq_true rfl) (Nat.le_of_ble_eq_true rfl) dX3_init_8 (fun q8 H hP hD hS => ?_)
  have hP : va_P D vwCl [(zL, .inr (3, [.null, .null])), (q8, .inl (cI, 128, .inl (fun _ => 0)))] H := hP
  have hD : va_D A [(zL, .inr (3, [.null, .null])), (q8, .inl (cI, 128, .inl (fun _ => 0)))] := hD
  refine va_putF (D := D) (ci := 3) (v := .ref q8) (ty := .array .int) (C := RX3) (T := TX3) (N := 2) hx hb hts hiX3 tyX3 tyX3_ok nmX3 hown hK hP hD hS 0 rfl rfl 1 (by decide) hf9 (fun _ h9 => h9) rfl hin rfl (by decide +kernel) rfl rfl (Nat.le_of_ble_eq_true rfl) dX3_init_10 (fun H locs hP hD hS => ?_)
  have hP : va_P D vwCl [(zL, .inr (3, [.null, .ref q8])), (q8, .inl (cI, 128, .inl (fun _ => 0)))] H := hP
  have hD : va_D A [(zL, .inr (3, [.null, .ref q8])), (q8, .inl (cI, 128, .inl (fun _ => 0)))] := hD
  refine lv_aload_n hx hb dX3_init_13 rfl (lv_at hl 0 rfl) ?_
  refine lv_aload_n hx hb dX3_init_14 rfl (lv_at hl 1 rfl) ?_
  refine va_putF (D := D) (ci := 3) (v := .ref zB) (ty := .object "BallCourt$Book") (C := RX3) (T := TX3) (N := 2) hx hb hts hiX3 tyX3 tyX3_ok nmX3 hown hK hP hD hS 0 rfl rfl 0 (by decide) hf15 (fun _ h9 => h9) rfl hin rfl (by decide +kernel) rfl rfl (Nat.le_of_ble_eq_true rfl) dX3_init_15 (fun H locs hP hD hS => ?_)
  have hP : va_P D vwCl [(zL, .inr (3, [.ref zB, .ref q8])), (q8, .inl (cI, 128, .inl (fun _ => 0)))] H := hP
  have hD : va_D A [(zL, .inr (3, [.ref zB, .ref q8])), (q8, .inl (cI, 128, .inl (fun _ => 0)))] := hD
  have hP9 := hP
  have hD9 := hD
  refine W.widen (k := 1) (n := 128) (Nat.le_of_ble_eq_true rfl) (Nat.le_of_ble_eq_true rfl) ?_
  exact W.vret hx hb hr (fun t ht hW => ⟨⟨q8, rfl, trivial, ⟨⟨by rw [ht]; exact hP9, va_K.moved hW.alike hK, NW.warm hW hN⟩, hD9⟩⟩, hS.F ht⟩) hS.2.2 dX3_init_18

set_option maxHeartbeats 4000000 in
set_option maxRecDepth 100000 in
theorem c_X1_init (l : Launch) (D : va_G) (cI cZ : ClassId) (sz : Nat) (zC : Nat) : Met l yX1_init wsX1_init ({ frames := 1, cells := 3, slots := 36, locals := 12 }) (va_Pc [.ref zC] (XW D cI cZ [(zC, .inr (1, [.int 0, .null, .null, .null]))] sz)) (va_Qv (fun u : Nat × Nat × Nat => True) (fun u => XB D cI cZ (va_A [(zC, .inr (1, [.int 0, .null, .null, .null]))] sz) [(zC, .inr (1, [.int 0, .ref u.1, .ref u.2.1, .ref u.2.2])), (u.1, .inl (cI, 12, .inl (fun _ => 0))), (u.2.1, .inl (cI, 12, .inl (fun _ => 0))), (u.2.2, .inl (cI, 12, .inl (fun _ => 0)))]) (va_A [(zC, .inr (1, [.int 0, .null, .null, .null]))] sz)) 3 36 (va_A [(zC, .inr (1, [.int 0, .null, .null, .null]))] sz) := by
  refine Met.ofW (cc := cX1_init) (maxL := 1) (ret := none) (by decide) rfl ?_
  intro p e s m args below meth c s₁ B hml hv
  obtain ⟨rfl, hsz, ⟨hP, hK, hN⟩, hD0⟩ := hv
  have hx := B.exec
  have hb := B.bytes
  have hr := B.returns
  have hts := atoms_spec (ws := wsX1_init) B.pre
  have hown : s.vm.findClass RX1 = some m.cls := findClass_of_methodNamed B.named
  have hlocks := B.notSynchronized
  have hin : meth.name = "<init>" := (name_of_methodNamed B.named B.method).1
  subst hsz
  have hD := hD0.self (sz := s.heap.size)
  generalize hAe : va_A [(zC, .inr (1, [.int 0, .null, .null, .null]))] s.heap.size = A at hD ⊢
  have hA : ∀ q : Nat, s.heap.size ≤ q → A q := fun q h => by rw [← hAe]; exact Or.inr h
  have hS : va_S A s.heap s.heap [] := va_S.rf
  have hf9 := hts (.fieldLink RX1 9 "BallCourt$Cases" "kind" "[I") (List.mem_of_getElem? (i := 5) (by decide +kernel))
  have hiX1 : ∀ w ∈ wsX10, w ∈ wsX1_init := fun w h => List.mem_cons_of_mem _ (List.mem_append_right _ h)
  have hf15 := hts (.fieldLink RX1 15 "BallCourt$Cases" "ruling" "[I") (List.mem_of_getElem? (i := 6) (by decide +kernel))
  have hf18 := hts (.fieldLink RX1 18 "BallCourt$Cases" "names" "[I") (List.mem_of_getElem? (i := 7) (by decide +kernel))
  have hl := lv_entry ([.ref zC]) (n := 1) (Nat.le_of_ble_eq_true rfl)
  rw [lg_entry_eq]
  generalize (lg_sl ([.ref zC]) ++ List.replicate (1 - (lg_sl ([.ref zC])).length) Slot.unset).toArray = ls at hl ⊢
  have hl : lv_has ls 1 [(0, .ref zC)] := hl
  refine lv_aload_n hx hb dX1_init_0 rfl (lv_at hl 0 rfl) ?_
  refine W.objInit hx hb hown (hts (.methodLink RX1 3 objectInit) (List.mem_of_getElem? (i := 1) (by decide +kernel))) (hts (.instanceMethod objectInit) (List.mem_of_getElem? (i := 2) (by decide +kernel))) (hts _ (List.mem_of_getElem? (i := 3) rfl)) rfl (by rw [hml]; exact hl.1) rfl dX1_init_1 (Nat.le_of_ble_eq_true rfl) (Nat.le_of_ble_eq_true rfl) ?_
  refine W.eq (g2 := F0 m 4 ls []) rfl ?_
  refine lv_aload_n hx hb dX1_init_4 rfl (lv_at hl 0 rfl) ?_
  refine lv_bipush (v := 12) hx hb dX1_init_5 (by decide) ?_
  refine xnewI (n := 12) hx hb (hts (.arrayClass .int) (List.mem_of_getElem? (i := 4) (by decide +kernel))) hK hP hD hS hA rfl (by decide) (Nat.le_of_ble_eq_true rfl) (Nat.le_of_ble_eq_true rfl) dX1_init_7 (fun q7 H hP hD hS => ?_)
  have hP : va_P D vwCl [(zC, .inr (1, [.int 0, .null, .null, .null])), (q7, .inl (cI, 12, .inl (fun _ => 0)))] H := hP
  have hD : va_D A [(zC, .inr (1, [.int 0, .null, .null, .null])), (q7, .inl (cI, 12, .inl (fun _ => 0)))] := hD
  refine va_putF (D := D) (ci := 1) (v := .ref q7) (ty := .array .int) (C := RX1) (T := TX1) (N := 4) hx hb hts hiX1 tyX1 tyX1_ok nmX1 hown hK hP hD hS 0 rfl rfl 1 (by decide) hf9 (fun _ h9 => h9) rfl hin rfl (by decide +kernel) rfl rfl (Nat.le_of_ble_eq_true rfl) dX1_init_9 (fun H locs hP hD hS => ?_)
  have hP : va_P D vwCl [(zC, .inr (1, [.int 0, .ref q7, .null, .null])), (q7, .inl (cI, 12, .inl (fun _ => 0)))] H := hP
  have hD : va_D A [(zC, .inr (1, [.int 0, .ref q7, .null, .null])), (q7, .inl (cI, 12, .inl (fun _ => 0)))] := hD
  refine lv_aload_n hx hb dX1_init_12 rfl (lv_at hl 0 rfl) ?_
  refine lv_bipush (v := 12) hx hb dX1_init_13 (by decide) ?_
  refine xnewI (n := 12) hx hb (hts (.arrayClass .int) (List.mem_of_getElem? (i := 4) (by decide +kernel))) hK hP hD hS hA rfl (by decide) (Nat.le_of_ble_eq_true rfl) (Nat.le_of_ble_eq_true rfl) dX1_init_15 (fun q15 H hP hD hS => ?_)
  have hP : va_P D vwCl [(zC, .inr (1, [.int 0, .ref q7, .null, .null])), (q7, .inl (cI, 12, .inl (fun _ => 0))), (q15, .inl (cI, 12, .inl (fun _ => 0)))] H := hP
  have hD : va_D A [(zC, .inr (1, [.int 0, .ref q7, .null, .null])), (q7, .inl (cI, 12, .inl (fun _ => 0))), (q15, .inl (cI, 12, .inl (fun _ => 0)))] := hD
  refine va_putF (D := D) (ci := 1) (v := .ref q15) (ty := .array .int) (C := RX1) (T := TX1) (N := 4) hx hb hts hiX1 tyX1 tyX1_ok nmX1 hown hK hP hD hS 0 rfl rfl 2 (by decide) hf15 (fun _ h9 => h9) rfl hin rfl (by decide +kernel) rfl rfl (Nat.le_of_ble_eq_true rfl) dX1_init_17 (fun H locs hP hD hS => ?_)
  have hP : va_P D vwCl [(zC, .inr (1, [.int 0, .ref q7, .ref q15, .null])), (q7, .inl (cI, 12, .inl (fun _ => 0))), (q15, .inl (cI, 12, .inl (fun _ => 0)))] H := hP
  have hD : va_D A [(zC, .inr (1, [.int 0, .ref q7, .ref q15, .null])), (q7, .inl (cI, 12, .inl (fun _ => 0))), (q15, .inl (cI, 12, .inl (fun _ => 0)))] := hD
  refine lv_aload_n hx hb dX1_init_20 rfl (lv_at hl 0 rfl) ?_
  refine lv_bipush (v := 12) hx hb dX1_init_21 (by decide) ?_
  refine xnewI (n := 12) hx hb (hts (.arrayClass .int) (List.mem_of_getElem? (i := 4) (by decide +kernel))) hK hP hD hS hA rfl (by decide) (Nat.le_of_ble_eq_true rfl) (Nat.le_of_ble_eq_true rfl) dX1_init_23 (fun q23 H hP hD hS => ?_)
  have hP : va_P D vwCl [(zC, .inr (1, [.int 0, .ref q7, .ref q15, .null])), (q7, .inl (cI, 12, .inl (fun _ => 0))), (q15, .inl (cI, 12, .inl (fun _ => 0))), (q23, .inl (cI, 12, .inl (fun _ => 0)))] H := hP
  have hD : va_D A [(zC, .inr (1, [.int 0, .ref q7, .ref q15, .null])), (q7, .inl (cI, 12, .inl (fun _ => 0))), (q15, .inl (cI, 12, .inl (fun _ => 0))), (q23, .inl (cI, 12, .inl (fun _ => 0)))] := hD
  refine va_putF (D := D) (ci := 1) (v := .ref q23) (ty := .array .int) (C := RX1) (T := TX1) (N := 4) hx hb hts hiX1 tyX1 tyX1_ok nmX1 hown hK hP hD hS 0 rfl rfl 3 (by decide) hf18 (fun _ h9 => h9) rfl hin rfl (by decide +kernel) rfl rfl (Nat.le_of_ble_eq_true rfl) dX1_init_25 (fun H locs hP hD hS => ?_)
  have hP : va_P D vwCl [(zC, .inr (1, [.int 0, .ref q7, .ref q15, .ref q23])), (q7, .inl (cI, 12, .inl (fun _ => 0))), (q15, .inl (cI, 12, .inl (fun _ => 0))), (q23, .inl (cI, 12, .inl (fun _ => 0)))] H := hP
  have hD : va_D A [(zC, .inr (1, [.int 0, .ref q7, .ref q15, .ref q23])), (q7, .inl (cI, 12, .inl (fun _ => 0))), (q15, .inl (cI, 12, .inl (fun _ => 0))), (q23, .inl (cI, 12, .inl (fun _ => 0)))] := hD
  have hP9 := hP
  have hD9 := hD
  refine W.widen (k := 3) (n := 36) (Nat.le_of_ble_eq_true rfl) (Nat.le_of_ble_eq_true rfl) ?_
  exact W.vret hx hb hr (fun t ht hW => ⟨⟨(q7, q15, q23), rfl, trivial, ⟨⟨by rw [ht]; exact hP9, va_K.moved hW.alike hK, NW.warm hW hN⟩, hD9⟩⟩, hS.F ht⟩) hS.2.2 dX1_init_28

set_option maxHeartbeats 4000000 in
set_option maxRecDepth 100000 in
theorem c_X2_init (l : Launch) (D : va_G) (cI cZ : ClassId) (sz : Nat) (zG : Nat) : Met l yX2_init wsX2_init ({ frames := 1, cells := 0, slots := 0, locals := 12 }) (va_Pc [.ref zG] (XW D cI cZ [(zG, .inr (2, [.int 0, .int 0, .int 0, .int 0]))] sz)) (va_Qv (fun u : Unit => True) (fun u => XB D cI cZ (va_A [(zG, .inr (2, [.int 0, .int 0, .int 0, .int 0]))] sz) [(zG, .inr (2, [.int 0, .int 0, .int 0, .int 0]))]) (va_A [(zG, .inr (2, [.int 0, .int 0, .int 0, .int 0]))] sz)) 0 0 (va_A [(zG, .inr (2, [.int 0, .int 0, .int 0, .int 0]))] sz) := by
  refine Met.ofW (cc := cX2_init) (maxL := 1) (ret := none) (by decide) rfl ?_
  intro p e s m args below meth c s₁ B hml hv
  obtain ⟨rfl, hsz, ⟨hP, hK, hN⟩, hD0⟩ := hv
  have hx := B.exec
  have hb := B.bytes
  have hr := B.returns
  have hts := atoms_spec (ws := wsX2_init) B.pre
  have hown : s.vm.findClass RX2 = some m.cls := findClass_of_methodNamed B.named
  have hlocks := B.notSynchronized
  have hin : meth.name = "<init>" := (name_of_methodNamed B.named B.method).1
  subst hsz
  have hD := hD0.self (sz := s.heap.size)
  generalize hAe : va_A [(zG, .inr (2, [.int 0, .int 0, .int 0, .int 0]))] s.heap.size = A at hD ⊢
  have hA : ∀ q : Nat, s.heap.size ≤ q → A q := fun q h => by rw [← hAe]; exact Or.inr h
  have hS : va_S A s.heap s.heap [] := va_S.rf
  have hl := lv_entry ([.ref zG]) (n := 1) (Nat.le_of_ble_eq_true rfl)
  rw [lg_entry_eq]
  generalize (lg_sl ([.ref zG]) ++ List.replicate (1 - (lg_sl ([.ref zG])).length) Slot.unset).toArray = ls at hl ⊢
  have hl : lv_has ls 1 [(0, .ref zG)] := hl
  refine lv_aload_n hx hb dX2_init_0 rfl (lv_at hl 0 rfl) ?_
  refine W.objInit hx hb hown (hts (.methodLink RX2 3 objectInit) (List.mem_of_getElem? (i := 1) (by decide +kernel))) (hts (.instanceMethod objectInit) (List.mem_of_getElem? (i := 2) (by decide +kernel))) (hts _ (List.mem_of_getElem? (i := 3) rfl)) rfl (by rw [hml]; exact hl.1) rfl dX2_init_1 (Nat.le_of_ble_eq_true rfl) (Nat.le_of_ble_eq_true rfl) ?_
  refine W.eq (g2 := F0 m 4 ls []) rfl ?_
  have hP9 := hP
  have hD9 := hD
  exact W.vret hx hb hr (fun t ht hW => ⟨⟨(), rfl, trivial, ⟨⟨by rw [ht]; exact hP9, va_K.moved hW.alike hK, NW.warm hW hN⟩, hD9⟩⟩, hS.F ht⟩) hS.2.2 dX2_init_4

set_option maxHeartbeats 4000000 in
set_option maxRecDepth 100000 in
theorem c_X4_init (l : Launch) (D : va_G) (cI cZ : ClassId) (sz : Nat) (zM : Nat) : Met l yX4_init wsX4_init ({ frames := 1, cells := 3, slots := 210, locals := 12 }) (va_Pc [.ref zM] (XW D cI cZ [(zM, .inr (4, [.int 0, .null, .null, .null]))] sz)) (va_Qv (fun u : Nat × Nat × Nat => True) (fun u => XB D cI cZ (va_A [(zM, .inr (4, [.int 0, .null, .null, .null]))] sz) [(zM, .inr (4, [.int 0, .ref u.1, .ref u.2.1, .ref u.2.2])), (u.1, .inl (cI, 90, .inl (fun _ => 0))), (u.2.1, .inl (cI, 90, .inl (fun _ => 0))), (u.2.2, .inl (cI, 30, .inl (fun _ => 0)))]) (va_A [(zM, .inr (4, [.int 0, .null, .null, .null]))] sz)) 3 210 (va_A [(zM, .inr (4, [.int 0, .null, .null, .null]))] sz) := by
  refine Met.ofW (cc := cX4_init) (maxL := 1) (ret := none) (by decide) rfl ?_
  intro p e s m args below meth c s₁ B hml hv
  obtain ⟨rfl, hsz, ⟨hP, hK, hN⟩, hD0⟩ := hv
  have hx := B.exec
  have hb := B.bytes
  have hr := B.returns
  have hts := atoms_spec (ws := wsX4_init) B.pre
  have hown : s.vm.findClass RX4 = some m.cls := findClass_of_methodNamed B.named
  have hlocks := B.notSynchronized
  have hin : meth.name = "<init>" := (name_of_methodNamed B.named B.method).1
  subst hsz
  have hD := hD0.self (sz := s.heap.size)
  generalize hAe : va_A [(zM, .inr (4, [.int 0, .null, .null, .null]))] s.heap.size = A at hD ⊢
  have hA : ∀ q : Nat, s.heap.size ≤ q → A q := fun q h => by rw [← hAe]; exact Or.inr h
  have hS : va_S A s.heap s.heap [] := va_S.rf
  have hf9 := hts (.fieldLink RX4 9 "BallCourt$Moments" "toldSo" "[I") (List.mem_of_getElem? (i := 5) (by decide +kernel))
  have hiX4 : ∀ w ∈ wsX40, w ∈ wsX4_init := fun w h => List.mem_cons_of_mem _ (List.mem_append_right _ h)
  have hf15 := hts (.fieldLink RX4 15 "BallCourt$Moments" "toldNotSo" "[I") (List.mem_of_getElem? (i := 6) (by decide +kernel))
  have hf18 := hts (.fieldLink RX4 18 "BallCourt$Moments" "ruled" "[I") (List.mem_of_getElem? (i := 7) (by decide +kernel))
  have hl := lv_entry ([.ref zM]) (n := 1) (Nat.le_of_ble_eq_true rfl)
  rw [lg_entry_eq]
  generalize (lg_sl ([.ref zM]) ++ List.replicate (1 - (lg_sl ([.ref zM])).length) Slot.unset).toArray = ls at hl ⊢
  have hl : lv_has ls 1 [(0, .ref zM)] := hl
  refine lv_aload_n hx hb dX4_init_0 rfl (lv_at hl 0 rfl) ?_
  refine W.objInit hx hb hown (hts (.methodLink RX4 3 objectInit) (List.mem_of_getElem? (i := 1) (by decide +kernel))) (hts (.instanceMethod objectInit) (List.mem_of_getElem? (i := 2) (by decide +kernel))) (hts _ (List.mem_of_getElem? (i := 3) rfl)) rfl (by rw [hml]; exact hl.1) rfl dX4_init_1 (Nat.le_of_ble_eq_true rfl) (Nat.le_of_ble_eq_true rfl) ?_
  refine W.eq (g2 := F0 m 4 ls []) rfl ?_
  refine lv_aload_n hx hb dX4_init_4 rfl (lv_at hl 0 rfl) ?_
  refine lv_bipush (v := 90) hx hb dX4_init_5 (by decide) ?_
  refine xnewI (n := 90) hx hb (hts (.arrayClass .int) (List.mem_of_getElem? (i := 4) (by decide +kernel))) hK hP hD hS hA rfl (by decide) (Nat.le_of_ble_eq_true rfl) (Nat.le_of_ble_eq_true rfl) dX4_init_7 (fun q7 H hP hD hS => ?_)
  have hP : va_P D vwCl [(zM, .inr (4, [.int 0, .null, .null, .null])), (q7, .inl (cI, 90, .inl (fun _ => 0)))] H := hP
  have hD : va_D A [(zM, .inr (4, [.int 0, .null, .null, .null])), (q7, .inl (cI, 90, .inl (fun _ => 0)))] := hD
  refine va_putF (D := D) (ci := 4) (v := .ref q7) (ty := .array .int) (C := RX4) (T := TX4) (N := 4) hx hb hts hiX4 tyX4 tyX4_ok nmX4 hown hK hP hD hS 0 rfl rfl 1 (by decide) hf9 (fun _ h9 => h9) rfl hin rfl (by decide +kernel) rfl rfl (Nat.le_of_ble_eq_true rfl) dX4_init_9 (fun H locs hP hD hS => ?_)
  have hP : va_P D vwCl [(zM, .inr (4, [.int 0, .ref q7, .null, .null])), (q7, .inl (cI, 90, .inl (fun _ => 0)))] H := hP
  have hD : va_D A [(zM, .inr (4, [.int 0, .ref q7, .null, .null])), (q7, .inl (cI, 90, .inl (fun _ => 0)))] := hD
  refine lv_aload_n hx hb dX4_init_12 rfl (lv_at hl 0 rfl) ?_
  refine lv_bipush (v := 90) hx hb dX4_init_13 (by decide) ?_
  refine xnewI (n := 90) hx hb (hts (.arrayClass .int) (List.mem_of_getElem? (i := 4) (by decide +kernel))) hK hP hD hS hA rfl (by decide) (Nat.le_of_ble_eq_true rfl) (Nat.le_of_ble_eq_true rfl) dX4_init_15 (fun q15 H hP hD hS => ?_)
  have hP : va_P D vwCl [(zM, .inr (4, [.int 0, .ref q7, .null, .null])), (q7, .inl (cI, 90, .inl (fun _ => 0))), (q15, .inl (cI, 90, .inl (fun _ => 0)))] H := hP
  have hD : va_D A [(zM, .inr (4, [.int 0, .ref q7, .null, .null])), (q7, .inl (cI, 90, .inl (fun _ => 0))), (q15, .inl (cI, 90, .inl (fun _ => 0)))] := hD
  refine va_putF (D := D) (ci := 4) (v := .ref q15) (ty := .array .int) (C := RX4) (T := TX4) (N := 4) hx hb hts hiX4 tyX4 tyX4_ok nmX4 hown hK hP hD hS 0 rfl rfl 2 (by decide) hf15 (fun _ h9 => h9) rfl hin rfl (by decide +kernel) rfl rfl (Nat.le_of_ble_eq_true rfl) dX4_init_17 (fun H locs hP hD hS => ?_)
  have hP : va_P D vwCl [(zM, .inr (4, [.int 0, .ref q7, .ref q15, .null])), (q7, .inl (cI, 90, .inl (fun _ => 0))), (q15, .inl (cI, 90, .inl (fun _ => 0)))] H := hP
  have hD : va_D A [(zM, .inr (4, [.int 0, .ref q7, .ref q15, .null])), (q7, .inl (cI, 90, .inl (fun _ => 0))), (q15, .inl (cI, 90, .inl (fun _ => 0)))] := hD
  refine lv_aload_n hx hb dX4_init_20 rfl (lv_at hl 0 rfl) ?_
  refine lv_bipush (v := 30) hx hb dX4_init_21 (by decide) ?_
  refine xnewI (n := 30) hx hb (hts (.arrayClass .int) (List.mem_of_getElem? (i := 4) (by decide +kernel))) hK hP hD hS hA rfl (by decide) (Nat.le_of_ble_eq_true rfl) (Nat.le_of_ble_eq_true rfl) dX4_init_23 (fun q23 H hP hD hS => ?_)
  have hP : va_P D vwCl [(zM, .inr (4, [.int 0, .ref q7, .ref q15, .null])), (q7, .inl (cI, 90, .inl (fun _ => 0))), (q15, .inl (cI, 90, .inl (fun _ => 0))), (q23, .inl (cI, 30, .inl (fun _ => 0)))] H := hP
  have hD : va_D A [(zM, .inr (4, [.int 0, .ref q7, .ref q15, .null])), (q7, .inl (cI, 90, .inl (fun _ => 0))), (q15, .inl (cI, 90, .inl (fun _ => 0))), (q23, .inl (cI, 30, .inl (fun _ => 0)))] := hD
  refine va_putF (D := D) (ci := 4) (v := .ref q23) (ty := .array .int) (C := RX4) (T := TX4) (N := 4) hx hb hts hiX4 tyX4 tyX4_ok nmX4 hown hK hP hD hS 0 rfl rfl 3 (by decide) hf18 (fun _ h9 => h9) rfl hin rfl (by decide +kernel) rfl rfl (Nat.le_of_ble_eq_true rfl) dX4_init_25 (fun H locs hP hD hS => ?_)
  have hP : va_P D vwCl [(zM, .inr (4, [.int 0, .ref q7, .ref q15, .ref q23])), (q7, .inl (cI, 90, .inl (fun _ => 0))), (q15, .inl (cI, 90, .inl (fun _ => 0))), (q23, .inl (cI, 30, .inl (fun _ => 0)))] H := hP
  have hD : va_D A [(zM, .inr (4, [.int 0, .ref q7, .ref q15, .ref q23])), (q7, .inl (cI, 90, .inl (fun _ => 0))), (q15, .inl (cI, 90, .inl (fun _ => 0))), (q23, .inl (cI, 30, .inl (fun _ => 0)))] := hD
  have hP9 := hP
  have hD9 := hD
  refine W.widen (k := 3) (n := 210) (Nat.le_of_ble_eq_true rfl) (Nat.le_of_ble_eq_true rfl) ?_
  exact W.vret hx hb hr (fun t ht hW => ⟨⟨(q7, q15, q23), rfl, trivial, ⟨⟨by rw [ht]; exact hP9, va_K.moved hW.alike hK, NW.warm hW hN⟩, hD9⟩⟩, hS.F ht⟩) hS.2.2 dX4_init_28
