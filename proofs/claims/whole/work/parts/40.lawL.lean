theorem lw_go {i L : Nat} (hi : i < 2 ^ 30) (hL : L ≤ 2560) (h : ¬ nI L - nI 5 < nI i) : i + 5 ≤ L := by
  rw [Int32.lt_iff_toInt_lt, nI_toInt (by omega), pk_sub_toInt (by omega) (by decide)] at h
  omega
set_option maxHeartbeats 8000000 in
set_option maxRecDepth 100000 in
theorem lw_loop {p : Program} {l : Launch} {e : Env} {s : State} {m : MethodId} {below : List Frame} {meth : Method} {c : Code} {D : va_G} {cI cZ : ClassId} {A : Nat → Prop} {b L : Nat} {xs : Nat → Int32} (C0 : lw_At p s m meth c b L xs) (hK : va_K D vwCl (tyA cI cZ) s) (hN : NW s) (hA : ∀ q : Nat, s.heap.size ≤ q → A q) (hbA : ¬ A b) (hL : L ≤ 2560) {zX zB zL zF zM zC zG zJ zK zW zU zV zR zE zLo zFo zS zT zD zQ zP zN ym ymB ymU ymV ymR ymI ymE ymS ymT ymD ymQ ymP ymN ymO ymY ymZ ymX : Nat} (hAs : ∀ q : Nat, A q → s.heap.size ≤ q) : ∀ (n i : Nat), i ≤ L + 5 → L + 6 ≤ i + n → ∀ (σ : ST) (kI lo lf ir ob ov oz oc : Nat → Int32) (gt ga gb gs jt ja jb js : Int32) (H : Heap) (locs : List Loc), Ok σ → KI σ kI → LO σ lo → IR σ ir → va_P D vwCl [(zX, .inr (5, [.ref zB, .ref zL, .ref zF, .ref zM, .ref zC, .ref zG, .ref zJ, .int (nI (sG σ))])), (zB, .inr (0, [.int (nI (sF σ)), .int (nI (2 ^ sF σ)), .ref zK, .ref zW, .int (nI (sN σ)), .int (sR σ), .int (orE (rEr σ) (sN σ)), .ref zU, .ref zV, .ref zR, .ref zE])), (zK, .inl (cZ, 128, .inl kI)), (zW, .inl (cI, 7, .inl (rB σ))), (zU, .inl (cI, 12, .inl (rMu σ))), (zV, .inl (cI, 12, .inl (rMn σ))), (zR, .inl (cI, 12, .inl (rRu σ))), (zE, .inl (cI, 12, .inl (rEr σ))), (zL, .inr (3, [.ref zB, .ref zLo])), (zLo, .inl (cI, 128, .inl lo)), (zF, .inr (3, [.ref zB, .ref zFo])), (zFo, .inl (cI, 128, .inl lf)), (zM, .inr (4, [.int (nI (sM σ)), .ref zS, .ref zT, .ref zD])), (zS, .inl (cI, 90, .inl (rTs σ))), (zT, .inl (cI, 90, .inl (rTn σ))), (zD, .inl (cI, 30, .inl (rRd σ))), (zC, .inr (1, [.int (nI (sC σ)), .ref zQ, .ref zP, .ref zN])), (zQ, .inl (cI, 12, .inl (rCk σ))), (zP, .inl (cI, 12, .inl (rCr σ))), (zN, .inl (cI, 12, .inl (rCn σ))), (zG, .inr (2, [.int gt, .int ga, .int gb, .int gs])), (zJ, .inr (2, [.int jt, .int ja, .int jb, .int js])), (ym, .inr (6, [.int (nI (sF σ)), .ref ymB, .int (nI (sN σ)), .ref ymU, .ref ymV, .ref ymR, .ref ymI, .ref ymE, .int (nI (sM σ)), .ref ymS, .ref ymT, .ref ymD, .int (nI (sC σ)), .ref ymQ, .ref ymP, .ref ymN, .int (nI (sG σ)), .ref ymO, .ref ymY, .ref ymZ, .ref ymX])), (ymB, .inl (cI, 7, .inl (rB σ))), (ymU, .inl (cI, 12, .inl (rMu σ))), (ymV, .inl (cI, 12, .inl (rMn σ))), (ymR, .inl (cI, 12, .inl (rRu σ))), (ymI, .inl (cZ, 12, .inl ir)), (ymE, .inl (cI, 12, .inl (rEr σ))), (ymS, .inl (cI, 90, .inl (rTs σ))), (ymT, .inl (cI, 90, .inl (rTn σ))), (ymD, .inl (cI, 30, .inl (rRd σ))), (ymQ, .inl (cI, 12, .inl (rCk σ))), (ymP, .inl (cI, 12, .inl (rCr σ))), (ymN, .inl (cI, 12, .inl (rCn σ))), (ymO, .inl (cI, 128, .inl ob)), (ymY, .inl (cI, 30, .inl ov)), (ymZ, .inl (cI, 4, .inl oz)), (ymX, .inl (cI, 30, .inl oc))] H → va_D A [(zX, .inr (5, [.ref zB, .ref zL, .ref zF, .ref zM, .ref zC, .ref zG, .ref zJ, .int (nI (sG σ))])), (zB, .inr (0, [.int (nI (sF σ)), .int (nI (2 ^ sF σ)), .ref zK, .ref zW, .int (nI (sN σ)), .int (sR σ), .int (orE (rEr σ) (sN σ)), .ref zU, .ref zV, .ref zR, .ref zE])), (zK, .inl (cZ, 128, .inl kI)), (zW, .inl (cI, 7, .inl (rB σ))), (zU, .inl (cI, 12, .inl (rMu σ))), (zV, .inl (cI, 12, .inl (rMn σ))), (zR, .inl (cI, 12, .inl (rRu σ))), (zE, .inl (cI, 12, .inl (rEr σ))), (zL, .inr (3, [.ref zB, .ref zLo])), (zLo, .inl (cI, 128, .inl lo)), (zF, .inr (3, [.ref zB, .ref zFo])), (zFo, .inl (cI, 128, .inl lf)), (zM, .inr (4, [.int (nI (sM σ)), .ref zS, .ref zT, .ref zD])), (zS, .inl (cI, 90, .inl (rTs σ))), (zT, .inl (cI, 90, .inl (rTn σ))), (zD, .inl (cI, 30, .inl (rRd σ))), (zC, .inr (1, [.int (nI (sC σ)), .ref zQ, .ref zP, .ref zN])), (zQ, .inl (cI, 12, .inl (rCk σ))), (zP, .inl (cI, 12, .inl (rCr σ))), (zN, .inl (cI, 12, .inl (rCn σ))), (zG, .inr (2, [.int gt, .int ga, .int gb, .int gs])), (zJ, .inr (2, [.int jt, .int ja, .int jb, .int js])), (ym, .inr (6, [.int (nI (sF σ)), .ref ymB, .int (nI (sN σ)), .ref ymU, .ref ymV, .ref ymR, .ref ymI, .ref ymE, .int (nI (sM σ)), .ref ymS, .ref ymT, .ref ymD, .int (nI (sC σ)), .ref ymQ, .ref ymP, .ref ymN, .int (nI (sG σ)), .ref ymO, .ref ymY, .ref ymZ, .ref ymX])), (ymB, .inl (cI, 7, .inl (rB σ))), (ymU, .inl (cI, 12, .inl (rMu σ))), (ymV, .inl (cI, 12, .inl (rMn σ))), (ymR, .inl (cI, 12, .inl (rRu σ))), (ymI, .inl (cZ, 12, .inl ir)), (ymE, .inl (cI, 12, .inl (rEr σ))), (ymS, .inl (cI, 90, .inl (rTs σ))), (ymT, .inl (cI, 90, .inl (rTn σ))), (ymD, .inl (cI, 30, .inl (rRd σ))), (ymQ, .inl (cI, 12, .inl (rCk σ))), (ymP, .inl (cI, 12, .inl (rCr σ))), (ymN, .inl (cI, 12, .inl (rCn σ))), (ymO, .inl (cI, 128, .inl ob)), (ymY, .inl (cI, 30, .inl ov)), (ymZ, .inl (cI, 4, .inl oz)), (ymX, .inl (cI, 30, .inl oc))] → va_S A s.heap H locs → ∀ ls : Array Slot, lv_has ls 4 [(0, .ref b), (1, .ref zX), (2, .ref ym), (3, .int (nI i))] → W p l e room_1 s m #[Value.ref b] below meth c H locs 39 1250 (lw_Z below #[Value.ref b] s) (F0 m 18 ls []) := by
  obtain ⟨hx, hb, hr, hml, hown, hts0, hX, hbl, hlocks, hgv⟩ := id C0
  have hb : c.code = cL_law := hb
  intro n
  induction n with
  | zero => intro i h1 h2; exact absurd h2 (by omega)
  | succ n ih =>
    intro i h1 h2 σ kI lo lf ir ob ov oz oc gt ga gb gs jt ja jb js H locs hok hkI hlo hir hP hD hS ls hl
    refine lv_iload_n hx hb dL_law_18 rfl (lv_at hl 3 rfl) ?_
    refine lv_aload_n hx hb dL_law_19 rfl (lv_at hl 0 rfl) ?_
    refine va_slen hx hb hX hbl hbA hS dL_law_20 ?_
    refine lv_iconst (v := nI 5) hx hb dL_law_21 (by decide) ?_
    refine lv_isub hx hb dL_law_22 ?_
    refine lv_icmp_gt (tgt := 931) hx hb dL_law_23 (by decide) (fun c23 => ?_) (fun c23 => ?_)
    · refine lv_iconst (v := 1) hx hb dL_law_931 (by decide) ?_
      refine va_forget (fun q hq => hAs _ (hS.2.2 q hq)) ?_
      exact lw_ret hx hb hr hlocks dL_law_932
    · have hi : i + 5 ≤ L := lw_go (by omega) hL c23
      refine lv_aload_n hx hb dL_law_26 rfl (lv_at hl 0 rfl) ?_
      refine lv_iload_n hx hb dL_law_27 rfl (lv_at hl 3 rfl) ?_
      refine va_sld hx hb hX hbl hbA hS (vp_in_nI (show i < L by omega) (by omega)) dL_law_28 ?_
      refine lv_bipush (v := 31) hx hb dL_law_29 (by decide) ?_
      refine lv_iand hx hb dL_law_31 ?_
      have K : ∀ (σ : ST) (kI lo lf ir ob ov oz oc : Nat → Int32) (gt ga gb gs jt ja jb js : Int32) (H : Heap) (locs : List Loc), Ok σ → KI σ kI → LO σ lo → IR σ ir → va_P D vwCl [(zX, .inr (5, [.ref zB, .ref zL, .ref zF, .ref zM, .ref zC, .ref zG, .ref zJ, .int (nI (sG σ))])), (zB, .inr (0, [.int (nI (sF σ)), .int (nI (2 ^ sF σ)), .ref zK, .ref zW, .int (nI (sN σ)), .int (sR σ), .int (orE (rEr σ) (sN σ)), .ref zU, .ref zV, .ref zR, .ref zE])), (zK, .inl (cZ, 128, .inl kI)), (zW, .inl (cI, 7, .inl (rB σ))), (zU, .inl (cI, 12, .inl (rMu σ))), (zV, .inl (cI, 12, .inl (rMn σ))), (zR, .inl (cI, 12, .inl (rRu σ))), (zE, .inl (cI, 12, .inl (rEr σ))), (zL, .inr (3, [.ref zB, .ref zLo])), (zLo, .inl (cI, 128, .inl lo)), (zF, .inr (3, [.ref zB, .ref zFo])), (zFo, .inl (cI, 128, .inl lf)), (zM, .inr (4, [.int (nI (sM σ)), .ref zS, .ref zT, .ref zD])), (zS, .inl (cI, 90, .inl (rTs σ))), (zT, .inl (cI, 90, .inl (rTn σ))), (zD, .inl (cI, 30, .inl (rRd σ))), (zC, .inr (1, [.int (nI (sC σ)), .ref zQ, .ref zP, .ref zN])), (zQ, .inl (cI, 12, .inl (rCk σ))), (zP, .inl (cI, 12, .inl (rCr σ))), (zN, .inl (cI, 12, .inl (rCn σ))), (zG, .inr (2, [.int gt, .int ga, .int gb, .int gs])), (zJ, .inr (2, [.int jt, .int ja, .int jb, .int js])), (ym, .inr (6, [.int (nI (sF σ)), .ref ymB, .int (nI (sN σ)), .ref ymU, .ref ymV, .ref ymR, .ref ymI, .ref ymE, .int (nI (sM σ)), .ref ymS, .ref ymT, .ref ymD, .int (nI (sC σ)), .ref ymQ, .ref ymP, .ref ymN, .int (nI (sG σ)), .ref ymO, .ref ymY, .ref ymZ, .ref ymX])), (ymB, .inl (cI, 7, .inl (rB σ))), (ymU, .inl (cI, 12, .inl (rMu σ))), (ymV, .inl (cI, 12, .inl (rMn σ))), (ymR, .inl (cI, 12, .inl (rRu σ))), (ymI, .inl (cZ, 12, .inl ir)), (ymE, .inl (cI, 12, .inl (rEr σ))), (ymS, .inl (cI, 90, .inl (rTs σ))), (ymT, .inl (cI, 90, .inl (rTn σ))), (ymD, .inl (cI, 30, .inl (rRd σ))), (ymQ, .inl (cI, 12, .inl (rCk σ))), (ymP, .inl (cI, 12, .inl (rCr σ))), (ymN, .inl (cI, 12, .inl (rCn σ))), (ymO, .inl (cI, 128, .inl ob)), (ymY, .inl (cI, 30, .inl ov)), (ymZ, .inl (cI, 4, .inl oz)), (ymX, .inl (cI, 30, .inl oc))] H → va_D A [(zX, .inr (5, [.ref zB, .ref zL, .ref zF, .ref zM, .ref zC, .ref zG, .ref zJ, .int (nI (sG σ))])), (zB, .inr (0, [.int (nI (sF σ)), .int (nI (2 ^ sF σ)), .ref zK, .ref zW, .int (nI (sN σ)), .int (sR σ), .int (orE (rEr σ) (sN σ)), .ref zU, .ref zV, .ref zR, .ref zE])), (zK, .inl (cZ, 128, .inl kI)), (zW, .inl (cI, 7, .inl (rB σ))), (zU, .inl (cI, 12, .inl (rMu σ))), (zV, .inl (cI, 12, .inl (rMn σ))), (zR, .inl (cI, 12, .inl (rRu σ))), (zE, .inl (cI, 12, .inl (rEr σ))), (zL, .inr (3, [.ref zB, .ref zLo])), (zLo, .inl (cI, 128, .inl lo)), (zF, .inr (3, [.ref zB, .ref zFo])), (zFo, .inl (cI, 128, .inl lf)), (zM, .inr (4, [.int (nI (sM σ)), .ref zS, .ref zT, .ref zD])), (zS, .inl (cI, 90, .inl (rTs σ))), (zT, .inl (cI, 90, .inl (rTn σ))), (zD, .inl (cI, 30, .inl (rRd σ))), (zC, .inr (1, [.int (nI (sC σ)), .ref zQ, .ref zP, .ref zN])), (zQ, .inl (cI, 12, .inl (rCk σ))), (zP, .inl (cI, 12, .inl (rCr σ))), (zN, .inl (cI, 12, .inl (rCn σ))), (zG, .inr (2, [.int gt, .int ga, .int gb, .int gs])), (zJ, .inr (2, [.int jt, .int ja, .int jb, .int js])), (ym, .inr (6, [.int (nI (sF σ)), .ref ymB, .int (nI (sN σ)), .ref ymU, .ref ymV, .ref ymR, .ref ymI, .ref ymE, .int (nI (sM σ)), .ref ymS, .ref ymT, .ref ymD, .int (nI (sC σ)), .ref ymQ, .ref ymP, .ref ymN, .int (nI (sG σ)), .ref ymO, .ref ymY, .ref ymZ, .ref ymX])), (ymB, .inl (cI, 7, .inl (rB σ))), (ymU, .inl (cI, 12, .inl (rMu σ))), (ymV, .inl (cI, 12, .inl (rMn σ))), (ymR, .inl (cI, 12, .inl (rRu σ))), (ymI, .inl (cZ, 12, .inl ir)), (ymE, .inl (cI, 12, .inl (rEr σ))), (ymS, .inl (cI, 90, .inl (rTs σ))), (ymT, .inl (cI, 90, .inl (rTn σ))), (ymD, .inl (cI, 30, .inl (rRd σ))), (ymQ, .inl (cI, 12, .inl (rCk σ))), (ymP, .inl (cI, 12, .inl (rCr σ))), (ymN, .inl (cI, 12, .inl (rCn σ))), (ymO, .inl (cI, 128, .inl ob)), (ymY, .inl (cI, 30, .inl ov)), (ymZ, .inl (cI, 4, .inl oz)), (ymX, .inl (cI, 30, .inl oc))] → va_S A s.heap H locs → ∀ ls : Array Slot, lv_has ls 4 [(0, .ref b), (1, .ref zX), (2, .ref ym), (3, .int (nI i))] → W p l e room_1 s m #[Value.ref b] below meth c H locs 39 1250 (lw_Z below #[Value.ref b] s) (F0 m 925 ls []) := by
        intro σ kI lo lf ir ob ov oz oc gt ga gb gs jt ja jb js H locs hok hkI hlo hir hP hD hS ls hl
        refine lv_iinc (k := 3) (x := nI i) (v := nI (i + 5)) (lv' := [(3, .int (nI (i + 5))), (0, .ref b), (1, .ref zX), (2, .ref ym)]) hx hb dL_law_925 hl rfl (show nI i + Int32.ofInt 5 = nI (i + 5) from nI_add i 5) (by decide) rfl (fun ls hl => ?_)
        refine lv_goto (tgt := 18) hx hb dL_law_928 (by decide) ?_
        exact ih (i + 5) (by omega) (by omega) σ kI lo lf ir ob ov oz oc gt ga gb gs jt ja jb js H locs hok hkI hlo hir hP hD hS ls (lv_sub hl [1, 2, 3, 0] rfl)
      obtain ⟨n1, hn1, en⟩ := pk_andE (xs (nI i).toNatClampNeg) (m := 31) 5 (by decide)
      refine lv_asi en ?_
      rcases (show n1 = 0 ∨ n1 = 1 ∨ n1 = 2 ∨ n1 = 3 ∨ n1 = 4 ∨ n1 = 5 ∨ n1 = 6 ∨ n1 = 7 ∨ n1 = 8 ∨ n1 = 9 ∨ n1 = 10 ∨ n1 = 11 ∨ n1 = 12 ∨ n1 = 13 ∨ n1 = 14 ∨ n1 = 15 ∨ n1 = 16 ∨ n1 = 17 ∨ n1 = 18 ∨ n1 = 19 ∨ n1 = 20 ∨ n1 = 21 ∨ n1 = 22 ∨ n1 = 23 ∨ n1 = 24 ∨ 24 < n1 by omega) with rfl | rfl | rfl | rfl | rfl | rfl | rfl | rfl | rfl | rfl | rfl | rfl | rfl | rfl | rfl | rfl | rfl | rfl | rfl | rfl | rfl | rfl | rfl | rfl | rfl | hbig
      · refine lv_tableIn (off := 116) (tgt := 148) hx hb dL_law_32 (by decide) (by decide) (by decide) (by decide) ?_
        exact lw_c0 C0 hK hN hA hbA hL hi hok hkI hlo hir hP hD hS hl K
      · refine lv_tableIn (off := 139) (tgt := 171) hx hb dL_law_32 (by decide) (by decide) (by decide) (by decide) ?_
        exact lw_c1 C0 hK hN hA hbA hL hi hok hkI hlo hir hP hD hS hl K
      · refine lv_tableIn (off := 198) (tgt := 230) hx hb dL_law_32 (by decide) (by decide) (by decide) (by decide) ?_
        exact lw_c2 C0 hK hN hA hbA hL hi hok hkI hlo hir hP hD hS hl K
      · refine lv_tableIn (off := 241) (tgt := 273) hx hb dL_law_32 (by decide) (by decide) (by decide) (by decide) ?_
        exact lw_c3 C0 hK hN hA hbA hL hi hok hkI hlo hir hP hD hS hl K
      · refine lv_tableIn (off := 274) (tgt := 306) hx hb dL_law_32 (by decide) (by decide) (by decide) (by decide) ?_
        exact lw_c4 C0 hK hN hA hbA hL hi hok hkI hlo hir hP hD hS hl K
      · refine lv_tableIn (off := 323) (tgt := 355) hx hb dL_law_32 (by decide) (by decide) (by decide) (by decide) ?_
        exact lw_c5 C0 hK hN hA hbA hL hi hok hkI hlo hir hP hD hS hl K
      · refine lv_tableIn (off := 356) (tgt := 388) hx hb dL_law_32 (by decide) (by decide) (by decide) (by decide) ?_
        exact lw_c6 C0 hK hN hA hbA hL hi hok hkI hlo hir hP hD hS hl K
      · refine lv_tableIn (off := 389) (tgt := 421) hx hb dL_law_32 (by decide) (by decide) (by decide) (by decide) ?_
        exact lw_c7 C0 hK hN hA hbA hL hi hok hkI hlo hir hP hD hS hl K
      · refine lv_tableIn (off := 422) (tgt := 454) hx hb dL_law_32 (by decide) (by decide) (by decide) (by decide) ?_
        exact lw_c8 C0 hK hN hA hbA hL hi hok hkI hlo hir hP hD hS hl K
      · refine lv_tableIn (off := 445) (tgt := 477) hx hb dL_law_32 (by decide) (by decide) (by decide) (by decide) ?_
        exact lw_c9 C0 hK hN hA hbA hL hi hok hkI hlo hir hP hD hS hl K
      · refine lv_tableIn (off := 468) (tgt := 500) hx hb dL_law_32 (by decide) (by decide) (by decide) (by decide) ?_
        exact lw_c10 C0 hK hN hA hbA hL hi hok hkI hlo hir hP hD hS hl K
      · refine lv_tableIn (off := 481) (tgt := 513) hx hb dL_law_32 (by decide) (by decide) (by decide) (by decide) ?_
        exact lw_c11 C0 hK hN hA hbA hL hi hok hkI hlo hir hP hD hS hl K
      · refine lv_tableIn (off := 534) (tgt := 566) hx hb dL_law_32 (by decide) (by decide) (by decide) (by decide) ?_
        exact lw_c12 C0 hK hN hA hbA hL hi hok hkI hlo hir hP hD hS hl K
      · refine lv_tableIn (off := 567) (tgt := 599) hx hb dL_law_32 (by decide) (by decide) (by decide) (by decide) ?_
        exact lw_c13 C0 hK hN hA hbA hL hi hok hkI hlo hir hP hD hS hl K
      · refine lv_tableIn (off := 600) (tgt := 632) hx hb dL_law_32 (by decide) (by decide) (by decide) (by decide) ?_
        exact lw_c14 C0 hK hN hA hbA hL hi hok hkI hlo hir hP hD hS hl K
      · refine lv_tableIn (off := 623) (tgt := 655) hx hb dL_law_32 (by decide) (by decide) (by decide) (by decide) ?_
        exact lw_c15 C0 hK hN hA hbA hL hi hok hkI hlo hir hP hD hS hl K
      · refine lv_tableIn (off := 646) (tgt := 678) hx hb dL_law_32 (by decide) (by decide) (by decide) (by decide) ?_
        exact lw_c16 C0 hK hN hA hbA hL hi hok hkI hlo hir hP hD hS hl K
      · refine lv_tableIn (off := 679) (tgt := 711) hx hb dL_law_32 (by decide) (by decide) (by decide) (by decide) ?_
        exact lw_c17 C0 hK hN hA hbA hL hi hok hkI hlo hir hP hD hS hl K
      · refine lv_tableIn (off := 702) (tgt := 734) hx hb dL_law_32 (by decide) (by decide) (by decide) (by decide) ?_
        exact lw_c18 C0 hK hN hA hbA hL hi hok hkI hlo hir hP hD hS hl K
      · refine lv_tableIn (off := 735) (tgt := 767) hx hb dL_law_32 (by decide) (by decide) (by decide) (by decide) ?_
        exact lw_c19 C0 hK hN hA hbA hL hi hok hkI hlo hir hP hD hS hl K
      · refine lv_tableIn (off := 748) (tgt := 780) hx hb dL_law_32 (by decide) (by decide) (by decide) (by decide) ?_
        exact lw_c20 C0 hK hN hA hbA hL hi hok hkI hlo hir hP hD hS hl K
      · refine lv_tableIn (off := 781) (tgt := 813) hx hb dL_law_32 (by decide) (by decide) (by decide) (by decide) ?_
        exact lw_c21 C0 hK hN hA hbA hL hi hok hkI hlo hir hP hD hS hl K
      · refine lv_tableIn (off := 804) (tgt := 836) hx hb dL_law_32 (by decide) (by decide) (by decide) (by decide) ?_
        exact lw_c22 C0 hK hN hA hbA hL hi hok hkI hlo hir hP hD hS hl K
      · refine lv_tableIn (off := 837) (tgt := 869) hx hb dL_law_32 (by decide) (by decide) (by decide) (by decide) ?_
        exact lw_c23 C0 hK hN hA hbA hL hi hok hkI hlo hir hP hD hS hl K
      · refine lv_tableIn (off := 870) (tgt := 902) hx hb dL_law_32 (by decide) (by decide) (by decide) (by decide) ?_
        exact lw_c24 C0 hK hN hA hbA hL hi hok hkI hlo hir hP hD hS hl K
      · refine lv_tableOut (tgt := 925) hx hb dL_law_32 (Or.inr (by rw [nI_toInt (by omega)]; omega)) (by decide) ?_
        exact K σ kI lo lf ir ob ov oz oc gt ga gb gs jt ja jb js H locs hok hkI hlo hir hP hD hS ls hl
