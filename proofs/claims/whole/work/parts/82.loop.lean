/-! The law's element and toss, its loop. -/
section LAWL
variable {X : Cx} {G : Gl} {bS b L : Nat} {xs : Nat → Int32} {Q : State → Prop} {cs ss : Nat} {M : Mm} {pc : Nat} {st : List Value} {lv : List (Nat × Value)}
theorem zl_argL (hC : CX X G x cL_law 8 ret room_1) (hW : LWX X G bS L xs) {t k : Nat} {n : Int} (h0 : lvg lv 0 = some (.ref bS)) (h4 : lvg lv 4 = some (.int (nI (6 * t)))) (hn : Int32.ofInt n = nI k) (hj : 6 * t + k < L) (hL : L ≤ 3072) (d0 : decode cL_law pc = .ok (.aload_n 0, 1)) (d1 : decode cL_law (pc + 1) = .ok (.iload 4, 2)) (d3 : decode cL_law (pc + 3) = .ok (.iconst n, 1)) (d4 : decode cL_law (pc + 4) = .ok (.iadd, 1)) (d5 : decode cL_law (pc + 5) = .ok (.iaload, 1))
    (kk : TW X G 8 Q cs ss M (pc + 6) lv (.int (xs (6 * t + k)) :: st)) : TW X G 8 Q cs ss M pc lv st := by
  refine zt_aload_n (x := bS) hC h0 d0 ?_
  refine zt_iload (x := nI (6 * t)) hC h4 d1 ?_
  refine zt_iconst hC hn d3 ?_
  refine zt_iadd hC d4 ?_
  rw [nI_add]
  exact zl_sld hC hW hL hj d5 kk
theorem zl_c33 (hC : CX X G x cL_law 8 ret room_1) (hX : XX X G) (hW : LWX X G bS L xs) (hL : L ≤ 3072) {t : Nat} (ht : 6 * t + 6 ≤ L) (hI : LIV b M) (hcs : cs + 7 ≤ 10000) (hss : ss + 7 ≤ 20000) (kN : ∀ (Mt : Mm) (cs' ss' : Nat), cs' ≤ cs + 7 → ss' ≤ ss + 7 → LIV b Mt → TW X G 8 Q cs' ss' Mt 1673 (lvL bS b (nI (6 * t))) []) : TW X G 8 Q cs ss M 1648 (lvL bS b (nI (6 * t))) [] := by
  obtain ⟨S, pic, sh, hc, hl, hm, hi, hg, ho⟩ := id hI
  obtain ⟨v, hv, hMO⟩ := T_toss (N := 1000) hc hm (xs (6 * t + 1))
  refine zt_aload_n hC rfl dL_law_1648 ?_
  refine zl_arg (k := 1) hC hW rfl (by omega) hL dL_law_1649 dL_law_1650 dL_law_1652 dL_law_1653 dL_law_1654 ?_
  refine zx_callVW (z := yX11_toss) (hh := tossH) (As := [.int (xs (6 * t + 1))]) (rest := []) hC hX 1 (LIV_k hI) cl11 (fun l hl => hMO G l hl) rfl wd_834 wd_831 wd_832 wd_833 wd_1 (by decide +kernel) rfl ⟨⟨(Nat.le_of_ble_eq_true rfl), (Nat.le_of_ble_eq_true rfl)⟩, by simp only [rm_X11_toss, room_1]; omega, by simp only [rm_X11_toss, room_1]; omega⟩ rfl (Nat.le_of_ble_eq_true rfl) dL_law_1655 (fun E k hE => by cases hE) (fun w k hw => ?_)
  cases hw
  have e2 := hv (adv M k) hl
  have hown : MW b (adv M k) (gM b M) = adv M k := MW_own fun p hp => rfl
  rw [hown] at e2
  refine zt_aload_n hC rfl dL_law_1658 ?_
  refine zl_arg (k := 1) hC hW rfl (by omega) hL dL_law_1659 dL_law_1660 dL_law_1662 dL_law_1663 dL_law_1664 ?_
  refine zt_callV (z := yX12_toss) (As := [.int (xs (6 * t + 1))]) (rest := [.int v]) (st1 := [.int v, .int v]) hC 1 hl.1 cl12 (fun l hl => c_X12_toss 1000 (mc b 0) (xs (6 * t + 1)) (adv M k) (v, adv M k) e2 l hl) rfl wd_1371 wd_1368 wd_1369 wd_1370 wd_7 (by decide +kernel) rfl ⟨⟨(Nat.le_of_ble_eq_true rfl), (Nat.le_of_ble_eq_true rfl)⟩, by simp only [rm_X11_toss, rm_X12_toss, room_1]; omega, by simp only [rm_X11_toss, rm_X12_toss, room_1]; omega⟩ rfl (Nat.le_of_ble_eq_true rfl) rfl dL_law_1665 ?_
  exact zt_icmp_eq (tgt := 1673) hC (xb_t rfl) (by decide) dL_law_1668 (fun _ => kN _ _ _ (by simp only [rm_X11_toss, rm_X12_toss]; omega) (by simp only [rm_X11_toss, rm_X12_toss]; omega) (LIV_adv hI)) (fun q => by cases q)
theorem zl_c30 (hC : CX X G x cL_law 8 ret room_1) (hX : XX X G) (hW : LWX X G bS L xs) (hL : L ≤ 3072) {t : Nat} (ht : 6 * t + 6 ≤ L) (hI : LIV b M) (hcs : cs + 7 ≤ 10000) (hss : ss + 7 ≤ 20000) (kN : ∀ (Mt : Mm) (cs' ss' : Nat), cs' ≤ cs + 7 → ss' ≤ ss + 7 → LIV b Mt → TW X G 8 Q cs' ss' Mt 1673 (lvL bS b (nI (6 * t))) []) : TW X G 8 Q cs ss M 1483 (lvL bS b (nI (6 * t))) [] := by
  obtain ⟨S, pic, sh, hc, hl, hm, hi, hg, ho⟩ := id hI
  obtain ⟨th, v, o, hv, ho3, hMO⟩ := T_element (N := 1000) hc hm (xs (6 * t + 1)) (xs (6 * t + 2))
  obtain ⟨M1, hM1, h1i, h1l⟩ : ∃ M1, ((∃ v, o = .inl (some (.long v)) ∧ th = 0 ∧ M1 = sL M (b + 116) 0 v) ∨ (o = .inr xIAE ∧ th = 1 ∧ M1 = M) ∨ (o = .inr xISE ∧ th = 2 ∧ M1 = M)) ∧ (LIV b M1 ∧ (∀ p, M1.2.1 p = M.2.1 p) ∧ CLS b S pic sh M1 ∧ MLAY b M1 ∧ GOOD b M1 ∧ M1.1 (b + 116) = (2, 1)) ∧ (th = 0 → M1.2.2.1 (b + 116) 0 = v) := by
    rcases ho3 with ⟨rfl, rfl⟩ | ⟨rfl, rfl⟩ | ⟨rfl, rfl⟩
    · exact ⟨sL M (b + 116) 0 v, Or.inl ⟨v, rfl, rfl, rfl⟩, ⟨⟨S, pic, sh, hc, hl, hm, hi, hg, ho⟩, fun _ => rfl, hc, hl, hg, ho⟩, fun _ => by simp [sL, up2]⟩
    · exact ⟨M, Or.inr (Or.inl ⟨rfl, rfl, rfl⟩), ⟨hI, fun _ => rfl, hc, hl, hg, ho⟩, fun q => absurd q (by decide)⟩
    · exact ⟨M, Or.inr (Or.inr ⟨rfl, rfl, rfl⟩), ⟨hI, fun _ => rfl, hc, hl, hg, ho⟩, fun q => absurd q (by decide)⟩
  obtain ⟨hI1, hint, hc1, hl1, hg1, ho1⟩ := h1i
  refine zt_aload_n hC rfl dL_law_1483 ?_
  refine zl_arg (k := 1) hC hW rfl (by omega) hL dL_law_1484 dL_law_1485 dL_law_1487 dL_law_1488 dL_law_1489 ?_
  refine zl_arg (k := 2) hC hW rfl (by omega) hL dL_law_1490 dL_law_1491 dL_law_1493 dL_law_1494 dL_law_1495 ?_
  refine zt_aload_n hC rfl dL_law_1496 ?_
  refine zx_callSW (z := yLel) (hh := [(0, 9, 12, 13), (0, 9, 16, 15)]) (As := [.ref b, .int (xs (6 * t + 1)), .int (xs (6 * t + 2)), .ref (b + 116)]) (rest := []) hC hX 4 (fun l hl => c_Lel hl (LIV_k hI) ho (fun l hl => hMO G l hl) hM1) rfl wd_968 wd_966 wd_967 wd_0 (by decide +kernel) rfl ⟨⟨(Nat.le_of_ble_eq_true rfl), (Nat.le_of_ble_eq_true rfl)⟩, by simp only [rm_Lel, room_1]; omega, by simp only [rm_Lel, room_1]; omega⟩ rfl (Nat.le_of_ble_eq_true rfl) dL_law_1497 (fun E k hE => by cases hE) (fun w k hw => ?_)
  cases hw
  have e2 := hv (adv M1 k) hl1
  have hown : MW b (adv M1 k) (gM b M) = adv M1 k := MW_own fun p hp => hint _
  rw [hown] at e2
  have hI2 : LIV b (MW b (adv M1 k) (up2 (gM b M) 0 11 th)) := LIV_of (M := adv M1 k) hc1 hl1 (MDR_11 hm th) hi (let ⟨S', p', s', _, _, _, _, g', _⟩ := LIV_adv (k := k) hI1; g') ho1
  have e3 : f_X12_thrown 1000 (mc b 0) (MW b (adv M1 k) (up2 (gM b M) 0 11 th)) = some (th, MW b (adv M1 k) (up2 (gM b M) 0 11 th)) := by
    unfold f_X12_thrown
    rw [n_gI (M := adv M1 k) hl1]
    simp [up2]
  refine zt_istore (lv' := (5, .int th) :: lvL bS b (nI (6 * t))) hC (by decide) rfl dL_law_1500 ?_
  refine zt_aload_n hC rfl dL_law_1502 ?_
  refine zl_argL (t := t) (k := 1) hC hW rfl rfl rfl (by omega) hL dL_law_1503 dL_law_1504 dL_law_1506 dL_law_1507 dL_law_1508 ?_
  refine zl_argL (t := t) (k := 2) hC hW rfl rfl rfl (by omega) hL dL_law_1509 dL_law_1510 dL_law_1512 dL_law_1513 dL_law_1514 ?_
  refine zt_callV (z := yX12_element) (As := [.int (xs (6 * t + 1)), .int (xs (6 * t + 2))]) (rest := []) (st1 := [.long v]) hC 2 hl1.1 cl12 (fun l hl => c_X12_element 1000 (mc b 0) (xs (6 * t + 1)) (xs (6 * t + 2)) (adv M1 k) (v, _) e2 l hl) rfl wd_1355 wd_1352 wd_1353 wd_1354 wd_7 (by decide +kernel) rfl ⟨⟨(Nat.le_of_ble_eq_true rfl), (Nat.le_of_ble_eq_true rfl)⟩, by simp only [rm_Lel, rm_X12_element, room_1]; omega, by simp only [rm_Lel, rm_X12_element, room_1]; omega⟩ rfl (Nat.le_of_ble_eq_true rfl) rfl dL_law_1515 ?_
  refine zt_lstore (lv' := (6, .long v) :: (5, .int th) :: lvL bS b (nI (6 * t))) hC (by decide) rfl dL_law_1518 ?_
  refine zt_aload_n hC rfl dL_law_1520 ?_
  refine zt_callV (z := yX12_thrown) (As := []) (rest := []) (st1 := [.int th]) hC 0 hl1.1 cl12 (fun l hl => c_X12_thrown 1000 (mc b 0) _ (th, _) e3 l hl) rfl wd_1052 wd_1049 wd_1050 wd_1051 wd_7 (by decide +kernel) rfl ⟨⟨(Nat.le_of_ble_eq_true rfl), (Nat.le_of_ble_eq_true rfl)⟩, by simp only [rm_Lel, rm_X12_element, rm_X12_thrown, room_1]; omega, by simp only [rm_Lel, rm_X12_element, rm_X12_thrown, room_1]; omega⟩ rfl (Nat.le_of_ble_eq_true rfl) rfl dL_law_1521 ?_
  refine zt_iload hC rfl dL_law_1524 ?_
  refine zt_icmp_eq (tgt := 1531) hC (xb_t rfl) (by decide) dL_law_1526 (fun _ => ?_) (fun q => by cases q)
  refine zt_iload (x := th) hC rfl dL_law_1531 ?_
  have KK : ∀ cs' ss', cs' ≤ cs + 7 → ss' ≤ ss + 7 → TW X G 8 Q cs' ss' (MW b (adv M1 k) (up2 (gM b M) 0 11 th)) 1547 ((6, .long v) :: (5, .int th) :: lvL bS b (nI (6 * t))) [] := fun cs' ss' g1 g2 =>
    zt_goto (tgt := 1673) hC (by decide) dL_law_1547 (zt_sub (lvL bS b (nI (6 * t))) (fun q hq => List.mem_cons_of_mem _ (List.mem_cons_of_mem _ hq)) (kN _ _ _ g1 g2 hI2))
  by_cases h0 : th = 0
  · refine zt_if_ne (tgt := 1547) hC (xb_t h0) (by decide) dL_law_1533 (fun q => by cases q) (fun _ => ?_)
    refine zt_aload_n hC rfl dL_law_1536 ?_
    refine zt_iconst hC ki_0 dL_law_1537 ?_
    refine zt_lald (a := b + 116) (i := 0) hC (show (M1.1 (b + 116)).1 = 2 by rw [ho1]) (show inA 0 (M1.1 (b + 116)).2 = true by rw [ho1]; decide) dL_law_1538 ?_
    rw [show (MW b (adv M1 k) (up2 (gM b M) 0 11 th)).2.2.1 (b + 116) (Int32.toNatClampNeg 0) = v from h1l h0]
    refine zt_lload (x := v) hC rfl dL_law_1539 ?_
    refine zt_lcmp hC dL_law_1541 ?_
    exact zt_if_eq (tgt := 1547) hC (xb_t ((lg_cmp_eq v v).mpr rfl)) (by decide) dL_law_1542 (fun _ => KK _ _ (by simp only [rm_Lel, rm_X12_element, rm_X12_thrown]; omega) (by simp only [rm_Lel, rm_X12_element, rm_X12_thrown]; omega)) (fun q => by cases q)
  · exact zt_if_ne (tgt := 1547) hC (xb_f h0) (by decide) dL_law_1533 (fun _ => KK _ _ (by simp only [rm_Lel, rm_X12_element, rm_X12_thrown]; omega) (by simp only [rm_Lel, rm_X12_element, rm_X12_thrown]; omega)) (fun q => by cases q)
theorem sub6_lt {L t : Nat} (hL : L ≤ 3072) (ht : t ≤ 512) : (nI L - 6 < nI (6 * t)) ↔ L < 6 * t + 6 := by
  by_cases h : 6 ≤ L
  · obtain ⟨m, rfl⟩ : ∃ m, L = m + 6 := ⟨L - 6, by omega⟩
    have e : nI (m + 6) - 6 = nI m := by rw [← nI_add]; exact Int32.add_sub_cancel _ _
    rw [e, nI_ltI (by omega) (by omega)]
    omega
  · have h1 : nI L - 6 < 0 := by
      rcases (show L = 0 ∨ L = 1 ∨ L = 2 ∨ L = 3 ∨ L = 4 ∨ L = 5 by omega) with rfl | rfl | rfl | rfl | rfl | rfl <;> decide
    exact ⟨fun _ => by omega, fun _ => Int32.lt_of_lt_of_le h1 (nI_pos' (by omega))⟩
theorem sw_in {v : Int32} (h : ¬ (v.toInt < 0 ∨ 33 < v.toInt)) : ∃ n, n ≤ 33 ∧ v = nI n := by
  have h0 : ¬ v < 0 := by
    rw [Int32.lt_iff_toInt_lt]
    exact fun q => h (Or.inl q)
  have h1 : v ≤ 33 := by
    rw [Int32.le_iff_toInt_le]
    exact Int.not_lt.mp fun q => h (Or.inr q)
  obtain ⟨j, hj, rfl⟩ := nI_of h0
  exact ⟨j, (nI_leI hj (by decide)).mp h1, rfl⟩
set_option maxRecDepth 100000 in
theorem zl_body (hC : CX X G x cL_law 8 ret room_1) (hX : XX X G) (hW : LWX X G bS L xs) (hL : L ≤ 3072) {t : Nat} (ht : 6 * t + 6 ≤ L) (hI : LIV b M) (hcs : cs + 7 ≤ 10000) (hss : ss + 7 ≤ 20000) (kN : ∀ (Mt : Mm) (cs' ss' : Nat), cs' ≤ cs + 7 → ss' ≤ ss + 7 → LIV b Mt → TW X G 8 Q cs' ss' Mt 1673 (lvL bS b (nI (6 * t))) []) : TW X G 8 Q cs ss M 33 (lvL bS b (nI (6 * t))) [] := by
  refine zt_aload_n (x := bS) hC rfl dL_law_33 ?_
  refine zt_iload (x := nI (6 * t)) hC rfl dL_law_34 ?_
  refine zl_sld hC hW hL (show 6 * t < L by omega) dL_law_36 ?_
  refine zt_bipush hC (show (Int8.ofInt 63).toInt32 = 63 by decide) dL_law_37 ?_
  refine zt_iand hC dL_law_39 ?_
  by_cases hr : (xs (6 * t) &&& 63).toInt < 0 ∨ 33 < (xs (6 * t) &&& 63).toInt
  · exact zt_tsOut (tgt := 1673) hC hr (by decide) dL_law_40 (kN M cs ss (by omega) (by omega) hI)
  obtain ⟨n, hn, hv⟩ := sw_in hr
  rcases (show n = 0 ∨ n = 1 ∨ n = 2 ∨ n = 3 ∨ n = 4 ∨ n = 5 ∨ n = 6 ∨ n = 7 ∨ n = 8 ∨ n = 9 ∨ n = 10 ∨ n = 11 ∨ n = 12 ∨ n = 13 ∨ n = 14 ∨ n = 15 ∨ n = 16 ∨ n = 17 ∨ n = 18 ∨ n = 19 ∨ n = 20 ∨ n = 21 ∨ n = 22 ∨ n = 23 ∨ n = 24 ∨ n = 25 ∨ n = 26 ∨ n = 27 ∨ n = 28 ∨ n = 29 ∨ n = 30 ∨ n = 31 ∨ n = 32 ∨ n = 33 by omega) with rfl | rfl | rfl | rfl | rfl | rfl | rfl | rfl | rfl | rfl | rfl | rfl | rfl | rfl | rfl | rfl | rfl | rfl | rfl | rfl | rfl | rfl | rfl | rfl | rfl | rfl | rfl | rfl | rfl | rfl | rfl | rfl | rfl | rfl
  · exact zt_tsIn (off := 152) (tgt := 192) hC hv (by decide) (by decide) rfl (by decide) dL_law_40 (zl_c0 hC hW hL ht hI hcs hss kN)
  · exact zt_tsIn (off := 177) (tgt := 217) hC hv (by decide) (by decide) rfl (by decide) dL_law_40 (zl_c1 hC hW hL ht hI hcs hss kN)
  · exact zt_tsIn (off := 214) (tgt := 254) hC hv (by decide) (by decide) rfl (by decide) dL_law_40 (zl_c2 hC hW hL ht hI hcs hss kN)
  · exact zt_tsIn (off := 251) (tgt := 291) hC hv (by decide) (by decide) rfl (by decide) dL_law_40 (zl_c3 hC hW hL ht hI hcs hss kN)
  · exact zt_tsIn (off := 288) (tgt := 328) hC hv (by decide) (by decide) rfl (by decide) dL_law_40 (zl_c4 hC hW hL ht hI hcs hss kN)
  · exact zt_tsIn (off := 325) (tgt := 365) hC hv (by decide) (by decide) rfl (by decide) dL_law_40 (zl_c5 hC hW hL ht hI hcs hss kN)
  · exact zt_tsIn (off := 350) (tgt := 390) hC hv (by decide) (by decide) rfl (by decide) dL_law_40 (zl_c6 hC hW hL ht hI hcs hss kN)
  · exact zt_tsIn (off := 375) (tgt := 415) hC hv (by decide) (by decide) rfl (by decide) dL_law_40 (zl_c7 hC hW hL ht hI hcs hss kN)
  · exact zt_tsIn (off := 400) (tgt := 440) hC hv (by decide) (by decide) rfl (by decide) dL_law_40 (zl_c8 hC hW hL ht hI hcs hss kN)
  · exact zt_tsIn (off := 425) (tgt := 465) hC hv (by decide) (by decide) rfl (by decide) dL_law_40 (zl_c9 hC hW hL ht hI hcs hss kN)
  · exact zt_tsIn (off := 474) (tgt := 514) hC hv (by decide) (by decide) rfl (by decide) dL_law_40 (zl_c10 hC hW hL ht hI hcs hss kN)
  · exact zt_tsIn (off := 499) (tgt := 539) hC hv (by decide) (by decide) rfl (by decide) dL_law_40 (zl_c11 hC hW hL ht hI hcs hss kN)
  · exact zt_tsIn (off := 524) (tgt := 564) hC hv (by decide) (by decide) rfl (by decide) dL_law_40 (zl_c12 hC hW hL ht hI hcs hss kN)
  · exact zt_tsIn (off := 597) (tgt := 637) hC hv (by decide) (by decide) rfl (by decide) dL_law_40 (zl_c13 hC hW hL ht hI hcs hss kN)
  · exact zt_tsIn (off := 670) (tgt := 710) hC hv (by decide) (by decide) rfl (by decide) dL_law_40 (zl_c14 hC hW hL ht hI hcs hss kN)
  · exact zt_tsIn (off := 743) (tgt := 783) hC hv (by decide) (by decide) rfl (by decide) dL_law_40 (zl_c15 hC hW hL ht hI hcs hss kN)
  · exact zt_tsIn (off := 804) (tgt := 844) hC hv (by decide) (by decide) rfl (by decide) dL_law_40 (zl_c16 hC hW hL ht hI hcs hss kN)
  · exact zt_tsIn (off := 865) (tgt := 905) hC hv (by decide) (by decide) rfl (by decide) dL_law_40 (zl_c17 hC hW hL ht hI hcs hss kN)
  · exact zt_tsIn (off := 938) (tgt := 978) hC hv (by decide) (by decide) rfl (by decide) dL_law_40 (zl_c18 hC hW hL ht hI hcs hss kN)
  · exact zt_tsIn (off := 1011) (tgt := 1051) hC hv (by decide) (by decide) rfl (by decide) dL_law_40 (zl_c19 hC hW hL ht hI hcs hss kN)
  · exact zt_tsIn (off := 1084) (tgt := 1124) hC hv (by decide) (by decide) rfl (by decide) dL_law_40 (zl_c20 hC hW hL ht hI hcs hss kN)
  · exact zt_tsIn (off := 1121) (tgt := 1161) hC hv (by decide) (by decide) rfl (by decide) dL_law_40 (zl_c21 hC hW hL ht hI hcs hss kN)
  · exact zt_tsIn (off := 1146) (tgt := 1186) hC hv (by decide) (by decide) rfl (by decide) dL_law_40 (zl_c22 hC hW hL ht hI hcs hss kN)
  · exact zt_tsIn (off := 1196) (tgt := 1236) hC hv (by decide) (by decide) rfl (by decide) dL_law_40 (zl_c23 hC hW hL ht hI hcs hss kN)
  · exact zt_tsIn (off := 1233) (tgt := 1273) hC hv (by decide) (by decide) rfl (by decide) dL_law_40 (zl_c24 hC hW hL ht hI hcs hss kN)
  · exact zt_tsIn (off := 1246) (tgt := 1286) hC hv (by decide) (by decide) rfl (by decide) dL_law_40 (zl_c25 hC hW hL ht hI hcs hss kN)
  · exact zt_tsIn (off := 1259) (tgt := 1299) hC hv (by decide) (by decide) rfl (by decide) dL_law_40 (zl_c26 hC hW hL ht hI hcs hss kN)
  · exact zt_tsIn (off := 1284) (tgt := 1324) hC hv (by decide) (by decide) rfl (by decide) dL_law_40 (zl_c27 hC hW hL ht hI hcs hss kN)
  · exact zt_tsIn (off := 1345) (tgt := 1385) hC hv (by decide) (by decide) rfl (by decide) dL_law_40 (zl_c28 hC hW hL ht hI hcs hss kN)
  · exact zt_tsIn (off := 1394) (tgt := 1434) hC hv (by decide) (by decide) rfl (by decide) dL_law_40 (zl_c29 hC hW hL ht hI hcs hss kN)
  · exact zt_tsIn (off := 1443) (tgt := 1483) hC hv (by decide) (by decide) rfl (by decide) dL_law_40 (zl_c30 hC hX hW hL ht hI hcs hss kN)
  · exact zt_tsIn (off := 1510) (tgt := 1550) hC hv (by decide) (by decide) rfl (by decide) dL_law_40 (zl_c31 hC hW hL ht hI hcs hss kN)
  · exact zt_tsIn (off := 1583) (tgt := 1623) hC hv (by decide) (by decide) rfl (by decide) dL_law_40 (zl_c32 hC hW hL ht hI hcs hss kN)
  · exact zt_tsIn (off := 1608) (tgt := 1648) hC hv (by decide) (by decide) rfl (by decide) dL_law_40 (zl_c33 hC hX hW hL ht hI hcs hss kN)
theorem zl_loop (hC : CX X G x cL_law 8 ret room_1) (hX : XX X G) (hW : LWX X G bS L xs) (hL : L ≤ 3072) (hend : ∀ (M : Mm) (cs ss : Nat), cs ≤ 10000 → ss ≤ 20000 → TW X G 8 Q cs ss M 1679 [] []) : ∀ (k t cs ss : Nat) (M : Mm), L < 6 * (t + k) + 6 → 6 * t ≤ L → cs ≤ 200 + 7 * t → ss ≤ 4000 + 7 * t → LIV b M → TW X G 8 Q cs ss M 23 (lvL bS b (nI (6 * t))) [] := by
  intro k
  induction k with
  | zero =>
    intro t cs ss M hk htL hcs hss hI
    refine zt_iload (x := nI (6 * t)) hC rfl dL_law_23 ?_
    refine zt_aload_n (x := bS) hC rfl dL_law_25 ?_
    refine zl_slen hC hW dL_law_26 ?_
    refine zt_bipush hC kb_6 dL_law_27 ?_
    refine zt_isub hC dL_law_29 ?_
    exact zt_icmp_gt (tgt := 1679) hC (xb_t ((sub6_lt hL (by omega)).mpr (by omega))) (by decide) dL_law_30 (fun _ => zt_sub [] (fun q hq => by cases hq) (hend M cs ss (by omega) (by omega))) (fun q => by cases q)
  | succ k ih =>
    intro t cs ss M hk htL hcs hss hI
    refine zt_iload (x := nI (6 * t)) hC rfl dL_law_23 ?_
    refine zt_aload_n (x := bS) hC rfl dL_law_25 ?_
    refine zl_slen hC hW dL_law_26 ?_
    refine zt_bipush hC kb_6 dL_law_27 ?_
    refine zt_isub hC dL_law_29 ?_
    by_cases hd : L < 6 * t + 6
    · exact zt_icmp_gt (tgt := 1679) hC (xb_t ((sub6_lt hL (by omega)).mpr hd)) (by decide) dL_law_30 (fun _ => zt_sub [] (fun q hq => by cases hq) (hend M cs ss (by omega) (by omega))) (fun q => by cases q)
    · refine zt_icmp_gt (tgt := 1679) hC (xb_f (fun q => hd ((sub6_lt hL (by omega)).mp q))) (by decide) dL_law_30 (fun q => by cases q) (fun _ => ?_)
      refine zl_body hC hX hW hL (by omega) hI (by omega) (by omega) (fun Mt cs' ss' g1 g2 hI' => ?_)
      refine zt_iinc (i := 4) (x := nI (6 * t)) (v := nI (6 * (t + 1))) (lv' := lvL bS b (nI (6 * (t + 1)))) hC rfl (by rw [show Int32.ofInt 6 = nI 6 from rfl, nI_add]; rfl) (by decide) rfl dL_law_1673 ?_
      refine zt_goto (tgt := 23) hC (by decide) dL_law_1676 ?_
      exact ih (t + 1) cs' ss' Mt (by omega) (by omega) (by omega) (by omega) hI'
end LAWL
