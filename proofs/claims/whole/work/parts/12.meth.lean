def rm_X10_send : Room := { frames := 2, cells := 0, slots := 0, locals := 43 }
theorem hd_X10_send : yX10_send.cls ≠ "java/lang/invoke/MethodHandle" ∧ yX10_send.cls ≠ "java/lang/invoke/VarHandle" ∧ (parseMethodDescriptor yX10_send.desc).map (fun d => d.parameters.length) = some 2 := by decide +kernel
def f_X10_send (N : Nat) (x0 : Nat) (x1 : Nat) (x2 : Int32) (M : Mm) : Option (Unit × Mm) :=
ck 10 M x0 (bnd (f_X10_hasLanding N x0 x2 M) (fun v1 M2 =>
(if v1 = 0 then
some ((), M2)
else
gI 1 M2 x1 0 (fun v4 =>
(if x2 = v4 then
some ((), M2)
else
gI 1 M2 x1 0 (fun v5 =>
ck 10 M2 x0 (bnd (f_X10_way N x0 v5 x2 M2) (fun v6 M7 =>
pI 1 M7 x1 1 v6 (fun M9 =>
pI 1 M9 x1 0 x2 (fun M10 =>
some ((), M10)))))))))))
set_option maxRecDepth 100000 in
set_option maxHeartbeats 4000000 in
theorem c_X10_send (N : Nat) (x0 : Nat) (x1 : Nat) (x2 : Int32) (M : Mm) (r : (Unit × Mm)) (h : f_X10_send N x0 x1 x2 M = some r) (l : Launch) (hfl : l.flags = flags0) {G : Gl} : MT l G yX10_send cX10_send 3 none rm_X10_send [.ref x0, .ref x1, .int x2] M none r.2 := by
  unfold f_X10_send at h
  refine zt_start hfl (lv := [(0, .ref x0), (1, .ref x1), (2, .int x2)]) (by decide) (Nat.le_of_ble_eq_true rfl) rfl wd_537 (fun X hC _ => ?_)
  refine zt_aload_n hC rfl dX10_send_0 ?_
  refine zt_iload_n hC rfl dX10_send_1 ?_
  obtain ⟨hk, h⟩ := ck_some h
  obtain ⟨v1, M2, h3, h⟩ := bnd_some h
  refine zt_callV (z := yX10_hasLanding) (As := [.int x2]) (rest := []) (st1 := (.int v1 :: [])) hC 1 hk cl10 (fun l hl => c_X10_hasLanding N x0 x2 M (v1, M2) h3 l hl) rfl wd_358 wd_355 wd_356 wd_357 wd_2 hd_X10_hasLanding rfl ⟨⟨(Nat.le_of_ble_eq_true rfl), (Nat.le_of_ble_eq_true rfl)⟩, (Nat.le_of_ble_eq_true rfl), (Nat.le_of_ble_eq_true rfl)⟩ rfl (Nat.le_of_ble_eq_true rfl) rfl dX10_send_2 ?_
  refine zt_if_eq (tgt := 34) hC h (by decide) dX10_send_5 (fun h => ?_) (fun h => ?_)
  · obtain rfl := Option.some.inj h
    exact zt_vret hC rfl rfl (Nat.le_of_ble_eq_true rfl) (Nat.le_of_ble_eq_true rfl) dX10_send_34
  · refine zt_iload_n hC rfl dX10_send_8 ?_
    refine zt_aload_n hC rfl dX10_send_9 ?_
    refine zt_gI hC h cl1 (k := 0) (by decide) rfl wd_72 (Or.inl rfl) dX10_send_10 (fun v4 h => ?_)
    refine zt_icmp_eq (tgt := 34) hC h (by decide) dX10_send_13 (fun h => ?_) (fun h => ?_)
    · obtain rfl := Option.some.inj h
      exact zt_vret hC rfl rfl (Nat.le_of_ble_eq_true rfl) (Nat.le_of_ble_eq_true rfl) dX10_send_34
    · refine zt_aload_n hC rfl dX10_send_16 ?_
      refine zt_aload_n hC rfl dX10_send_17 ?_
      refine zt_aload_n hC rfl dX10_send_18 ?_
      refine zt_gI hC h cl1 (k := 0) (by decide) rfl wd_72 (Or.inl rfl) dX10_send_19 (fun v5 h => ?_)
      refine zt_iload_n hC rfl dX10_send_22 ?_
      obtain ⟨hk, h⟩ := ck_some h
      obtain ⟨v6, M7, h8, h⟩ := bnd_some h
      refine zt_callV (z := yX10_way) (As := [.int v5, .int x2]) (rest := [.ref x1]) (st1 := (.int v6 :: [.ref x1])) hC 2 hk cl10 (fun l hl => c_X10_way N x0 v5 x2 M2 (v6, M7) h8 l hl) rfl wd_376 wd_538 wd_374 wd_375 wd_2 hd_X10_way rfl ⟨⟨(Nat.le_of_ble_eq_true rfl), (Nat.le_of_ble_eq_true rfl)⟩, (Nat.le_of_ble_eq_true rfl), (Nat.le_of_ble_eq_true rfl)⟩ rfl (Nat.le_of_ble_eq_true rfl) rfl dX10_send_23 ?_
      refine zt_pI hC h cl1 (k := 1) (by decide) rfl wd_75 (Or.inl rfl) (Or.inl rfl) dX10_send_26 (fun M9 h => ?_)
      refine zt_aload_n hC rfl dX10_send_29 ?_
      refine zt_iload_n hC rfl dX10_send_30 ?_
      refine zt_pI hC h cl1 (k := 0) (by decide) rfl wd_72 (Or.inl rfl) (Or.inl rfl) dX10_send_31 (fun M10 h => ?_)
      obtain rfl := Option.some.inj h
      exact zt_vret hC rfl rfl (Nat.le_of_ble_eq_true rfl) (Nat.le_of_ble_eq_true rfl) dX10_send_34
def d_Rule_choose (N : Nat) (a : Nat) (p0 : Nat) (p1 : Nat) (M : Mm) : Option (Int32 × Mm) := (if (M.1 a).1 = 6 + 4 then f_X6_choose N a p0 p1 M else (if (M.1 a).1 = 0 + 4 then f_X0_choose N a p0 p1 M else (if (M.1 a).1 = 2 + 4 then f_X4_choose N a p0 p1 M else (if (M.1 a).1 = 3 + 4 then f_X3_choose N a p0 p1 M else (if (M.1 a).1 = 4 + 4 then f_X4_choose N a p0 p1 M else (if (M.1 a).1 = 8 + 4 then f_X9_choose N a p0 p1 M else (if (M.1 a).1 = 9 + 4 then f_X9_choose N a p0 p1 M else none)))))))
theorem d_Rule_choose_some {N : Nat} {a : Nat} {p0 : Nat} {p1 : Nat} {M : Mm} {r : Int32 × Mm} (h : d_Rule_choose N a p0 p1 M = some r) : ((M.1 a).1 = 6 + 4 ∧ f_X6_choose N a p0 p1 M = some r) ∨ ((M.1 a).1 = 0 + 4 ∧ f_X0_choose N a p0 p1 M = some r) ∨ ((M.1 a).1 = 2 + 4 ∧ f_X4_choose N a p0 p1 M = some r) ∨ ((M.1 a).1 = 3 + 4 ∧ f_X3_choose N a p0 p1 M = some r) ∨ ((M.1 a).1 = 4 + 4 ∧ f_X4_choose N a p0 p1 M = some r) ∨ ((M.1 a).1 = 8 + 4 ∧ f_X9_choose N a p0 p1 M = some r) ∨ ((M.1 a).1 = 9 + 4 ∧ f_X9_choose N a p0 p1 M = some r) := by
  unfold d_Rule_choose at h
  rcases ite_or h with ⟨c, h⟩ | ⟨c, h⟩
  · exact Or.inl ⟨c, h⟩
  · clear c
    rcases ite_or h with ⟨c, h⟩ | ⟨c, h⟩
    · exact Or.inr (Or.inl ⟨c, h⟩)
    · clear c
      rcases ite_or h with ⟨c, h⟩ | ⟨c, h⟩
      · exact Or.inr (Or.inr (Or.inl ⟨c, h⟩))
      · clear c
        rcases ite_or h with ⟨c, h⟩ | ⟨c, h⟩
        · exact Or.inr (Or.inr (Or.inr (Or.inl ⟨c, h⟩)))
        · clear c
          rcases ite_or h with ⟨c, h⟩ | ⟨c, h⟩
          · exact Or.inr (Or.inr (Or.inr (Or.inr (Or.inl ⟨c, h⟩))))
          · clear c
            rcases ite_or h with ⟨c, h⟩ | ⟨c, h⟩
            · exact Or.inr (Or.inr (Or.inr (Or.inr (Or.inr (Or.inl ⟨c, h⟩)))))
            · clear c
              rcases ite_or h with ⟨c, h⟩ | ⟨c, h⟩
              · exact Or.inr (Or.inr (Or.inr (Or.inr (Or.inr (Or.inr (⟨c, h⟩))))))
              · cases h
theorem hdo_d_Rule_choose : ("FerryBells$Rule" : String) ≠ "java/lang/invoke/MethodHandle" ∧ ("FerryBells$Rule" : String) ≠ "java/lang/invoke/VarHandle" ∧ (parseMethodDescriptor "(LFerryBells$World;LFerryBells$Boat;)I").map (fun d => d.parameters.length) = some 2 := by decide +kernel
def rm_X10_ask : Room := { frames := 4, cells := 0, slots := 0, locals := 93 }
theorem hd_X10_ask : yX10_ask.cls ≠ "java/lang/invoke/MethodHandle" ∧ yX10_ask.cls ≠ "java/lang/invoke/VarHandle" ∧ (parseMethodDescriptor yX10_ask.desc).map (fun d => d.parameters.length) = some 1 := by decide +kernel
def f_X10_ask (N : Nat) (x0 : Nat) (x1 : Nat) (M : Mm) : Option (Unit × Mm) :=
gI 1 M x1 1 (fun v1 =>
(if v1 = 0 then
gR 1 M x1 4 (fun v2 =>
bnd (d_Rule_choose N v2 x0 x1 M) (fun v3 M4 =>
ck 10 M4 x0 (bnd (f_X10_send N x0 x1 v3 M4) (fun v6 M7 =>
some ((), M7)))))
else
some ((), M)))
set_option maxRecDepth 100000 in
set_option maxHeartbeats 4000000 in
theorem c_X10_ask (N : Nat) (x0 : Nat) (x1 : Nat) (M : Mm) (r : (Unit × Mm)) (h : f_X10_ask N x0 x1 M = some r) (l : Launch) (hfl : l.flags = flags0) {G : Gl} : MT l G yX10_ask cX10_ask 2 none rm_X10_ask [.ref x0, .ref x1] M none r.2 := by
  unfold f_X10_ask at h
  refine zt_start hfl (lv := [(0, .ref x0), (1, .ref x1)]) (by decide) (Nat.le_of_ble_eq_true rfl) rfl wd_472 (fun X hC _ => ?_)
  refine zt_aload_n hC rfl dX10_ask_0 ?_
  refine zt_gI hC h cl1 (k := 1) (by decide) rfl wd_75 (Or.inl rfl) dX10_ask_1 (fun v1 h => ?_)
  refine zt_if_ne (tgt := 21) hC h (by decide) dX10_ask_4 (fun h => ?_) (fun h => ?_)
  · obtain rfl := Option.some.inj h
    exact zt_vret hC rfl rfl (Nat.le_of_ble_eq_true rfl) (Nat.le_of_ble_eq_true rfl) dX10_ask_21
  · refine zt_aload_n hC rfl dX10_ask_7 ?_
    refine zt_aload_n hC rfl dX10_ask_8 ?_
    refine zt_aload_n hC rfl dX10_ask_9 ?_
    refine zt_gR hC h cl1 (k := 4) (by decide) rfl wd_90 (Or.inl rfl) dX10_ask_10 (fun v2 h => ?_)
    refine zt_aload_n hC rfl dX10_ask_13 ?_
    refine zt_aload_n hC rfl dX10_ask_14 ?_
    obtain ⟨v3, M4, h5, h⟩ := bnd_some h
    have kk : TW X G 2 (RQ X G none r.2 rm_X10_ask) 0 0 M4 18 [(0, .ref x0), (1, .ref x1)] (.int v3 :: [.ref x1, .ref x0]) := by
      obtain ⟨hk, h⟩ := ck_some h
      obtain ⟨v6, M7, h8, h⟩ := bnd_some h
      refine zt_callV (z := yX10_send) (As := [.ref x1, .int v3]) (rest := []) (st1 := []) hC 2 hk cl10 (fun l hl => c_X10_send N x0 x1 v3 M4 (v6, M7) h8 l hl) rfl wd_537 wd_534 wd_535 wd_536 wd_2 hd_X10_send rfl ⟨⟨(Nat.le_of_ble_eq_true rfl), (Nat.le_of_ble_eq_true rfl)⟩, (Nat.le_of_ble_eq_true rfl), (Nat.le_of_ble_eq_true rfl)⟩ rfl (Nat.le_of_ble_eq_true rfl) rfl dX10_ask_18 ?_
      obtain rfl := Option.some.inj h
      exact zt_vret hC rfl rfl (Nat.le_of_ble_eq_true rfl) (Nat.le_of_ble_eq_true rfl) dX10_ask_21
    rcases d_Rule_choose_some h5 with ⟨hk, h5⟩ | ⟨hk, h5⟩ | ⟨hk, h5⟩ | ⟨hk, h5⟩ | ⟨hk, h5⟩ | ⟨hk, h5⟩ | ⟨hk, h5⟩
    · exact zt_callO (z := yX6_choose) (As := [.ref x0, .ref x1]) (rest := [.ref x1, .ref x0]) (st1 := (.int v3 :: [.ref x1, .ref x0])) hC 2 hk cl6 (fun l hl => c_X6_choose N v2 x0 x1 M (v3, M4) h5 l hl) wd_531 wd_473 wd_476 wd_474 wd_531 wd_475 wd_474 wd_4 hdo_d_Rule_choose rfl ⟨⟨(Nat.le_of_ble_eq_true rfl), (Nat.le_of_ble_eq_true rfl)⟩, (Nat.le_of_ble_eq_true rfl), (Nat.le_of_ble_eq_true rfl)⟩ rfl (Nat.le_of_ble_eq_true rfl) rfl dX10_ask_15 kk
    · exact zt_callO (z := yX0_choose) (As := [.ref x0, .ref x1]) (rest := [.ref x1, .ref x0]) (st1 := (.int v3 :: [.ref x1, .ref x0])) hC 2 hk cl0 (fun l hl => c_X0_choose N v2 x0 x1 M (v3, M4) h5 l hl) wd_479 wd_473 wd_476 wd_474 wd_531 wd_477 wd_478 wd_12 hdo_d_Rule_choose rfl ⟨⟨(Nat.le_of_ble_eq_true rfl), (Nat.le_of_ble_eq_true rfl)⟩, (Nat.le_of_ble_eq_true rfl), (Nat.le_of_ble_eq_true rfl)⟩ rfl (Nat.le_of_ble_eq_true rfl) rfl dX10_ask_15 kk
    · exact zt_callO (z := yX4_choose) (As := [.ref x0, .ref x1]) (rest := [.ref x1, .ref x0]) (st1 := (.int v3 :: [.ref x1, .ref x0])) hC 2 hk cl2 (fun l hl => c_X4_choose N v2 x0 x1 M (v3, M4) h5 l hl) wd_494 wd_473 wd_476 wd_474 wd_531 wd_492 wd_493 wd_10 hdo_d_Rule_choose rfl ⟨⟨(Nat.le_of_ble_eq_true rfl), (Nat.le_of_ble_eq_true rfl)⟩, (Nat.le_of_ble_eq_true rfl), (Nat.le_of_ble_eq_true rfl)⟩ rfl (Nat.le_of_ble_eq_true rfl) rfl dX10_ask_15 kk
    · exact zt_callO (z := yX3_choose) (As := [.ref x0, .ref x1]) (rest := [.ref x1, .ref x0]) (st1 := (.int v3 :: [.ref x1, .ref x0])) hC 2 hk cl3 (fun l hl => c_X3_choose N v2 x0 x1 M (v3, M4) h5 l hl) wd_511 wd_473 wd_476 wd_474 wd_531 wd_509 wd_510 wd_14 hdo_d_Rule_choose rfl ⟨⟨(Nat.le_of_ble_eq_true rfl), (Nat.le_of_ble_eq_true rfl)⟩, (Nat.le_of_ble_eq_true rfl), (Nat.le_of_ble_eq_true rfl)⟩ rfl (Nat.le_of_ble_eq_true rfl) rfl dX10_ask_15 kk
    · exact zt_callO (z := yX4_choose) (As := [.ref x0, .ref x1]) (rest := [.ref x1, .ref x0]) (st1 := (.int v3 :: [.ref x1, .ref x0])) hC 2 hk cl4 (fun l hl => c_X4_choose N v2 x0 x1 M (v3, M4) h5 l hl) wd_494 wd_473 wd_476 wd_474 wd_531 wd_518 wd_493 wd_10 hdo_d_Rule_choose rfl ⟨⟨(Nat.le_of_ble_eq_true rfl), (Nat.le_of_ble_eq_true rfl)⟩, (Nat.le_of_ble_eq_true rfl), (Nat.le_of_ble_eq_true rfl)⟩ rfl (Nat.le_of_ble_eq_true rfl) rfl dX10_ask_15 kk
    · exact zt_callO (z := yX9_choose) (As := [.ref x0, .ref x1]) (rest := [.ref x1, .ref x0]) (st1 := (.int v3 :: [.ref x1, .ref x0])) hC 2 hk cl8 (fun l hl => c_X9_choose N v2 x0 x1 M (v3, M4) h5 l hl) wd_521 wd_473 wd_476 wd_474 wd_531 wd_519 wd_520 wd_13 hdo_d_Rule_choose rfl ⟨⟨(Nat.le_of_ble_eq_true rfl), (Nat.le_of_ble_eq_true rfl)⟩, (Nat.le_of_ble_eq_true rfl), (Nat.le_of_ble_eq_true rfl)⟩ rfl (Nat.le_of_ble_eq_true rfl) rfl dX10_ask_15 kk
    · exact zt_callO (z := yX9_choose) (As := [.ref x0, .ref x1]) (rest := [.ref x1, .ref x0]) (st1 := (.int v3 :: [.ref x1, .ref x0])) hC 2 hk cl9 (fun l hl => c_X9_choose N v2 x0 x1 M (v3, M4) h5 l hl) wd_521 wd_473 wd_476 wd_474 wd_531 wd_530 wd_520 wd_13 hdo_d_Rule_choose rfl ⟨⟨(Nat.le_of_ble_eq_true rfl), (Nat.le_of_ble_eq_true rfl)⟩, (Nat.le_of_ble_eq_true rfl), (Nat.le_of_ble_eq_true rfl)⟩ rfl (Nat.le_of_ble_eq_true rfl) rfl dX10_ask_15 kk
def rm_X10_board : Room := { frames := 1, cells := 0, slots := 0, locals := 24 }
theorem hd_X10_board : yX10_board.cls ≠ "java/lang/invoke/MethodHandle" ∧ yX10_board.cls ≠ "java/lang/invoke/VarHandle" ∧ (parseMethodDescriptor yX10_board.desc).map (fun d => d.parameters.length) = some 1 := by decide +kernel
def b_X10_board_100 (N : Nat) (k100 : Nat → Nat → Int32 → Int32 → Int32 → Int32 → Mm → Option (Unit × Mm)) (x0 : Nat) (x1 : Nat) (x2 : Int32) (x3 : Int32) (x4 : Int32) (x5 : Int32) (M : Mm) : Option (Unit × Mm) :=
(if x2 ≤ x5 then
gR 10 M x0 10 (fun v1 =>
gI 1 M x1 0 (fun v2 =>
bnd (f_X11_change N v1 v2 (x2 - x4) M) (fun v3 M4 =>
some ((), M4))))
else
gR 10 M x0 11 (fun v6 =>
gR 10 M x0 11 (fun v7 =>
bnd (f_X11_at N v7 (x3 + x5) M) (fun v8 M9 =>
bnd (f_X11_change N v6 ((x3 + x5) - x4) v8 M9) (fun v11 M12 =>
gR 10 M12 x0 12 (fun v14 =>
gR 10 M12 x0 12 (fun v15 =>
bnd (f_X11_at N v15 (x3 + x5) M12) (fun v16 M17 =>
bnd (f_X11_change N v14 ((x3 + x5) - x4) v16 M17) (fun v19 M20 =>
k100 x0 x1 x2 x3 x4 (x5 + (1 : Int32)) M20)))))))))
def l_X10_board_100 (N : Nat) : Nat → Nat → Nat → Int32 → Int32 → Int32 → Int32 → Mm → Option (Unit × Mm)
  | 0 => fun _ _ _ _ _ _ _ => none
  | n + 1 => b_X10_board_100 N (l_X10_board_100 N n)
set_option maxRecDepth 100000 in
set_option maxHeartbeats 4000000 in
theorem v_X10_board_100 {X : Cx} {G : Gl} {r : (Unit × Mm)} (N : Nat) (hC : CX X G yX10_board cX10_board 6 none rm_X10_board) (k100 : Nat → Nat → Int32 → Int32 → Int32 → Int32 → Mm → Option (Unit × Mm)) (hk100 : ∀ (x0 : Nat) (x1 : Nat) (x2 : Int32) (x3 : Int32) (x4 : Int32) (x5 : Int32) (M : Mm), k100 x0 x1 x2 x3 x4 x5 M = some r → TW X G 6 (RQ X G none r.2 rm_X10_board) 0 0 M 100 [(0, .ref x0), (1, .ref x1), (2, .int x2), (3, .int x3), (4, .int x4), (5, .int x5)] []) (x0 : Nat) (x1 : Nat) (x2 : Int32) (x3 : Int32) (x4 : Int32) (x5 : Int32) (M : Mm) (h : b_X10_board_100 N k100 x0 x1 x2 x3 x4 x5 M = some r) : TW X G 6 (RQ X G none r.2 rm_X10_board) 0 0 M 100 [(0, .ref x0), (1, .ref x1), (2, .int x2), (3, .int x3), (4, .int x4), (5, .int x5)] [] := by
  unfold b_X10_board_100 at h
  refine zt_iload hC rfl dX10_board_100 ?_
  refine zt_iload_n hC rfl dX10_board_102 ?_
  refine zt_icmp_ge (tgt := 162) hC h (by decide) dX10_board_103 (fun h => ?_) (fun h => ?_)
  · refine zt_aload_n hC rfl dX10_board_162 ?_
    refine zt_gR hC h cl10 (k := 10) (by decide) rfl wd_127 (Or.inl rfl) dX10_board_163 (fun v1 h => ?_)
    refine zt_aload_n hC rfl dX10_board_166 ?_
    refine zt_gI hC h cl1 (k := 0) (by decide) rfl wd_72 (Or.inl rfl) dX10_board_167 (fun v2 h => ?_)
    refine zt_iload_n hC rfl dX10_board_170 ?_
    refine zt_iload hC rfl dX10_board_171 ?_
    refine zt_isub hC dX10_board_173 ?_
    obtain ⟨v3, M4, h5, h⟩ := bnd_some h
    refine zt_callSN (z := yX11_change) (As := [.ref v1, .int v2, .int (x2 - x4)]) (rest := []) (st1 := []) hC 3 (fun l hl => c_X11_change N v1 v2 (x2 - x4) M (v3, M4) h5 l hl) wd_299 (by decide) wd_298 wd_1 hd_X11_change rfl ⟨⟨(Nat.le_of_ble_eq_true rfl), (Nat.le_of_ble_eq_true rfl)⟩, (Nat.le_of_ble_eq_true rfl), (Nat.le_of_ble_eq_true rfl)⟩ rfl (Nat.le_of_ble_eq_true rfl) rfl dX10_board_174 ?_
    obtain rfl := Option.some.inj h
    exact zt_vret hC rfl rfl (Nat.le_of_ble_eq_true rfl) (Nat.le_of_ble_eq_true rfl) dX10_board_177
  · refine zt_aload_n hC rfl dX10_board_106 ?_
    refine zt_gR hC h cl10 (k := 11) (by decide) rfl wd_128 (Or.inl rfl) dX10_board_107 (fun v6 h => ?_)
    refine zt_iload_n hC rfl dX10_board_110 ?_
    refine zt_iload hC rfl dX10_board_111 ?_
    refine zt_iadd hC dX10_board_113 ?_
    refine zt_iload hC rfl dX10_board_114 ?_
    refine zt_isub hC dX10_board_116 ?_
    refine zt_aload_n hC rfl dX10_board_117 ?_
    refine zt_gR hC h cl10 (k := 11) (by decide) rfl wd_128 (Or.inl rfl) dX10_board_118 (fun v7 h => ?_)
    refine zt_iload_n hC rfl dX10_board_121 ?_
    refine zt_iload hC rfl dX10_board_122 ?_
    refine zt_iadd hC dX10_board_124 ?_
    obtain ⟨v8, M9, h10, h⟩ := bnd_some h
    refine zt_callSN (z := yX11_at) (As := [.ref v7, .int (x3 + x5)]) (rest := [.int ((x3 + x5) - x4), .ref v6]) (st1 := (.int v8 :: [.int ((x3 + x5) - x4), .ref v6])) hC 2 (fun l hl => c_X11_at N v7 (x3 + x5) M (v8, M9) h10 l hl) wd_379 (by decide) wd_378 wd_1 hd_X11_at rfl ⟨⟨(Nat.le_of_ble_eq_true rfl), (Nat.le_of_ble_eq_true rfl)⟩, (Nat.le_of_ble_eq_true rfl), (Nat.le_of_ble_eq_true rfl)⟩ rfl (Nat.le_of_ble_eq_true rfl) rfl dX10_board_125 ?_
    obtain ⟨v11, M12, h13, h⟩ := bnd_some h
    refine zt_callSN (z := yX11_change) (As := [.ref v6, .int ((x3 + x5) - x4), .int v8]) (rest := []) (st1 := []) hC 3 (fun l hl => c_X11_change N v6 ((x3 + x5) - x4) v8 M9 (v11, M12) h13 l hl) wd_299 (by decide) wd_298 wd_1 hd_X11_change rfl ⟨⟨(Nat.le_of_ble_eq_true rfl), (Nat.le_of_ble_eq_true rfl)⟩, (Nat.le_of_ble_eq_true rfl), (Nat.le_of_ble_eq_true rfl)⟩ rfl (Nat.le_of_ble_eq_true rfl) rfl dX10_board_128 ?_
    refine zt_aload_n hC rfl dX10_board_131 ?_
    refine zt_gR hC h cl10 (k := 12) (by decide) rfl wd_129 (Or.inl rfl) dX10_board_132 (fun v14 h => ?_)
    refine zt_iload_n hC rfl dX10_board_135 ?_
    refine zt_iload hC rfl dX10_board_136 ?_
    refine zt_iadd hC dX10_board_138 ?_
    refine zt_iload hC rfl dX10_board_139 ?_
    refine zt_isub hC dX10_board_141 ?_
    refine zt_aload_n hC rfl dX10_board_142 ?_
    refine zt_gR hC h cl10 (k := 12) (by decide) rfl wd_129 (Or.inl rfl) dX10_board_143 (fun v15 h => ?_)
    refine zt_iload_n hC rfl dX10_board_146 ?_
    refine zt_iload hC rfl dX10_board_147 ?_
    refine zt_iadd hC dX10_board_149 ?_
    obtain ⟨v16, M17, h18, h⟩ := bnd_some h
    refine zt_callSN (z := yX11_at) (As := [.ref v15, .int (x3 + x5)]) (rest := [.int ((x3 + x5) - x4), .ref v14]) (st1 := (.int v16 :: [.int ((x3 + x5) - x4), .ref v14])) hC 2 (fun l hl => c_X11_at N v15 (x3 + x5) M12 (v16, M17) h18 l hl) wd_379 (by decide) wd_378 wd_1 hd_X11_at rfl ⟨⟨(Nat.le_of_ble_eq_true rfl), (Nat.le_of_ble_eq_true rfl)⟩, (Nat.le_of_ble_eq_true rfl), (Nat.le_of_ble_eq_true rfl)⟩ rfl (Nat.le_of_ble_eq_true rfl) rfl dX10_board_150 ?_
    obtain ⟨v19, M20, h21, h⟩ := bnd_some h
    refine zt_callSN (z := yX11_change) (As := [.ref v14, .int ((x3 + x5) - x4), .int v16]) (rest := []) (st1 := []) hC 3 (fun l hl => c_X11_change N v14 ((x3 + x5) - x4) v16 M17 (v19, M20) h21 l hl) wd_299 (by decide) wd_298 wd_1 hd_X11_change rfl ⟨⟨(Nat.le_of_ble_eq_true rfl), (Nat.le_of_ble_eq_true rfl)⟩, (Nat.le_of_ble_eq_true rfl), (Nat.le_of_ble_eq_true rfl)⟩ rfl (Nat.le_of_ble_eq_true rfl) rfl dX10_board_153 ?_
    refine zt_iinc (v := (x5 + (1 : Int32))) (lv' := [(5, .int (x5 + (1 : Int32))), (0, .ref x0), (1, .ref x1), (2, .int x2), (3, .int x3), (4, .int x4)]) hC rfl (by rw [ki_1]) (by decide) rfl dX10_board_156 ?_
    refine zt_goto (tgt := 100) hC (by decide) dX10_board_159 ?_
    refine zt_keep [0, 1, 2, 3, 4, 5] rfl ?_
    exact hk100 x0 x1 x2 x3 x4 (x5 + (1 : Int32)) M20 h
theorem w_X10_board_100 {X : Cx} {G : Gl} {r : (Unit × Mm)} (N : Nat) (hC : CX X G yX10_board cX10_board 6 none rm_X10_board) (n : Nat) : ∀ (x0 : Nat) (x1 : Nat) (x2 : Int32) (x3 : Int32) (x4 : Int32) (x5 : Int32) (M : Mm), l_X10_board_100 N n x0 x1 x2 x3 x4 x5 M = some r → TW X G 6 (RQ X G none r.2 rm_X10_board) 0 0 M 100 [(0, .ref x0), (1, .ref x1), (2, .int x2), (3, .int x3), (4, .int x4), (5, .int x5)] [] := by
  induction n with
  | zero => intro  x0 x1 x2 x3 x4 x5 M h; cases (show none = some r from h)
  | succ n ih => intro  x0 x1 x2 x3 x4 x5 M h; exact v_X10_board_100 N hC (l_X10_board_100 N n) ih x0 x1 x2 x3 x4 x5 M h
def b_X10_board_51 (N : Nat) (k51 : Nat → Nat → Int32 → Int32 → Int32 → Int32 → Mm → Option (Unit × Mm)) (x0 : Nat) (x1 : Nat) (x2 : Int32) (x3 : Int32) (x4 : Int32) (x5 : Int32) (M : Mm) : Option (Unit × Mm) :=
(if x4 ≤ x5 then
l_X10_board_100 N N x0 x1 x2 x3 x4 x4 M
else
gR 1 M x1 3 (fun v1 =>
gI 1 M x1 2 (fun v2 =>
gR 10 M x0 11 (fun v3 =>
bnd (f_X11_at N v3 (x3 + x5) M) (fun v4 M5 =>
bnd (f_X11_change N v1 v2 v4 M5) (fun v7 M8 =>
gI 1 M8 x1 2 (fun v10 =>
pI 1 M8 x1 2 (v10 + (1 : Int32)) (fun M11 =>
k51 x0 x1 x2 x3 x4 (x5 + (1 : Int32)) M11))))))))
def l_X10_board_51 (N : Nat) : Nat → Nat → Nat → Int32 → Int32 → Int32 → Int32 → Mm → Option (Unit × Mm)
  | 0 => fun _ _ _ _ _ _ _ => none
  | n + 1 => b_X10_board_51 N (l_X10_board_51 N n)
set_option maxRecDepth 100000 in
set_option maxHeartbeats 4000000 in
theorem v_X10_board_51 {X : Cx} {G : Gl} {r : (Unit × Mm)} (N : Nat) (hC : CX X G yX10_board cX10_board 6 none rm_X10_board) (k51 : Nat → Nat → Int32 → Int32 → Int32 → Int32 → Mm → Option (Unit × Mm)) (hk51 : ∀ (x0 : Nat) (x1 : Nat) (x2 : Int32) (x3 : Int32) (x4 : Int32) (x5 : Int32) (M : Mm), k51 x0 x1 x2 x3 x4 x5 M = some r → TW X G 6 (RQ X G none r.2 rm_X10_board) 0 0 M 51 [(0, .ref x0), (1, .ref x1), (2, .int x2), (3, .int x3), (4, .int x4), (5, .int x5)] []) (x0 : Nat) (x1 : Nat) (x2 : Int32) (x3 : Int32) (x4 : Int32) (x5 : Int32) (M : Mm) (h : b_X10_board_51 N k51 x0 x1 x2 x3 x4 x5 M = some r) : TW X G 6 (RQ X G none r.2 rm_X10_board) 0 0 M 51 [(0, .ref x0), (1, .ref x1), (2, .int x2), (3, .int x3), (4, .int x4), (5, .int x5)] [] := by
  unfold b_X10_board_51 at h
  refine zt_iload hC rfl dX10_board_51 ?_
  refine zt_iload hC rfl dX10_board_53 ?_
  refine zt_icmp_ge (tgt := 96) hC h (by decide) dX10_board_55 (fun h => ?_) (fun h => ?_)
  · refine zt_iload hC rfl dX10_board_96 ?_
    refine zt_istore (lv' := [(5, .int x4), (0, .ref x0), (1, .ref x1), (2, .int x2), (3, .int x3), (4, .int x4)]) hC (by decide) rfl dX10_board_98 ?_
    refine zt_keep [0, 1, 2, 3, 4, 5] rfl ?_
    exact w_X10_board_100 N hC N x0 x1 x2 x3 x4 x4 M h
  · refine zt_aload_n hC rfl dX10_board_58 ?_
    refine zt_gR hC h cl1 (k := 3) (by decide) rfl wd_87 (Or.inl rfl) dX10_board_59 (fun v1 h => ?_)
    refine zt_aload_n hC rfl dX10_board_62 ?_
    refine zt_gI hC h cl1 (k := 2) (by decide) rfl wd_82 (Or.inl rfl) dX10_board_63 (fun v2 h => ?_)
    refine zt_aload_n hC rfl dX10_board_66 ?_
    refine zt_gR hC h cl10 (k := 11) (by decide) rfl wd_128 (Or.inl rfl) dX10_board_67 (fun v3 h => ?_)
    refine zt_iload_n hC rfl dX10_board_70 ?_
    refine zt_iload hC rfl dX10_board_71 ?_
    refine zt_iadd hC dX10_board_73 ?_
    obtain ⟨v4, M5, h6, h⟩ := bnd_some h
    refine zt_callSN (z := yX11_at) (As := [.ref v3, .int (x3 + x5)]) (rest := [.int v2, .ref v1]) (st1 := (.int v4 :: [.int v2, .ref v1])) hC 2 (fun l hl => c_X11_at N v3 (x3 + x5) M (v4, M5) h6 l hl) wd_379 (by decide) wd_378 wd_1 hd_X11_at rfl ⟨⟨(Nat.le_of_ble_eq_true rfl), (Nat.le_of_ble_eq_true rfl)⟩, (Nat.le_of_ble_eq_true rfl), (Nat.le_of_ble_eq_true rfl)⟩ rfl (Nat.le_of_ble_eq_true rfl) rfl dX10_board_74 ?_
    obtain ⟨v7, M8, h9, h⟩ := bnd_some h
    refine zt_callSN (z := yX11_change) (As := [.ref v1, .int v2, .int v4]) (rest := []) (st1 := []) hC 3 (fun l hl => c_X11_change N v1 v2 v4 M5 (v7, M8) h9 l hl) wd_299 (by decide) wd_298 wd_1 hd_X11_change rfl ⟨⟨(Nat.le_of_ble_eq_true rfl), (Nat.le_of_ble_eq_true rfl)⟩, (Nat.le_of_ble_eq_true rfl), (Nat.le_of_ble_eq_true rfl)⟩ rfl (Nat.le_of_ble_eq_true rfl) rfl dX10_board_77 ?_
    refine zt_aload_n hC rfl dX10_board_80 ?_
    refine zt_dup hC rfl dX10_board_81 ?_
    refine zt_gI hC h cl1 (k := 2) (by decide) rfl wd_82 (Or.inl rfl) dX10_board_82 (fun v10 h => ?_)
    refine zt_iconst hC ki_1 dX10_board_85 ?_
    refine zt_iadd hC dX10_board_86 ?_
    refine zt_pI hC h cl1 (k := 2) (by decide) rfl wd_82 (Or.inl rfl) (Or.inl rfl) dX10_board_87 (fun M11 h => ?_)
    refine zt_iinc (v := (x5 + (1 : Int32))) (lv' := [(5, .int (x5 + (1 : Int32))), (0, .ref x0), (1, .ref x1), (2, .int x2), (3, .int x3), (4, .int x4)]) hC rfl (by rw [ki_1]) (by decide) rfl dX10_board_90 ?_
    refine zt_goto (tgt := 51) hC (by decide) dX10_board_93 ?_
    refine zt_keep [0, 1, 2, 3, 4, 5] rfl ?_
    exact hk51 x0 x1 x2 x3 x4 (x5 + (1 : Int32)) M11 h
theorem w_X10_board_51 {X : Cx} {G : Gl} {r : (Unit × Mm)} (N : Nat) (hC : CX X G yX10_board cX10_board 6 none rm_X10_board) (n : Nat) : ∀ (x0 : Nat) (x1 : Nat) (x2 : Int32) (x3 : Int32) (x4 : Int32) (x5 : Int32) (M : Mm), l_X10_board_51 N n x0 x1 x2 x3 x4 x5 M = some r → TW X G 6 (RQ X G none r.2 rm_X10_board) 0 0 M 51 [(0, .ref x0), (1, .ref x1), (2, .int x2), (3, .int x3), (4, .int x4), (5, .int x5)] [] := by
  induction n with
  | zero => intro  x0 x1 x2 x3 x4 x5 M h; cases (show none = some r from h)
  | succ n ih => intro  x0 x1 x2 x3 x4 x5 M h; exact v_X10_board_51 N hC (l_X10_board_51 N n) ih x0 x1 x2 x3 x4 x5 M h
def f_X10_board (N : Nat) (x0 : Nat) (x1 : Nat) (M : Mm) : Option (Unit × Mm) :=
gI 1 M x1 0 (fun v1 =>
ck 10 M x0 (bnd (f_X10_standingAt N x0 v1 M) (fun v2 M3 =>
gI 1 M3 x1 1 (fun v5 =>
(if 0 < v5 then
some ((), M3)
else
(if v2 = 0 then
some ((), M3)
else
gI 1 M3 x1 0 (fun v6 =>
gI 10 M3 x0 4 (fun v7 =>
gI 1 M3 x1 2 (fun v8 =>
l_X10_board_51 N N x0 x1 v2 (v6 * (12 : Int32)) (if (0 : Int32) < (if (v7 - v8) < v2 then (v7 - v8) else v2) then (if (v7 - v8) < v2 then (v7 - v8) else v2) else (0 : Int32)) (0 : Int32) M3)))))))))
set_option maxRecDepth 100000 in
set_option maxHeartbeats 4000000 in
theorem c_X10_board (N : Nat) (x0 : Nat) (x1 : Nat) (M : Mm) (r : (Unit × Mm)) (h : f_X10_board N x0 x1 M = some r) (l : Launch) (hfl : l.flags = flags0) {G : Gl} : MT l G yX10_board cX10_board 6 none rm_X10_board [.ref x0, .ref x1] M none r.2 := by
  unfold f_X10_board at h
  refine zt_start hfl (lv := [(0, .ref x0), (1, .ref x1)]) (by decide) (Nat.le_of_ble_eq_true rfl) rfl wd_464 (fun X hC _ => ?_)
  refine zt_aload_n hC rfl dX10_board_0 ?_
  refine zt_aload_n hC rfl dX10_board_1 ?_
  refine zt_gI hC h cl1 (k := 0) (by decide) rfl wd_72 (Or.inl rfl) dX10_board_2 (fun v1 h => ?_)
  obtain ⟨hk, h⟩ := ck_some h
  obtain ⟨v2, M3, h4, h⟩ := bnd_some h
  refine zt_callV (z := yX10_standingAt) (As := [.int v1]) (rest := []) (st1 := (.int v2 :: [])) hC 1 hk cl10 (fun l hl => c_X10_standingAt N x0 v1 M (v2, M3) h4 l hl) rfl wd_456 wd_453 wd_454 wd_455 wd_2 hd_X10_standingAt rfl ⟨⟨(Nat.le_of_ble_eq_true rfl), (Nat.le_of_ble_eq_true rfl)⟩, (Nat.le_of_ble_eq_true rfl), (Nat.le_of_ble_eq_true rfl)⟩ rfl (Nat.le_of_ble_eq_true rfl) rfl dX10_board_5 ?_
  refine zt_istore_n (lv' := [(2, .int v2), (0, .ref x0), (1, .ref x1)]) hC (by decide) rfl dX10_board_8 ?_
  refine zt_aload_n hC rfl dX10_board_9 ?_
  refine zt_gI hC h cl1 (k := 1) (by decide) rfl wd_75 (Or.inl rfl) dX10_board_10 (fun v5 h => ?_)
  refine zt_if_gt (tgt := 20) hC h (by decide) dX10_board_13 (fun h => ?_) (fun h => ?_)
  · obtain rfl := Option.some.inj h
    exact zt_vret hC rfl rfl (Nat.le_of_ble_eq_true rfl) (Nat.le_of_ble_eq_true rfl) dX10_board_20
  · refine zt_iload_n hC rfl dX10_board_16 ?_
    refine zt_if_ne (tgt := 21) hC h (by decide) dX10_board_17 (fun h => ?_) (fun h => ?_)
    · refine zt_aload_n hC rfl dX10_board_21 ?_
      refine zt_gI hC h cl1 (k := 0) (by decide) rfl wd_72 (Or.inl rfl) dX10_board_22 (fun v6 h => ?_)
      refine zt_bipush hC kb_12 dX10_board_25 ?_
      refine zt_imul hC dX10_board_27 ?_
      refine zt_istore_n (lv' := [(3, .int (v6 * (12 : Int32))), (2, .int v2), (0, .ref x0), (1, .ref x1)]) hC (by decide) rfl dX10_board_28 ?_
      refine zt_iconst hC ki_0 dX10_board_29 ?_
      refine zt_iload_n hC rfl dX10_board_30 ?_
      refine zt_aload_n hC rfl dX10_board_31 ?_
      refine zt_gI hC h cl10 (k := 4) (by decide) rfl wd_113 (Or.inl rfl) dX10_board_32 (fun v7 h => ?_)
      refine zt_aload_n hC rfl dX10_board_35 ?_
      refine zt_gI hC h cl1 (k := 2) (by decide) rfl wd_82 (Or.inl rfl) dX10_board_36 (fun v8 h => ?_)
      refine zt_isub hC dX10_board_39 ?_
      refine zt_mmin hC wd_465 wd_320 wd_8 wd_321 (Nat.le_of_ble_eq_true rfl) (Nat.le_of_ble_eq_true rfl) (Nat.le_of_ble_eq_true rfl) (Nat.le_of_ble_eq_true rfl) dX10_board_40 ?_
      refine zt_mmax hC wd_466 wd_467 wd_8 wd_468 (Nat.le_of_ble_eq_true rfl) (Nat.le_of_ble_eq_true rfl) (Nat.le_of_ble_eq_true rfl) (Nat.le_of_ble_eq_true rfl) dX10_board_43 ?_
      refine zt_istore (lv' := [(4, .int (if (0 : Int32) < (if (v7 - v8) < v2 then (v7 - v8) else v2) then (if (v7 - v8) < v2 then (v7 - v8) else v2) else (0 : Int32))), (3, .int (v6 * (12 : Int32))), (2, .int v2), (0, .ref x0), (1, .ref x1)]) hC (by decide) rfl dX10_board_46 ?_
      refine zt_iconst hC ki_0 dX10_board_48 ?_
      refine zt_istore (lv' := [(5, .int (0 : Int32)), (4, .int (if (0 : Int32) < (if (v7 - v8) < v2 then (v7 - v8) else v2) then (if (v7 - v8) < v2 then (v7 - v8) else v2) else (0 : Int32))), (3, .int (v6 * (12 : Int32))), (2, .int v2), (0, .ref x0), (1, .ref x1)]) hC (by decide) rfl dX10_board_49 ?_
      refine zt_keep [0, 1, 2, 3, 4, 5] rfl ?_
      exact w_X10_board_51 N hC N x0 x1 v2 (v6 * (12 : Int32)) (if (0 : Int32) < (if (v7 - v8) < v2 then (v7 - v8) else v2) then (if (v7 - v8) < v2 then (v7 - v8) else v2) else (0 : Int32)) (0 : Int32) M3 h
    · obtain rfl := Option.some.inj h
      exact zt_vret hC rfl rfl (Nat.le_of_ble_eq_true rfl) (Nat.le_of_ble_eq_true rfl) dX10_board_20
def rm_X10_come : Room := { frames := 1, cells := 0, slots := 0, locals := 23 }
theorem hd_X10_come : yX10_come.cls ≠ "java/lang/invoke/MethodHandle" ∧ yX10_come.cls ≠ "java/lang/invoke/VarHandle" ∧ (parseMethodDescriptor yX10_come.desc).map (fun d => d.parameters.length) = some 2 := by decide +kernel
def f_X10_come (N : Nat) (x0 : Nat) (x1 : Int32) (x2 : Int32) (M : Mm) : Option (Unit × Mm) :=
ck 10 M x0 (bnd (f_X10_standingAt N x0 x2 M) (fun v1 M2 =>
(if v1 < (12 : Int32) then
gR 10 M2 x0 11 (fun v4 =>
bnd (f_X11_change N v4 ((x2 * (12 : Int32)) + v1) x1 M2) (fun v5 M6 =>
gR 10 M6 x0 12 (fun v8 =>
gI 10 M6 x0 6 (fun v9 =>
ck 10 M6 x0 (bnd (f_X10_ofSort N x0 x1 (3 : Int32) M6) (fun v10 M11 =>
bnd (f_X11_change N v8 ((x2 * (12 : Int32)) + v1) (v9 + v10) M11) (fun v13 M14 =>
gR 10 M14 x0 10 (fun v16 =>
bnd (f_X11_change N v16 x2 (v1 + (1 : Int32)) M14) (fun v17 M18 =>
some ((), M18))))))))))
else
gI 10 M2 x0 14 (fun v20 =>
pI 10 M2 x0 14 (v20 + (1 : Int32)) (fun M21 =>
some ((), M21))))))
set_option maxRecDepth 100000 in
set_option maxHeartbeats 4000000 in
theorem c_X10_come (N : Nat) (x0 : Nat) (x1 : Int32) (x2 : Int32) (M : Mm) (r : (Unit × Mm)) (h : f_X10_come N x0 x1 x2 M = some r) (l : Launch) (hfl : l.flags = flags0) {G : Gl} : MT l G yX10_come cX10_come 4 none rm_X10_come [.ref x0, .int x1, .int x2] M none r.2 := by
  unfold f_X10_come at h
  refine zt_start hfl (lv := [(0, .ref x0), (1, .int x1), (2, .int x2)]) (by decide) (Nat.le_of_ble_eq_true rfl) rfl wd_452 (fun X hC _ => ?_)
  refine zt_aload_n hC rfl dX10_come_0 ?_
  refine zt_iload_n hC rfl dX10_come_1 ?_
  obtain ⟨hk, h⟩ := ck_some h
  obtain ⟨v1, M2, h3, h⟩ := bnd_some h
  refine zt_callV (z := yX10_standingAt) (As := [.int x2]) (rest := []) (st1 := (.int v1 :: [])) hC 1 hk cl10 (fun l hl => c_X10_standingAt N x0 x2 M (v1, M2) h3 l hl) rfl wd_456 wd_453 wd_454 wd_455 wd_2 hd_X10_standingAt rfl ⟨⟨(Nat.le_of_ble_eq_true rfl), (Nat.le_of_ble_eq_true rfl)⟩, (Nat.le_of_ble_eq_true rfl), (Nat.le_of_ble_eq_true rfl)⟩ rfl (Nat.le_of_ble_eq_true rfl) rfl dX10_come_2 ?_
  refine zt_istore_n (lv' := [(3, .int v1), (0, .ref x0), (1, .int x1), (2, .int x2)]) hC (by decide) rfl dX10_come_5 ?_
  refine zt_iload_n hC rfl dX10_come_6 ?_
  refine zt_bipush hC kb_12 dX10_come_7 ?_
  refine zt_icmp_lt (tgt := 23) hC h (by decide) dX10_come_9 (fun h => ?_) (fun h => ?_)
  · refine zt_aload_n hC rfl dX10_come_23 ?_
    refine zt_gR hC h cl10 (k := 11) (by decide) rfl wd_128 (Or.inl rfl) dX10_come_24 (fun v4 h => ?_)
    refine zt_iload_n hC rfl dX10_come_27 ?_
    refine zt_bipush hC kb_12 dX10_come_28 ?_
    refine zt_imul hC dX10_come_30 ?_
    refine zt_iload_n hC rfl dX10_come_31 ?_
    refine zt_iadd hC dX10_come_32 ?_
    refine zt_iload_n hC rfl dX10_come_33 ?_
    obtain ⟨v5, M6, h7, h⟩ := bnd_some h
    refine zt_callSN (z := yX11_change) (As := [.ref v4, .int ((x2 * (12 : Int32)) + v1), .int x1]) (rest := []) (st1 := []) hC 3 (fun l hl => c_X11_change N v4 ((x2 * (12 : Int32)) + v1) x1 M2 (v5, M6) h7 l hl) wd_299 (by decide) wd_298 wd_1 hd_X11_change rfl ⟨⟨(Nat.le_of_ble_eq_true rfl), (Nat.le_of_ble_eq_true rfl)⟩, (Nat.le_of_ble_eq_true rfl), (Nat.le_of_ble_eq_true rfl)⟩ rfl (Nat.le_of_ble_eq_true rfl) rfl dX10_come_34 ?_
    refine zt_aload_n hC rfl dX10_come_37 ?_
    refine zt_gR hC h cl10 (k := 12) (by decide) rfl wd_129 (Or.inl rfl) dX10_come_38 (fun v8 h => ?_)
    refine zt_iload_n hC rfl dX10_come_41 ?_
    refine zt_bipush hC kb_12 dX10_come_42 ?_
    refine zt_imul hC dX10_come_44 ?_
    refine zt_iload_n hC rfl dX10_come_45 ?_
    refine zt_iadd hC dX10_come_46 ?_
    refine zt_aload_n hC rfl dX10_come_47 ?_
    refine zt_gI hC h cl10 (k := 6) (by decide) rfl wd_118 (Or.inl rfl) dX10_come_48 (fun v9 h => ?_)
    refine zt_aload_n hC rfl dX10_come_51 ?_
    refine zt_iload_n hC rfl dX10_come_52 ?_
    refine zt_iconst hC ki_3 dX10_come_53 ?_
    obtain ⟨hk, h⟩ := ck_some h
    obtain ⟨v10, M11, h12, h⟩ := bnd_some h
    refine zt_callV (z := yX10_ofSort) (As := [.int x1, .int (3 : Int32)]) (rest := [.int v9, .int ((x2 * (12 : Int32)) + v1), .ref v8]) (st1 := (.int v10 :: [.int v9, .int ((x2 * (12 : Int32)) + v1), .ref v8])) hC 2 hk cl10 (fun l hl => c_X10_ofSort N x0 x1 (3 : Int32) M6 (v10, M11) h12 l hl) rfl wd_346 wd_343 wd_344 wd_345 wd_2 hd_X10_ofSort rfl ⟨⟨(Nat.le_of_ble_eq_true rfl), (Nat.le_of_ble_eq_true rfl)⟩, (Nat.le_of_ble_eq_true rfl), (Nat.le_of_ble_eq_true rfl)⟩ rfl (Nat.le_of_ble_eq_true rfl) rfl dX10_come_54 ?_
    refine zt_iadd hC dX10_come_57 ?_
    obtain ⟨v13, M14, h15, h⟩ := bnd_some h
    refine zt_callSN (z := yX11_change) (As := [.ref v8, .int ((x2 * (12 : Int32)) + v1), .int (v9 + v10)]) (rest := []) (st1 := []) hC 3 (fun l hl => c_X11_change N v8 ((x2 * (12 : Int32)) + v1) (v9 + v10) M11 (v13, M14) h15 l hl) wd_299 (by decide) wd_298 wd_1 hd_X11_change rfl ⟨⟨(Nat.le_of_ble_eq_true rfl), (Nat.le_of_ble_eq_true rfl)⟩, (Nat.le_of_ble_eq_true rfl), (Nat.le_of_ble_eq_true rfl)⟩ rfl (Nat.le_of_ble_eq_true rfl) rfl dX10_come_58 ?_
    refine zt_aload_n hC rfl dX10_come_61 ?_
    refine zt_gR hC h cl10 (k := 10) (by decide) rfl wd_127 (Or.inl rfl) dX10_come_62 (fun v16 h => ?_)
    refine zt_iload_n hC rfl dX10_come_65 ?_
    refine zt_iload_n hC rfl dX10_come_66 ?_
    refine zt_iconst hC ki_1 dX10_come_67 ?_
    refine zt_iadd hC dX10_come_68 ?_
    obtain ⟨v17, M18, h19, h⟩ := bnd_some h
    refine zt_callSN (z := yX11_change) (As := [.ref v16, .int x2, .int (v1 + (1 : Int32))]) (rest := []) (st1 := []) hC 3 (fun l hl => c_X11_change N v16 x2 (v1 + (1 : Int32)) M14 (v17, M18) h19 l hl) wd_299 (by decide) wd_298 wd_1 hd_X11_change rfl ⟨⟨(Nat.le_of_ble_eq_true rfl), (Nat.le_of_ble_eq_true rfl)⟩, (Nat.le_of_ble_eq_true rfl), (Nat.le_of_ble_eq_true rfl)⟩ rfl (Nat.le_of_ble_eq_true rfl) rfl dX10_come_69 ?_
    obtain rfl := Option.some.inj h
    exact zt_vret hC rfl rfl (Nat.le_of_ble_eq_true rfl) (Nat.le_of_ble_eq_true rfl) dX10_come_72
  · refine zt_aload_n hC rfl dX10_come_12 ?_
    refine zt_dup hC rfl dX10_come_13 ?_
    refine zt_gI hC h cl10 (k := 14) (by decide) rfl wd_132 (Or.inl rfl) dX10_come_14 (fun v20 h => ?_)
    refine zt_iconst hC ki_1 dX10_come_17 ?_
    refine zt_iadd hC dX10_come_18 ?_
    refine zt_pI hC h cl10 (k := 14) (by decide) rfl wd_132 (Or.inl rfl) (Or.inl rfl) dX10_come_19 (fun M21 h => ?_)
    obtain rfl := Option.some.inj h
    exact zt_vret hC rfl rfl (Nat.le_of_ble_eq_true rfl) (Nat.le_of_ble_eq_true rfl) dX10_come_22
def rm_X10_sail : Room := { frames := 1, cells := 0, slots := 0, locals := 23 }
theorem hd_X10_sail : yX10_sail.cls ≠ "java/lang/invoke/MethodHandle" ∧ yX10_sail.cls ≠ "java/lang/invoke/VarHandle" ∧ (parseMethodDescriptor yX10_sail.desc).map (fun d => d.parameters.length) = some 1 := by decide +kernel
def b_X10_sail_30 (N : Nat) (k30 : Nat → Nat → Int32 → Int32 → Mm → Option (Unit × Mm)) (x0 : Nat) (x1 : Nat) (x2 : Int32) (x3 : Int32) (M : Mm) : Option (Unit × Mm) :=
gI 1 M x1 2 (fun v1 =>
(if v1 ≤ x3 then
pI 1 M x1 2 x2 (fun M2 =>
some ((), M2))
else
gR 1 M x1 3 (fun v3 =>
bnd (f_X11_at N v3 x3 M) (fun v4 M5 =>
ck 10 M5 x0 (bnd (f_X10_ofSort N x0 v4 (1 : Int32) M5) (fun v7 M8 =>
gI 1 M8 x1 0 (fun v10 =>
(if v7 = v10 then
gI 10 M8 x0 15 (fun v15 =>
ck 10 M8 x0 (bnd (f_X10_ofSort N x0 v4 (4 : Int32) M8) (fun v16 M17 =>
pI 10 M17 x0 15 (v15 + v16) (fun M19 =>
gI 10 M19 x0 16 (fun v20 =>
pI 10 M19 x0 16 (v20 + (1 : Int32)) (fun M21 =>
k30 x0 x1 x2 (x3 + (1 : Int32)) M21))))))
else
gR 1 M8 x1 3 (fun v11 =>
bnd (f_X11_change N v11 x2 v4 M8) (fun v12 M13 =>
k30 x0 x1 (x2 + (1 : Int32)) (x3 + (1 : Int32)) M13))))))))))
def l_X10_sail_30 (N : Nat) : Nat → Nat → Nat → Int32 → Int32 → Mm → Option (Unit × Mm)
  | 0 => fun _ _ _ _ _ => none
  | n + 1 => b_X10_sail_30 N (l_X10_sail_30 N n)
set_option maxRecDepth 100000 in
set_option maxHeartbeats 4000000 in
theorem v_X10_sail_30 {X : Cx} {G : Gl} {r : (Unit × Mm)} (N : Nat) (hC : CX X G yX10_sail cX10_sail 5 none rm_X10_sail) (k30 : Nat → Nat → Int32 → Int32 → Mm → Option (Unit × Mm)) (hk30 : ∀ (x0 : Nat) (x1 : Nat) (x2 : Int32) (x3 : Int32) (M : Mm), k30 x0 x1 x2 x3 M = some r → TW X G 5 (RQ X G none r.2 rm_X10_sail) 0 0 M 30 [(0, .ref x0), (1, .ref x1), (2, .int x2), (3, .int x3)] []) (x0 : Nat) (x1 : Nat) (x2 : Int32) (x3 : Int32) (M : Mm) (h : b_X10_sail_30 N k30 x0 x1 x2 x3 M = some r) : TW X G 5 (RQ X G none r.2 rm_X10_sail) 0 0 M 30 [(0, .ref x0), (1, .ref x1), (2, .int x2), (3, .int x3)] [] := by
  unfold b_X10_sail_30 at h
  refine zt_iload_n hC rfl dX10_sail_30 ?_
  refine zt_aload_n hC rfl dX10_sail_31 ?_
  refine zt_gI hC h cl1 (k := 2) (by decide) rfl wd_82 (Or.inl rfl) dX10_sail_32 (fun v1 h => ?_)
  refine zt_icmp_ge (tgt := 110) hC h (by decide) dX10_sail_35 (fun h => ?_) (fun h => ?_)
  · refine zt_aload_n hC rfl dX10_sail_110 ?_
    refine zt_iload_n hC rfl dX10_sail_111 ?_
    refine zt_pI hC h cl1 (k := 2) (by decide) rfl wd_82 (Or.inl rfl) (Or.inl rfl) dX10_sail_112 (fun M2 h => ?_)
    obtain rfl := Option.some.inj h
    exact zt_vret hC rfl rfl (Nat.le_of_ble_eq_true rfl) (Nat.le_of_ble_eq_true rfl) dX10_sail_115
  · refine zt_aload_n hC rfl dX10_sail_38 ?_
    refine zt_gR hC h cl1 (k := 3) (by decide) rfl wd_87 (Or.inl rfl) dX10_sail_39 (fun v3 h => ?_)
    refine zt_iload_n hC rfl dX10_sail_42 ?_
    obtain ⟨v4, M5, h6, h⟩ := bnd_some h
    refine zt_callSN (z := yX11_at) (As := [.ref v3, .int x3]) (rest := []) (st1 := (.int v4 :: [])) hC 2 (fun l hl => c_X11_at N v3 x3 M (v4, M5) h6 l hl) wd_379 (by decide) wd_378 wd_1 hd_X11_at rfl ⟨⟨(Nat.le_of_ble_eq_true rfl), (Nat.le_of_ble_eq_true rfl)⟩, (Nat.le_of_ble_eq_true rfl), (Nat.le_of_ble_eq_true rfl)⟩ rfl (Nat.le_of_ble_eq_true rfl) rfl dX10_sail_43 ?_
    refine zt_istore (lv' := [(4, .int v4), (0, .ref x0), (1, .ref x1), (2, .int x2), (3, .int x3)]) hC (by decide) rfl dX10_sail_46 ?_
    refine zt_aload_n hC rfl dX10_sail_48 ?_
    refine zt_iload hC rfl dX10_sail_49 ?_
    refine zt_iconst hC ki_1 dX10_sail_51 ?_
    obtain ⟨hk, h⟩ := ck_some h
    obtain ⟨v7, M8, h9, h⟩ := bnd_some h
    refine zt_callV (z := yX10_ofSort) (As := [.int v4, .int (1 : Int32)]) (rest := []) (st1 := (.int v7 :: [])) hC 2 hk cl10 (fun l hl => c_X10_ofSort N x0 v4 (1 : Int32) M5 (v7, M8) h9 l hl) rfl wd_346 wd_343 wd_344 wd_345 wd_2 hd_X10_ofSort rfl ⟨⟨(Nat.le_of_ble_eq_true rfl), (Nat.le_of_ble_eq_true rfl)⟩, (Nat.le_of_ble_eq_true rfl), (Nat.le_of_ble_eq_true rfl)⟩ rfl (Nat.le_of_ble_eq_true rfl) rfl dX10_sail_52 ?_
    refine zt_aload_n hC rfl dX10_sail_55 ?_
    refine zt_gI hC h cl1 (k := 0) (by decide) rfl wd_72 (Or.inl rfl) dX10_sail_56 (fun v10 h => ?_)
    refine zt_icmp_ne (tgt := 91) hC h (by decide) dX10_sail_59 (fun h => ?_) (fun h => ?_)
    · refine zt_aload_n hC rfl dX10_sail_91 ?_
      refine zt_gR hC h cl1 (k := 3) (by decide) rfl wd_87 (Or.inl rfl) dX10_sail_92 (fun v11 h => ?_)
      refine zt_iload_n hC rfl dX10_sail_95 ?_
      refine zt_iload hC rfl dX10_sail_96 ?_
      obtain ⟨v12, M13, h14, h⟩ := bnd_some h
      refine zt_callSN (z := yX11_change) (As := [.ref v11, .int x2, .int v4]) (rest := []) (st1 := []) hC 3 (fun l hl => c_X11_change N v11 x2 v4 M8 (v12, M13) h14 l hl) wd_299 (by decide) wd_298 wd_1 hd_X11_change rfl ⟨⟨(Nat.le_of_ble_eq_true rfl), (Nat.le_of_ble_eq_true rfl)⟩, (Nat.le_of_ble_eq_true rfl), (Nat.le_of_ble_eq_true rfl)⟩ rfl (Nat.le_of_ble_eq_true rfl) rfl dX10_sail_98 ?_
      refine zt_iinc (v := (x2 + (1 : Int32))) (lv' := [(2, .int (x2 + (1 : Int32))), (4, .int v4), (0, .ref x0), (1, .ref x1), (3, .int x3)]) hC rfl (by rw [ki_1]) (by decide) rfl dX10_sail_101 ?_
      refine zt_iinc (v := (x3 + (1 : Int32))) (lv' := [(3, .int (x3 + (1 : Int32))), (2, .int (x2 + (1 : Int32))), (4, .int v4), (0, .ref x0), (1, .ref x1)]) hC rfl (by rw [ki_1]) (by decide) rfl dX10_sail_104 ?_
      refine zt_goto (tgt := 30) hC (by decide) dX10_sail_107 ?_
      refine zt_keep [0, 1, 2, 3] rfl ?_
      exact hk30 x0 x1 (x2 + (1 : Int32)) (x3 + (1 : Int32)) M13 h
    · refine zt_aload_n hC rfl dX10_sail_62 ?_
      refine zt_dup hC rfl dX10_sail_63 ?_
      refine zt_gI hC h cl10 (k := 15) (by decide) rfl wd_134 (Or.inl rfl) dX10_sail_64 (fun v15 h => ?_)
      refine zt_aload_n hC rfl dX10_sail_67 ?_
      refine zt_iload hC rfl dX10_sail_68 ?_
      refine zt_iconst hC ki_4 dX10_sail_70 ?_
      obtain ⟨hk, h⟩ := ck_some h
      obtain ⟨v16, M17, h18, h⟩ := bnd_some h
      refine zt_callV (z := yX10_ofSort) (As := [.int v4, .int (4 : Int32)]) (rest := [.int v15, .ref x0]) (st1 := (.int v16 :: [.int v15, .ref x0])) hC 2 hk cl10 (fun l hl => c_X10_ofSort N x0 v4 (4 : Int32) M8 (v16, M17) h18 l hl) rfl wd_346 wd_343 wd_344 wd_345 wd_2 hd_X10_ofSort rfl ⟨⟨(Nat.le_of_ble_eq_true rfl), (Nat.le_of_ble_eq_true rfl)⟩, (Nat.le_of_ble_eq_true rfl), (Nat.le_of_ble_eq_true rfl)⟩ rfl (Nat.le_of_ble_eq_true rfl) rfl dX10_sail_71 ?_
      refine zt_iadd hC dX10_sail_74 ?_
      refine zt_pI hC h cl10 (k := 15) (by decide) rfl wd_134 (Or.inl rfl) (Or.inl rfl) dX10_sail_75 (fun M19 h => ?_)
      refine zt_aload_n hC rfl dX10_sail_78 ?_
      refine zt_dup hC rfl dX10_sail_79 ?_
      refine zt_gI hC h cl10 (k := 16) (by decide) rfl wd_136 (Or.inl rfl) dX10_sail_80 (fun v20 h => ?_)
      refine zt_iconst hC ki_1 dX10_sail_83 ?_
      refine zt_iadd hC dX10_sail_84 ?_
      refine zt_pI hC h cl10 (k := 16) (by decide) rfl wd_136 (Or.inl rfl) (Or.inl rfl) dX10_sail_85 (fun M21 h => ?_)
      refine zt_goto (tgt := 104) hC (by decide) dX10_sail_88 ?_
      refine zt_iinc (v := (x3 + (1 : Int32))) (lv' := [(3, .int (x3 + (1 : Int32))), (4, .int v4), (0, .ref x0), (1, .ref x1), (2, .int x2)]) hC rfl (by rw [ki_1]) (by decide) rfl dX10_sail_104 ?_
      refine zt_goto (tgt := 30) hC (by decide) dX10_sail_107 ?_
      refine zt_keep [0, 1, 2, 3] rfl ?_
      exact hk30 x0 x1 x2 (x3 + (1 : Int32)) M21 h
theorem w_X10_sail_30 {X : Cx} {G : Gl} {r : (Unit × Mm)} (N : Nat) (hC : CX X G yX10_sail cX10_sail 5 none rm_X10_sail) (n : Nat) : ∀ (x0 : Nat) (x1 : Nat) (x2 : Int32) (x3 : Int32) (M : Mm), l_X10_sail_30 N n x0 x1 x2 x3 M = some r → TW X G 5 (RQ X G none r.2 rm_X10_sail) 0 0 M 30 [(0, .ref x0), (1, .ref x1), (2, .int x2), (3, .int x3)] [] := by
  induction n with
  | zero => intro  x0 x1 x2 x3 M h; cases (show none = some r from h)
  | succ n ih => intro  x0 x1 x2 x3 M h; exact v_X10_sail_30 N hC (l_X10_sail_30 N n) ih x0 x1 x2 x3 M h
def f_X10_sail (N : Nat) (x0 : Nat) (x1 : Nat) (M : Mm) : Option (Unit × Mm) :=
gI 1 M x1 1 (fun v1 =>
(if v1 = 0 then
some ((), M)
else
gI 1 M x1 1 (fun v2 =>
pI 1 M x1 1 (v2 - (1 : Int32)) (fun M3 =>
gI 1 M3 x1 1 (fun v4 =>
(if v4 ≤ 0 then
l_X10_sail_30 N N x0 x1 (0 : Int32) (0 : Int32) M3
else
some ((), M3)))))))
set_option maxRecDepth 100000 in
set_option maxHeartbeats 4000000 in
theorem c_X10_sail (N : Nat) (x0 : Nat) (x1 : Nat) (M : Mm) (r : (Unit × Mm)) (h : f_X10_sail N x0 x1 M = some r) (l : Launch) (hfl : l.flags = flags0) {G : Gl} : MT l G yX10_sail cX10_sail 5 none rm_X10_sail [.ref x0, .ref x1] M none r.2 := by
  unfold f_X10_sail at h
  refine zt_start hfl (lv := [(0, .ref x0), (1, .ref x1)]) (by decide) (Nat.le_of_ble_eq_true rfl) rfl wd_460 (fun X hC _ => ?_)
  refine zt_aload_n hC rfl dX10_sail_0 ?_
  refine zt_gI hC h cl1 (k := 1) (by decide) rfl wd_75 (Or.inl rfl) dX10_sail_1 (fun v1 h => ?_)
  refine zt_if_ne (tgt := 8) hC h (by decide) dX10_sail_4 (fun h => ?_) (fun h => ?_)
  · refine zt_aload_n hC rfl dX10_sail_8 ?_
    refine zt_dup hC rfl dX10_sail_9 ?_
    refine zt_gI hC h cl1 (k := 1) (by decide) rfl wd_75 (Or.inl rfl) dX10_sail_10 (fun v2 h => ?_)
    refine zt_iconst hC ki_1 dX10_sail_13 ?_
    refine zt_isub hC dX10_sail_14 ?_
    refine zt_pI hC h cl1 (k := 1) (by decide) rfl wd_75 (Or.inl rfl) (Or.inl rfl) dX10_sail_15 (fun M3 h => ?_)
    refine zt_aload_n hC rfl dX10_sail_18 ?_
    refine zt_gI hC h cl1 (k := 1) (by decide) rfl wd_75 (Or.inl rfl) dX10_sail_19 (fun v4 h => ?_)
    refine zt_if_le (tgt := 26) hC h (by decide) dX10_sail_22 (fun h => ?_) (fun h => ?_)
    · refine zt_iconst hC ki_0 dX10_sail_26 ?_
      refine zt_istore_n (lv' := [(2, .int (0 : Int32)), (0, .ref x0), (1, .ref x1)]) hC (by decide) rfl dX10_sail_27 ?_
      refine zt_iconst hC ki_0 dX10_sail_28 ?_
      refine zt_istore_n (lv' := [(3, .int (0 : Int32)), (2, .int (0 : Int32)), (0, .ref x0), (1, .ref x1)]) hC (by decide) rfl dX10_sail_29 ?_
      refine zt_keep [0, 1, 2, 3] rfl ?_
      exact w_X10_sail_30 N hC N x0 x1 (0 : Int32) (0 : Int32) M3 h
    · obtain rfl := Option.some.inj h
      exact zt_vret hC rfl rfl (Nat.le_of_ble_eq_true rfl) (Nat.le_of_ble_eq_true rfl) dX10_sail_25
  · obtain rfl := Option.some.inj h
    exact zt_vret hC rfl rfl (Nat.le_of_ble_eq_true rfl) (Nat.le_of_ble_eq_true rfl) dX10_sail_7
def rm_X10_bring : Room := { frames := 2, cells := 0, slots := 0, locals := 49 }
theorem hd_X10_bring : yX10_bring.cls ≠ "java/lang/invoke/MethodHandle" ∧ yX10_bring.cls ≠ "java/lang/invoke/VarHandle" ∧ (parseMethodDescriptor yX10_bring.desc).map (fun d => d.parameters.length) = some 0 := by decide +kernel
def j_X10_bring_87 (N : Nat) (x0 : Nat) (M : Mm) : Option (Unit × Mm) :=
gR 10 M x0 7 (fun v1 =>
ck 10 M x0 (bnd (f_X10_board N x0 v1 M) (fun v2 M3 =>
gI 10 M3 x0 9 (fun v5 =>
(if v5 = 0 then
some ((), M3)
else
gR 10 M3 x0 8 (fun v6 =>
ck 10 M3 x0 (bnd (f_X10_board N x0 v6 M3) (fun v7 M8 =>
some ((), M8)))))))))
set_option maxRecDepth 100000 in
set_option maxHeartbeats 4000000 in
theorem w_X10_bring_87 {X : Cx} {G : Gl} {r : (Unit × Mm)} (N : Nat) (hC : CX X G yX10_bring cX10_bring 2 none rm_X10_bring) (x0 : Nat) (M : Mm) (h : j_X10_bring_87 N x0 M = some r) : TW X G 2 (RQ X G none r.2 rm_X10_bring) 0 0 M 87 [(0, .ref x0)] [] := by
  unfold j_X10_bring_87 at h
  refine zt_aload_n hC rfl dX10_bring_87 ?_
  refine zt_aload_n hC rfl dX10_bring_88 ?_
  refine zt_gR hC h cl10 (k := 7) (by decide) rfl wd_121 (Or.inl rfl) dX10_bring_89 (fun v1 h => ?_)
  obtain ⟨hk, h⟩ := ck_some h
  obtain ⟨v2, M3, h4, h⟩ := bnd_some h
  refine zt_callV (z := yX10_board) (As := [.ref v1]) (rest := []) (st1 := []) hC 1 hk cl10 (fun l hl => c_X10_board N x0 v1 M (v2, M3) h4 l hl) rfl wd_464 wd_461 wd_463 ws_12 wd_2 hd_X10_board rfl ⟨⟨(Nat.le_of_ble_eq_true rfl), (Nat.le_of_ble_eq_true rfl)⟩, (Nat.le_of_ble_eq_true rfl), (Nat.le_of_ble_eq_true rfl)⟩ rfl (Nat.le_of_ble_eq_true rfl) rfl dX10_bring_92 ?_
  refine zt_aload_n hC rfl dX10_bring_95 ?_
  refine zt_gI hC h cl10 (k := 9) (by decide) rfl wd_125 (Or.inl rfl) dX10_bring_96 (fun v5 h => ?_)
  refine zt_if_eq (tgt := 110) hC h (by decide) dX10_bring_99 (fun h => ?_) (fun h => ?_)
  · obtain rfl := Option.some.inj h
    exact zt_vret hC rfl rfl (Nat.le_of_ble_eq_true rfl) (Nat.le_of_ble_eq_true rfl) dX10_bring_110
  · refine zt_aload_n hC rfl dX10_bring_102 ?_
    refine zt_aload_n hC rfl dX10_bring_103 ?_
    refine zt_gR hC h cl10 (k := 8) (by decide) rfl wd_123 (Or.inl rfl) dX10_bring_104 (fun v6 h => ?_)
    obtain ⟨hk, h⟩ := ck_some h
    obtain ⟨v7, M8, h9, h⟩ := bnd_some h
    refine zt_callV (z := yX10_board) (As := [.ref v6]) (rest := []) (st1 := []) hC 1 hk cl10 (fun l hl => c_X10_board N x0 v6 M3 (v7, M8) h9 l hl) rfl wd_464 wd_461 wd_463 ws_12 wd_2 hd_X10_board rfl ⟨⟨(Nat.le_of_ble_eq_true rfl), (Nat.le_of_ble_eq_true rfl)⟩, (Nat.le_of_ble_eq_true rfl), (Nat.le_of_ble_eq_true rfl)⟩ rfl (Nat.le_of_ble_eq_true rfl) rfl dX10_bring_107 ?_
    obtain rfl := Option.some.inj h
    exact zt_vret hC rfl rfl (Nat.le_of_ble_eq_true rfl) (Nat.le_of_ble_eq_true rfl) dX10_bring_110
def b_X10_bring_2 (N : Nat) (k2 : Nat → Int32 → Mm → Option (Unit × Mm)) (x0 : Nat) (x1 : Int32) (M : Mm) : Option (Unit × Mm) :=
gI 10 M x0 2 (fun v1 =>
(if v1 ≤ x1 then
gR 10 M x0 7 (fun v2 =>
ck 10 M x0 (bnd (f_X10_sail N x0 v2 M) (fun v3 M4 =>
gI 10 M4 x0 9 (fun v6 =>
(if v6 = 0 then
j_X10_bring_87 N x0 M4
else
gR 10 M4 x0 8 (fun v7 =>
ck 10 M4 x0 (bnd (f_X10_sail N x0 v7 M4) (fun v8 M9 =>
j_X10_bring_87 N x0 M9))))))))
else
gI 10 M x0 5 (fun v11 =>
pI 10 M x0 5 ((v11 * (1103515245 : Int32)) + (12345 : Int32)) (fun M12 =>
gI 10 M12 x0 5 (fun v13 =>
ck 10 M12 x0 (bnd (f_X10_ofSort N x0 x1 (2 : Int32) M12) (fun v14 M15 =>
(if v14 ≤ (((v13 &&& (2147483647 : Int32)) / (65536 : Int32)) - ((v13 &&& (2147483647 : Int32)) / (65536 : Int32)) / (100 : Int32) * (100 : Int32)) then
k2 x0 (x1 + (1 : Int32)) M15
else
ck 10 M15 x0 (bnd (f_X10_ofSort N x0 x1 (0 : Int32) M15) (fun v17 M18 =>
ck 10 M18 x0 (bnd (f_X10_come N x0 x1 v17 M18) (fun v20 M21 =>
k2 x0 (x1 + (1 : Int32)) M21))))))))))))
def l_X10_bring_2 (N : Nat) : Nat → Nat → Int32 → Mm → Option (Unit × Mm)
  | 0 => fun _ _ _ => none
  | n + 1 => b_X10_bring_2 N (l_X10_bring_2 N n)
set_option maxRecDepth 100000 in
set_option maxHeartbeats 4000000 in
theorem v_X10_bring_2 {X : Cx} {G : Gl} {r : (Unit × Mm)} (N : Nat) (hC : CX X G yX10_bring cX10_bring 2 none rm_X10_bring) (k2 : Nat → Int32 → Mm → Option (Unit × Mm)) (hk2 : ∀ (x0 : Nat) (x1 : Int32) (M : Mm), k2 x0 x1 M = some r → TW X G 2 (RQ X G none r.2 rm_X10_bring) 0 0 M 2 [(0, .ref x0), (1, .int x1)] []) (x0 : Nat) (x1 : Int32) (M : Mm) (h : b_X10_bring_2 N k2 x0 x1 M = some r) : TW X G 2 (RQ X G none r.2 rm_X10_bring) 0 0 M 2 [(0, .ref x0), (1, .int x1)] [] := by
  unfold b_X10_bring_2 at h
  refine zt_iload_n hC rfl dX10_bring_2 ?_
  refine zt_aload_n hC rfl dX10_bring_3 ?_
  refine zt_gI hC h cl10 (k := 2) (by decide) rfl wd_110 (Or.inl rfl) dX10_bring_4 (fun v1 h => ?_)
  refine zt_icmp_ge (tgt := 64) hC h (by decide) dX10_bring_7 (fun h => ?_) (fun h => ?_)
  · refine zt_aload_n hC rfl dX10_bring_64 ?_
    refine zt_aload_n hC rfl dX10_bring_65 ?_
    refine zt_gR hC h cl10 (k := 7) (by decide) rfl wd_121 (Or.inl rfl) dX10_bring_66 (fun v2 h => ?_)
    obtain ⟨hk, h⟩ := ck_some h
    obtain ⟨v3, M4, h5, h⟩ := bnd_some h
    refine zt_callV (z := yX10_sail) (As := [.ref v2]) (rest := []) (st1 := []) hC 1 hk cl10 (fun l hl => c_X10_sail N x0 v2 M (v3, M4) h5 l hl) rfl wd_460 wd_457 wd_459 ws_11 wd_2 hd_X10_sail rfl ⟨⟨(Nat.le_of_ble_eq_true rfl), (Nat.le_of_ble_eq_true rfl)⟩, (Nat.le_of_ble_eq_true rfl), (Nat.le_of_ble_eq_true rfl)⟩ rfl (Nat.le_of_ble_eq_true rfl) rfl dX10_bring_69 ?_
    refine zt_aload_n hC rfl dX10_bring_72 ?_
    refine zt_gI hC h cl10 (k := 9) (by decide) rfl wd_125 (Or.inl rfl) dX10_bring_73 (fun v6 h => ?_)
    refine zt_if_eq (tgt := 87) hC h (by decide) dX10_bring_76 (fun h => ?_) (fun h => ?_)
    · refine zt_keep [0] rfl ?_
      exact w_X10_bring_87 N hC x0 M4 h
    · refine zt_aload_n hC rfl dX10_bring_79 ?_
      refine zt_aload_n hC rfl dX10_bring_80 ?_
      refine zt_gR hC h cl10 (k := 8) (by decide) rfl wd_123 (Or.inl rfl) dX10_bring_81 (fun v7 h => ?_)
      obtain ⟨hk, h⟩ := ck_some h
      obtain ⟨v8, M9, h10, h⟩ := bnd_some h
      refine zt_callV (z := yX10_sail) (As := [.ref v7]) (rest := []) (st1 := []) hC 1 hk cl10 (fun l hl => c_X10_sail N x0 v7 M4 (v8, M9) h10 l hl) rfl wd_460 wd_457 wd_459 ws_11 wd_2 hd_X10_sail rfl ⟨⟨(Nat.le_of_ble_eq_true rfl), (Nat.le_of_ble_eq_true rfl)⟩, (Nat.le_of_ble_eq_true rfl), (Nat.le_of_ble_eq_true rfl)⟩ rfl (Nat.le_of_ble_eq_true rfl) rfl dX10_bring_84 ?_
      refine zt_keep [0] rfl ?_
      exact w_X10_bring_87 N hC x0 M9 h
  · refine zt_aload_n hC rfl dX10_bring_10 ?_
    refine zt_aload_n hC rfl dX10_bring_11 ?_
    refine zt_gI hC h cl10 (k := 5) (by decide) rfl wd_116 (Or.inl rfl) dX10_bring_12 (fun v11 h => ?_)
    refine zt_ldc hC wd_446 dX10_bring_15 ?_
    refine zt_imul hC dX10_bring_17 ?_
    refine zt_sipush hC ks_12345 dX10_bring_18 ?_
    refine zt_iadd hC dX10_bring_21 ?_
    refine zt_pI hC h cl10 (k := 5) (by decide) rfl wd_116 (Or.inl rfl) (Or.inl rfl) dX10_bring_22 (fun M12 h => ?_)
    refine zt_aload_n hC rfl dX10_bring_25 ?_
    refine zt_gI hC h cl10 (k := 5) (by decide) rfl wd_116 (Or.inl rfl) dX10_bring_26 (fun v13 h => ?_)
    refine zt_ldc hC wd_447 dX10_bring_29 ?_
    refine zt_iand hC dX10_bring_31 ?_
    refine zt_ldc hC wd_448 dX10_bring_32 ?_
    refine zt_idivc hC (by decide) dX10_bring_34 ?_
    refine zt_bipush hC kb_100 dX10_bring_35 ?_
    refine zt_iremc hC (by decide) dX10_bring_37 ?_
    refine zt_aload_n hC rfl dX10_bring_38 ?_
    refine zt_iload_n hC rfl dX10_bring_39 ?_
    refine zt_iconst hC ki_2 dX10_bring_40 ?_
    obtain ⟨hk, h⟩ := ck_some h
    obtain ⟨v14, M15, h16, h⟩ := bnd_some h
    refine zt_callV (z := yX10_ofSort) (As := [.int x1, .int (2 : Int32)]) (rest := [.int (((v13 &&& (2147483647 : Int32)) / (65536 : Int32)) - ((v13 &&& (2147483647 : Int32)) / (65536 : Int32)) / (100 : Int32) * (100 : Int32))]) (st1 := (.int v14 :: [.int (((v13 &&& (2147483647 : Int32)) / (65536 : Int32)) - ((v13 &&& (2147483647 : Int32)) / (65536 : Int32)) / (100 : Int32) * (100 : Int32))])) hC 2 hk cl10 (fun l hl => c_X10_ofSort N x0 x1 (2 : Int32) M12 (v14, M15) h16 l hl) rfl wd_346 wd_343 wd_344 wd_345 wd_2 hd_X10_ofSort rfl ⟨⟨(Nat.le_of_ble_eq_true rfl), (Nat.le_of_ble_eq_true rfl)⟩, (Nat.le_of_ble_eq_true rfl), (Nat.le_of_ble_eq_true rfl)⟩ rfl (Nat.le_of_ble_eq_true rfl) rfl dX10_bring_41 ?_
    refine zt_icmp_ge (tgt := 58) hC h (by decide) dX10_bring_44 (fun h => ?_) (fun h => ?_)
    · refine zt_iinc (v := (x1 + (1 : Int32))) (lv' := [(1, .int (x1 + (1 : Int32))), (0, .ref x0)]) hC rfl (by rw [ki_1]) (by decide) rfl dX10_bring_58 ?_
      refine zt_goto (tgt := 2) hC (by decide) dX10_bring_61 ?_
      refine zt_keep [0, 1] rfl ?_
      exact hk2 x0 (x1 + (1 : Int32)) M15 h
    · refine zt_aload_n hC rfl dX10_bring_47 ?_
      refine zt_iload_n hC rfl dX10_bring_48 ?_
      refine zt_aload_n hC rfl dX10_bring_49 ?_
      refine zt_iload_n hC rfl dX10_bring_50 ?_
      refine zt_iconst hC ki_0 dX10_bring_51 ?_
      obtain ⟨hk, h⟩ := ck_some h
      obtain ⟨v17, M18, h19, h⟩ := bnd_some h
      refine zt_callV (z := yX10_ofSort) (As := [.int x1, .int (0 : Int32)]) (rest := [.int x1, .ref x0]) (st1 := (.int v17 :: [.int x1, .ref x0])) hC 2 hk cl10 (fun l hl => c_X10_ofSort N x0 x1 (0 : Int32) M15 (v17, M18) h19 l hl) rfl wd_346 wd_343 wd_344 wd_345 wd_2 hd_X10_ofSort rfl ⟨⟨(Nat.le_of_ble_eq_true rfl), (Nat.le_of_ble_eq_true rfl)⟩, (Nat.le_of_ble_eq_true rfl), (Nat.le_of_ble_eq_true rfl)⟩ rfl (Nat.le_of_ble_eq_true rfl) rfl dX10_bring_52 ?_
      obtain ⟨hk, h⟩ := ck_some h
      obtain ⟨v20, M21, h22, h⟩ := bnd_some h
      refine zt_callV (z := yX10_come) (As := [.int x1, .int v17]) (rest := []) (st1 := []) hC 2 hk cl10 (fun l hl => c_X10_come N x0 x1 v17 M18 (v20, M21) h22 l hl) rfl wd_452 wd_449 wd_451 ws_10 wd_2 hd_X10_come rfl ⟨⟨(Nat.le_of_ble_eq_true rfl), (Nat.le_of_ble_eq_true rfl)⟩, (Nat.le_of_ble_eq_true rfl), (Nat.le_of_ble_eq_true rfl)⟩ rfl (Nat.le_of_ble_eq_true rfl) rfl dX10_bring_55 ?_
      refine zt_iinc (v := (x1 + (1 : Int32))) (lv' := [(1, .int (x1 + (1 : Int32))), (0, .ref x0)]) hC rfl (by rw [ki_1]) (by decide) rfl dX10_bring_58 ?_
      refine zt_goto (tgt := 2) hC (by decide) dX10_bring_61 ?_
      refine zt_keep [0, 1] rfl ?_
      exact hk2 x0 (x1 + (1 : Int32)) M21 h
theorem w_X10_bring_2 {X : Cx} {G : Gl} {r : (Unit × Mm)} (N : Nat) (hC : CX X G yX10_bring cX10_bring 2 none rm_X10_bring) (n : Nat) : ∀ (x0 : Nat) (x1 : Int32) (M : Mm), l_X10_bring_2 N n x0 x1 M = some r → TW X G 2 (RQ X G none r.2 rm_X10_bring) 0 0 M 2 [(0, .ref x0), (1, .int x1)] [] := by
  induction n with
  | zero => intro  x0 x1 M h; cases (show none = some r from h)
  | succ n ih => intro  x0 x1 M h; exact v_X10_bring_2 N hC (l_X10_bring_2 N n) ih x0 x1 M h
def f_X10_bring (N : Nat) (x0 : Nat) (M : Mm) : Option (Unit × Mm) :=
l_X10_bring_2 N N x0 (0 : Int32) M
set_option maxRecDepth 100000 in
set_option maxHeartbeats 4000000 in
theorem c_X10_bring (N : Nat) (x0 : Nat) (M : Mm) (r : (Unit × Mm)) (h : f_X10_bring N x0 M = some r) (l : Launch) (hfl : l.flags = flags0) {G : Gl} : MT l G yX10_bring cX10_bring 2 none rm_X10_bring [.ref x0] M none r.2 := by
  unfold f_X10_bring at h
  refine zt_start hfl (lv := [(0, .ref x0)]) (by decide) (Nat.le_of_ble_eq_true rfl) rfl wd_445 (fun X hC _ => ?_)
  refine zt_iconst hC ki_0 dX10_bring_0 ?_
  refine zt_istore_n (lv' := [(1, .int (0 : Int32)), (0, .ref x0)]) hC (by decide) rfl dX10_bring_1 ?_
  refine zt_keep [0, 1] rfl ?_
  exact w_X10_bring_2 N hC N x0 (0 : Int32) M h
def rm_X10_waitAt : Room := { frames := 1, cells := 0, slots := 0, locals := 22 }
theorem hd_X10_waitAt : yX10_waitAt.cls ≠ "java/lang/invoke/MethodHandle" ∧ yX10_waitAt.cls ≠ "java/lang/invoke/VarHandle" ∧ (parseMethodDescriptor yX10_waitAt.desc).map (fun d => d.parameters.length) = some 2 := by decide +kernel
def b_X10_waitAt_11 (N : Nat) (k11 : Nat → Int32 → Int32 → Int32 → Int32 → Int32 → Mm → Option (Unit × Mm)) (x0 : Nat) (x1 : Int32) (x2 : Int32) (x3 : Int32) (x4 : Int32) (x5 : Int32) (M : Mm) : Option (Unit × Mm) :=
(if (x3 + x2) ≤ x5 then
gI 10 M x0 13 (fun v1 =>
pI 10 M x0 13 (v1 + x2) (fun M2 =>
gI 10 M2 x0 14 (fun v3 =>
pI 10 M2 x0 14 (v3 + (x2 - x4)) (fun M4 =>
gR 10 M4 x0 10 (fun v5 =>
bnd (f_X11_change N v5 x1 x4 M4) (fun v6 M7 =>
some ((), M7)))))))
else
gR 10 M x0 12 (fun v9 =>
bnd (f_X11_at N v9 x5 M) (fun v10 M11 =>
gI 10 M11 x0 6 (fun v13 =>
(if v10 ≤ (v13 + (1 : Int32)) then
k11 x0 x1 x2 x3 x4 (x5 + (1 : Int32)) M11
else
(if x5 ≤ (x3 + x4) then
k11 x0 x1 x2 x3 (x4 + (1 : Int32)) (x5 + (1 : Int32)) M11
else
gR 10 M11 x0 11 (fun v14 =>
gR 10 M11 x0 11 (fun v15 =>
bnd (f_X11_at N v15 x5 M11) (fun v16 M17 =>
bnd (f_X11_change N v14 (x3 + x4) v16 M17) (fun v19 M20 =>
gR 10 M20 x0 12 (fun v22 =>
bnd (f_X11_change N v22 (x3 + x4) v10 M20) (fun v23 M24 =>
k11 x0 x1 x2 x3 (x4 + (1 : Int32)) (x5 + (1 : Int32)) M24))))))))))))
def l_X10_waitAt_11 (N : Nat) : Nat → Nat → Int32 → Int32 → Int32 → Int32 → Int32 → Mm → Option (Unit × Mm)
  | 0 => fun _ _ _ _ _ _ _ => none
  | n + 1 => b_X10_waitAt_11 N (l_X10_waitAt_11 N n)
set_option maxRecDepth 100000 in
set_option maxHeartbeats 4000000 in
theorem v_X10_waitAt_11 {X : Cx} {G : Gl} {r : (Unit × Mm)} (N : Nat) (hC : CX X G yX10_waitAt cX10_waitAt 7 none rm_X10_waitAt) (k11 : Nat → Int32 → Int32 → Int32 → Int32 → Int32 → Mm → Option (Unit × Mm)) (hk11 : ∀ (x0 : Nat) (x1 : Int32) (x2 : Int32) (x3 : Int32) (x4 : Int32) (x5 : Int32) (M : Mm), k11 x0 x1 x2 x3 x4 x5 M = some r → TW X G 7 (RQ X G none r.2 rm_X10_waitAt) 0 0 M 11 [(0, .ref x0), (1, .int x1), (2, .int x2), (3, .int x3), (4, .int x4), (5, .int x5)] []) (x0 : Nat) (x1 : Int32) (x2 : Int32) (x3 : Int32) (x4 : Int32) (x5 : Int32) (M : Mm) (h : b_X10_waitAt_11 N k11 x0 x1 x2 x3 x4 x5 M = some r) : TW X G 7 (RQ X G none r.2 rm_X10_waitAt) 0 0 M 11 [(0, .ref x0), (1, .int x1), (2, .int x2), (3, .int x3), (4, .int x4), (5, .int x5)] [] := by
  unfold b_X10_waitAt_11 at h
  refine zt_iload hC rfl dX10_waitAt_11 ?_
  refine zt_iload_n hC rfl dX10_waitAt_13 ?_
  refine zt_iload_n hC rfl dX10_waitAt_14 ?_
  refine zt_iadd hC dX10_waitAt_15 ?_
  refine zt_icmp_ge (tgt := 92) hC h (by decide) dX10_waitAt_16 (fun h => ?_) (fun h => ?_)
  · refine zt_aload_n hC rfl dX10_waitAt_92 ?_
    refine zt_dup hC rfl dX10_waitAt_93 ?_
    refine zt_gI hC h cl10 (k := 13) (by decide) rfl wd_130 (Or.inl rfl) dX10_waitAt_94 (fun v1 h => ?_)
    refine zt_iload_n hC rfl dX10_waitAt_97 ?_
    refine zt_iadd hC dX10_waitAt_98 ?_
    refine zt_pI hC h cl10 (k := 13) (by decide) rfl wd_130 (Or.inl rfl) (Or.inl rfl) dX10_waitAt_99 (fun M2 h => ?_)
    refine zt_aload_n hC rfl dX10_waitAt_102 ?_
    refine zt_dup hC rfl dX10_waitAt_103 ?_
    refine zt_gI hC h cl10 (k := 14) (by decide) rfl wd_132 (Or.inl rfl) dX10_waitAt_104 (fun v3 h => ?_)
    refine zt_iload_n hC rfl dX10_waitAt_107 ?_
    refine zt_iload hC rfl dX10_waitAt_108 ?_
    refine zt_isub hC dX10_waitAt_110 ?_
    refine zt_iadd hC dX10_waitAt_111 ?_
    refine zt_pI hC h cl10 (k := 14) (by decide) rfl wd_132 (Or.inl rfl) (Or.inl rfl) dX10_waitAt_112 (fun M4 h => ?_)
    refine zt_aload_n hC rfl dX10_waitAt_115 ?_
    refine zt_gR hC h cl10 (k := 10) (by decide) rfl wd_127 (Or.inl rfl) dX10_waitAt_116 (fun v5 h => ?_)
    refine zt_iload_n hC rfl dX10_waitAt_119 ?_
    refine zt_iload hC rfl dX10_waitAt_120 ?_
    obtain ⟨v6, M7, h8, h⟩ := bnd_some h
    refine zt_callSN (z := yX11_change) (As := [.ref v5, .int x1, .int x4]) (rest := []) (st1 := []) hC 3 (fun l hl => c_X11_change N v5 x1 x4 M4 (v6, M7) h8 l hl) wd_299 (by decide) wd_298 wd_1 hd_X11_change rfl ⟨⟨(Nat.le_of_ble_eq_true rfl), (Nat.le_of_ble_eq_true rfl)⟩, (Nat.le_of_ble_eq_true rfl), (Nat.le_of_ble_eq_true rfl)⟩ rfl (Nat.le_of_ble_eq_true rfl) rfl dX10_waitAt_122 ?_
    obtain rfl := Option.some.inj h
    exact zt_vret hC rfl rfl (Nat.le_of_ble_eq_true rfl) (Nat.le_of_ble_eq_true rfl) dX10_waitAt_125
  · refine zt_aload_n hC rfl dX10_waitAt_19 ?_
    refine zt_gR hC h cl10 (k := 12) (by decide) rfl wd_129 (Or.inl rfl) dX10_waitAt_20 (fun v9 h => ?_)
    refine zt_iload hC rfl dX10_waitAt_23 ?_
    obtain ⟨v10, M11, h12, h⟩ := bnd_some h
    refine zt_callSN (z := yX11_at) (As := [.ref v9, .int x5]) (rest := []) (st1 := (.int v10 :: [])) hC 2 (fun l hl => c_X11_at N v9 x5 M (v10, M11) h12 l hl) wd_379 (by decide) wd_378 wd_1 hd_X11_at rfl ⟨⟨(Nat.le_of_ble_eq_true rfl), (Nat.le_of_ble_eq_true rfl)⟩, (Nat.le_of_ble_eq_true rfl), (Nat.le_of_ble_eq_true rfl)⟩ rfl (Nat.le_of_ble_eq_true rfl) rfl dX10_waitAt_25 ?_
    refine zt_istore (lv' := [(6, .int v10), (0, .ref x0), (1, .int x1), (2, .int x2), (3, .int x3), (4, .int x4), (5, .int x5)]) hC (by decide) rfl dX10_waitAt_28 ?_
    refine zt_iload hC rfl dX10_waitAt_30 ?_
    refine zt_aload_n hC rfl dX10_waitAt_32 ?_
    refine zt_gI hC h cl10 (k := 6) (by decide) rfl wd_118 (Or.inl rfl) dX10_waitAt_33 (fun v13 h => ?_)
    refine zt_iconst hC ki_1 dX10_waitAt_36 ?_
    refine zt_iadd hC dX10_waitAt_37 ?_
    refine zt_icmp_le (tgt := 86) hC h (by decide) dX10_waitAt_38 (fun h => ?_) (fun h => ?_)
    · refine zt_iinc (v := (x5 + (1 : Int32))) (lv' := [(5, .int (x5 + (1 : Int32))), (6, .int v10), (0, .ref x0), (1, .int x1), (2, .int x2), (3, .int x3), (4, .int x4)]) hC rfl (by rw [ki_1]) (by decide) rfl dX10_waitAt_86 ?_
      refine zt_goto (tgt := 11) hC (by decide) dX10_waitAt_89 ?_
      refine zt_keep [0, 1, 2, 3, 4, 5] rfl ?_
      exact hk11 x0 x1 x2 x3 x4 (x5 + (1 : Int32)) M11 h
    · refine zt_iload_n hC rfl dX10_waitAt_41 ?_
      refine zt_iload hC rfl dX10_waitAt_42 ?_
      refine zt_iadd hC dX10_waitAt_44 ?_
      refine zt_iload hC rfl dX10_waitAt_45 ?_
      refine zt_icmp_ge (tgt := 83) hC h (by decide) dX10_waitAt_47 (fun h => ?_) (fun h => ?_)
      · refine zt_iinc (v := (x4 + (1 : Int32))) (lv' := [(4, .int (x4 + (1 : Int32))), (6, .int v10), (0, .ref x0), (1, .int x1), (2, .int x2), (3, .int x3), (5, .int x5)]) hC rfl (by rw [ki_1]) (by decide) rfl dX10_waitAt_83 ?_
        refine zt_iinc (v := (x5 + (1 : Int32))) (lv' := [(5, .int (x5 + (1 : Int32))), (4, .int (x4 + (1 : Int32))), (6, .int v10), (0, .ref x0), (1, .int x1), (2, .int x2), (3, .int x3)]) hC rfl (by rw [ki_1]) (by decide) rfl dX10_waitAt_86 ?_
        refine zt_goto (tgt := 11) hC (by decide) dX10_waitAt_89 ?_
        refine zt_keep [0, 1, 2, 3, 4, 5] rfl ?_
        exact hk11 x0 x1 x2 x3 (x4 + (1 : Int32)) (x5 + (1 : Int32)) M11 h
      · refine zt_aload_n hC rfl dX10_waitAt_50 ?_
        refine zt_gR hC h cl10 (k := 11) (by decide) rfl wd_128 (Or.inl rfl) dX10_waitAt_51 (fun v14 h => ?_)
        refine zt_iload_n hC rfl dX10_waitAt_54 ?_
        refine zt_iload hC rfl dX10_waitAt_55 ?_
        refine zt_iadd hC dX10_waitAt_57 ?_
        refine zt_aload_n hC rfl dX10_waitAt_58 ?_
        refine zt_gR hC h cl10 (k := 11) (by decide) rfl wd_128 (Or.inl rfl) dX10_waitAt_59 (fun v15 h => ?_)
        refine zt_iload hC rfl dX10_waitAt_62 ?_
        obtain ⟨v16, M17, h18, h⟩ := bnd_some h
        refine zt_callSN (z := yX11_at) (As := [.ref v15, .int x5]) (rest := [.int (x3 + x4), .ref v14]) (st1 := (.int v16 :: [.int (x3 + x4), .ref v14])) hC 2 (fun l hl => c_X11_at N v15 x5 M11 (v16, M17) h18 l hl) wd_379 (by decide) wd_378 wd_1 hd_X11_at rfl ⟨⟨(Nat.le_of_ble_eq_true rfl), (Nat.le_of_ble_eq_true rfl)⟩, (Nat.le_of_ble_eq_true rfl), (Nat.le_of_ble_eq_true rfl)⟩ rfl (Nat.le_of_ble_eq_true rfl) rfl dX10_waitAt_64 ?_
        obtain ⟨v19, M20, h21, h⟩ := bnd_some h
        refine zt_callSN (z := yX11_change) (As := [.ref v14, .int (x3 + x4), .int v16]) (rest := []) (st1 := []) hC 3 (fun l hl => c_X11_change N v14 (x3 + x4) v16 M17 (v19, M20) h21 l hl) wd_299 (by decide) wd_298 wd_1 hd_X11_change rfl ⟨⟨(Nat.le_of_ble_eq_true rfl), (Nat.le_of_ble_eq_true rfl)⟩, (Nat.le_of_ble_eq_true rfl), (Nat.le_of_ble_eq_true rfl)⟩ rfl (Nat.le_of_ble_eq_true rfl) rfl dX10_waitAt_67 ?_
        refine zt_aload_n hC rfl dX10_waitAt_70 ?_
        refine zt_gR hC h cl10 (k := 12) (by decide) rfl wd_129 (Or.inl rfl) dX10_waitAt_71 (fun v22 h => ?_)
        refine zt_iload_n hC rfl dX10_waitAt_74 ?_
        refine zt_iload hC rfl dX10_waitAt_75 ?_
        refine zt_iadd hC dX10_waitAt_77 ?_
        refine zt_iload hC rfl dX10_waitAt_78 ?_
        obtain ⟨v23, M24, h25, h⟩ := bnd_some h
        refine zt_callSN (z := yX11_change) (As := [.ref v22, .int (x3 + x4), .int v10]) (rest := []) (st1 := []) hC 3 (fun l hl => c_X11_change N v22 (x3 + x4) v10 M20 (v23, M24) h25 l hl) wd_299 (by decide) wd_298 wd_1 hd_X11_change rfl ⟨⟨(Nat.le_of_ble_eq_true rfl), (Nat.le_of_ble_eq_true rfl)⟩, (Nat.le_of_ble_eq_true rfl), (Nat.le_of_ble_eq_true rfl)⟩ rfl (Nat.le_of_ble_eq_true rfl) rfl dX10_waitAt_80 ?_
        refine zt_iinc (v := (x4 + (1 : Int32))) (lv' := [(4, .int (x4 + (1 : Int32))), (6, .int v10), (0, .ref x0), (1, .int x1), (2, .int x2), (3, .int x3), (5, .int x5)]) hC rfl (by rw [ki_1]) (by decide) rfl dX10_waitAt_83 ?_
        refine zt_iinc (v := (x5 + (1 : Int32))) (lv' := [(5, .int (x5 + (1 : Int32))), (4, .int (x4 + (1 : Int32))), (6, .int v10), (0, .ref x0), (1, .int x1), (2, .int x2), (3, .int x3)]) hC rfl (by rw [ki_1]) (by decide) rfl dX10_waitAt_86 ?_
        refine zt_goto (tgt := 11) hC (by decide) dX10_waitAt_89 ?_
        refine zt_keep [0, 1, 2, 3, 4, 5] rfl ?_
        exact hk11 x0 x1 x2 x3 (x4 + (1 : Int32)) (x5 + (1 : Int32)) M24 h
theorem w_X10_waitAt_11 {X : Cx} {G : Gl} {r : (Unit × Mm)} (N : Nat) (hC : CX X G yX10_waitAt cX10_waitAt 7 none rm_X10_waitAt) (n : Nat) : ∀ (x0 : Nat) (x1 : Int32) (x2 : Int32) (x3 : Int32) (x4 : Int32) (x5 : Int32) (M : Mm), l_X10_waitAt_11 N n x0 x1 x2 x3 x4 x5 M = some r → TW X G 7 (RQ X G none r.2 rm_X10_waitAt) 0 0 M 11 [(0, .ref x0), (1, .int x1), (2, .int x2), (3, .int x3), (4, .int x4), (5, .int x5)] [] := by
  induction n with
  | zero => intro  x0 x1 x2 x3 x4 x5 M h; cases (show none = some r from h)
  | succ n ih => intro  x0 x1 x2 x3 x4 x5 M h; exact v_X10_waitAt_11 N hC (l_X10_waitAt_11 N n) ih x0 x1 x2 x3 x4 x5 M h
def f_X10_waitAt (N : Nat) (x0 : Nat) (x1 : Int32) (x2 : Int32) (M : Mm) : Option (Unit × Mm) :=
l_X10_waitAt_11 N N x0 x1 x2 (x1 * (12 : Int32)) (0 : Int32) (x1 * (12 : Int32)) M
set_option maxRecDepth 100000 in
set_option maxHeartbeats 4000000 in
theorem c_X10_waitAt (N : Nat) (x0 : Nat) (x1 : Int32) (x2 : Int32) (M : Mm) (r : (Unit × Mm)) (h : f_X10_waitAt N x0 x1 x2 M = some r) (l : Launch) (hfl : l.flags = flags0) {G : Gl} : MT l G yX10_waitAt cX10_waitAt 7 none rm_X10_waitAt [.ref x0, .int x1, .int x2] M none r.2 := by
  unfold f_X10_waitAt at h
  refine zt_start hfl (lv := [(0, .ref x0), (1, .int x1), (2, .int x2)]) (by decide) (Nat.le_of_ble_eq_true rfl) rfl wd_546 (fun X hC _ => ?_)
  refine zt_iload_n hC rfl dX10_waitAt_0 ?_
  refine zt_bipush hC kb_12 dX10_waitAt_1 ?_
  refine zt_imul hC dX10_waitAt_3 ?_
  refine zt_istore_n (lv' := [(3, .int (x1 * (12 : Int32))), (0, .ref x0), (1, .int x1), (2, .int x2)]) hC (by decide) rfl dX10_waitAt_4 ?_
  refine zt_iconst hC ki_0 dX10_waitAt_5 ?_
  refine zt_istore (lv' := [(4, .int (0 : Int32)), (3, .int (x1 * (12 : Int32))), (0, .ref x0), (1, .int x1), (2, .int x2)]) hC (by decide) rfl dX10_waitAt_6 ?_
  refine zt_iload_n hC rfl dX10_waitAt_8 ?_
  refine zt_istore (lv' := [(5, .int (x1 * (12 : Int32))), (4, .int (0 : Int32)), (3, .int (x1 * (12 : Int32))), (0, .ref x0), (1, .int x1), (2, .int x2)]) hC (by decide) rfl dX10_waitAt_9 ?_
  refine zt_keep [0, 1, 2, 3, 4, 5] rfl ?_
  exact w_X10_waitAt_11 N hC N x0 x1 x2 (x1 * (12 : Int32)) (0 : Int32) (x1 * (12 : Int32)) M h
def rm_X10_close : Room := { frames := 2, cells := 0, slots := 0, locals := 48 }
theorem hd_X10_close : yX10_close.cls ≠ "java/lang/invoke/MethodHandle" ∧ yX10_close.cls ≠ "java/lang/invoke/VarHandle" ∧ (parseMethodDescriptor yX10_close.desc).map (fun d => d.parameters.length) = some 0 := by decide +kernel
def b_X10_close_2 (N : Nat) (k2 : Nat → Int32 → Mm → Option (Unit × Mm)) (x0 : Nat) (x1 : Int32) (M : Mm) : Option (Unit × Mm) :=
gR 10 M x0 10 (fun v1 =>
alen M v1 (fun v2 =>
(if v2 ≤ x1 then
gI 10 M x0 6 (fun v3 =>
pI 10 M x0 6 (v3 + (1 : Int32)) (fun M4 =>
some ((), M4)))
else
gR 10 M x0 10 (fun v5 =>
ald M v5 x1 (fun v6 =>
(if v6 ≤ 0 then
k2 x0 (x1 + (1 : Int32)) M
else
gR 10 M x0 10 (fun v7 =>
ald M v7 x1 (fun v8 =>
ck 10 M x0 (bnd (f_X10_waitAt N x0 x1 v8 M) (fun v9 M10 =>
k2 x0 (x1 + (1 : Int32)) M10))))))))))
def l_X10_close_2 (N : Nat) : Nat → Nat → Int32 → Mm → Option (Unit × Mm)
  | 0 => fun _ _ _ => none
  | n + 1 => b_X10_close_2 N (l_X10_close_2 N n)
set_option maxRecDepth 100000 in
set_option maxHeartbeats 4000000 in
theorem v_X10_close_2 {X : Cx} {G : Gl} {r : (Unit × Mm)} (N : Nat) (hC : CX X G yX10_close cX10_close 2 none rm_X10_close) (k2 : Nat → Int32 → Mm → Option (Unit × Mm)) (hk2 : ∀ (x0 : Nat) (x1 : Int32) (M : Mm), k2 x0 x1 M = some r → TW X G 2 (RQ X G none r.2 rm_X10_close) 0 0 M 2 [(0, .ref x0), (1, .int x1)] []) (x0 : Nat) (x1 : Int32) (M : Mm) (h : b_X10_close_2 N k2 x0 x1 M = some r) : TW X G 2 (RQ X G none r.2 rm_X10_close) 0 0 M 2 [(0, .ref x0), (1, .int x1)] [] := by
  unfold b_X10_close_2 at h
  refine zt_iload_n hC rfl dX10_close_2 ?_
  refine zt_aload_n hC rfl dX10_close_3 ?_
  refine zt_gR hC h cl10 (k := 10) (by decide) rfl wd_127 (Or.inl rfl) dX10_close_4 (fun v1 h => ?_)
  refine zt_alen hC h dX10_close_7 (fun v2 h => ?_)
  refine zt_icmp_ge (tgt := 37) hC h (by decide) dX10_close_8 (fun h => ?_) (fun h => ?_)
  · refine zt_aload_n hC rfl dX10_close_37 ?_
    refine zt_dup hC rfl dX10_close_38 ?_
    refine zt_gI hC h cl10 (k := 6) (by decide) rfl wd_118 (Or.inl rfl) dX10_close_39 (fun v3 h => ?_)
    refine zt_iconst hC ki_1 dX10_close_42 ?_
    refine zt_iadd hC dX10_close_43 ?_
    refine zt_pI hC h cl10 (k := 6) (by decide) rfl wd_118 (Or.inl rfl) (Or.inl rfl) dX10_close_44 (fun M4 h => ?_)
    obtain rfl := Option.some.inj h
    exact zt_vret hC rfl rfl (Nat.le_of_ble_eq_true rfl) (Nat.le_of_ble_eq_true rfl) dX10_close_47
  · refine zt_aload_n hC rfl dX10_close_11 ?_
    refine zt_gR hC h cl10 (k := 10) (by decide) rfl wd_127 (Or.inl rfl) dX10_close_12 (fun v5 h => ?_)
    refine zt_iload_n hC rfl dX10_close_15 ?_
    refine zt_ald hC h dX10_close_16 (fun v6 h => ?_)
    refine zt_if_le (tgt := 31) hC h (by decide) dX10_close_17 (fun h => ?_) (fun h => ?_)
    · refine zt_iinc (v := (x1 + (1 : Int32))) (lv' := [(1, .int (x1 + (1 : Int32))), (0, .ref x0)]) hC rfl (by rw [ki_1]) (by decide) rfl dX10_close_31 ?_
      refine zt_goto (tgt := 2) hC (by decide) dX10_close_34 ?_
      refine zt_keep [0, 1] rfl ?_
      exact hk2 x0 (x1 + (1 : Int32)) M h
    · refine zt_aload_n hC rfl dX10_close_20 ?_
      refine zt_iload_n hC rfl dX10_close_21 ?_
      refine zt_aload_n hC rfl dX10_close_22 ?_
      refine zt_gR hC h cl10 (k := 10) (by decide) rfl wd_127 (Or.inl rfl) dX10_close_23 (fun v7 h => ?_)
      refine zt_iload_n hC rfl dX10_close_26 ?_
      refine zt_ald hC h dX10_close_27 (fun v8 h => ?_)
      obtain ⟨hk, h⟩ := ck_some h
      obtain ⟨v9, M10, h11, h⟩ := bnd_some h
      refine zt_callV (z := yX10_waitAt) (As := [.int x1, .int v8]) (rest := []) (st1 := []) hC 2 hk cl10 (fun l hl => c_X10_waitAt N x0 x1 v8 M (v9, M10) h11 l hl) rfl wd_546 wd_543 wd_545 ws_13 wd_2 hd_X10_waitAt rfl ⟨⟨(Nat.le_of_ble_eq_true rfl), (Nat.le_of_ble_eq_true rfl)⟩, (Nat.le_of_ble_eq_true rfl), (Nat.le_of_ble_eq_true rfl)⟩ rfl (Nat.le_of_ble_eq_true rfl) rfl dX10_close_28 ?_
      refine zt_iinc (v := (x1 + (1 : Int32))) (lv' := [(1, .int (x1 + (1 : Int32))), (0, .ref x0)]) hC rfl (by rw [ki_1]) (by decide) rfl dX10_close_31 ?_
      refine zt_goto (tgt := 2) hC (by decide) dX10_close_34 ?_
      refine zt_keep [0, 1] rfl ?_
      exact hk2 x0 (x1 + (1 : Int32)) M10 h
theorem w_X10_close_2 {X : Cx} {G : Gl} {r : (Unit × Mm)} (N : Nat) (hC : CX X G yX10_close cX10_close 2 none rm_X10_close) (n : Nat) : ∀ (x0 : Nat) (x1 : Int32) (M : Mm), l_X10_close_2 N n x0 x1 M = some r → TW X G 2 (RQ X G none r.2 rm_X10_close) 0 0 M 2 [(0, .ref x0), (1, .int x1)] [] := by
  induction n with
  | zero => intro  x0 x1 M h; cases (show none = some r from h)
  | succ n ih => intro  x0 x1 M h; exact v_X10_close_2 N hC (l_X10_close_2 N n) ih x0 x1 M h
def f_X10_close (N : Nat) (x0 : Nat) (M : Mm) : Option (Unit × Mm) :=
l_X10_close_2 N N x0 (0 : Int32) M
set_option maxRecDepth 100000 in
set_option maxHeartbeats 4000000 in
theorem c_X10_close (N : Nat) (x0 : Nat) (M : Mm) (r : (Unit × Mm)) (h : f_X10_close N x0 M = some r) (l : Launch) (hfl : l.flags = flags0) {G : Gl} : MT l G yX10_close cX10_close 2 none rm_X10_close [.ref x0] M none r.2 := by
  unfold f_X10_close at h
  refine zt_start hfl (lv := [(0, .ref x0)]) (by decide) (Nat.le_of_ble_eq_true rfl) rfl wd_542 (fun X hC _ => ?_)
  refine zt_iconst hC ki_0 dX10_close_0 ?_
  refine zt_istore_n (lv' := [(1, .int (0 : Int32)), (0, .ref x0)]) hC (by decide) rfl dX10_close_1 ?_
  refine zt_keep [0, 1] rfl ?_
  exact w_X10_close_2 N hC N x0 (0 : Int32) M h
def rm_X10_pass : Room := { frames := 5, cells := 0, slots := 0, locals := 114 }
theorem hd_X10_pass : yX10_pass.cls ≠ "java/lang/invoke/MethodHandle" ∧ yX10_pass.cls ≠ "java/lang/invoke/VarHandle" ∧ (parseMethodDescriptor yX10_pass.desc).map (fun d => d.parameters.length) = some 1 := by decide +kernel
def j_X10_pass_34 (N : Nat) (k2 : Nat → Int32 → Int32 → Mm → Option (Unit × Mm)) (x0 : Nat) (x1 : Int32) (x2 : Int32) (M : Mm) : Option (Unit × Mm) :=
ck 10 M x0 (bnd (f_X10_close N x0 M) (fun v1 M2 =>
k2 x0 x1 (x2 + (1 : Int32)) M2))
set_option maxRecDepth 100000 in
set_option maxHeartbeats 4000000 in
theorem w_X10_pass_34 {X : Cx} {G : Gl} {r : (Unit × Mm)} (N : Nat) (hC : CX X G yX10_pass cX10_pass 3 none rm_X10_pass) (k2 : Nat → Int32 → Int32 → Mm → Option (Unit × Mm)) (hk2 : ∀ (x0 : Nat) (x1 : Int32) (x2 : Int32) (M : Mm), k2 x0 x1 x2 M = some r → TW X G 3 (RQ X G none r.2 rm_X10_pass) 0 0 M 2 [(0, .ref x0), (1, .int x1), (2, .int x2)] []) (x0 : Nat) (x1 : Int32) (x2 : Int32) (M : Mm) (h : j_X10_pass_34 N k2 x0 x1 x2 M = some r) : TW X G 3 (RQ X G none r.2 rm_X10_pass) 0 0 M 34 [(0, .ref x0), (1, .int x1), (2, .int x2)] [] := by
  unfold j_X10_pass_34 at h
  refine zt_aload_n hC rfl dX10_pass_34 ?_
  obtain ⟨hk, h⟩ := ck_some h
  obtain ⟨v1, M2, h3, h⟩ := bnd_some h
  refine zt_callV (z := yX10_close) (As := []) (rest := []) (st1 := []) hC 0 hk cl10 (fun l hl => c_X10_close N x0 M (v1, M2) h3 l hl) rfl wd_542 wd_539 wd_540 wd_541 wd_2 hd_X10_close rfl ⟨⟨(Nat.le_of_ble_eq_true rfl), (Nat.le_of_ble_eq_true rfl)⟩, (Nat.le_of_ble_eq_true rfl), (Nat.le_of_ble_eq_true rfl)⟩ rfl (Nat.le_of_ble_eq_true rfl) rfl dX10_pass_35 ?_
  refine zt_iinc (v := (x2 + (1 : Int32))) (lv' := [(2, .int (x2 + (1 : Int32))), (0, .ref x0), (1, .int x1)]) hC rfl (by rw [ki_1]) (by decide) rfl dX10_pass_38 ?_
  refine zt_goto (tgt := 2) hC (by decide) dX10_pass_41 ?_
  refine zt_keep [0, 1, 2] rfl ?_
  exact hk2 x0 x1 (x2 + (1 : Int32)) M2 h
def b_X10_pass_2 (N : Nat) (k2 : Nat → Int32 → Int32 → Mm → Option (Unit × Mm)) (x0 : Nat) (x1 : Int32) (x2 : Int32) (M : Mm) : Option (Unit × Mm) :=
(if x1 ≤ x2 then
some ((), M)
else
ck 10 M x0 (bnd (f_X10_bring N x0 M) (fun v1 M2 =>
gR 10 M2 x0 7 (fun v4 =>
ck 10 M2 x0 (bnd (f_X10_ask N x0 v4 M2) (fun v5 M6 =>
gI 10 M6 x0 9 (fun v8 =>
(if v8 = 0 then
j_X10_pass_34 N k2 x0 x1 x2 M6
else
gR 10 M6 x0 8 (fun v9 =>
ck 10 M6 x0 (bnd (f_X10_ask N x0 v9 M6) (fun v10 M11 =>
j_X10_pass_34 N k2 x0 x1 x2 M11)))))))))))
def l_X10_pass_2 (N : Nat) : Nat → Nat → Int32 → Int32 → Mm → Option (Unit × Mm)
  | 0 => fun _ _ _ _ => none
  | n + 1 => b_X10_pass_2 N (l_X10_pass_2 N n)
set_option maxRecDepth 100000 in
set_option maxHeartbeats 4000000 in
theorem v_X10_pass_2 {X : Cx} {G : Gl} {r : (Unit × Mm)} (N : Nat) (hC : CX X G yX10_pass cX10_pass 3 none rm_X10_pass) (k2 : Nat → Int32 → Int32 → Mm → Option (Unit × Mm)) (hk2 : ∀ (x0 : Nat) (x1 : Int32) (x2 : Int32) (M : Mm), k2 x0 x1 x2 M = some r → TW X G 3 (RQ X G none r.2 rm_X10_pass) 0 0 M 2 [(0, .ref x0), (1, .int x1), (2, .int x2)] []) (x0 : Nat) (x1 : Int32) (x2 : Int32) (M : Mm) (h : b_X10_pass_2 N k2 x0 x1 x2 M = some r) : TW X G 3 (RQ X G none r.2 rm_X10_pass) 0 0 M 2 [(0, .ref x0), (1, .int x1), (2, .int x2)] [] := by
  unfold b_X10_pass_2 at h
  refine zt_iload_n hC rfl dX10_pass_2 ?_
  refine zt_iload_n hC rfl dX10_pass_3 ?_
  refine zt_icmp_ge (tgt := 44) hC h (by decide) dX10_pass_4 (fun h => ?_) (fun h => ?_)
  · obtain rfl := Option.some.inj h
    exact zt_vret hC rfl rfl (Nat.le_of_ble_eq_true rfl) (Nat.le_of_ble_eq_true rfl) dX10_pass_44
  · refine zt_aload_n hC rfl dX10_pass_7 ?_
    obtain ⟨hk, h⟩ := ck_some h
    obtain ⟨v1, M2, h3, h⟩ := bnd_some h
    refine zt_callV (z := yX10_bring) (As := []) (rest := []) (st1 := []) hC 0 hk cl10 (fun l hl => c_X10_bring N x0 M (v1, M2) h3 l hl) rfl wd_445 wd_442 wd_443 wd_444 wd_2 hd_X10_bring rfl ⟨⟨(Nat.le_of_ble_eq_true rfl), (Nat.le_of_ble_eq_true rfl)⟩, (Nat.le_of_ble_eq_true rfl), (Nat.le_of_ble_eq_true rfl)⟩ rfl (Nat.le_of_ble_eq_true rfl) rfl dX10_pass_8 ?_
    refine zt_aload_n hC rfl dX10_pass_11 ?_
    refine zt_aload_n hC rfl dX10_pass_12 ?_
    refine zt_gR hC h cl10 (k := 7) (by decide) rfl wd_121 (Or.inl rfl) dX10_pass_13 (fun v4 h => ?_)
    obtain ⟨hk, h⟩ := ck_some h
    obtain ⟨v5, M6, h7, h⟩ := bnd_some h
    refine zt_callV (z := yX10_ask) (As := [.ref v4]) (rest := []) (st1 := []) hC 1 hk cl10 (fun l hl => c_X10_ask N x0 v4 M2 (v5, M6) h7 l hl) rfl wd_472 wd_469 wd_470 wd_471 wd_2 hd_X10_ask rfl ⟨⟨(Nat.le_of_ble_eq_true rfl), (Nat.le_of_ble_eq_true rfl)⟩, (Nat.le_of_ble_eq_true rfl), (Nat.le_of_ble_eq_true rfl)⟩ rfl (Nat.le_of_ble_eq_true rfl) rfl dX10_pass_16 ?_
    refine zt_aload_n hC rfl dX10_pass_19 ?_
    refine zt_gI hC h cl10 (k := 9) (by decide) rfl wd_125 (Or.inl rfl) dX10_pass_20 (fun v8 h => ?_)
    refine zt_if_eq (tgt := 34) hC h (by decide) dX10_pass_23 (fun h => ?_) (fun h => ?_)
    · refine zt_keep [0, 1, 2] rfl ?_
      exact w_X10_pass_34 N hC k2 hk2 x0 x1 x2 M6 h
    · refine zt_aload_n hC rfl dX10_pass_26 ?_
      refine zt_aload_n hC rfl dX10_pass_27 ?_
      refine zt_gR hC h cl10 (k := 8) (by decide) rfl wd_123 (Or.inl rfl) dX10_pass_28 (fun v9 h => ?_)
      obtain ⟨hk, h⟩ := ck_some h
      obtain ⟨v10, M11, h12, h⟩ := bnd_some h
      refine zt_callV (z := yX10_ask) (As := [.ref v9]) (rest := []) (st1 := []) hC 1 hk cl10 (fun l hl => c_X10_ask N x0 v9 M6 (v10, M11) h12 l hl) rfl wd_472 wd_469 wd_470 wd_471 wd_2 hd_X10_ask rfl ⟨⟨(Nat.le_of_ble_eq_true rfl), (Nat.le_of_ble_eq_true rfl)⟩, (Nat.le_of_ble_eq_true rfl), (Nat.le_of_ble_eq_true rfl)⟩ rfl (Nat.le_of_ble_eq_true rfl) rfl dX10_pass_31 ?_
      refine zt_keep [0, 1, 2] rfl ?_
      exact w_X10_pass_34 N hC k2 hk2 x0 x1 x2 M11 h
theorem w_X10_pass_2 {X : Cx} {G : Gl} {r : (Unit × Mm)} (N : Nat) (hC : CX X G yX10_pass cX10_pass 3 none rm_X10_pass) (n : Nat) : ∀ (x0 : Nat) (x1 : Int32) (x2 : Int32) (M : Mm), l_X10_pass_2 N n x0 x1 x2 M = some r → TW X G 3 (RQ X G none r.2 rm_X10_pass) 0 0 M 2 [(0, .ref x0), (1, .int x1), (2, .int x2)] [] := by
  induction n with
  | zero => intro  x0 x1 x2 M h; cases (show none = some r from h)
  | succ n ih => intro  x0 x1 x2 M h; exact v_X10_pass_2 N hC (l_X10_pass_2 N n) ih x0 x1 x2 M h
def f_X10_pass (N : Nat) (x0 : Nat) (x1 : Int32) (M : Mm) : Option (Unit × Mm) :=
l_X10_pass_2 N N x0 x1 (0 : Int32) M
set_option maxRecDepth 100000 in
set_option maxHeartbeats 4000000 in
theorem c_X10_pass (N : Nat) (x0 : Nat) (x1 : Int32) (M : Mm) (r : (Unit × Mm)) (h : f_X10_pass N x0 x1 M = some r) (l : Launch) (hfl : l.flags = flags0) {G : Gl} : MT l G yX10_pass cX10_pass 3 none rm_X10_pass [.ref x0, .int x1] M none r.2 := by
  unfold f_X10_pass at h
  refine zt_start hfl (lv := [(0, .ref x0), (1, .int x1)]) (by decide) (Nat.le_of_ble_eq_true rfl) rfl wd_441 (fun X hC _ => ?_)
  refine zt_iconst hC ki_0 dX10_pass_0 ?_
  refine zt_istore_n (lv' := [(2, .int (0 : Int32)), (0, .ref x0), (1, .int x1)]) hC (by decide) rfl dX10_pass_1 ?_
  refine zt_keep [0, 1, 2] rfl ?_
  exact w_X10_pass_2 N hC N x0 x1 (0 : Int32) M h
def rm_X11_init : Room := { frames := 4, cells := 103, slots := 2132, locals := 111 }
theorem hd_X11_init : yX11_init.cls ≠ "java/lang/invoke/MethodHandle" ∧ yX11_init.cls ≠ "java/lang/invoke/VarHandle" ∧ (parseMethodDescriptor yX11_init.desc).map (fun d => d.parameters.length) = some 0 := by decide +kernel
def b_X11_init_105 (N : Nat) (k105 : Nat → Int32 → Nat → Nat → Mm → Option (Unit × Mm)) (x0 : Nat) (x1 : Int32) (gc gs : Nat) (M : Mm) : Option (Unit × Mm) :=
gR 11 M x0 5 (fun v1 =>
alen M v1 (fun v2 =>
(if v2 ≤ x1 then
rq (gc ≤ 103 ∧ gs ≤ 2132) (some ((), M))
else
gR 11 M x0 5 (fun v3 =>
rq (gc + 1 ≤ 103 ∧ gs + 4 ≤ 2132) (nwo 11 0 M (fun a5 M4 =>
rq ((gc + 1) + 1 ≤ 103 ∧ (gs + 4) + 100 ≤ 2132) (bnd (f_X7_init N a5 M4) (fun v6 M7 =>
asq M7 v3 x1 a5 (fun M9 =>
k105 x0 (x1 + (1 : Int32)) ((gc + 1) + 1) ((gs + 4) + 100) M9)))))))))
def l_X11_init_105 (N : Nat) : Nat → Nat → Int32 → Nat → Nat → Mm → Option (Unit × Mm)
  | 0 => fun _ _ _ _ _ => none
  | n + 1 => b_X11_init_105 N (l_X11_init_105 N n)
set_option maxRecDepth 100000 in
set_option maxHeartbeats 4000000 in
theorem v_X11_init_105 {X : Cx} {G : Gl} {r : (Unit × Mm)} (N : Nat) (hC : CX X G yX11_init cX11_init 2 none rm_X11_init) (k105 : Nat → Int32 → Nat → Nat → Mm → Option (Unit × Mm)) (hk105 : ∀ (x0 : Nat) (x1 : Int32) (gc gs : Nat) (M : Mm), k105 x0 x1 gc gs M = some r → TW X G 2 (RQ X G none r.2 rm_X11_init) gc gs M 105 [(0, .ref x0), (1, .int x1)] []) (x0 : Nat) (x1 : Int32) (gc gs : Nat) (M : Mm) (h : b_X11_init_105 N k105 x0 x1 gc gs M = some r) : TW X G 2 (RQ X G none r.2 rm_X11_init) gc gs M 105 [(0, .ref x0), (1, .int x1)] [] := by
  unfold b_X11_init_105 at h
  refine zt_iload_n hC rfl dX11_init_105 ?_
  refine zt_aload_n hC rfl dX11_init_106 ?_
  refine zt_gR hC h cl11 (k := 5) (by decide) rfl wd_232 (Or.inl rfl) dX11_init_107 (fun v1 h => ?_)
  refine zt_alen hC h dX11_init_110 (fun v2 h => ?_)
  refine zt_icmp_ge (tgt := 133) hC h (by decide) dX11_init_111 (fun h => ?_) (fun h => ?_)
  · obtain ⟨hg, h⟩ := rq_some h
    obtain rfl := Option.some.inj h
    exact zt_vret hC rfl rfl hg.1 hg.2 dX11_init_133
  · refine zt_aload_n hC rfl dX11_init_114 ?_
    refine zt_gR hC h cl11 (k := 5) (by decide) rfl wd_232 (Or.inl rfl) dX11_init_115 (fun v3 h => ?_)
    refine zt_iload_n hC rfl dX11_init_118 ?_
    obtain ⟨hg, h⟩ := rq_some h
    refine zt_newo hC h cl7 wd_203 wd_205 wd_6 hg.1 hg.2 dX11_init_119 (fun a5 M4 h => ?_)
    refine zt_dup hC rfl dX11_init_122 ?_
    obtain ⟨hg, h⟩ := rq_some h
    obtain ⟨v6, M7, h8, h⟩ := bnd_some h
    refine zt_callIN (z := yX7_init) (As := []) (rest := [.ref a5, .int x1, .ref v3]) hC 0 (fun l hl => c_X7_init N a5 M4 (v6, M7) h8 l hl) wd_208 (by decide) wd_207 wd_6 rfl hd_X7_init rfl ⟨⟨(Nat.le_of_ble_eq_true rfl), (Nat.le_of_ble_eq_true rfl)⟩, hg.1, hg.2⟩ rfl (Nat.le_of_ble_eq_true rfl) dX11_init_123 ?_
    refine zt_asq hC h dX11_init_126 (fun M9 h => ?_)
    refine zt_iinc (v := (x1 + (1 : Int32))) (lv' := [(1, .int (x1 + (1 : Int32))), (0, .ref x0)]) hC rfl (by rw [ki_1]) (by decide) rfl dX11_init_127 ?_
    refine zt_goto (tgt := 105) hC (by decide) dX11_init_130 ?_
    refine zt_keep [0, 1] rfl ?_
    exact hk105 x0 (x1 + (1 : Int32)) ((gc + 1) + 1) ((gs + 4) + 100) M9 h
theorem w_X11_init_105 {X : Cx} {G : Gl} {r : (Unit × Mm)} (N : Nat) (hC : CX X G yX11_init cX11_init 2 none rm_X11_init) (n : Nat) : ∀ (x0 : Nat) (x1 : Int32) (gc gs : Nat) (M : Mm), l_X11_init_105 N n x0 x1 gc gs M = some r → TW X G 2 (RQ X G none r.2 rm_X11_init) gc gs M 105 [(0, .ref x0), (1, .int x1)] [] := by
  induction n with
  | zero => intro  x0 x1 gc gs M h; cases (show none = some r from h)
  | succ n ih => intro  x0 x1 gc gs M h; exact v_X11_init_105 N hC (l_X11_init_105 N n) ih x0 x1 gc gs M h
def f_X11_init (N : Nat) (x0 : Nat) (M : Mm) : Option (Unit × Mm) :=
nwo 14 0 M (fun a2 M1 =>
bnd (f_X10_initn N a2 M1) (fun v3 M4 =>
pR 11 M4 x0 0 (some a2) (fun M6 =>
nwo 14 0 M6 (fun a8 M7 =>
bnd (f_X10_initn N a8 M7) (fun v9 M10 =>
pR 11 M10 x0 1 (some a8) (fun M12 =>
pZ 11 M12 x0 2 (0 : Int32) (fun M13 =>
nwo 14 0 M13 (fun a15 M14 =>
nwo 14 0 M14 (fun a17 M16 =>
nwo 14 0 M16 (fun a19 M18 =>
nwo 14 0 M18 (fun a21 M20 =>
nwo 14 0 M20 (fun a23 M22 =>
bnd (f_X10_initn N a23 M22) (fun v24 M25 =>
bnd (f_X10_init N a21 a23 M25) (fun v27 M28 =>
bnd (f_X10_init N a19 a21 M28) (fun v30 M31 =>
bnd (f_X10_init N a17 a19 M31) (fun v33 M34 =>
bnd (f_X10_init N a15 a17 M34) (fun v36 M37 =>
pR 11 M37 x0 3 (some a15) (fun M39 =>
nwo 9 0 M39 (fun a41 M40 =>
bnd (f_X5_init N a41 M40) (fun v42 M43 =>
pR 11 M43 x0 4 (some a41) (fun M45 =>
nwo 3 8 M45 (fun a47 M46 =>
pR 11 M46 x0 5 (some a47) (fun M48 =>
pI 11 M48 x0 6 (0 : Int32) (fun M49 =>
pI 11 M49 x0 7 (0 : Int32) (fun M50 =>
l_X11_init_105 N N x0 (0 : Int32) 87 1300 M50)))))))))))))))))))))))))
set_option maxRecDepth 100000 in
set_option maxHeartbeats 4000000 in
theorem c_X11_init (N : Nat) (x0 : Nat) (M : Mm) (r : (Unit × Mm)) (h : f_X11_init N x0 M = some r) (l : Launch) (hfl : l.flags = flags0) {G : Gl} : MT l G yX11_init cX11_init 2 none rm_X11_init [.ref x0] M none r.2 := by
  unfold f_X11_init at h
  refine zt_start hfl (lv := [(0, .ref x0)]) (by decide) (Nat.le_of_ble_eq_true rfl) rfl wd_26 (fun X hC _ => ?_)
  refine zt_aload_n hC rfl dX11_init_0 ?_
  refine zt_objI (rest := []) hC wd_27 wd_28 wd_29 rfl (Nat.le_of_ble_eq_true rfl) (Nat.le_of_ble_eq_true rfl) dX11_init_1 ?_
  refine zt_aload_n hC rfl dX11_init_4 ?_
  refine zt_newo hC h cl10 wd_30 wd_31 wd_2 (Nat.le_of_ble_eq_true rfl) (Nat.le_of_ble_eq_true rfl) dX11_init_5 (fun a2 M1 h => ?_)
  refine zt_dup hC rfl dX11_init_8 ?_
  refine zt_null hC dX11_init_9 ?_
  obtain ⟨v3, M4, h5, h⟩ := bnd_some h
  refine zt_callI (z := yX10_init) (As := [.null]) (rest := [.ref a2, .ref x0]) hC 1 (fun l hl => c_X10_initn N a2 M1 (v3, M4) h5 l hl) wd_34 wd_32 wd_33 wd_2 rfl hd_X10_init rfl ⟨⟨(Nat.le_of_ble_eq_true rfl), (Nat.le_of_ble_eq_true rfl)⟩, (Nat.le_of_ble_eq_true rfl), (Nat.le_of_ble_eq_true rfl)⟩ rfl (Nat.le_of_ble_eq_true rfl) dX11_init_10 ?_
  refine zt_pR hC h rfl cl11 (k := 0) (by decide) rfl wd_227 (Or.inl rfl) (Or.inr ⟨rfl, rfl, rfl⟩) dX11_init_13 (fun M6 h => ?_)
  refine zt_aload_n hC rfl dX11_init_16 ?_
  refine zt_newo hC h cl10 wd_30 wd_31 wd_2 (Nat.le_of_ble_eq_true rfl) (Nat.le_of_ble_eq_true rfl) dX11_init_17 (fun a8 M7 h => ?_)
  refine zt_dup hC rfl dX11_init_20 ?_
  refine zt_null hC dX11_init_21 ?_
  obtain ⟨v9, M10, h11, h⟩ := bnd_some h
  refine zt_callI (z := yX10_init) (As := [.null]) (rest := [.ref a8, .ref x0]) hC 1 (fun l hl => c_X10_initn N a8 M7 (v9, M10) h11 l hl) wd_34 wd_32 wd_33 wd_2 rfl hd_X10_init rfl ⟨⟨(Nat.le_of_ble_eq_true rfl), (Nat.le_of_ble_eq_true rfl)⟩, (Nat.le_of_ble_eq_true rfl), (Nat.le_of_ble_eq_true rfl)⟩ rfl (Nat.le_of_ble_eq_true rfl) dX11_init_22 ?_
  refine zt_pR hC h rfl cl11 (k := 1) (by decide) rfl wd_228 (Or.inl rfl) (Or.inr ⟨rfl, rfl, rfl⟩) dX11_init_25 (fun M12 h => ?_)
  refine zt_aload_n hC rfl dX11_init_28 ?_
  refine zt_iconst hC ki_0 dX11_init_29 ?_
  refine zt_pZ hC h cl11 (k := 2) (by decide) rfl wd_229 (Or.inl rfl) (Or.inl rfl) dX11_init_30 (fun M13 h => ?_)
  refine zt_aload_n hC rfl dX11_init_33 ?_
  refine zt_newo hC h cl10 wd_30 wd_31 wd_2 (Nat.le_of_ble_eq_true rfl) (Nat.le_of_ble_eq_true rfl) dX11_init_34 (fun a15 M14 h => ?_)
  refine zt_dup hC rfl dX11_init_37 ?_
  refine zt_newo hC h cl10 wd_30 wd_31 wd_2 (Nat.le_of_ble_eq_true rfl) (Nat.le_of_ble_eq_true rfl) dX11_init_38 (fun a17 M16 h => ?_)
  refine zt_dup hC rfl dX11_init_41 ?_
  refine zt_newo hC h cl10 wd_30 wd_31 wd_2 (Nat.le_of_ble_eq_true rfl) (Nat.le_of_ble_eq_true rfl) dX11_init_42 (fun a19 M18 h => ?_)
  refine zt_dup hC rfl dX11_init_45 ?_
  refine zt_newo hC h cl10 wd_30 wd_31 wd_2 (Nat.le_of_ble_eq_true rfl) (Nat.le_of_ble_eq_true rfl) dX11_init_46 (fun a21 M20 h => ?_)
  refine zt_dup hC rfl dX11_init_49 ?_
  refine zt_newo hC h cl10 wd_30 wd_31 wd_2 (Nat.le_of_ble_eq_true rfl) (Nat.le_of_ble_eq_true rfl) dX11_init_50 (fun a23 M22 h => ?_)
  refine zt_dup hC rfl dX11_init_53 ?_
  refine zt_null hC dX11_init_54 ?_
  obtain ⟨v24, M25, h26, h⟩ := bnd_some h
  refine zt_callIw (z := yX10_init) (As := [.null]) (rest := [.ref a23, .ref a21, .ref a21, .ref a19, .ref a19, .ref a17, .ref a17, .ref a15, .ref a15, .ref x0]) hC 1 (fun l hl => c_X10_initn N a23 M22 (v24, M25) h26 l hl) wd_34 wd_32 wd_33 wd_2 rfl hd_X10_init rfl ⟨⟨(Nat.le_of_ble_eq_true rfl), (Nat.le_of_ble_eq_true rfl)⟩, (Nat.le_of_ble_eq_true rfl), (Nat.le_of_ble_eq_true rfl)⟩ rfl (Nat.le_of_ble_eq_true rfl) dX11_init_55 ?_
  obtain ⟨v27, M28, h29, h⟩ := bnd_some h
  refine zt_callI (z := yX10_init) (As := [.ref a23]) (rest := [.ref a21, .ref a19, .ref a19, .ref a17, .ref a17, .ref a15, .ref a15, .ref x0]) hC 1 (fun l hl => c_X10_init N a21 a23 M25 (v27, M28) h29 l hl) wd_34 wd_32 wd_33 wd_2 rfl hd_X10_init rfl ⟨⟨(Nat.le_of_ble_eq_true rfl), (Nat.le_of_ble_eq_true rfl)⟩, (Nat.le_of_ble_eq_true rfl), (Nat.le_of_ble_eq_true rfl)⟩ rfl (Nat.le_of_ble_eq_true rfl) dX11_init_58 ?_
  obtain ⟨v30, M31, h32, h⟩ := bnd_some h
  refine zt_callI (z := yX10_init) (As := [.ref a21]) (rest := [.ref a19, .ref a17, .ref a17, .ref a15, .ref a15, .ref x0]) hC 1 (fun l hl => c_X10_init N a19 a21 M28 (v30, M31) h32 l hl) wd_34 wd_32 wd_33 wd_2 rfl hd_X10_init rfl ⟨⟨(Nat.le_of_ble_eq_true rfl), (Nat.le_of_ble_eq_true rfl)⟩, (Nat.le_of_ble_eq_true rfl), (Nat.le_of_ble_eq_true rfl)⟩ rfl (Nat.le_of_ble_eq_true rfl) dX11_init_61 ?_
  obtain ⟨v33, M34, h35, h⟩ := bnd_some h
  refine zt_callI (z := yX10_init) (As := [.ref a19]) (rest := [.ref a17, .ref a15, .ref a15, .ref x0]) hC 1 (fun l hl => c_X10_init N a17 a19 M31 (v33, M34) h35 l hl) wd_34 wd_32 wd_33 wd_2 rfl hd_X10_init rfl ⟨⟨(Nat.le_of_ble_eq_true rfl), (Nat.le_of_ble_eq_true rfl)⟩, (Nat.le_of_ble_eq_true rfl), (Nat.le_of_ble_eq_true rfl)⟩ rfl (Nat.le_of_ble_eq_true rfl) dX11_init_64 ?_
  obtain ⟨v36, M37, h38, h⟩ := bnd_some h
  refine zt_callI (z := yX10_init) (As := [.ref a17]) (rest := [.ref a15, .ref x0]) hC 1 (fun l hl => c_X10_init N a15 a17 M34 (v36, M37) h38 l hl) wd_34 wd_32 wd_33 wd_2 rfl hd_X10_init rfl ⟨⟨(Nat.le_of_ble_eq_true rfl), (Nat.le_of_ble_eq_true rfl)⟩, (Nat.le_of_ble_eq_true rfl), (Nat.le_of_ble_eq_true rfl)⟩ rfl (Nat.le_of_ble_eq_true rfl) dX11_init_67 ?_
  refine zt_pR hC h rfl cl11 (k := 3) (by decide) rfl wd_230 (Or.inl rfl) (Or.inr ⟨rfl, rfl, rfl⟩) dX11_init_70 (fun M39 h => ?_)
  refine zt_aload_n hC rfl dX11_init_73 ?_
  refine zt_newo hC h cl5 wd_176 wd_177 wd_5 (Nat.le_of_ble_eq_true rfl) (Nat.le_of_ble_eq_true rfl) dX11_init_74 (fun a41 M40 h => ?_)
  refine zt_dup hC rfl dX11_init_77 ?_
  obtain ⟨v42, M43, h44, h⟩ := bnd_some h
  refine zt_callIN (z := yX5_init) (As := []) (rest := [.ref a41, .ref x0]) hC 0 (fun l hl => c_X5_init N a41 M40 (v42, M43) h44 l hl) wd_180 (by decide) wd_179 wd_5 rfl hd_X5_init rfl ⟨⟨(Nat.le_of_ble_eq_true rfl), (Nat.le_of_ble_eq_true rfl)⟩, (Nat.le_of_ble_eq_true rfl), (Nat.le_of_ble_eq_true rfl)⟩ rfl (Nat.le_of_ble_eq_true rfl) dX11_init_78 ?_
  refine zt_pR hC h rfl cl11 (k := 4) (by decide) rfl wd_231 (Or.inl rfl) (Or.inr ⟨rfl, rfl, rfl⟩) dX11_init_81 (fun M45 h => ?_)
  refine zt_aload_n hC rfl dX11_init_84 ?_
  refine zt_bipush hC kb_8 dX11_init_85 ?_
  refine zt_newqo (N := 8) hC h wd_203 (by decide) (by decide) (by decide) (Nat.le_of_ble_eq_true rfl) (Nat.le_of_ble_eq_true rfl) dX11_init_87 (fun a47 M46 h => ?_)
  refine zt_pR hC h rfl cl11 (k := 5) (by decide) rfl wd_232 (Or.inl rfl) (Or.inr ⟨rfl, rfl, rfl⟩) dX11_init_90 (fun M48 h => ?_)
  refine zt_aload_n hC rfl dX11_init_93 ?_
  refine zt_iconst hC ki_0 dX11_init_94 ?_
  refine zt_pI hC h cl11 (k := 6) (by decide) rfl wd_233 (Or.inl rfl) (Or.inl rfl) dX11_init_95 (fun M49 h => ?_)
  refine zt_aload_n hC rfl dX11_init_98 ?_
  refine zt_iconst hC ki_0 dX11_init_99 ?_
  refine zt_pI hC h cl11 (k := 7) (by decide) rfl wd_234 (Or.inl rfl) (Or.inl rfl) dX11_init_100 (fun M50 h => ?_)
  refine zt_iconst hC ki_0 dX11_init_103 ?_
  refine zt_istore_n (lv' := [(1, .int (0 : Int32)), (0, .ref x0)]) hC (by decide) rfl dX11_init_104 ?_
  refine zt_keep [0, 1] rfl ?_
  exact w_X11_init_105 N hC N x0 (0 : Int32) 87 1300 M50 h
def rm_X11_shelfAt : Room := { frames := 0, cells := 0, slots := 0, locals := 0 }
theorem hd_X11_shelfAt : yX11_shelfAt.cls ≠ "java/lang/invoke/MethodHandle" ∧ yX11_shelfAt.cls ≠ "java/lang/invoke/VarHandle" ∧ (parseMethodDescriptor yX11_shelfAt.desc).map (fun d => d.parameters.length) = some 1 := by decide +kernel
def j_X11_shelfAt_22 (N : Nat) (M : Mm) : Option (Option Nat × Mm) :=
some (none, M)
set_option maxRecDepth 100000 in
set_option maxHeartbeats 4000000 in
theorem w_X11_shelfAt_22 {X : Cx} {G : Gl} {r : (Option Nat × Mm)} (N : Nat) (hC : CX X G yX11_shelfAt cX11_shelfAt 2 (some (.object "FerryBells$Shelf")) rm_X11_shelfAt) (M : Mm) (h : j_X11_shelfAt_22 N M = some r) : TW X G 2 (RQ X G (some (va_rf r.1)) r.2 rm_X11_shelfAt) 0 0 M 22 [] [] := by
  unfold j_X11_shelfAt_22 at h
  refine zt_null hC dX11_shelfAt_22 ?_
  obtain rfl := Option.some.inj h
  exact zt_aret hC rfl rfl rfl (Nat.le_of_ble_eq_true rfl) (Nat.le_of_ble_eq_true rfl) dX11_shelfAt_23
def f_X11_shelfAt (N : Nat) (x0 : Nat) (x1 : Int32) (M : Mm) : Option (Option Nat × Mm) :=
(if x1 < 0 then
j_X11_shelfAt_22 N M
else
gR 11 M x0 5 (fun v1 =>
alen M v1 (fun v2 =>
(if v2 ≤ x1 then
j_X11_shelfAt_22 N M
else
gR 11 M x0 5 (fun v3 =>
alq M v3 x1 (fun v4 =>
some ((some v4), M)))))))
set_option maxRecDepth 100000 in
set_option maxHeartbeats 4000000 in
theorem c_X11_shelfAt (N : Nat) (x0 : Nat) (x1 : Int32) (M : Mm) (r : (Option Nat × Mm)) (h : f_X11_shelfAt N x0 x1 M = some r) (l : Launch) (hfl : l.flags = flags0) {G : Gl} : MT l G yX11_shelfAt cX11_shelfAt 2 (some (.object "FerryBells$Shelf")) rm_X11_shelfAt [.ref x0, .int x1] M (some (va_rf r.1)) r.2 := by
  unfold f_X11_shelfAt at h
  refine zt_start hfl (lv := [(0, .ref x0), (1, .int x1)]) (by decide) (Nat.le_of_ble_eq_true rfl) rfl wd_263 (fun X hC _ => ?_)
  refine zt_iload_n hC rfl dX11_shelfAt_0 ?_
  refine zt_if_lt (tgt := 22) hC h (by decide) dX11_shelfAt_1 (fun h => ?_) (fun h => ?_)
  · refine zt_keep [] rfl ?_
    exact w_X11_shelfAt_22 N hC M h
  · refine zt_iload_n hC rfl dX11_shelfAt_4 ?_
    refine zt_aload_n hC rfl dX11_shelfAt_5 ?_
    refine zt_gR hC h cl11 (k := 5) (by decide) rfl wd_232 (Or.inl rfl) dX11_shelfAt_6 (fun v1 h => ?_)
    refine zt_alen hC h dX11_shelfAt_9 (fun v2 h => ?_)
    refine zt_icmp_ge (tgt := 22) hC h (by decide) dX11_shelfAt_10 (fun h => ?_) (fun h => ?_)
    · refine zt_keep [] rfl ?_
      exact w_X11_shelfAt_22 N hC M h
    · refine zt_aload_n hC rfl dX11_shelfAt_13 ?_
      refine zt_gR hC h cl11 (k := 5) (by decide) rfl wd_232 (Or.inl rfl) dX11_shelfAt_14 (fun v3 h => ?_)
      refine zt_iload_n hC rfl dX11_shelfAt_17 ?_
      refine zt_alq hC h dX11_shelfAt_18 (fun v4 h => ?_)
      refine zt_goto (tgt := 23) hC (by decide) dX11_shelfAt_19 ?_
      obtain rfl := Option.some.inj h
      exact zt_aret hC rfl rfl rfl (Nat.le_of_ble_eq_true rfl) (Nat.le_of_ble_eq_true rfl) dX11_shelfAt_23
def rm_X11_refuseRow : Room := { frames := 2, cells := 0, slots := 0, locals := 40 }
theorem hd_X11_refuseRow : yX11_refuseRow.cls ≠ "java/lang/invoke/MethodHandle" ∧ yX11_refuseRow.cls ≠ "java/lang/invoke/VarHandle" ∧ (parseMethodDescriptor yX11_refuseRow.desc).map (fun d => d.parameters.length) = some 2 := by decide +kernel
def j_X11_refuseRow_42 (N : Nat) (M : Mm) : Option (Int32 × Mm) :=
some ((0 : Int32), M)
set_option maxRecDepth 100000 in
set_option maxHeartbeats 4000000 in
theorem w_X11_refuseRow_42 {X : Cx} {G : Gl} {r : (Int32 × Mm)} (N : Nat) (hC : CX X G yX11_refuseRow cX11_refuseRow 4 (some .int) rm_X11_refuseRow) (M : Mm) (h : j_X11_refuseRow_42 N M = some r) : TW X G 4 (RQ X G (some (.int r.1)) r.2 rm_X11_refuseRow) 0 0 M 42 [] [] := by
  unfold j_X11_refuseRow_42 at h
  refine zt_iconst hC ki_0 dX11_refuseRow_42 ?_
  refine zt_goto (tgt := 48) hC (by decide) dX11_refuseRow_43 ?_
  obtain rfl := Option.some.inj h
  exact zt_iret hC rfl rfl (Nat.le_of_ble_eq_true rfl) (Nat.le_of_ble_eq_true rfl) dX11_refuseRow_48
def f_X11_refuseRow (N : Nat) (x0 : Nat) (x1 : Int32) (x2 : Int32) (M : Mm) : Option (Int32 × Mm) :=
ck 11 M x0 (bnd (f_X11_shelfAt N x0 x1 M) (fun v1 M2 =>
(onn v1
(some ((-1 : Int32), M2))
(fun v1 =>
ck 7 M2 v1 (bnd (f_X7_isEmpty N v1 M2) (fun v4 M5 =>
(if v4 = 0 then
ck 7 M5 v1 (bnd (f_X7_hasRow N v1 M5) (fun v7 M8 =>
(if v7 = 0 then
some ((-12 : Int32), M8)
else
(if x2 = (-1 : Int32) then
j_X11_refuseRow_42 N M8
else
gI 7 M8 v1 1 (fun v10 =>
(if x2 = v10 then
j_X11_refuseRow_42 N M8
else
some ((-12 : Int32), M8)))))))
else
some ((-11 : Int32), M5))))))))
set_option maxRecDepth 100000 in
set_option maxHeartbeats 4000000 in
theorem c_X11_refuseRow (N : Nat) (x0 : Nat) (x1 : Int32) (x2 : Int32) (M : Mm) (r : (Int32 × Mm)) (h : f_X11_refuseRow N x0 x1 x2 M = some r) (l : Launch) (hfl : l.flags = flags0) {G : Gl} : MT l G yX11_refuseRow cX11_refuseRow 4 (some .int) rm_X11_refuseRow [.ref x0, .int x1, .int x2] M (some (.int r.1)) r.2 := by
  unfold f_X11_refuseRow at h
  refine zt_start hfl (lv := [(0, .ref x0), (1, .int x1), (2, .int x2)]) (by decide) (Nat.le_of_ble_eq_true rfl) rfl wd_259 (fun X hC _ => ?_)
  refine zt_aload_n hC rfl dX11_refuseRow_0 ?_
  refine zt_iload_n hC rfl dX11_refuseRow_1 ?_
  obtain ⟨hk, h⟩ := ck_some h
  obtain ⟨v1, M2, h3, h⟩ := bnd_some h
  refine zt_callV (z := yX11_shelfAt) (As := [.int x1]) (rest := []) (st1 := (va_rf v1 :: [])) hC 1 hk cl11 (fun l hl => c_X11_shelfAt N x0 x1 M (v1, M2) h3 l hl) rfl wd_263 wd_260 wd_262 ws_1 wd_1 hd_X11_shelfAt rfl ⟨⟨(Nat.le_of_ble_eq_true rfl), (Nat.le_of_ble_eq_true rfl)⟩, (Nat.le_of_ble_eq_true rfl), (Nat.le_of_ble_eq_true rfl)⟩ rfl (Nat.le_of_ble_eq_true rfl) rfl dX11_refuseRow_2 ?_
  rcases onn_some h with ⟨ew, hw⟩ | ⟨qq, ew, hw⟩
  · clear h
    subst ew
    have h := hw
    clear hw
    refine zt_astore_nN (lv' := [(3, .null), (0, .ref x0), (1, .int x1), (2, .int x2)]) hC (by decide) rfl dX11_refuseRow_5 ?_
    refine zt_aload_nN hC rfl dX11_refuseRow_6 ?_
    refine zt_ifnonnullN hC dX11_refuseRow_7 ?_
    refine zt_iconst hC ki_m1 dX11_refuseRow_10 ?_
    obtain rfl := Option.some.inj h
    exact zt_iret hC rfl rfl (Nat.le_of_ble_eq_true rfl) (Nat.le_of_ble_eq_true rfl) dX11_refuseRow_11
  · clear h
    subst ew
    have h := hw
    clear hw
    obtain ⟨v1, ev⟩ : ∃ q, q = qq := ⟨_, rfl⟩
    subst ev
    refine zt_astore_n (lv' := [(3, .ref v1), (0, .ref x0), (1, .int x1), (2, .int x2)]) hC (by decide) rfl dX11_refuseRow_5 ?_
    refine zt_aload_n hC rfl dX11_refuseRow_6 ?_
    refine zt_ifnonnull (tgt := 12) hC (by decide) dX11_refuseRow_7 ?_
    refine zt_aload_n hC rfl dX11_refuseRow_12 ?_
    obtain ⟨hk, h⟩ := ck_some h
    obtain ⟨v4, M5, h6, h⟩ := bnd_some h
    refine zt_callV (z := yX7_isEmpty) (As := []) (rest := []) (st1 := (.int v4 :: [])) hC 0 hk cl7 (fun l hl => c_X7_isEmpty N v1 M2 (v4, M5) h6 l hl) rfl wd_267 wd_264 wd_265 wd_266 wd_6 hd_X7_isEmpty rfl ⟨⟨(Nat.le_of_ble_eq_true rfl), (Nat.le_of_ble_eq_true rfl)⟩, (Nat.le_of_ble_eq_true rfl), (Nat.le_of_ble_eq_true rfl)⟩ rfl (Nat.le_of_ble_eq_true rfl) rfl dX11_refuseRow_13 ?_
    refine zt_if_eq (tgt := 22) hC h (by decide) dX11_refuseRow_16 (fun h => ?_) (fun h => ?_)
    · refine zt_aload_n hC rfl dX11_refuseRow_22 ?_
      obtain ⟨hk, h⟩ := ck_some h
      obtain ⟨v7, M8, h9, h⟩ := bnd_some h
      refine zt_callV (z := yX7_hasRow) (As := []) (rest := []) (st1 := (.int v7 :: [])) hC 0 hk cl7 (fun l hl => c_X7_hasRow N v1 M5 (v7, M8) h9 l hl) rfl wd_271 wd_272 wd_269 wd_270 wd_6 hd_X7_hasRow rfl ⟨⟨(Nat.le_of_ble_eq_true rfl), (Nat.le_of_ble_eq_true rfl)⟩, (Nat.le_of_ble_eq_true rfl), (Nat.le_of_ble_eq_true rfl)⟩ rfl (Nat.le_of_ble_eq_true rfl) rfl dX11_refuseRow_23 ?_
      refine zt_if_eq (tgt := 46) hC h (by decide) dX11_refuseRow_26 (fun h => ?_) (fun h => ?_)
      · refine zt_bipush hC kb_m12 dX11_refuseRow_46 ?_
        obtain rfl := Option.some.inj h
        exact zt_iret hC rfl rfl (Nat.le_of_ble_eq_true rfl) (Nat.le_of_ble_eq_true rfl) dX11_refuseRow_48
      · refine zt_iload_n hC rfl dX11_refuseRow_29 ?_
        refine zt_iconst hC ki_m1 dX11_refuseRow_30 ?_
        refine zt_icmp_eq (tgt := 42) hC h (by decide) dX11_refuseRow_31 (fun h => ?_) (fun h => ?_)
        · refine zt_keep [] rfl ?_
          exact w_X11_refuseRow_42 N hC M8 h
        · refine zt_iload_n hC rfl dX11_refuseRow_34 ?_
          refine zt_aload_n hC rfl dX11_refuseRow_35 ?_
          refine zt_gI hC h cl7 (k := 1) (by decide) rfl wd_213 (Or.inl rfl) dX11_refuseRow_36 (fun v10 h => ?_)
          refine zt_icmp_ne (tgt := 46) hC h (by decide) dX11_refuseRow_39 (fun h => ?_) (fun h => ?_)
          · refine zt_bipush hC kb_m12 dX11_refuseRow_46 ?_
            obtain rfl := Option.some.inj h
            exact zt_iret hC rfl rfl (Nat.le_of_ble_eq_true rfl) (Nat.le_of_ble_eq_true rfl) dX11_refuseRow_48
          · refine zt_keep [] rfl ?_
            exact w_X11_refuseRow_42 N hC M8 h
    · refine zt_bipush hC kb_m11 dX11_refuseRow_19 ?_
      obtain rfl := Option.some.inj h
      exact zt_iret hC rfl rfl (Nat.le_of_ble_eq_true rfl) (Nat.le_of_ble_eq_true rfl) dX11_refuseRow_21
def rm_X11_river : Room := { frames := 5, cells := 0, slots := 0, locals := 143 }
theorem hd_X11_river : yX11_river.cls ≠ "java/lang/invoke/MethodHandle" ∧ yX11_river.cls ≠ "java/lang/invoke/VarHandle" ∧ (parseMethodDescriptor yX11_river.desc).map (fun d => d.parameters.length) = some 1 := by decide +kernel
def j_X11_river_124 (N : Nat) (x0 : Nat) (M : Mm) : Option (Int32 × Mm) :=
gR 11 M x0 4 (fun v1 =>
gI 5 M v1 3 (fun v2 =>
some (((-2000 : Int32) - v2), M)))
set_option maxRecDepth 100000 in
set_option maxHeartbeats 4000000 in
theorem w_X11_river_124 {X : Cx} {G : Gl} {r : (Int32 × Mm)} (N : Nat) (hC : CX X G yX11_river cX11_river 6 (some .int) rm_X11_river) (x0 : Nat) (M : Mm) (h : j_X11_river_124 N x0 M = some r) : TW X G 6 (RQ X G (some (.int r.1)) r.2 rm_X11_river) 0 0 M 124 [(0, .ref x0)] [] := by
  unfold j_X11_river_124 at h
  refine zt_sipush hC ks_m2000 dX11_river_124 ?_
  refine zt_aload_n hC rfl dX11_river_127 ?_
  refine zt_gR hC h cl11 (k := 4) (by decide) rfl wd_231 (Or.inl rfl) dX11_river_128 (fun v1 h => ?_)
  refine zt_gI hC h cl5 (k := 3) (by decide) rfl wd_187 (Or.inl rfl) dX11_river_131 (fun v2 h => ?_)
  refine zt_isub hC dX11_river_134 ?_
  obtain rfl := Option.some.inj h
  exact zt_iret hC rfl rfl (Nat.le_of_ble_eq_true rfl) (Nat.le_of_ble_eq_true rfl) dX11_river_135
def b_X11_river_93 (N : Nat) (k93 : Nat → Int32 → Int32 → Mm → Option (Int32 × Mm)) (x0 : Nat) (x4 : Int32) (x5 : Int32) (M : Mm) : Option (Int32 × Mm) :=
(if x4 ≤ x5 then
gR 11 M x0 0 (fun v1 =>
gR 11 M x0 3 (fun v2 =>
ck 10 M v1 (bnd (f_X10_become N v1 v2 M) (fun v3 M4 =>
some (x4, M4)))))
else
gR 11 M x0 4 (fun v6 =>
ck 5 M v6 (bnd (f_X5_next N v6 M) (fun v7 M8 =>
(if v7 = 0 then
j_X11_river_124 N x0 M8
else
gR 11 M8 x0 4 (fun v10 =>
gR 11 M8 x0 3 (fun v11 =>
ck 5 M8 v10 (bnd (f_X5_changes N v10 v11 M8) (fun v12 M13 =>
(if v12 = 0 then
j_X11_river_124 N x0 M13
else
k93 x0 x4 (x5 + (1 : Int32)) M13))))))))))
def l_X11_river_93 (N : Nat) : Nat → Nat → Int32 → Int32 → Mm → Option (Int32 × Mm)
  | 0 => fun _ _ _ _ => none
  | n + 1 => b_X11_river_93 N (l_X11_river_93 N n)
set_option maxRecDepth 100000 in
set_option maxHeartbeats 4000000 in
theorem v_X11_river_93 {X : Cx} {G : Gl} {r : (Int32 × Mm)} (N : Nat) (hC : CX X G yX11_river cX11_river 6 (some .int) rm_X11_river) (k93 : Nat → Int32 → Int32 → Mm → Option (Int32 × Mm)) (hk93 : ∀ (x0 : Nat) (x4 : Int32) (x5 : Int32) (M : Mm), k93 x0 x4 x5 M = some r → TW X G 6 (RQ X G (some (.int r.1)) r.2 rm_X11_river) 0 0 M 93 [(0, .ref x0), (4, .int x4), (5, .int x5)] []) (x0 : Nat) (x4 : Int32) (x5 : Int32) (M : Mm) (h : b_X11_river_93 N k93 x0 x4 x5 M = some r) : TW X G 6 (RQ X G (some (.int r.1)) r.2 rm_X11_river) 0 0 M 93 [(0, .ref x0), (4, .int x4), (5, .int x5)] [] := by
  unfold b_X11_river_93 at h
  refine zt_iload hC rfl dX11_river_93 ?_
  refine zt_iload hC rfl dX11_river_95 ?_
  refine zt_icmp_ge (tgt := 142) hC h (by decide) dX11_river_97 (fun h => ?_) (fun h => ?_)
  · refine zt_aload_n hC rfl dX11_river_142 ?_
    refine zt_gR hC h cl11 (k := 0) (by decide) rfl wd_227 (Or.inl rfl) dX11_river_143 (fun v1 h => ?_)
    refine zt_aload_n hC rfl dX11_river_146 ?_
    refine zt_gR hC h cl11 (k := 3) (by decide) rfl wd_230 (Or.inl rfl) dX11_river_147 (fun v2 h => ?_)
    obtain ⟨hk, h⟩ := ck_some h
    obtain ⟨v3, M4, h5, h⟩ := bnd_some h
    refine zt_callV (z := yX10_become) (As := [.ref v2]) (rest := []) (st1 := []) hC 1 hk cl10 (fun l hl => c_X10_become N v1 v2 M (v3, M4) h5 l hl) rfl wd_311 wd_308 wd_309 wd_310 wd_2 hd_X10_become rfl ⟨⟨(Nat.le_of_ble_eq_true rfl), (Nat.le_of_ble_eq_true rfl)⟩, (Nat.le_of_ble_eq_true rfl), (Nat.le_of_ble_eq_true rfl)⟩ rfl (Nat.le_of_ble_eq_true rfl) rfl dX11_river_150 ?_
    refine zt_iload hC rfl dX11_river_153 ?_
    obtain rfl := Option.some.inj h
    exact zt_iret hC rfl rfl (Nat.le_of_ble_eq_true rfl) (Nat.le_of_ble_eq_true rfl) dX11_river_155
  · refine zt_aload_n hC rfl dX11_river_100 ?_
    refine zt_gR hC h cl11 (k := 4) (by decide) rfl wd_231 (Or.inl rfl) dX11_river_101 (fun v6 h => ?_)
    obtain ⟨hk, h⟩ := ck_some h
    obtain ⟨v7, M8, h9, h⟩ := bnd_some h
    refine zt_callV (z := yX5_next) (As := []) (rest := []) (st1 := (.int v7 :: [])) hC 0 hk cl5 (fun l hl => c_X5_next N v6 M (v7, M8) h9 l hl) rfl wd_284 wd_330 wd_282 wd_283 wd_5 hd_X5_next rfl ⟨⟨(Nat.le_of_ble_eq_true rfl), (Nat.le_of_ble_eq_true rfl)⟩, (Nat.le_of_ble_eq_true rfl), (Nat.le_of_ble_eq_true rfl)⟩ rfl (Nat.le_of_ble_eq_true rfl) rfl dX11_river_104 ?_
    refine zt_if_eq (tgt := 124) hC h (by decide) dX11_river_107 (fun h => ?_) (fun h => ?_)
    · refine zt_keep [0] rfl ?_
      exact w_X11_river_124 N hC x0 M8 h
    · refine zt_aload_n hC rfl dX11_river_110 ?_
      refine zt_gR hC h cl11 (k := 4) (by decide) rfl wd_231 (Or.inl rfl) dX11_river_111 (fun v10 h => ?_)
      refine zt_aload_n hC rfl dX11_river_114 ?_
      refine zt_gR hC h cl11 (k := 3) (by decide) rfl wd_230 (Or.inl rfl) dX11_river_115 (fun v11 h => ?_)
      obtain ⟨hk, h⟩ := ck_some h
      obtain ⟨v12, M13, h14, h⟩ := bnd_some h
      refine zt_callV (z := yX5_changes) (As := [.ref v11]) (rest := []) (st1 := (.int v12 :: [])) hC 1 hk cl5 (fun l hl => c_X5_changes N v10 v11 M8 (v12, M13) h14 l hl) rfl wd_334 wd_331 wd_332 wd_333 wd_5 hd_X5_changes rfl ⟨⟨(Nat.le_of_ble_eq_true rfl), (Nat.le_of_ble_eq_true rfl)⟩, (Nat.le_of_ble_eq_true rfl), (Nat.le_of_ble_eq_true rfl)⟩ rfl (Nat.le_of_ble_eq_true rfl) rfl dX11_river_118 ?_
      refine zt_if_ne (tgt := 136) hC h (by decide) dX11_river_121 (fun h => ?_) (fun h => ?_)
      · refine zt_iinc (v := (x5 + (1 : Int32))) (lv' := [(5, .int (x5 + (1 : Int32))), (0, .ref x0), (4, .int x4)]) hC rfl (by rw [ki_1]) (by decide) rfl dX11_river_136 ?_
        refine zt_goto (tgt := 93) hC (by decide) dX11_river_139 ?_
        refine zt_keep [0, 4, 5] rfl ?_
        exact hk93 x0 x4 (x5 + (1 : Int32)) M13 h
      · refine zt_keep [0] rfl ?_
        exact w_X11_river_124 N hC x0 M13 h
theorem w_X11_river_93 {X : Cx} {G : Gl} {r : (Int32 × Mm)} (N : Nat) (hC : CX X G yX11_river cX11_river 6 (some .int) rm_X11_river) (n : Nat) : ∀ (x0 : Nat) (x4 : Int32) (x5 : Int32) (M : Mm), l_X11_river_93 N n x0 x4 x5 M = some r → TW X G 6 (RQ X G (some (.int r.1)) r.2 rm_X11_river) 0 0 M 93 [(0, .ref x0), (4, .int x4), (5, .int x5)] [] := by
  induction n with
  | zero => intro  x0 x4 x5 M h; cases (show none = some r from h)
  | succ n ih => intro  x0 x4 x5 M h; exact v_X11_river_93 N hC (l_X11_river_93 N n) ih x0 x4 x5 M h
def f_X11_river (N : Nat) (x0 : Nat) (x1 : Int32) (M : Mm) : Option (Int32 × Mm) :=
ck 11 M x0 (bnd (f_X11_refuseRow N x0 x1 (0 : Int32) M) (fun v1 M2 =>
ck 11 M2 x0 (bnd (f_X11_shelfAt N x0 x1 M2) (fun v4 M5 =>
(onn v4
((if v1 = 0 then
some (v1, M5)
else
some (v1, M5)))
(fun v4 =>
(if v1 = 0 then
gR 11 M5 x0 4 (fun v7 =>
gR 7 M5 v4 3 (fun v8 =>
gI 7 M5 v4 2 (fun v9 =>
ck 5 M5 v7 (bnd (f_X5_open N v7 v8 v9 M5) (fun v10 M11 =>
gR 11 M11 x0 4 (fun v13 =>
ck 5 M11 v13 (bnd (f_X5_countStatements N v13 M11) (fun v14 M15 =>
(if v14 = 0 then
gR 11 M15 x0 4 (fun v28 =>
gI 5 M15 v28 2 (fun v29 =>
some (((-1000 : Int32) - v29), M15)))
else
gR 11 M15 x0 4 (fun v17 =>
gR 7 M15 v4 3 (fun v18 =>
gI 7 M15 v4 2 (fun v19 =>
ck 5 M15 v17 (bnd (f_X5_open N v17 v18 v19 M15) (fun v20 M21 =>
gR 11 M21 x0 3 (fun v23 =>
gR 11 M21 x0 0 (fun v24 =>
ck 10 M21 v23 (bnd (f_X10_become N v23 v24 M21) (fun v25 M26 =>
l_X11_river_93 N N x0 v14 (0 : Int32) M26))))))))))))))))))
else
some (v1, M5))))))))
set_option maxRecDepth 100000 in
set_option maxHeartbeats 4000000 in
theorem c_X11_river (N : Nat) (x0 : Nat) (x1 : Int32) (M : Mm) (r : (Int32 × Mm)) (h : f_X11_river N x0 x1 M = some r) (l : Launch) (hfl : l.flags = flags0) {G : Gl} : MT l G yX11_river cX11_river 6 (some .int) rm_X11_river [.ref x0, .int x1] M (some (.int r.1)) r.2 := by
  unfold f_X11_river at h
  refine zt_start hfl (lv := [(0, .ref x0), (1, .int x1)]) (by decide) (Nat.le_of_ble_eq_true rfl) rfl wd_255 (fun X hC _ => ?_)
  refine zt_aload_n hC rfl dX11_river_0 ?_
  refine zt_iload_n hC rfl dX11_river_1 ?_
  refine zt_iconst hC ki_0 dX11_river_2 ?_
  obtain ⟨hk, h⟩ := ck_some h
  obtain ⟨v1, M2, h3, h⟩ := bnd_some h
  refine zt_callV (z := yX11_refuseRow) (As := [.int x1, .int (0 : Int32)]) (rest := []) (st1 := (.int v1 :: [])) hC 2 hk cl11 (fun l hl => c_X11_refuseRow N x0 x1 (0 : Int32) M (v1, M2) h3 l hl) rfl wd_259 wd_256 wd_258 ws_0 wd_1 hd_X11_refuseRow rfl ⟨⟨(Nat.le_of_ble_eq_true rfl), (Nat.le_of_ble_eq_true rfl)⟩, (Nat.le_of_ble_eq_true rfl), (Nat.le_of_ble_eq_true rfl)⟩ rfl (Nat.le_of_ble_eq_true rfl) rfl dX11_river_3 ?_
  refine zt_istore_n (lv' := [(2, .int v1), (0, .ref x0), (1, .int x1)]) hC (by decide) rfl dX11_river_6 ?_
  refine zt_aload_n hC rfl dX11_river_7 ?_
  refine zt_iload_n hC rfl dX11_river_8 ?_
  obtain ⟨hk, h⟩ := ck_some h
  obtain ⟨v4, M5, h6, h⟩ := bnd_some h
  refine zt_callV (z := yX11_shelfAt) (As := [.int x1]) (rest := []) (st1 := (va_rf v4 :: [])) hC 1 hk cl11 (fun l hl => c_X11_shelfAt N x0 x1 M2 (v4, M5) h6 l hl) rfl wd_263 wd_260 wd_262 ws_1 wd_1 hd_X11_shelfAt rfl ⟨⟨(Nat.le_of_ble_eq_true rfl), (Nat.le_of_ble_eq_true rfl)⟩, (Nat.le_of_ble_eq_true rfl), (Nat.le_of_ble_eq_true rfl)⟩ rfl (Nat.le_of_ble_eq_true rfl) rfl dX11_river_9 ?_
  rcases onn_some h with ⟨ew, hw⟩ | ⟨qq, ew, hw⟩
  · clear h
    subst ew
    have h := hw
    clear hw
    refine zt_astore_nN (lv' := [(3, .null), (2, .int v1), (0, .ref x0), (1, .int x1)]) hC (by decide) rfl dX11_river_12 ?_
    refine zt_iload_n hC rfl dX11_river_13 ?_
    refine zt_if_ne (tgt := 21) hC h (by decide) dX11_river_14 (fun h => ?_) (fun h => ?_)
    · refine zt_iload_n hC rfl dX11_river_21 ?_
      obtain rfl := Option.some.inj h
      exact zt_iret hC rfl rfl (Nat.le_of_ble_eq_true rfl) (Nat.le_of_ble_eq_true rfl) dX11_river_22
    · refine zt_aload_nN hC rfl dX11_river_17 ?_
      refine zt_ifnonnullN hC dX11_river_18 ?_
      refine zt_iload_n hC rfl dX11_river_21 ?_
      obtain rfl := Option.some.inj h
      exact zt_iret hC rfl rfl (Nat.le_of_ble_eq_true rfl) (Nat.le_of_ble_eq_true rfl) dX11_river_22
  · clear h
    subst ew
    have h := hw
    clear hw
    obtain ⟨v4, ev⟩ : ∃ q, q = qq := ⟨_, rfl⟩
    subst ev
    refine zt_astore_n (lv' := [(3, .ref v4), (2, .int v1), (0, .ref x0), (1, .int x1)]) hC (by decide) rfl dX11_river_12 ?_
    refine zt_iload_n hC rfl dX11_river_13 ?_
    refine zt_if_ne (tgt := 21) hC h (by decide) dX11_river_14 (fun h => ?_) (fun h => ?_)
    · refine zt_iload_n hC rfl dX11_river_21 ?_
      obtain rfl := Option.some.inj h
      exact zt_iret hC rfl rfl (Nat.le_of_ble_eq_true rfl) (Nat.le_of_ble_eq_true rfl) dX11_river_22
    · refine zt_aload_n hC rfl dX11_river_17 ?_
      refine zt_ifnonnull (tgt := 23) hC (by decide) dX11_river_18 ?_
      refine zt_aload_n hC rfl dX11_river_23 ?_
      refine zt_gR hC h cl11 (k := 4) (by decide) rfl wd_231 (Or.inl rfl) dX11_river_24 (fun v7 h => ?_)
      refine zt_aload_n hC rfl dX11_river_27 ?_
      refine zt_gR hC h cl7 (k := 3) (by decide) rfl wd_217 (Or.inl rfl) dX11_river_28 (fun v8 h => ?_)
      refine zt_aload_n hC rfl dX11_river_31 ?_
      refine zt_gI hC h cl7 (k := 2) (by decide) rfl wd_215 (Or.inl rfl) dX11_river_32 (fun v9 h => ?_)
      obtain ⟨hk, h⟩ := ck_some h
      obtain ⟨v10, M11, h12, h⟩ := bnd_some h
      refine zt_callV (z := yX5_open) (As := [.ref v8, .int v9]) (rest := []) (st1 := []) hC 2 hk cl5 (fun l hl => c_X5_open N v7 v8 v9 M5 (v10, M11) h12 l hl) rfl wd_276 wd_273 wd_274 wd_275 wd_5 hd_X5_open rfl ⟨⟨(Nat.le_of_ble_eq_true rfl), (Nat.le_of_ble_eq_true rfl)⟩, (Nat.le_of_ble_eq_true rfl), (Nat.le_of_ble_eq_true rfl)⟩ rfl (Nat.le_of_ble_eq_true rfl) rfl dX11_river_35 ?_
      refine zt_aload_n hC rfl dX11_river_38 ?_
      refine zt_gR hC h cl11 (k := 4) (by decide) rfl wd_231 (Or.inl rfl) dX11_river_39 (fun v13 h => ?_)
      obtain ⟨hk, h⟩ := ck_some h
      obtain ⟨v14, M15, h16, h⟩ := bnd_some h
      refine zt_callV (z := yX5_countStatements) (As := []) (rest := []) (st1 := (.int v14 :: [])) hC 0 hk cl5 (fun l hl => c_X5_countStatements N v13 M11 (v14, M15) h16 l hl) rfl wd_280 wd_277 wd_278 wd_279 wd_5 hd_X5_countStatements rfl ⟨⟨(Nat.le_of_ble_eq_true rfl), (Nat.le_of_ble_eq_true rfl)⟩, (Nat.le_of_ble_eq_true rfl), (Nat.le_of_ble_eq_true rfl)⟩ rfl (Nat.le_of_ble_eq_true rfl) rfl dX11_river_42 ?_
      refine zt_istore (lv' := [(4, .int v14), (3, .ref v4), (2, .int v1), (0, .ref x0), (1, .int x1)]) hC (by decide) rfl dX11_river_45 ?_
      refine zt_iload hC rfl dX11_river_47 ?_
      refine zt_if_ne (tgt := 64) hC h (by decide) dX11_river_49 (fun h => ?_) (fun h => ?_)
      · refine zt_aload_n hC rfl dX11_river_64 ?_
        refine zt_gR hC h cl11 (k := 4) (by decide) rfl wd_231 (Or.inl rfl) dX11_river_65 (fun v17 h => ?_)
        refine zt_aload_n hC rfl dX11_river_68 ?_
        refine zt_gR hC h cl7 (k := 3) (by decide) rfl wd_217 (Or.inl rfl) dX11_river_69 (fun v18 h => ?_)
        refine zt_aload_n hC rfl dX11_river_72 ?_
        refine zt_gI hC h cl7 (k := 2) (by decide) rfl wd_215 (Or.inl rfl) dX11_river_73 (fun v19 h => ?_)
        obtain ⟨hk, h⟩ := ck_some h
        obtain ⟨v20, M21, h22, h⟩ := bnd_some h
        refine zt_callV (z := yX5_open) (As := [.ref v18, .int v19]) (rest := []) (st1 := []) hC 2 hk cl5 (fun l hl => c_X5_open N v17 v18 v19 M15 (v20, M21) h22 l hl) rfl wd_276 wd_273 wd_274 wd_275 wd_5 hd_X5_open rfl ⟨⟨(Nat.le_of_ble_eq_true rfl), (Nat.le_of_ble_eq_true rfl)⟩, (Nat.le_of_ble_eq_true rfl), (Nat.le_of_ble_eq_true rfl)⟩ rfl (Nat.le_of_ble_eq_true rfl) rfl dX11_river_76 ?_
        refine zt_aload_n hC rfl dX11_river_79 ?_
        refine zt_gR hC h cl11 (k := 3) (by decide) rfl wd_230 (Or.inl rfl) dX11_river_80 (fun v23 h => ?_)
        refine zt_aload_n hC rfl dX11_river_83 ?_
        refine zt_gR hC h cl11 (k := 0) (by decide) rfl wd_227 (Or.inl rfl) dX11_river_84 (fun v24 h => ?_)
        obtain ⟨hk, h⟩ := ck_some h
        obtain ⟨v25, M26, h27, h⟩ := bnd_some h
        refine zt_callV (z := yX10_become) (As := [.ref v24]) (rest := []) (st1 := []) hC 1 hk cl10 (fun l hl => c_X10_become N v23 v24 M21 (v25, M26) h27 l hl) rfl wd_311 wd_308 wd_309 wd_310 wd_2 hd_X10_become rfl ⟨⟨(Nat.le_of_ble_eq_true rfl), (Nat.le_of_ble_eq_true rfl)⟩, (Nat.le_of_ble_eq_true rfl), (Nat.le_of_ble_eq_true rfl)⟩ rfl (Nat.le_of_ble_eq_true rfl) rfl dX11_river_87 ?_
        refine zt_iconst hC ki_0 dX11_river_90 ?_
        refine zt_istore (lv' := [(5, .int (0 : Int32)), (4, .int v14), (3, .ref v4), (2, .int v1), (0, .ref x0), (1, .int x1)]) hC (by decide) rfl dX11_river_91 ?_
        refine zt_keep [0, 4, 5] rfl ?_
        exact w_X11_river_93 N hC N x0 v14 (0 : Int32) M26 h
      · refine zt_sipush hC ks_m1000 dX11_river_52 ?_
        refine zt_aload_n hC rfl dX11_river_55 ?_
        refine zt_gR hC h cl11 (k := 4) (by decide) rfl wd_231 (Or.inl rfl) dX11_river_56 (fun v28 h => ?_)
        refine zt_gI hC h cl5 (k := 2) (by decide) rfl wd_185 (Or.inl rfl) dX11_river_59 (fun v29 h => ?_)
        refine zt_isub hC dX11_river_62 ?_
        obtain rfl := Option.some.inj h
        exact zt_iret hC rfl rfl (Nat.le_of_ble_eq_true rfl) (Nat.le_of_ble_eq_true rfl) dX11_river_63
def rm_X11_minutes : Room := { frames := 2, cells := 0, slots := 0, locals := 43 }
theorem hd_X11_minutes : yX11_minutes.cls ≠ "java/lang/invoke/MethodHandle" ∧ yX11_minutes.cls ≠ "java/lang/invoke/VarHandle" ∧ (parseMethodDescriptor yX11_minutes.desc).map (fun d => d.parameters.length) = some 2 := by decide +kernel
def f_X11_minutes (N : Nat) (x0 : Nat) (x1 : Int32) (x2 : Int32) (M : Mm) : Option (Int32 × Mm) :=
gR 11 M x0 0 (fun v1 =>
ck 10 M v1 (bnd (f_X10_hasLanding N v1 x1 M) (fun v2 M3 =>
(if v2 = 0 then
some ((-1 : Int32), M3)
else
gR 11 M3 x0 0 (fun v5 =>
ck 10 M3 v5 (bnd (f_X10_hasLanding N v5 x2 M3) (fun v6 M7 =>
(if v6 = 0 then
some ((-1 : Int32), M7)
else
(if x1 = x2 then
some ((-1 : Int32), M7)
else
gR 11 M7 x0 0 (fun v9 =>
ck 10 M7 v9 (bnd (f_X10_way N v9 x1 x2 M7) (fun v10 M11 =>
some (v10, M11)))))))))))))
set_option maxRecDepth 100000 in
set_option maxHeartbeats 4000000 in
theorem c_X11_minutes (N : Nat) (x0 : Nat) (x1 : Int32) (x2 : Int32) (M : Mm) (r : (Int32 × Mm)) (h : f_X11_minutes N x0 x1 x2 M = some r) (l : Launch) (hfl : l.flags = flags0) {G : Gl} : MT l G yX11_minutes cX11_minutes 3 (some .int) rm_X11_minutes [.ref x0, .int x1, .int x2] M (some (.int r.1)) r.2 := by
  unfold f_X11_minutes at h
  refine zt_start hfl (lv := [(0, .ref x0), (1, .int x1), (2, .int x2)]) (by decide) (Nat.le_of_ble_eq_true rfl) rfl wd_371 (fun X hC _ => ?_)
  refine zt_aload_n hC rfl dX11_minutes_0 ?_
  refine zt_gR hC h cl11 (k := 0) (by decide) rfl wd_227 (Or.inl rfl) dX11_minutes_1 (fun v1 h => ?_)
  refine zt_iload_n hC rfl dX11_minutes_4 ?_
  obtain ⟨hk, h⟩ := ck_some h
  obtain ⟨v2, M3, h4, h⟩ := bnd_some h
  refine zt_callV (z := yX10_hasLanding) (As := [.int x1]) (rest := []) (st1 := (.int v2 :: [])) hC 1 hk cl10 (fun l hl => c_X10_hasLanding N v1 x1 M (v2, M3) h4 l hl) rfl wd_358 wd_372 wd_356 wd_357 wd_2 hd_X10_hasLanding rfl ⟨⟨(Nat.le_of_ble_eq_true rfl), (Nat.le_of_ble_eq_true rfl)⟩, (Nat.le_of_ble_eq_true rfl), (Nat.le_of_ble_eq_true rfl)⟩ rfl (Nat.le_of_ble_eq_true rfl) rfl dX11_minutes_5 ?_
  refine zt_if_eq (tgt := 27) hC h (by decide) dX11_minutes_8 (fun h => ?_) (fun h => ?_)
  · refine zt_iconst hC ki_m1 dX11_minutes_27 ?_
    obtain rfl := Option.some.inj h
    exact zt_iret hC rfl rfl (Nat.le_of_ble_eq_true rfl) (Nat.le_of_ble_eq_true rfl) dX11_minutes_28
  · refine zt_aload_n hC rfl dX11_minutes_11 ?_
    refine zt_gR hC h cl11 (k := 0) (by decide) rfl wd_227 (Or.inl rfl) dX11_minutes_12 (fun v5 h => ?_)
    refine zt_iload_n hC rfl dX11_minutes_15 ?_
    obtain ⟨hk, h⟩ := ck_some h
    obtain ⟨v6, M7, h8, h⟩ := bnd_some h
    refine zt_callV (z := yX10_hasLanding) (As := [.int x2]) (rest := []) (st1 := (.int v6 :: [])) hC 1 hk cl10 (fun l hl => c_X10_hasLanding N v5 x2 M3 (v6, M7) h8 l hl) rfl wd_358 wd_372 wd_356 wd_357 wd_2 hd_X10_hasLanding rfl ⟨⟨(Nat.le_of_ble_eq_true rfl), (Nat.le_of_ble_eq_true rfl)⟩, (Nat.le_of_ble_eq_true rfl), (Nat.le_of_ble_eq_true rfl)⟩ rfl (Nat.le_of_ble_eq_true rfl) rfl dX11_minutes_16 ?_
    refine zt_if_eq (tgt := 27) hC h (by decide) dX11_minutes_19 (fun h => ?_) (fun h => ?_)
    · refine zt_iconst hC ki_m1 dX11_minutes_27 ?_
      obtain rfl := Option.some.inj h
      exact zt_iret hC rfl rfl (Nat.le_of_ble_eq_true rfl) (Nat.le_of_ble_eq_true rfl) dX11_minutes_28
    · refine zt_iload_n hC rfl dX11_minutes_22 ?_
      refine zt_iload_n hC rfl dX11_minutes_23 ?_
      refine zt_icmp_ne (tgt := 29) hC h (by decide) dX11_minutes_24 (fun h => ?_) (fun h => ?_)
      · refine zt_aload_n hC rfl dX11_minutes_29 ?_
        refine zt_gR hC h cl11 (k := 0) (by decide) rfl wd_227 (Or.inl rfl) dX11_minutes_30 (fun v9 h => ?_)
        refine zt_iload_n hC rfl dX11_minutes_33 ?_
        refine zt_iload_n hC rfl dX11_minutes_34 ?_
        obtain ⟨hk, h⟩ := ck_some h
        obtain ⟨v10, M11, h12, h⟩ := bnd_some h
        refine zt_callV (z := yX10_way) (As := [.int x1, .int x2]) (rest := []) (st1 := (.int v10 :: [])) hC 2 hk cl10 (fun l hl => c_X10_way N v9 x1 x2 M7 (v10, M11) h12 l hl) rfl wd_376 wd_373 wd_374 wd_375 wd_2 hd_X10_way rfl ⟨⟨(Nat.le_of_ble_eq_true rfl), (Nat.le_of_ble_eq_true rfl)⟩, (Nat.le_of_ble_eq_true rfl), (Nat.le_of_ble_eq_true rfl)⟩ rfl (Nat.le_of_ble_eq_true rfl) rfl dX11_minutes_35 ?_
        obtain rfl := Option.some.inj h
        exact zt_iret hC rfl rfl (Nat.le_of_ble_eq_true rfl) (Nat.le_of_ble_eq_true rfl) dX11_minutes_38
      · refine zt_iconst hC ki_m1 dX11_minutes_27 ?_
        obtain rfl := Option.some.inj h
        exact zt_iret hC rfl rfl (Nat.le_of_ble_eq_true rfl) (Nat.le_of_ble_eq_true rfl) dX11_minutes_28
def rm_X11_sort : Room := { frames := 1, cells := 0, slots := 0, locals := 23 }
theorem hd_X11_sort : yX11_sort.cls ≠ "java/lang/invoke/MethodHandle" ∧ yX11_sort.cls ≠ "java/lang/invoke/VarHandle" ∧ (parseMethodDescriptor yX11_sort.desc).map (fun d => d.parameters.length) = some 2 := by decide +kernel
def f_X11_sort (N : Nat) (x0 : Nat) (x1 : Int32) (x2 : Int32) (M : Mm) : Option (Int32 × Mm) :=
gR 11 M x0 0 (fun v1 =>
ck 10 M v1 (bnd (f_X10_hasSort N v1 x1 M) (fun v2 M3 =>
(if v2 = 0 then
some ((-1 : Int32), M3)
else
(if x2 < 0 then
some ((-1 : Int32), M3)
else
(if x2 ≤ (4 : Int32) then
gR 11 M3 x0 0 (fun v5 =>
ck 10 M3 v5 (bnd (f_X10_ofSort N v5 x1 x2 M3) (fun v6 M7 =>
some (v6, M7))))
else
some ((-1 : Int32), M3)))))))
set_option maxRecDepth 100000 in
set_option maxHeartbeats 4000000 in
theorem c_X11_sort (N : Nat) (x0 : Nat) (x1 : Int32) (x2 : Int32) (M : Mm) (r : (Int32 × Mm)) (h : f_X11_sort N x0 x1 x2 M = some r) (l : Launch) (hfl : l.flags = flags0) {G : Gl} : MT l G yX11_sort cX11_sort 3 (some .int) rm_X11_sort [.ref x0, .int x1, .int x2] M (some (.int r.1)) r.2 := by
  unfold f_X11_sort at h
  refine zt_start hfl (lv := [(0, .ref x0), (1, .int x1), (2, .int x2)]) (by decide) (Nat.le_of_ble_eq_true rfl) rfl wd_383 (fun X hC _ => ?_)
  refine zt_aload_n hC rfl dX11_sort_0 ?_
  refine zt_gR hC h cl11 (k := 0) (by decide) rfl wd_227 (Or.inl rfl) dX11_sort_1 (fun v1 h => ?_)
  refine zt_iload_n hC rfl dX11_sort_4 ?_
  obtain ⟨hk, h⟩ := ck_some h
  obtain ⟨v2, M3, h4, h⟩ := bnd_some h
  refine zt_callV (z := yX10_hasSort) (As := [.int x1]) (rest := []) (st1 := (.int v2 :: [])) hC 1 hk cl10 (fun l hl => c_X10_hasSort N v1 x1 M (v2, M3) h4 l hl) rfl wd_387 wd_384 wd_385 wd_386 wd_2 hd_X10_hasSort rfl ⟨⟨(Nat.le_of_ble_eq_true rfl), (Nat.le_of_ble_eq_true rfl)⟩, (Nat.le_of_ble_eq_true rfl), (Nat.le_of_ble_eq_true rfl)⟩ rfl (Nat.le_of_ble_eq_true rfl) rfl dX11_sort_5 ?_
  refine zt_if_eq (tgt := 20) hC h (by decide) dX11_sort_8 (fun h => ?_) (fun h => ?_)
  · refine zt_iconst hC ki_m1 dX11_sort_20 ?_
    obtain rfl := Option.some.inj h
    exact zt_iret hC rfl rfl (Nat.le_of_ble_eq_true rfl) (Nat.le_of_ble_eq_true rfl) dX11_sort_21
  · refine zt_iload_n hC rfl dX11_sort_11 ?_
    refine zt_if_lt (tgt := 20) hC h (by decide) dX11_sort_12 (fun h => ?_) (fun h => ?_)
    · refine zt_iconst hC ki_m1 dX11_sort_20 ?_
      obtain rfl := Option.some.inj h
      exact zt_iret hC rfl rfl (Nat.le_of_ble_eq_true rfl) (Nat.le_of_ble_eq_true rfl) dX11_sort_21
    · refine zt_iload_n hC rfl dX11_sort_15 ?_
      refine zt_iconst hC ki_4 dX11_sort_16 ?_
      refine zt_icmp_le (tgt := 22) hC h (by decide) dX11_sort_17 (fun h => ?_) (fun h => ?_)
      · refine zt_aload_n hC rfl dX11_sort_22 ?_
        refine zt_gR hC h cl11 (k := 0) (by decide) rfl wd_227 (Or.inl rfl) dX11_sort_23 (fun v5 h => ?_)
        refine zt_iload_n hC rfl dX11_sort_26 ?_
        refine zt_iload_n hC rfl dX11_sort_27 ?_
        obtain ⟨hk, h⟩ := ck_some h
        obtain ⟨v6, M7, h8, h⟩ := bnd_some h
        refine zt_callV (z := yX10_ofSort) (As := [.int x1, .int x2]) (rest := []) (st1 := (.int v6 :: [])) hC 2 hk cl10 (fun l hl => c_X10_ofSort N v5 x1 x2 M3 (v6, M7) h8 l hl) rfl wd_346 wd_388 wd_344 wd_345 wd_2 hd_X10_ofSort rfl ⟨⟨(Nat.le_of_ble_eq_true rfl), (Nat.le_of_ble_eq_true rfl)⟩, (Nat.le_of_ble_eq_true rfl), (Nat.le_of_ble_eq_true rfl)⟩ rfl (Nat.le_of_ble_eq_true rfl) rfl dX11_sort_28 ?_
        obtain rfl := Option.some.inj h
        exact zt_iret hC rfl rfl (Nat.le_of_ble_eq_true rfl) (Nat.le_of_ble_eq_true rfl) dX11_sort_31
      · refine zt_iconst hC ki_m1 dX11_sort_20 ?_
        obtain rfl := Option.some.inj h
        exact zt_iret hC rfl rfl (Nat.le_of_ble_eq_true rfl) (Nat.le_of_ble_eq_true rfl) dX11_sort_21
def rm_X11_comes : Room := { frames := 2, cells := 0, slots := 0, locals := 45 }
theorem hd_X11_comes : yX11_comes.cls ≠ "java/lang/invoke/MethodHandle" ∧ yX11_comes.cls ≠ "java/lang/invoke/VarHandle" ∧ (parseMethodDescriptor yX11_comes.desc).map (fun d => d.parameters.length) = some 2 := by decide +kernel
def f_X11_comes (N : Nat) (x0 : Nat) (x1 : Int32) (x2 : Int32) (M : Mm) : Option (Int32 × Mm) :=
gR 11 M x0 0 (fun v1 =>
ck 10 M v1 (bnd (f_X10_hasSort N v1 x1 M) (fun v2 M3 =>
(if v2 = 0 then
some ((-1 : Int32), M3)
else
(if x2 < 0 then
some ((-1 : Int32), M3)
else
(if x2 ≤ (100 : Int32) then
gR 11 M3 x0 0 (fun v5 =>
ck 10 M3 v5 (bnd (f_X10_ofSort N v5 x1 (2 : Int32) M3) (fun v6 M7 =>
gR 11 M7 x0 0 (fun v9 =>
ck 10 M7 v9 (bnd (f_X10_changeSort N v9 x1 (2 : Int32) x2 M7) (fun v10 M11 =>
some (v6, M11)))))))
else
some ((-1 : Int32), M3)))))))
set_option maxRecDepth 100000 in
set_option maxHeartbeats 4000000 in
theorem c_X11_comes (N : Nat) (x0 : Nat) (x1 : Int32) (x2 : Int32) (M : Mm) (r : (Int32 × Mm)) (h : f_X11_comes N x0 x1 x2 M = some r) (l : Launch) (hfl : l.flags = flags0) {G : Gl} : MT l G yX11_comes cX11_comes 4 (some .int) rm_X11_comes [.ref x0, .int x1, .int x2] M (some (.int r.1)) r.2 := by
  unfold f_X11_comes at h
  refine zt_start hfl (lv := [(0, .ref x0), (1, .int x1), (2, .int x2)]) (by decide) (Nat.le_of_ble_eq_true rfl) rfl wd_392 (fun X hC _ => ?_)
  refine zt_aload_n hC rfl dX11_comes_0 ?_
  refine zt_gR hC h cl11 (k := 0) (by decide) rfl wd_227 (Or.inl rfl) dX11_comes_1 (fun v1 h => ?_)
  refine zt_iload_n hC rfl dX11_comes_4 ?_
  obtain ⟨hk, h⟩ := ck_some h
  obtain ⟨v2, M3, h4, h⟩ := bnd_some h
  refine zt_callV (z := yX10_hasSort) (As := [.int x1]) (rest := []) (st1 := (.int v2 :: [])) hC 1 hk cl10 (fun l hl => c_X10_hasSort N v1 x1 M (v2, M3) h4 l hl) rfl wd_387 wd_384 wd_385 wd_386 wd_2 hd_X10_hasSort rfl ⟨⟨(Nat.le_of_ble_eq_true rfl), (Nat.le_of_ble_eq_true rfl)⟩, (Nat.le_of_ble_eq_true rfl), (Nat.le_of_ble_eq_true rfl)⟩ rfl (Nat.le_of_ble_eq_true rfl) rfl dX11_comes_5 ?_
  refine zt_if_eq (tgt := 21) hC h (by decide) dX11_comes_8 (fun h => ?_) (fun h => ?_)
  · refine zt_iconst hC ki_m1 dX11_comes_21 ?_
    obtain rfl := Option.some.inj h
    exact zt_iret hC rfl rfl (Nat.le_of_ble_eq_true rfl) (Nat.le_of_ble_eq_true rfl) dX11_comes_22
  · refine zt_iload_n hC rfl dX11_comes_11 ?_
    refine zt_if_lt (tgt := 21) hC h (by decide) dX11_comes_12 (fun h => ?_) (fun h => ?_)
    · refine zt_iconst hC ki_m1 dX11_comes_21 ?_
      obtain rfl := Option.some.inj h
      exact zt_iret hC rfl rfl (Nat.le_of_ble_eq_true rfl) (Nat.le_of_ble_eq_true rfl) dX11_comes_22
    · refine zt_iload_n hC rfl dX11_comes_15 ?_
      refine zt_bipush hC kb_100 dX11_comes_16 ?_
      refine zt_icmp_le (tgt := 23) hC h (by decide) dX11_comes_18 (fun h => ?_) (fun h => ?_)
      · refine zt_aload_n hC rfl dX11_comes_23 ?_
        refine zt_gR hC h cl11 (k := 0) (by decide) rfl wd_227 (Or.inl rfl) dX11_comes_24 (fun v5 h => ?_)
        refine zt_iload_n hC rfl dX11_comes_27 ?_
        refine zt_iconst hC ki_2 dX11_comes_28 ?_
        obtain ⟨hk, h⟩ := ck_some h
        obtain ⟨v6, M7, h8, h⟩ := bnd_some h
        refine zt_callV (z := yX10_ofSort) (As := [.int x1, .int (2 : Int32)]) (rest := []) (st1 := (.int v6 :: [])) hC 2 hk cl10 (fun l hl => c_X10_ofSort N v5 x1 (2 : Int32) M3 (v6, M7) h8 l hl) rfl wd_346 wd_388 wd_344 wd_345 wd_2 hd_X10_ofSort rfl ⟨⟨(Nat.le_of_ble_eq_true rfl), (Nat.le_of_ble_eq_true rfl)⟩, (Nat.le_of_ble_eq_true rfl), (Nat.le_of_ble_eq_true rfl)⟩ rfl (Nat.le_of_ble_eq_true rfl) rfl dX11_comes_29 ?_
        refine zt_istore_n (lv' := [(3, .int v6), (0, .ref x0), (1, .int x1), (2, .int x2)]) hC (by decide) rfl dX11_comes_32 ?_
        refine zt_aload_n hC rfl dX11_comes_33 ?_
        refine zt_gR hC h cl11 (k := 0) (by decide) rfl wd_227 (Or.inl rfl) dX11_comes_34 (fun v9 h => ?_)
        refine zt_iload_n hC rfl dX11_comes_37 ?_
        refine zt_iconst hC ki_2 dX11_comes_38 ?_
        refine zt_iload_n hC rfl dX11_comes_39 ?_
        obtain ⟨hk, h⟩ := ck_some h
        obtain ⟨v10, M11, h12, h⟩ := bnd_some h
        refine zt_callV (z := yX10_changeSort) (As := [.int x1, .int (2 : Int32), .int x2]) (rest := []) (st1 := []) hC 3 hk cl10 (fun l hl => c_X10_changeSort N v9 x1 (2 : Int32) x2 M7 (v10, M11) h12 l hl) rfl wd_367 wd_393 wd_365 wd_366 wd_2 hd_X10_changeSort rfl ⟨⟨(Nat.le_of_ble_eq_true rfl), (Nat.le_of_ble_eq_true rfl)⟩, (Nat.le_of_ble_eq_true rfl), (Nat.le_of_ble_eq_true rfl)⟩ rfl (Nat.le_of_ble_eq_true rfl) rfl dX11_comes_40 ?_
        refine zt_iload_n hC rfl dX11_comes_43 ?_
        obtain rfl := Option.some.inj h
        exact zt_iret hC rfl rfl (Nat.le_of_ble_eq_true rfl) (Nat.le_of_ble_eq_true rfl) dX11_comes_44
      · refine zt_iconst hC ki_m1 dX11_comes_21 ?_
        obtain rfl := Option.some.inj h
        exact zt_iret hC rfl rfl (Nat.le_of_ble_eq_true rfl) (Nat.le_of_ble_eq_true rfl) dX11_comes_22
def rm_X11_set : Room := { frames := 1, cells := 0, slots := 0, locals := 21 }
theorem hd_X11_set : yX11_set.cls ≠ "java/lang/invoke/MethodHandle" ∧ yX11_set.cls ≠ "java/lang/invoke/VarHandle" ∧ (parseMethodDescriptor yX11_set.desc).map (fun d => d.parameters.length) = some 2 := by decide +kernel
def f_X11_set (N : Nat) (x0 : Nat) (x1 : Int32) (x2 : Int32) (M : Mm) : Option (Int32 × Mm) :=
(if x1 = (1 : Int32) then
gR 11 M x0 0 (fun v7 =>
gI 10 M v7 5 (fun v8 =>
gR 11 M x0 0 (fun v9 =>
pI 10 M v9 5 x2 (fun M10 =>
some (v8, M10)))))
else
(if x1 = 0 then
(if x2 < (1 : Int32) then
some ((-1 : Int32), M)
else
(if x2 ≤ (6 : Int32) then
gR 11 M x0 0 (fun v1 =>
gI 10 M v1 4 (fun v2 =>
gR 11 M x0 0 (fun v3 =>
ck 10 M v3 (bnd (f_X10_takeSeats N v3 x2 M) (fun v4 M5 =>
(if v4 = 0 then
some ((-3 : Int32), M5)
else
some (v2, M5)))))))
else
some ((-1 : Int32), M)))
else
some ((-1 : Int32), M)))
set_option maxRecDepth 100000 in
set_option maxHeartbeats 4000000 in
theorem c_X11_set (N : Nat) (x0 : Nat) (x1 : Int32) (x2 : Int32) (M : Mm) (r : (Int32 × Mm)) (h : f_X11_set N x0 x1 x2 M = some r) (l : Launch) (hfl : l.flags = flags0) {G : Gl} : MT l G yX11_set cX11_set 4 (some .int) rm_X11_set [.ref x0, .int x1, .int x2] M (some (.int r.1)) r.2 := by
  unfold f_X11_set at h
  refine zt_start hfl (lv := [(0, .ref x0), (1, .int x1), (2, .int x2)]) (by decide) (Nat.le_of_ble_eq_true rfl) rfl wd_397 (fun X hC _ => ?_)
  refine zt_iload_n hC rfl dX11_set_0 ?_
  refine zt_iconst hC ki_1 dX11_set_1 ?_
  refine zt_icmp_ne (tgt := 23) hC h (by decide) dX11_set_2 (fun h => ?_) (fun h => ?_)
  · refine zt_iload_n hC rfl dX11_set_23 ?_
    refine zt_if_ne (tgt := 38) hC h (by decide) dX11_set_24 (fun h => ?_) (fun h => ?_)
    · refine zt_iconst hC ki_m1 dX11_set_38 ?_
      obtain rfl := Option.some.inj h
      exact zt_iret hC rfl rfl (Nat.le_of_ble_eq_true rfl) (Nat.le_of_ble_eq_true rfl) dX11_set_39
    · refine zt_iload_n hC rfl dX11_set_27 ?_
      refine zt_iconst hC ki_1 dX11_set_28 ?_
      refine zt_icmp_lt (tgt := 38) hC h (by decide) dX11_set_29 (fun h => ?_) (fun h => ?_)
      · refine zt_iconst hC ki_m1 dX11_set_38 ?_
        obtain rfl := Option.some.inj h
        exact zt_iret hC rfl rfl (Nat.le_of_ble_eq_true rfl) (Nat.le_of_ble_eq_true rfl) dX11_set_39
      · refine zt_iload_n hC rfl dX11_set_32 ?_
        refine zt_bipush hC kb_6 dX11_set_33 ?_
        refine zt_icmp_le (tgt := 40) hC h (by decide) dX11_set_35 (fun h => ?_) (fun h => ?_)
        · refine zt_aload_n hC rfl dX11_set_40 ?_
          refine zt_gR hC h cl11 (k := 0) (by decide) rfl wd_227 (Or.inl rfl) dX11_set_41 (fun v1 h => ?_)
          refine zt_gI hC h cl10 (k := 4) (by decide) rfl wd_115 (Or.inl rfl) dX11_set_44 (fun v2 h => ?_)
          refine zt_istore_n (lv' := [(3, .int v2), (0, .ref x0), (1, .int x1), (2, .int x2)]) hC (by decide) rfl dX11_set_47 ?_
          refine zt_aload_n hC rfl dX11_set_48 ?_
          refine zt_gR hC h cl11 (k := 0) (by decide) rfl wd_227 (Or.inl rfl) dX11_set_49 (fun v3 h => ?_)
          refine zt_iload_n hC rfl dX11_set_52 ?_
          obtain ⟨hk, h⟩ := ck_some h
          obtain ⟨v4, M5, h6, h⟩ := bnd_some h
          refine zt_callV (z := yX10_takeSeats) (As := [.int x2]) (rest := []) (st1 := (.int v4 :: [])) hC 1 hk cl10 (fun l hl => c_X10_takeSeats N v3 x2 M (v4, M5) h6 l hl) rfl wd_350 wd_398 wd_348 wd_349 wd_2 hd_X10_takeSeats rfl ⟨⟨(Nat.le_of_ble_eq_true rfl), (Nat.le_of_ble_eq_true rfl)⟩, (Nat.le_of_ble_eq_true rfl), (Nat.le_of_ble_eq_true rfl)⟩ rfl (Nat.le_of_ble_eq_true rfl) rfl dX11_set_53 ?_
          refine zt_if_eq (tgt := 63) hC h (by decide) dX11_set_56 (fun h => ?_) (fun h => ?_)
          · refine zt_bipush hC kb_m3 dX11_set_63 ?_
            obtain rfl := Option.some.inj h
            exact zt_iret hC rfl rfl (Nat.le_of_ble_eq_true rfl) (Nat.le_of_ble_eq_true rfl) dX11_set_65
          · refine zt_iload_n hC rfl dX11_set_59 ?_
            refine zt_goto (tgt := 65) hC (by decide) dX11_set_60 ?_
            obtain rfl := Option.some.inj h
            exact zt_iret hC rfl rfl (Nat.le_of_ble_eq_true rfl) (Nat.le_of_ble_eq_true rfl) dX11_set_65
        · refine zt_iconst hC ki_m1 dX11_set_38 ?_
          obtain rfl := Option.some.inj h
          exact zt_iret hC rfl rfl (Nat.le_of_ble_eq_true rfl) (Nat.le_of_ble_eq_true rfl) dX11_set_39
  · refine zt_aload_n hC rfl dX11_set_5 ?_
    refine zt_gR hC h cl11 (k := 0) (by decide) rfl wd_227 (Or.inl rfl) dX11_set_6 (fun v7 h => ?_)
    refine zt_gI hC h cl10 (k := 5) (by decide) rfl wd_117 (Or.inl rfl) dX11_set_9 (fun v8 h => ?_)
    refine zt_istore_n (lv' := [(3, .int v8), (0, .ref x0), (1, .int x1), (2, .int x2)]) hC (by decide) rfl dX11_set_12 ?_
    refine zt_aload_n hC rfl dX11_set_13 ?_
    refine zt_gR hC h cl11 (k := 0) (by decide) rfl wd_227 (Or.inl rfl) dX11_set_14 (fun v9 h => ?_)
    refine zt_iload_n hC rfl dX11_set_17 ?_
    refine zt_pI hC h cl10 (k := 5) (by decide) rfl wd_117 (Or.inl rfl) (Or.inl rfl) dX11_set_18 (fun M10 h => ?_)
    refine zt_iload_n hC rfl dX11_set_21 ?_
    obtain rfl := Option.some.inj h
    exact zt_iret hC rfl rfl (Nat.le_of_ble_eq_true rfl) (Nat.le_of_ble_eq_true rfl) dX11_set_22
def rm_X11_refuseRule : Room := { frames := 2, cells := 0, slots := 0, locals := 40 }
theorem hd_X11_refuseRule : yX11_refuseRule.cls ≠ "java/lang/invoke/MethodHandle" ∧ yX11_refuseRule.cls ≠ "java/lang/invoke/VarHandle" ∧ (parseMethodDescriptor yX11_refuseRule.desc).map (fun d => d.parameters.length) = some 1 := by decide +kernel
def f_X11_refuseRule (N : Nat) (x0 : Nat) (x1 : Int32) (M : Mm) : Option (Int32 × Mm) :=
ck 11 M x0 (bnd (f_X11_shelfAt N x0 x1 M) (fun v1 M2 =>
(onn v1
(some ((-1 : Int32), M2))
(fun v1 =>
ck 7 M2 v1 (bnd (f_X7_isEmpty N v1 M2) (fun v4 M5 =>
(if v4 = 0 then
some ((-12 : Int32), M5)
else
some ((-11 : Int32), M5))))))))
set_option maxRecDepth 100000 in
set_option maxHeartbeats 4000000 in
theorem c_X11_refuseRule (N : Nat) (x0 : Nat) (x1 : Int32) (M : Mm) (r : (Int32 × Mm)) (h : f_X11_refuseRule N x0 x1 M = some r) (l : Launch) (hfl : l.flags = flags0) {G : Gl} : MT l G yX11_refuseRule cX11_refuseRule 3 (some .int) rm_X11_refuseRule [.ref x0, .int x1] M (some (.int r.1)) r.2 := by
  unfold f_X11_refuseRule at h
  refine zt_start hfl (lv := [(0, .ref x0), (1, .int x1)]) (by decide) (Nat.le_of_ble_eq_true rfl) rfl wd_410 (fun X hC _ => ?_)
  refine zt_aload_n hC rfl dX11_refuseRule_0 ?_
  refine zt_iload_n hC rfl dX11_refuseRule_1 ?_
  obtain ⟨hk, h⟩ := ck_some h
  obtain ⟨v1, M2, h3, h⟩ := bnd_some h
  refine zt_callV (z := yX11_shelfAt) (As := [.int x1]) (rest := []) (st1 := (va_rf v1 :: [])) hC 1 hk cl11 (fun l hl => c_X11_shelfAt N x0 x1 M (v1, M2) h3 l hl) rfl wd_263 wd_260 wd_262 ws_1 wd_1 hd_X11_shelfAt rfl ⟨⟨(Nat.le_of_ble_eq_true rfl), (Nat.le_of_ble_eq_true rfl)⟩, (Nat.le_of_ble_eq_true rfl), (Nat.le_of_ble_eq_true rfl)⟩ rfl (Nat.le_of_ble_eq_true rfl) rfl dX11_refuseRule_2 ?_
  rcases onn_some h with ⟨ew, hw⟩ | ⟨qq, ew, hw⟩
  · clear h
    subst ew
    have h := hw
    clear hw
    refine zt_astore_nN (lv' := [(2, .null), (0, .ref x0), (1, .int x1)]) hC (by decide) rfl dX11_refuseRule_5 ?_
    refine zt_aload_nN hC rfl dX11_refuseRule_6 ?_
    refine zt_ifnonnullN hC dX11_refuseRule_7 ?_
    refine zt_iconst hC ki_m1 dX11_refuseRule_10 ?_
    obtain rfl := Option.some.inj h
    exact zt_iret hC rfl rfl (Nat.le_of_ble_eq_true rfl) (Nat.le_of_ble_eq_true rfl) dX11_refuseRule_11
  · clear h
    subst ew
    have h := hw
    clear hw
    obtain ⟨v1, ev⟩ : ∃ q, q = qq := ⟨_, rfl⟩
    subst ev
    refine zt_astore_n (lv' := [(2, .ref v1), (0, .ref x0), (1, .int x1)]) hC (by decide) rfl dX11_refuseRule_5 ?_
    refine zt_aload_n hC rfl dX11_refuseRule_6 ?_
    refine zt_ifnonnull (tgt := 12) hC (by decide) dX11_refuseRule_7 ?_
    refine zt_aload_n hC rfl dX11_refuseRule_12 ?_
    obtain ⟨hk, h⟩ := ck_some h
    obtain ⟨v4, M5, h6, h⟩ := bnd_some h
    refine zt_callV (z := yX7_isEmpty) (As := []) (rest := []) (st1 := (.int v4 :: [])) hC 0 hk cl7 (fun l hl => c_X7_isEmpty N v1 M2 (v4, M5) h6 l hl) rfl wd_267 wd_264 wd_265 wd_266 wd_6 hd_X7_isEmpty rfl ⟨⟨(Nat.le_of_ble_eq_true rfl), (Nat.le_of_ble_eq_true rfl)⟩, (Nat.le_of_ble_eq_true rfl), (Nat.le_of_ble_eq_true rfl)⟩ rfl (Nat.le_of_ble_eq_true rfl) rfl dX11_refuseRule_13 ?_
    refine zt_if_eq (tgt := 24) hC h (by decide) dX11_refuseRule_16 (fun h => ?_) (fun h => ?_)
    · refine zt_bipush hC kb_m12 dX11_refuseRule_24 ?_
      obtain rfl := Option.some.inj h
      exact zt_iret hC rfl rfl (Nat.le_of_ble_eq_true rfl) (Nat.le_of_ble_eq_true rfl) dX11_refuseRule_26
    · refine zt_bipush hC kb_m11 dX11_refuseRule_19 ?_
      refine zt_goto (tgt := 26) hC (by decide) dX11_refuseRule_21 ?_
      obtain rfl := Option.some.inj h
      exact zt_iret hC rfl rfl (Nat.le_of_ble_eq_true rfl) (Nat.le_of_ble_eq_true rfl) dX11_refuseRule_26
def rm_X11_ruleAt : Room := { frames := 1, cells := 0, slots := 0, locals := 21 }
theorem hd_X11_ruleAt : yX11_ruleAt.cls ≠ "java/lang/invoke/MethodHandle" ∧ yX11_ruleAt.cls ≠ "java/lang/invoke/VarHandle" ∧ (parseMethodDescriptor yX11_ruleAt.desc).map (fun d => d.parameters.length) = some 1 := by decide +kernel
def f_X11_ruleAt (N : Nat) (x0 : Nat) (x1 : Int32) (M : Mm) : Option (Option Nat × Mm) :=
ck 11 M x0 (bnd (f_X11_shelfAt N x0 x1 M) (fun v1 M2 =>
(onn v1
(some (none, M2))
(fun v1 =>
(gN 7 M2 v1 0
(some (none, M2))
(fun v4 =>
some ((some v4), M2)))))))
set_option maxRecDepth 100000 in
set_option maxHeartbeats 4000000 in
theorem c_X11_ruleAt (N : Nat) (x0 : Nat) (x1 : Int32) (M : Mm) (r : (Option Nat × Mm)) (h : f_X11_ruleAt N x0 x1 M = some r) (l : Launch) (hfl : l.flags = flags0) {G : Gl} : MT l G yX11_ruleAt cX11_ruleAt 3 (some (.object "FerryBells$Rule")) rm_X11_ruleAt [.ref x0, .int x1] M (some (va_rf r.1)) r.2 := by
  unfold f_X11_ruleAt at h
  refine zt_start hfl (lv := [(0, .ref x0), (1, .int x1)]) (by decide) (Nat.le_of_ble_eq_true rfl) rfl wd_406 (fun X hC _ => ?_)
  refine zt_aload_n hC rfl dX11_ruleAt_0 ?_
  refine zt_iload_n hC rfl dX11_ruleAt_1 ?_
  obtain ⟨hk, h⟩ := ck_some h
  obtain ⟨v1, M2, h3, h⟩ := bnd_some h
  refine zt_callV (z := yX11_shelfAt) (As := [.int x1]) (rest := []) (st1 := (va_rf v1 :: [])) hC 1 hk cl11 (fun l hl => c_X11_shelfAt N x0 x1 M (v1, M2) h3 l hl) rfl wd_263 wd_260 wd_262 ws_1 wd_1 hd_X11_shelfAt rfl ⟨⟨(Nat.le_of_ble_eq_true rfl), (Nat.le_of_ble_eq_true rfl)⟩, (Nat.le_of_ble_eq_true rfl), (Nat.le_of_ble_eq_true rfl)⟩ rfl (Nat.le_of_ble_eq_true rfl) rfl dX11_ruleAt_2 ?_
  rcases onn_some h with ⟨ew, hw⟩ | ⟨qq, ew, hw⟩
  · clear h
    subst ew
    have h := hw
    clear hw
    refine zt_astore_nN (lv' := [(2, .null), (0, .ref x0), (1, .int x1)]) hC (by decide) rfl dX11_ruleAt_5 ?_
    refine zt_aload_nN hC rfl dX11_ruleAt_6 ?_
    refine zt_ifnonnullN hC dX11_ruleAt_7 ?_
    refine zt_null hC dX11_ruleAt_10 ?_
    refine zt_goto (tgt := 18) hC (by decide) dX11_ruleAt_11 ?_
    obtain rfl := Option.some.inj h
    exact zt_aret hC rfl rfl rfl (Nat.le_of_ble_eq_true rfl) (Nat.le_of_ble_eq_true rfl) dX11_ruleAt_18
  · clear h
    subst ew
    have h := hw
    clear hw
    obtain ⟨v1, ev⟩ : ∃ q, q = qq := ⟨_, rfl⟩
    subst ev
    refine zt_astore_n (lv' := [(2, .ref v1), (0, .ref x0), (1, .int x1)]) hC (by decide) rfl dX11_ruleAt_5 ?_
    refine zt_aload_n hC rfl dX11_ruleAt_6 ?_
    refine zt_ifnonnull (tgt := 14) hC (by decide) dX11_ruleAt_7 ?_
    refine zt_aload_n hC rfl dX11_ruleAt_14 ?_
    refine zt_gN hC h cl7 (k := 0) (by decide) rfl wd_211 (Or.inl rfl) dX11_ruleAt_15 (fun h => ?_) (fun v4 h => ?_)
    · obtain rfl := Option.some.inj h
      exact zt_aret hC rfl rfl rfl (Nat.le_of_ble_eq_true rfl) (Nat.le_of_ble_eq_true rfl) dX11_ruleAt_18
    · obtain rfl := Option.some.inj h
      exact zt_aret hC rfl rfl rfl (Nat.le_of_ble_eq_true rfl) (Nat.le_of_ble_eq_true rfl) dX11_ruleAt_18
def d_Rule_kind (N : Nat) (a : Nat) (M : Mm) : Option (Int32 × Mm) := (if (M.1 a).1 = 6 + 4 then f_X6_kind N a M else (if (M.1 a).1 = 0 + 4 then f_X0_kind N a M else (if (M.1 a).1 = 2 + 4 then f_X2_kind N a M else (if (M.1 a).1 = 3 + 4 then f_X3_kind N a M else (if (M.1 a).1 = 4 + 4 then f_X4_kind N a M else (if (M.1 a).1 = 8 + 4 then f_X8_kind N a M else (if (M.1 a).1 = 9 + 4 then f_X9_kind N a M else none)))))))
theorem d_Rule_kind_some {N : Nat} {a : Nat} {M : Mm} {r : Int32 × Mm} (h : d_Rule_kind N a M = some r) : ((M.1 a).1 = 6 + 4 ∧ f_X6_kind N a M = some r) ∨ ((M.1 a).1 = 0 + 4 ∧ f_X0_kind N a M = some r) ∨ ((M.1 a).1 = 2 + 4 ∧ f_X2_kind N a M = some r) ∨ ((M.1 a).1 = 3 + 4 ∧ f_X3_kind N a M = some r) ∨ ((M.1 a).1 = 4 + 4 ∧ f_X4_kind N a M = some r) ∨ ((M.1 a).1 = 8 + 4 ∧ f_X8_kind N a M = some r) ∨ ((M.1 a).1 = 9 + 4 ∧ f_X9_kind N a M = some r) := by
  unfold d_Rule_kind at h
  rcases ite_or h with ⟨c, h⟩ | ⟨c, h⟩
  · exact Or.inl ⟨c, h⟩
  · clear c
    rcases ite_or h with ⟨c, h⟩ | ⟨c, h⟩
    · exact Or.inr (Or.inl ⟨c, h⟩)
    · clear c
      rcases ite_or h with ⟨c, h⟩ | ⟨c, h⟩
      · exact Or.inr (Or.inr (Or.inl ⟨c, h⟩))
      · clear c
        rcases ite_or h with ⟨c, h⟩ | ⟨c, h⟩
        · exact Or.inr (Or.inr (Or.inr (Or.inl ⟨c, h⟩)))
        · clear c
          rcases ite_or h with ⟨c, h⟩ | ⟨c, h⟩
          · exact Or.inr (Or.inr (Or.inr (Or.inr (Or.inl ⟨c, h⟩))))
          · clear c
            rcases ite_or h with ⟨c, h⟩ | ⟨c, h⟩
            · exact Or.inr (Or.inr (Or.inr (Or.inr (Or.inr (Or.inl ⟨c, h⟩)))))
            · clear c
              rcases ite_or h with ⟨c, h⟩ | ⟨c, h⟩
              · exact Or.inr (Or.inr (Or.inr (Or.inr (Or.inr (Or.inr (⟨c, h⟩))))))
              · cases h
theorem hdo_d_Rule_kind : ("FerryBells$Rule" : String) ≠ "java/lang/invoke/MethodHandle" ∧ ("FerryBells$Rule" : String) ≠ "java/lang/invoke/VarHandle" ∧ (parseMethodDescriptor "()I").map (fun d => d.parameters.length) = some 0 := by decide +kernel
def rm_X11_rule : Room := { frames := 3, cells := 0, slots := 0, locals := 62 }
theorem hd_X11_rule : yX11_rule.cls ≠ "java/lang/invoke/MethodHandle" ∧ yX11_rule.cls ≠ "java/lang/invoke/VarHandle" ∧ (parseMethodDescriptor yX11_rule.desc).map (fun d => d.parameters.length) = some 1 := by decide +kernel
def f_X11_rule (N : Nat) (x0 : Nat) (x1 : Int32) (M : Mm) : Option (Int32 × Mm) :=
ck 11 M x0 (bnd (f_X11_ruleAt N x0 x1 M) (fun v1 M2 =>
(onn v1
(ck 11 M2 x0 (bnd (f_X11_refuseRule N x0 x1 M2) (fun v4 M5 =>
some (v4, M5))))
(fun v1 =>
gR 11 M2 x0 0 (fun v7 =>
gR 10 M2 v7 7 (fun v8 =>
pR 1 M2 v8 4 (some v1) (fun M9 =>
bnd (d_Rule_kind N v1 M9) (fun v10 M11 =>
some (v10, M11)))))))))
set_option maxRecDepth 100000 in
set_option maxHeartbeats 4000000 in
theorem c_X11_rule (N : Nat) (x0 : Nat) (x1 : Int32) (M : Mm) (r : (Int32 × Mm)) (h : f_X11_rule N x0 x1 M = some r) (l : Launch) (hfl : l.flags = flags0) {G : Gl} : MT l G yX11_rule cX11_rule 3 (some .int) rm_X11_rule [.ref x0, .int x1] M (some (.int r.1)) r.2 := by
  unfold f_X11_rule at h
  refine zt_start hfl (lv := [(0, .ref x0), (1, .int x1)]) (by decide) (Nat.le_of_ble_eq_true rfl) rfl wd_402 (fun X hC _ => ?_)
  refine zt_aload_n hC rfl dX11_rule_0 ?_
  refine zt_iload_n hC rfl dX11_rule_1 ?_
  obtain ⟨hk, h⟩ := ck_some h
  obtain ⟨v1, M2, h3, h⟩ := bnd_some h
  refine zt_callV (z := yX11_ruleAt) (As := [.int x1]) (rest := []) (st1 := (va_rf v1 :: [])) hC 1 hk cl11 (fun l hl => c_X11_ruleAt N x0 x1 M (v1, M2) h3 l hl) rfl wd_406 wd_403 wd_405 ws_8 wd_1 hd_X11_ruleAt rfl ⟨⟨(Nat.le_of_ble_eq_true rfl), (Nat.le_of_ble_eq_true rfl)⟩, (Nat.le_of_ble_eq_true rfl), (Nat.le_of_ble_eq_true rfl)⟩ rfl (Nat.le_of_ble_eq_true rfl) rfl dX11_rule_2 ?_
  rcases onn_some h with ⟨ew, hw⟩ | ⟨qq, ew, hw⟩
  · clear h
    subst ew
    have h := hw
    clear hw
    refine zt_astore_nN (lv' := [(2, .null), (0, .ref x0), (1, .int x1)]) hC (by decide) rfl dX11_rule_5 ?_
    refine zt_aload_nN hC rfl dX11_rule_6 ?_
    refine zt_ifnonnullN hC dX11_rule_7 ?_
    refine zt_aload_n hC rfl dX11_rule_10 ?_
    refine zt_iload_n hC rfl dX11_rule_11 ?_
    obtain ⟨hk, h⟩ := ck_some h
    obtain ⟨v4, M5, h6, h⟩ := bnd_some h
    refine zt_callV (z := yX11_refuseRule) (As := [.int x1]) (rest := []) (st1 := (.int v4 :: [])) hC 1 hk cl11 (fun l hl => c_X11_refuseRule N x0 x1 M2 (v4, M5) h6 l hl) rfl wd_410 wd_407 wd_409 ws_9 wd_1 hd_X11_refuseRule rfl ⟨⟨(Nat.le_of_ble_eq_true rfl), (Nat.le_of_ble_eq_true rfl)⟩, (Nat.le_of_ble_eq_true rfl), (Nat.le_of_ble_eq_true rfl)⟩ rfl (Nat.le_of_ble_eq_true rfl) rfl dX11_rule_12 ?_
    obtain rfl := Option.some.inj h
    exact zt_iret hC rfl rfl (Nat.le_of_ble_eq_true rfl) (Nat.le_of_ble_eq_true rfl) dX11_rule_15
  · clear h
    subst ew
    have h := hw
    clear hw
    obtain ⟨v1, ev⟩ : ∃ q, q = qq := ⟨_, rfl⟩
    subst ev
    refine zt_astore_n (lv' := [(2, .ref v1), (0, .ref x0), (1, .int x1)]) hC (by decide) rfl dX11_rule_5 ?_
    refine zt_aload_n hC rfl dX11_rule_6 ?_
    refine zt_ifnonnull (tgt := 16) hC (by decide) dX11_rule_7 ?_
    refine zt_aload_n hC rfl dX11_rule_16 ?_
    refine zt_gR hC h cl11 (k := 0) (by decide) rfl wd_227 (Or.inl rfl) dX11_rule_17 (fun v7 h => ?_)
    refine zt_gR hC h cl10 (k := 7) (by decide) rfl wd_122 (Or.inl rfl) dX11_rule_20 (fun v8 h => ?_)
    refine zt_aload_n hC rfl dX11_rule_23 ?_
    refine zt_pR hC h rfl cl1 (k := 4) (by decide) rfl wd_89 (Or.inl rfl) (Or.inl rfl) dX11_rule_24 (fun M9 h => ?_)
    refine zt_aload_n hC rfl dX11_rule_27 ?_
    obtain ⟨v10, M11, h12, h⟩ := bnd_some h
    have kk : TW X G 3 (RQ X G (some (.int r.1)) r.2 rm_X11_rule) 0 0 M11 31 [(2, .ref v1), (0, .ref x0), (1, .int x1)] (.int v10 :: []) := by
      obtain rfl := Option.some.inj h
      exact zt_iret hC rfl rfl (Nat.le_of_ble_eq_true rfl) (Nat.le_of_ble_eq_true rfl) dX11_rule_31
    rcases d_Rule_kind_some h12 with ⟨hk, h12⟩ | ⟨hk, h12⟩ | ⟨hk, h12⟩ | ⟨hk, h12⟩ | ⟨hk, h12⟩ | ⟨hk, h12⟩ | ⟨hk, h12⟩
    · exact zt_callO (z := yX6_kind) (As := []) (rest := []) (st1 := (.int v10 :: [])) hC 0 hk cl6 (fun l hl => c_X6_kind N v1 M9 (v10, M11) h12 l hl) wd_433 wd_411 wd_414 wd_412 wd_433 wd_413 wd_412 wd_4 hdo_d_Rule_kind rfl ⟨⟨(Nat.le_of_ble_eq_true rfl), (Nat.le_of_ble_eq_true rfl)⟩, (Nat.le_of_ble_eq_true rfl), (Nat.le_of_ble_eq_true rfl)⟩ rfl (Nat.le_of_ble_eq_true rfl) rfl dX11_rule_28 kk
    · exact zt_callO (z := yX0_kind) (As := []) (rest := []) (st1 := (.int v10 :: [])) hC 0 hk cl0 (fun l hl => c_X0_kind N v1 M9 (v10, M11) h12 l hl) wd_417 wd_411 wd_414 wd_412 wd_433 wd_415 wd_416 wd_12 hdo_d_Rule_kind rfl ⟨⟨(Nat.le_of_ble_eq_true rfl), (Nat.le_of_ble_eq_true rfl)⟩, (Nat.le_of_ble_eq_true rfl), (Nat.le_of_ble_eq_true rfl)⟩ rfl (Nat.le_of_ble_eq_true rfl) rfl dX11_rule_28 kk
    · exact zt_callO (z := yX2_kind) (As := []) (rest := []) (st1 := (.int v10 :: [])) hC 0 hk cl2 (fun l hl => c_X2_kind N v1 M9 (v10, M11) h12 l hl) wd_420 wd_411 wd_414 wd_412 wd_433 wd_418 wd_419 wd_11 hdo_d_Rule_kind rfl ⟨⟨(Nat.le_of_ble_eq_true rfl), (Nat.le_of_ble_eq_true rfl)⟩, (Nat.le_of_ble_eq_true rfl), (Nat.le_of_ble_eq_true rfl)⟩ rfl (Nat.le_of_ble_eq_true rfl) rfl dX11_rule_28 kk
    · exact zt_callO (z := yX3_kind) (As := []) (rest := []) (st1 := (.int v10 :: [])) hC 0 hk cl3 (fun l hl => c_X3_kind N v1 M9 (v10, M11) h12 l hl) wd_423 wd_411 wd_414 wd_412 wd_433 wd_421 wd_422 wd_14 hdo_d_Rule_kind rfl ⟨⟨(Nat.le_of_ble_eq_true rfl), (Nat.le_of_ble_eq_true rfl)⟩, (Nat.le_of_ble_eq_true rfl), (Nat.le_of_ble_eq_true rfl)⟩ rfl (Nat.le_of_ble_eq_true rfl) rfl dX11_rule_28 kk
    · exact zt_callO (z := yX4_kind) (As := []) (rest := []) (st1 := (.int v10 :: [])) hC 0 hk cl4 (fun l hl => c_X4_kind N v1 M9 (v10, M11) h12 l hl) wd_426 wd_411 wd_414 wd_412 wd_433 wd_424 wd_425 wd_10 hdo_d_Rule_kind rfl ⟨⟨(Nat.le_of_ble_eq_true rfl), (Nat.le_of_ble_eq_true rfl)⟩, (Nat.le_of_ble_eq_true rfl), (Nat.le_of_ble_eq_true rfl)⟩ rfl (Nat.le_of_ble_eq_true rfl) rfl dX11_rule_28 kk
    · exact zt_callO (z := yX8_kind) (As := []) (rest := []) (st1 := (.int v10 :: [])) hC 0 hk cl8 (fun l hl => c_X8_kind N v1 M9 (v10, M11) h12 l hl) wd_429 wd_411 wd_414 wd_412 wd_433 wd_427 wd_428 wd_15 hdo_d_Rule_kind rfl ⟨⟨(Nat.le_of_ble_eq_true rfl), (Nat.le_of_ble_eq_true rfl)⟩, (Nat.le_of_ble_eq_true rfl), (Nat.le_of_ble_eq_true rfl)⟩ rfl (Nat.le_of_ble_eq_true rfl) rfl dX11_rule_28 kk
    · exact zt_callO (z := yX9_kind) (As := []) (rest := []) (st1 := (.int v10 :: [])) hC 0 hk cl9 (fun l hl => c_X9_kind N v1 M9 (v10, M11) h12 l hl) wd_432 wd_411 wd_414 wd_412 wd_433 wd_430 wd_431 wd_13 hdo_d_Rule_kind rfl ⟨⟨(Nat.le_of_ble_eq_true rfl), (Nat.le_of_ble_eq_true rfl)⟩, (Nat.le_of_ble_eq_true rfl), (Nat.le_of_ble_eq_true rfl)⟩ rfl (Nat.le_of_ble_eq_true rfl) rfl dX11_rule_28 kk
def rm_X11_go : Room := { frames := 6, cells := 0, slots := 0, locals := 136 }
theorem hd_X11_go : yX11_go.cls ≠ "java/lang/invoke/MethodHandle" ∧ yX11_go.cls ≠ "java/lang/invoke/VarHandle" ∧ (parseMethodDescriptor yX11_go.desc).map (fun d => d.parameters.length) = some 1 := by decide +kernel
def f_X11_go (N : Nat) (x0 : Nat) (x1 : Int32) (M : Mm) : Option (Int32 × Mm) :=
(if x1 < (1 : Int32) then
some ((-1 : Int32), M)
else
(if x1 ≤ (60 : Int32) then
gR 11 M x0 0 (fun v1 =>
gI 10 M v1 6 (fun v2 =>
(if (v2 + x1) ≤ (999 : Int32) then
gR 11 M x0 0 (fun v3 =>
ck 10 M v3 (bnd (f_X10_pass N v3 x1 M) (fun v4 M5 =>
gR 11 M5 x0 0 (fun v7 =>
gI 10 M5 v7 6 (fun v8 =>
some (v8, M5))))))
else
some ((-2 : Int32), M))))
else
some ((-1 : Int32), M)))
set_option maxRecDepth 100000 in
set_option maxHeartbeats 4000000 in
theorem c_X11_go (N : Nat) (x0 : Nat) (x1 : Int32) (M : Mm) (r : (Int32 × Mm)) (h : f_X11_go N x0 x1 M = some r) (l : Launch) (hfl : l.flags = flags0) {G : Gl} : MT l G yX11_go cX11_go 2 (some .int) rm_X11_go [.ref x0, .int x1] M (some (.int r.1)) r.2 := by
  unfold f_X11_go at h
  refine zt_start hfl (lv := [(0, .ref x0), (1, .int x1)]) (by decide) (Nat.le_of_ble_eq_true rfl) rfl wd_437 (fun X hC _ => ?_)
  refine zt_iload_n hC rfl dX11_go_0 ?_
  refine zt_iconst hC ki_1 dX11_go_1 ?_
  refine zt_icmp_lt (tgt := 11) hC h (by decide) dX11_go_2 (fun h => ?_) (fun h => ?_)
  · refine zt_iconst hC ki_m1 dX11_go_11 ?_
    obtain rfl := Option.some.inj h
    exact zt_iret hC rfl rfl (Nat.le_of_ble_eq_true rfl) (Nat.le_of_ble_eq_true rfl) dX11_go_12
  · refine zt_iload_n hC rfl dX11_go_5 ?_
    refine zt_bipush hC kb_60 dX11_go_6 ?_
    refine zt_icmp_le (tgt := 13) hC h (by decide) dX11_go_8 (fun h => ?_) (fun h => ?_)
    · refine zt_aload_n hC rfl dX11_go_13 ?_
      refine zt_gR hC h cl11 (k := 0) (by decide) rfl wd_227 (Or.inl rfl) dX11_go_14 (fun v1 h => ?_)
      refine zt_gI hC h cl10 (k := 6) (by decide) rfl wd_120 (Or.inl rfl) dX11_go_17 (fun v2 h => ?_)
      refine zt_iload_n hC rfl dX11_go_20 ?_
      refine zt_iadd hC dX11_go_21 ?_
      refine zt_sipush hC ks_999 dX11_go_22 ?_
      refine zt_icmp_le (tgt := 31) hC h (by decide) dX11_go_25 (fun h => ?_) (fun h => ?_)
      · refine zt_aload_n hC rfl dX11_go_31 ?_
        refine zt_gR hC h cl11 (k := 0) (by decide) rfl wd_227 (Or.inl rfl) dX11_go_32 (fun v3 h => ?_)
        refine zt_iload_n hC rfl dX11_go_35 ?_
        obtain ⟨hk, h⟩ := ck_some h
        obtain ⟨v4, M5, h6, h⟩ := bnd_some h
        refine zt_callV (z := yX10_pass) (As := [.int x1]) (rest := []) (st1 := []) hC 1 hk cl10 (fun l hl => c_X10_pass N v3 x1 M (v4, M5) h6 l hl) rfl wd_441 wd_438 wd_439 wd_440 wd_2 hd_X10_pass rfl ⟨⟨(Nat.le_of_ble_eq_true rfl), (Nat.le_of_ble_eq_true rfl)⟩, (Nat.le_of_ble_eq_true rfl), (Nat.le_of_ble_eq_true rfl)⟩ rfl (Nat.le_of_ble_eq_true rfl) rfl dX11_go_36 ?_
        refine zt_aload_n hC rfl dX11_go_39 ?_
        refine zt_gR hC h cl11 (k := 0) (by decide) rfl wd_227 (Or.inl rfl) dX11_go_40 (fun v7 h => ?_)
        refine zt_gI hC h cl10 (k := 6) (by decide) rfl wd_120 (Or.inl rfl) dX11_go_43 (fun v8 h => ?_)
        obtain rfl := Option.some.inj h
        exact zt_iret hC rfl rfl (Nat.le_of_ble_eq_true rfl) (Nat.le_of_ble_eq_true rfl) dX11_go_46
      · refine zt_bipush hC kb_m2 dX11_go_28 ?_
        obtain rfl := Option.some.inj h
        exact zt_iret hC rfl rfl (Nat.le_of_ble_eq_true rfl) (Nat.le_of_ble_eq_true rfl) dX11_go_30
    · refine zt_iconst hC ki_m1 dX11_go_11 ?_
      obtain rfl := Option.some.inj h
      exact zt_iret hC rfl rfl (Nat.le_of_ble_eq_true rfl) (Nat.le_of_ble_eq_true rfl) dX11_go_12
def rm_X11_tell : Room := { frames := 3, cells := 0, slots := 0, locals := 65 }
theorem hd_X11_tell : yX11_tell.cls ≠ "java/lang/invoke/MethodHandle" ∧ yX11_tell.cls ≠ "java/lang/invoke/VarHandle" ∧ (parseMethodDescriptor yX11_tell.desc).map (fun d => d.parameters.length) = some 1 := by decide +kernel
def f_X11_tell (N : Nat) (x0 : Nat) (x1 : Int32) (M : Mm) : Option (Int32 × Mm) :=
gR 11 M x0 0 (fun v1 =>
ck 10 M v1 (bnd (f_X10_hasLanding N v1 x1 M) (fun v2 M3 =>
(if v2 = 0 then
some ((-1 : Int32), M3)
else
gR 11 M3 x0 0 (fun v5 =>
gR 10 M3 v5 7 (fun v6 =>
gI 1 M3 v6 1 (fun v7 =>
(if 0 < v7 then
some ((-3 : Int32), M3)
else
gR 11 M3 x0 0 (fun v8 =>
gR 10 M3 v8 7 (fun v9 =>
gI 1 M3 v9 0 (fun v10 =>
(if v10 = x1 then
some ((-3 : Int32), M3)
else
gR 11 M3 x0 0 (fun v11 =>
gR 11 M3 x0 0 (fun v12 =>
gR 10 M3 v12 7 (fun v13 =>
ck 10 M3 v11 (bnd (f_X10_send N v11 v13 x1 M3) (fun v14 M15 =>
gR 11 M15 x0 0 (fun v17 =>
gR 10 M15 v17 7 (fun v18 =>
gI 1 M15 v18 1 (fun v19 =>
some (v19, M15)))))))))))))))))))))
set_option maxRecDepth 100000 in
set_option maxHeartbeats 4000000 in
theorem c_X11_tell (N : Nat) (x0 : Nat) (x1 : Int32) (M : Mm) (r : (Int32 × Mm)) (h : f_X11_tell N x0 x1 M = some r) (l : Launch) (hfl : l.flags = flags0) {G : Gl} : MT l G yX11_tell cX11_tell 2 (some .int) rm_X11_tell [.ref x0, .int x1] M (some (.int r.1)) r.2 := by
  unfold f_X11_tell at h
  refine zt_start hfl (lv := [(0, .ref x0), (1, .int x1)]) (by decide) (Nat.le_of_ble_eq_true rfl) rfl wd_550 (fun X hC _ => ?_)
  refine zt_aload_n hC rfl dX11_tell_0 ?_
  refine zt_gR hC h cl11 (k := 0) (by decide) rfl wd_227 (Or.inl rfl) dX11_tell_1 (fun v1 h => ?_)
  refine zt_iload_n hC rfl dX11_tell_4 ?_
  obtain ⟨hk, h⟩ := ck_some h
  obtain ⟨v2, M3, h4, h⟩ := bnd_some h
  refine zt_callV (z := yX10_hasLanding) (As := [.int x1]) (rest := []) (st1 := (.int v2 :: [])) hC 1 hk cl10 (fun l hl => c_X10_hasLanding N v1 x1 M (v2, M3) h4 l hl) rfl wd_358 wd_372 wd_356 wd_357 wd_2 hd_X10_hasLanding rfl ⟨⟨(Nat.le_of_ble_eq_true rfl), (Nat.le_of_ble_eq_true rfl)⟩, (Nat.le_of_ble_eq_true rfl), (Nat.le_of_ble_eq_true rfl)⟩ rfl (Nat.le_of_ble_eq_true rfl) rfl dX11_tell_5 ?_
  refine zt_if_ne (tgt := 13) hC h (by decide) dX11_tell_8 (fun h => ?_) (fun h => ?_)
  · refine zt_aload_n hC rfl dX11_tell_13 ?_
    refine zt_gR hC h cl11 (k := 0) (by decide) rfl wd_227 (Or.inl rfl) dX11_tell_14 (fun v5 h => ?_)
    refine zt_gR hC h cl10 (k := 7) (by decide) rfl wd_122 (Or.inl rfl) dX11_tell_17 (fun v6 h => ?_)
    refine zt_gI hC h cl1 (k := 1) (by decide) rfl wd_74 (Or.inl rfl) dX11_tell_20 (fun v7 h => ?_)
    refine zt_if_gt (tgt := 40) hC h (by decide) dX11_tell_23 (fun h => ?_) (fun h => ?_)
    · refine zt_bipush hC kb_m3 dX11_tell_40 ?_
      obtain rfl := Option.some.inj h
      exact zt_iret hC rfl rfl (Nat.le_of_ble_eq_true rfl) (Nat.le_of_ble_eq_true rfl) dX11_tell_42
    · refine zt_aload_n hC rfl dX11_tell_26 ?_
      refine zt_gR hC h cl11 (k := 0) (by decide) rfl wd_227 (Or.inl rfl) dX11_tell_27 (fun v8 h => ?_)
      refine zt_gR hC h cl10 (k := 7) (by decide) rfl wd_122 (Or.inl rfl) dX11_tell_30 (fun v9 h => ?_)
      refine zt_gI hC h cl1 (k := 0) (by decide) rfl wd_71 (Or.inl rfl) dX11_tell_33 (fun v10 h => ?_)
      refine zt_iload_n hC rfl dX11_tell_36 ?_
      refine zt_icmp_ne (tgt := 43) hC h (by decide) dX11_tell_37 (fun h => ?_) (fun h => ?_)
      · refine zt_aload_n hC rfl dX11_tell_43 ?_
        refine zt_gR hC h cl11 (k := 0) (by decide) rfl wd_227 (Or.inl rfl) dX11_tell_44 (fun v11 h => ?_)
        refine zt_aload_n hC rfl dX11_tell_47 ?_
        refine zt_gR hC h cl11 (k := 0) (by decide) rfl wd_227 (Or.inl rfl) dX11_tell_48 (fun v12 h => ?_)
        refine zt_gR hC h cl10 (k := 7) (by decide) rfl wd_122 (Or.inl rfl) dX11_tell_51 (fun v13 h => ?_)
        refine zt_iload_n hC rfl dX11_tell_54 ?_
        obtain ⟨hk, h⟩ := ck_some h
        obtain ⟨v14, M15, h16, h⟩ := bnd_some h
        refine zt_callV (z := yX10_send) (As := [.ref v13, .int x1]) (rest := []) (st1 := []) hC 2 hk cl10 (fun l hl => c_X10_send N v11 v13 x1 M3 (v14, M15) h16 l hl) rfl wd_537 wd_551 wd_535 wd_536 wd_2 hd_X10_send rfl ⟨⟨(Nat.le_of_ble_eq_true rfl), (Nat.le_of_ble_eq_true rfl)⟩, (Nat.le_of_ble_eq_true rfl), (Nat.le_of_ble_eq_true rfl)⟩ rfl (Nat.le_of_ble_eq_true rfl) rfl dX11_tell_55 ?_
        refine zt_aload_n hC rfl dX11_tell_58 ?_
        refine zt_gR hC h cl11 (k := 0) (by decide) rfl wd_227 (Or.inl rfl) dX11_tell_59 (fun v17 h => ?_)
        refine zt_gR hC h cl10 (k := 7) (by decide) rfl wd_122 (Or.inl rfl) dX11_tell_62 (fun v18 h => ?_)
        refine zt_gI hC h cl1 (k := 1) (by decide) rfl wd_74 (Or.inl rfl) dX11_tell_65 (fun v19 h => ?_)
        obtain rfl := Option.some.inj h
        exact zt_iret hC rfl rfl (Nat.le_of_ble_eq_true rfl) (Nat.le_of_ble_eq_true rfl) dX11_tell_68
      · refine zt_bipush hC kb_m3 dX11_tell_40 ?_
        obtain rfl := Option.some.inj h
        exact zt_iret hC rfl rfl (Nat.le_of_ble_eq_true rfl) (Nat.le_of_ble_eq_true rfl) dX11_tell_42
  · refine zt_iconst hC ki_m1 dX11_tell_11 ?_
    obtain rfl := Option.some.inj h
    exact zt_iret hC rfl rfl (Nat.le_of_ble_eq_true rfl) (Nat.le_of_ble_eq_true rfl) dX11_tell_12
