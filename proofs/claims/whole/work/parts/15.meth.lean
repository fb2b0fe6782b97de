def rm_X11_put : Room := { frames := 3, cells := 0, slots := 0, locals := 63 }
theorem hd_X11_put : yX11_put.cls ≠ "java/lang/invoke/MethodHandle" ∧ yX11_put.cls ≠ "java/lang/invoke/VarHandle" ∧ (parseMethodDescriptor yX11_put.desc).map (fun d => d.parameters.length) = some 3 := by decide +kernel
def f_X11_put (N : Nat) (x0 : Nat) (x1 : Int32) (x2 : Int32) (x3 : Int32) (M : Mm) : Option (Int32 × Mm) :=
ck 11 M x0 (bnd (f_X11_refuseRow N x0 x1 (-1 : Int32) M) (fun v1 M2 =>
ck 11 M2 x0 (bnd (f_X11_shelfAt N x0 x1 M2) (fun v4 M5 =>
(onn v4
((if v1 = 0 then
some (v1, M5)
else
some (v1, M5)))
(fun v4 =>
(if v1 = 0 then
ck 7 M5 v4 (bnd (f_X7_write N v4 x2 x3 M5) (fun v7 M8 =>
(if v7 = 0 then
some ((-13 : Int32), M8)
else
some ((0 : Int32), M8))))
else
some (v1, M5))))))))
set_option maxRecDepth 100000 in
set_option maxHeartbeats 4000000 in
theorem c_X11_put (N : Nat) (x0 : Nat) (x1 : Int32) (x2 : Int32) (x3 : Int32) (M : Mm) (r : (Int32 × Mm)) (h : f_X11_put N x0 x1 x2 x3 M = some r) (l : Launch) (hfl : l.flags = flags0) {G : Gl} : MT l G yX11_put cX11_put 6 (some .int) rm_X11_put [.ref x0, .int x1, .int x2, .int x3] M (some (.int r.1)) r.2 := by
  unfold f_X11_put at h
  refine zt_start hfl (lv := [(0, .ref x0), (1, .int x1), (2, .int x2), (3, .int x3)]) (by decide) (Nat.le_of_ble_eq_true rfl) rfl wd_784 (fun X hC _ => ?_)
  refine zt_aload_n hC rfl dX11_put_0 ?_
  refine zt_iload_n hC rfl dX11_put_1 ?_
  refine zt_iconst hC ki_m1 dX11_put_2 ?_
  obtain ⟨hk, h⟩ := ck_some h
  obtain ⟨v1, M2, h3, h⟩ := bnd_some h
  refine zt_callV (z := yX11_refuseRow) (As := [.int x1, .int (-1 : Int32)]) (rest := []) (st1 := (.int v1 :: [])) hC 2 hk cl11 (fun l hl => c_X11_refuseRow N x0 x1 (-1 : Int32) M (v1, M2) h3 l hl) rfl wd_259 wd_256 wd_258 ws_0 wd_1 hd_X11_refuseRow rfl ⟨⟨(Nat.le_of_ble_eq_true rfl), (Nat.le_of_ble_eq_true rfl)⟩, (Nat.le_of_ble_eq_true rfl), (Nat.le_of_ble_eq_true rfl)⟩ rfl (Nat.le_of_ble_eq_true rfl) rfl dX11_put_3 ?_
  refine zt_istore (lv' := [(4, .int v1), (0, .ref x0), (1, .int x1), (2, .int x2), (3, .int x3)]) hC (by decide) rfl dX11_put_6 ?_
  refine zt_aload_n hC rfl dX11_put_8 ?_
  refine zt_iload_n hC rfl dX11_put_9 ?_
  obtain ⟨hk, h⟩ := ck_some h
  obtain ⟨v4, M5, h6, h⟩ := bnd_some h
  refine zt_callV (z := yX11_shelfAt) (As := [.int x1]) (rest := []) (st1 := (va_rf v4 :: [])) hC 1 hk cl11 (fun l hl => c_X11_shelfAt N x0 x1 M2 (v4, M5) h6 l hl) rfl wd_263 wd_260 wd_262 ws_1 wd_1 hd_X11_shelfAt rfl ⟨⟨(Nat.le_of_ble_eq_true rfl), (Nat.le_of_ble_eq_true rfl)⟩, (Nat.le_of_ble_eq_true rfl), (Nat.le_of_ble_eq_true rfl)⟩ rfl (Nat.le_of_ble_eq_true rfl) rfl dX11_put_10 ?_
  rcases onn_some h with ⟨ew, hw⟩ | ⟨qq, ew, hw⟩
  · clear h
    subst ew
    have h := hw
    clear hw
    refine zt_astoreN (lv' := [(5, .null), (4, .int v1), (0, .ref x0), (1, .int x1), (2, .int x2), (3, .int x3)]) hC (by decide) rfl dX11_put_13 ?_
    refine zt_iload hC rfl dX11_put_15 ?_
    refine zt_if_ne (tgt := 25) hC h (by decide) dX11_put_17 (fun h => ?_) (fun h => ?_)
    · refine zt_iload hC rfl dX11_put_25 ?_
      obtain rfl := Option.some.inj h
      exact zt_iret hC rfl rfl (Nat.le_of_ble_eq_true rfl) (Nat.le_of_ble_eq_true rfl) dX11_put_27
    · refine zt_aloadN hC rfl dX11_put_20 ?_
      refine zt_ifnonnullN hC dX11_put_22 ?_
      refine zt_iload hC rfl dX11_put_25 ?_
      obtain rfl := Option.some.inj h
      exact zt_iret hC rfl rfl (Nat.le_of_ble_eq_true rfl) (Nat.le_of_ble_eq_true rfl) dX11_put_27
  · clear h
    subst ew
    have h := hw
    clear hw
    obtain ⟨v4, ev⟩ : ∃ q, q = qq := ⟨_, rfl⟩
    subst ev
    refine zt_astore (lv' := [(5, .ref v4), (4, .int v1), (0, .ref x0), (1, .int x1), (2, .int x2), (3, .int x3)]) hC (by decide) rfl dX11_put_13 ?_
    refine zt_iload hC rfl dX11_put_15 ?_
    refine zt_if_ne (tgt := 25) hC h (by decide) dX11_put_17 (fun h => ?_) (fun h => ?_)
    · refine zt_iload hC rfl dX11_put_25 ?_
      obtain rfl := Option.some.inj h
      exact zt_iret hC rfl rfl (Nat.le_of_ble_eq_true rfl) (Nat.le_of_ble_eq_true rfl) dX11_put_27
    · refine zt_aload hC rfl dX11_put_20 ?_
      refine zt_ifnonnull (tgt := 28) hC (by decide) dX11_put_22 ?_
      refine zt_aload hC rfl dX11_put_28 ?_
      refine zt_iload_n hC rfl dX11_put_30 ?_
      refine zt_iload_n hC rfl dX11_put_31 ?_
      obtain ⟨hk, h⟩ := ck_some h
      obtain ⟨v7, M8, h9, h⟩ := bnd_some h
      refine zt_callV (z := yX7_write) (As := [.int x2, .int x3]) (rest := []) (st1 := (.int v7 :: [])) hC 2 hk cl7 (fun l hl => c_X7_write N v4 x2 x3 M5 (v7, M8) h9 l hl) rfl wd_788 wd_785 wd_786 wd_787 wd_6 hd_X7_write rfl ⟨⟨(Nat.le_of_ble_eq_true rfl), (Nat.le_of_ble_eq_true rfl)⟩, (Nat.le_of_ble_eq_true rfl), (Nat.le_of_ble_eq_true rfl)⟩ rfl (Nat.le_of_ble_eq_true rfl) rfl dX11_put_32 ?_
      refine zt_if_eq (tgt := 42) hC h (by decide) dX11_put_35 (fun h => ?_) (fun h => ?_)
      · refine zt_bipush hC kb_m13 dX11_put_42 ?_
        obtain rfl := Option.some.inj h
        exact zt_iret hC rfl rfl (Nat.le_of_ble_eq_true rfl) (Nat.le_of_ble_eq_true rfl) dX11_put_44
      · refine zt_iconst hC ki_0 dX11_put_38 ?_
        refine zt_goto (tgt := 44) hC (by decide) dX11_put_39 ?_
        obtain rfl := Option.some.inj h
        exact zt_iret hC rfl rfl (Nat.le_of_ble_eq_true rfl) (Nat.le_of_ble_eq_true rfl) dX11_put_44
def rm_X11_copy : Room := { frames := 2, cells := 0, slots := 0, locals := 80 }
theorem hd_X11_copy : yX11_copy.cls ≠ "java/lang/invoke/MethodHandle" ∧ yX11_copy.cls ≠ "java/lang/invoke/VarHandle" ∧ (parseMethodDescriptor yX11_copy.desc).map (fun d => d.parameters.length) = some 5 := by decide +kernel
def f_X11_copy (N : Nat) (x0 : Nat) (x1 : Int32) (x2 : Int32) (x3 : Int32) (x4 : Int32) (x5 : Int32) (M : Mm) : Option (Int32 × Mm) :=
ck 11 M x0 (bnd (f_X11_shelfAt N x0 x1 M) (fun v1 M2 =>
(onn v1
(ck 11 M2 x0 (bnd (f_X11_shelfAt N x0 x3 M2) (fun v4 M5 =>
(onn v4
(some ((-1 : Int32), M5))
(fun v4 =>
some ((-1 : Int32), M5))))))
(fun v1 =>
ck 11 M2 x0 (bnd (f_X11_shelfAt N x0 x3 M2) (fun v7 M8 =>
(onn v7
(some ((-1 : Int32), M8))
(fun v7 =>
ck 7 M8 v1 (bnd (f_X7_isEmpty N v1 M8) (fun v10 M11 =>
(if v10 = 0 then
ck 7 M11 v7 (bnd (f_X7_isEmpty N v7 M11) (fun v13 M14 =>
(if v13 = 0 then
ck 7 M14 v1 (bnd (f_X7_hasRow N v1 M14) (fun v16 M17 =>
(if v16 = 0 then
some ((-12 : Int32), M17)
else
gI 7 M17 v1 1 (fun v19 =>
gI 7 M17 v7 1 (fun v20 =>
(if v19 = v20 then
ck 7 M17 v1 (bnd (f_X7_hasPlaces N v1 x2 x5 M17) (fun v21 M22 =>
(if v21 = 0 then
some ((-13 : Int32), M22)
else
ck 7 M22 v7 (bnd (f_X7_hasPlaces N v7 x4 x5 M22) (fun v24 M25 =>
(if v24 = 0 then
some ((-13 : Int32), M25)
else
gR 7 M25 v1 3 (fun v27 =>
gR 7 M25 v7 3 (fun v28 =>
acp M25 v27 x2 v28 x4 x5 (fun M29 =>
some (x5, M29))))))))))
else
some ((-12 : Int32), M17)))))))
else
some ((-11 : Int32), M14))))
else
some ((-11 : Int32), M11))))))))))))
set_option maxRecDepth 100000 in
set_option maxHeartbeats 4000000 in
theorem c_X11_copy (N : Nat) (x0 : Nat) (x1 : Int32) (x2 : Int32) (x3 : Int32) (x4 : Int32) (x5 : Int32) (M : Mm) (r : (Int32 × Mm)) (h : f_X11_copy N x0 x1 x2 x3 x4 x5 M = some r) (l : Launch) (hfl : l.flags = flags0) {G : Gl} : MT l G yX11_copy cX11_copy 8 (some .int) rm_X11_copy [.ref x0, .int x1, .int x2, .int x3, .int x4, .int x5] M (some (.int r.1)) r.2 := by
  unfold f_X11_copy at h
  refine zt_start hfl (lv := [(0, .ref x0), (1, .int x1), (2, .int x2), (3, .int x3), (4, .int x4), (5, .int x5)]) (by decide) (Nat.le_of_ble_eq_true rfl) rfl wd_793 (fun X hC _ => ?_)
  refine zt_aload_n hC rfl dX11_copy_0 ?_
  refine zt_iload_n hC rfl dX11_copy_1 ?_
  obtain ⟨hk, h⟩ := ck_some h
  obtain ⟨v1, M2, h3, h⟩ := bnd_some h
  refine zt_callV (z := yX11_shelfAt) (As := [.int x1]) (rest := []) (st1 := (va_rf v1 :: [])) hC 1 hk cl11 (fun l hl => c_X11_shelfAt N x0 x1 M (v1, M2) h3 l hl) rfl wd_263 wd_260 wd_262 ws_1 wd_1 hd_X11_shelfAt rfl ⟨⟨(Nat.le_of_ble_eq_true rfl), (Nat.le_of_ble_eq_true rfl)⟩, (Nat.le_of_ble_eq_true rfl), (Nat.le_of_ble_eq_true rfl)⟩ rfl (Nat.le_of_ble_eq_true rfl) rfl dX11_copy_2 ?_
  rcases onn_some h with ⟨ew, hw⟩ | ⟨qq, ew, hw⟩
  · clear h
    subst ew
    have h := hw
    clear hw
    refine zt_astoreN (lv' := [(6, .null), (0, .ref x0), (1, .int x1), (2, .int x2), (3, .int x3), (4, .int x4), (5, .int x5)]) hC (by decide) rfl dX11_copy_5 ?_
    refine zt_aload_n hC rfl dX11_copy_7 ?_
    refine zt_iload_n hC rfl dX11_copy_8 ?_
    obtain ⟨hk, h⟩ := ck_some h
    obtain ⟨v4, M5, h6, h⟩ := bnd_some h
    refine zt_callV (z := yX11_shelfAt) (As := [.int x3]) (rest := []) (st1 := (va_rf v4 :: [])) hC 1 hk cl11 (fun l hl => c_X11_shelfAt N x0 x3 M2 (v4, M5) h6 l hl) rfl wd_263 wd_260 wd_262 ws_1 wd_1 hd_X11_shelfAt rfl ⟨⟨(Nat.le_of_ble_eq_true rfl), (Nat.le_of_ble_eq_true rfl)⟩, (Nat.le_of_ble_eq_true rfl), (Nat.le_of_ble_eq_true rfl)⟩ rfl (Nat.le_of_ble_eq_true rfl) rfl dX11_copy_9 ?_
    rcases onn_some h with ⟨ew, hw⟩ | ⟨qq, ew, hw⟩
    · clear h
      subst ew
      have h := hw
      clear hw
      refine zt_astoreN (lv' := [(7, .null), (6, .null), (0, .ref x0), (1, .int x1), (2, .int x2), (3, .int x3), (4, .int x4), (5, .int x5)]) hC (by decide) rfl dX11_copy_12 ?_
      refine zt_aloadN hC rfl dX11_copy_14 ?_
      refine zt_ifnullN (tgt := 24) hC (by decide) dX11_copy_16 ?_
      refine zt_iconst hC ki_m1 dX11_copy_24 ?_
      obtain rfl := Option.some.inj h
      exact zt_iret hC rfl rfl (Nat.le_of_ble_eq_true rfl) (Nat.le_of_ble_eq_true rfl) dX11_copy_25
    · clear h
      subst ew
      have h := hw
      clear hw
      obtain ⟨v4, ev⟩ : ∃ q, q = qq := ⟨_, rfl⟩
      subst ev
      refine zt_astore (lv' := [(7, .ref v4), (6, .null), (0, .ref x0), (1, .int x1), (2, .int x2), (3, .int x3), (4, .int x4), (5, .int x5)]) hC (by decide) rfl dX11_copy_12 ?_
      refine zt_aloadN hC rfl dX11_copy_14 ?_
      refine zt_ifnullN (tgt := 24) hC (by decide) dX11_copy_16 ?_
      refine zt_iconst hC ki_m1 dX11_copy_24 ?_
      obtain rfl := Option.some.inj h
      exact zt_iret hC rfl rfl (Nat.le_of_ble_eq_true rfl) (Nat.le_of_ble_eq_true rfl) dX11_copy_25
  · clear h
    subst ew
    have h := hw
    clear hw
    obtain ⟨v1, ev⟩ : ∃ q, q = qq := ⟨_, rfl⟩
    subst ev
    refine zt_astore (lv' := [(6, .ref v1), (0, .ref x0), (1, .int x1), (2, .int x2), (3, .int x3), (4, .int x4), (5, .int x5)]) hC (by decide) rfl dX11_copy_5 ?_
    refine zt_aload_n hC rfl dX11_copy_7 ?_
    refine zt_iload_n hC rfl dX11_copy_8 ?_
    obtain ⟨hk, h⟩ := ck_some h
    obtain ⟨v7, M8, h9, h⟩ := bnd_some h
    refine zt_callV (z := yX11_shelfAt) (As := [.int x3]) (rest := []) (st1 := (va_rf v7 :: [])) hC 1 hk cl11 (fun l hl => c_X11_shelfAt N x0 x3 M2 (v7, M8) h9 l hl) rfl wd_263 wd_260 wd_262 ws_1 wd_1 hd_X11_shelfAt rfl ⟨⟨(Nat.le_of_ble_eq_true rfl), (Nat.le_of_ble_eq_true rfl)⟩, (Nat.le_of_ble_eq_true rfl), (Nat.le_of_ble_eq_true rfl)⟩ rfl (Nat.le_of_ble_eq_true rfl) rfl dX11_copy_9 ?_
    rcases onn_some h with ⟨ew, hw⟩ | ⟨qq, ew, hw⟩
    · clear h
      subst ew
      have h := hw
      clear hw
      refine zt_astoreN (lv' := [(7, .null), (6, .ref v1), (0, .ref x0), (1, .int x1), (2, .int x2), (3, .int x3), (4, .int x4), (5, .int x5)]) hC (by decide) rfl dX11_copy_12 ?_
      refine zt_aload hC rfl dX11_copy_14 ?_
      refine zt_ifnull hC dX11_copy_16 ?_
      refine zt_aloadN hC rfl dX11_copy_19 ?_
      refine zt_ifnonnullN hC dX11_copy_21 ?_
      refine zt_iconst hC ki_m1 dX11_copy_24 ?_
      obtain rfl := Option.some.inj h
      exact zt_iret hC rfl rfl (Nat.le_of_ble_eq_true rfl) (Nat.le_of_ble_eq_true rfl) dX11_copy_25
    · clear h
      subst ew
      have h := hw
      clear hw
      obtain ⟨v7, ev⟩ : ∃ q, q = qq := ⟨_, rfl⟩
      subst ev
      refine zt_astore (lv' := [(7, .ref v7), (6, .ref v1), (0, .ref x0), (1, .int x1), (2, .int x2), (3, .int x3), (4, .int x4), (5, .int x5)]) hC (by decide) rfl dX11_copy_12 ?_
      refine zt_aload hC rfl dX11_copy_14 ?_
      refine zt_ifnull hC dX11_copy_16 ?_
      refine zt_aload hC rfl dX11_copy_19 ?_
      refine zt_ifnonnull (tgt := 26) hC (by decide) dX11_copy_21 ?_
      refine zt_aload hC rfl dX11_copy_26 ?_
      obtain ⟨hk, h⟩ := ck_some h
      obtain ⟨v10, M11, h12, h⟩ := bnd_some h
      refine zt_callV (z := yX7_isEmpty) (As := []) (rest := []) (st1 := (.int v10 :: [])) hC 0 hk cl7 (fun l hl => c_X7_isEmpty N v1 M8 (v10, M11) h12 l hl) rfl wd_267 wd_264 wd_265 wd_266 wd_6 hd_X7_isEmpty rfl ⟨⟨(Nat.le_of_ble_eq_true rfl), (Nat.le_of_ble_eq_true rfl)⟩, (Nat.le_of_ble_eq_true rfl), (Nat.le_of_ble_eq_true rfl)⟩ rfl (Nat.le_of_ble_eq_true rfl) rfl dX11_copy_28 ?_
      refine zt_if_ne (tgt := 42) hC h (by decide) dX11_copy_31 (fun h => ?_) (fun h => ?_)
      · refine zt_bipush hC kb_m11 dX11_copy_42 ?_
        obtain rfl := Option.some.inj h
        exact zt_iret hC rfl rfl (Nat.le_of_ble_eq_true rfl) (Nat.le_of_ble_eq_true rfl) dX11_copy_44
      · refine zt_aload hC rfl dX11_copy_34 ?_
        obtain ⟨hk, h⟩ := ck_some h
        obtain ⟨v13, M14, h15, h⟩ := bnd_some h
        refine zt_callV (z := yX7_isEmpty) (As := []) (rest := []) (st1 := (.int v13 :: [])) hC 0 hk cl7 (fun l hl => c_X7_isEmpty N v7 M11 (v13, M14) h15 l hl) rfl wd_267 wd_264 wd_265 wd_266 wd_6 hd_X7_isEmpty rfl ⟨⟨(Nat.le_of_ble_eq_true rfl), (Nat.le_of_ble_eq_true rfl)⟩, (Nat.le_of_ble_eq_true rfl), (Nat.le_of_ble_eq_true rfl)⟩ rfl (Nat.le_of_ble_eq_true rfl) rfl dX11_copy_36 ?_
        refine zt_if_eq (tgt := 45) hC h (by decide) dX11_copy_39 (fun h => ?_) (fun h => ?_)
        · refine zt_aload hC rfl dX11_copy_45 ?_
          obtain ⟨hk, h⟩ := ck_some h
          obtain ⟨v16, M17, h18, h⟩ := bnd_some h
          refine zt_callV (z := yX7_hasRow) (As := []) (rest := []) (st1 := (.int v16 :: [])) hC 0 hk cl7 (fun l hl => c_X7_hasRow N v1 M14 (v16, M17) h18 l hl) rfl wd_271 wd_272 wd_269 wd_270 wd_6 hd_X7_hasRow rfl ⟨⟨(Nat.le_of_ble_eq_true rfl), (Nat.le_of_ble_eq_true rfl)⟩, (Nat.le_of_ble_eq_true rfl), (Nat.le_of_ble_eq_true rfl)⟩ rfl (Nat.le_of_ble_eq_true rfl) rfl dX11_copy_47 ?_
          refine zt_if_eq (tgt := 66) hC h (by decide) dX11_copy_50 (fun h => ?_) (fun h => ?_)
          · refine zt_bipush hC kb_m12 dX11_copy_66 ?_
            obtain rfl := Option.some.inj h
            exact zt_iret hC rfl rfl (Nat.le_of_ble_eq_true rfl) (Nat.le_of_ble_eq_true rfl) dX11_copy_68
          · refine zt_aload hC rfl dX11_copy_53 ?_
            refine zt_gI hC h cl7 (k := 1) (by decide) rfl wd_213 (Or.inl rfl) dX11_copy_55 (fun v19 h => ?_)
            refine zt_aload hC rfl dX11_copy_58 ?_
            refine zt_gI hC h cl7 (k := 1) (by decide) rfl wd_213 (Or.inl rfl) dX11_copy_60 (fun v20 h => ?_)
            refine zt_icmp_eq (tgt := 69) hC h (by decide) dX11_copy_63 (fun h => ?_) (fun h => ?_)
            · refine zt_aload hC rfl dX11_copy_69 ?_
              refine zt_iload_n hC rfl dX11_copy_71 ?_
              refine zt_iload hC rfl dX11_copy_72 ?_
              obtain ⟨hk, h⟩ := ck_some h
              obtain ⟨v21, M22, h23, h⟩ := bnd_some h
              refine zt_callV (z := yX7_hasPlaces) (As := [.int x2, .int x5]) (rest := []) (st1 := (.int v21 :: [])) hC 2 hk cl7 (fun l hl => c_X7_hasPlaces N v1 x2 x5 M17 (v21, M22) h23 l hl) rfl wd_797 wd_794 wd_795 wd_796 wd_6 hd_X7_hasPlaces rfl ⟨⟨(Nat.le_of_ble_eq_true rfl), (Nat.le_of_ble_eq_true rfl)⟩, (Nat.le_of_ble_eq_true rfl), (Nat.le_of_ble_eq_true rfl)⟩ rfl (Nat.le_of_ble_eq_true rfl) rfl dX11_copy_74 ?_
              refine zt_if_eq (tgt := 92) hC h (by decide) dX11_copy_77 (fun h => ?_) (fun h => ?_)
              · refine zt_bipush hC kb_m13 dX11_copy_92 ?_
                obtain rfl := Option.some.inj h
                exact zt_iret hC rfl rfl (Nat.le_of_ble_eq_true rfl) (Nat.le_of_ble_eq_true rfl) dX11_copy_94
              · refine zt_aload hC rfl dX11_copy_80 ?_
                refine zt_iload hC rfl dX11_copy_82 ?_
                refine zt_iload hC rfl dX11_copy_84 ?_
                obtain ⟨hk, h⟩ := ck_some h
                obtain ⟨v24, M25, h26, h⟩ := bnd_some h
                refine zt_callV (z := yX7_hasPlaces) (As := [.int x4, .int x5]) (rest := []) (st1 := (.int v24 :: [])) hC 2 hk cl7 (fun l hl => c_X7_hasPlaces N v7 x4 x5 M22 (v24, M25) h26 l hl) rfl wd_797 wd_794 wd_795 wd_796 wd_6 hd_X7_hasPlaces rfl ⟨⟨(Nat.le_of_ble_eq_true rfl), (Nat.le_of_ble_eq_true rfl)⟩, (Nat.le_of_ble_eq_true rfl), (Nat.le_of_ble_eq_true rfl)⟩ rfl (Nat.le_of_ble_eq_true rfl) rfl dX11_copy_86 ?_
                refine zt_if_ne (tgt := 95) hC h (by decide) dX11_copy_89 (fun h => ?_) (fun h => ?_)
                · refine zt_aload hC rfl dX11_copy_95 ?_
                  refine zt_gR hC h cl7 (k := 3) (by decide) rfl wd_217 (Or.inl rfl) dX11_copy_97 (fun v27 h => ?_)
                  refine zt_iload_n hC rfl dX11_copy_100 ?_
                  refine zt_aload hC rfl dX11_copy_101 ?_
                  refine zt_gR hC h cl7 (k := 3) (by decide) rfl wd_217 (Or.inl rfl) dX11_copy_103 (fun v28 h => ?_)
                  refine zt_iload hC rfl dX11_copy_106 ?_
                  refine zt_iload hC rfl dX11_copy_108 ?_
                  refine zt_acp hC h wd_322 wd_324 wd_323 wd_9 (Nat.le_of_ble_eq_true rfl) (Nat.le_of_ble_eq_true rfl) dX11_copy_110 (fun M29 h => ?_)
                  refine zt_iload hC rfl dX11_copy_113 ?_
                  obtain rfl := Option.some.inj h
                  exact zt_iret hC rfl rfl (Nat.le_of_ble_eq_true rfl) (Nat.le_of_ble_eq_true rfl) dX11_copy_115
                · refine zt_bipush hC kb_m13 dX11_copy_92 ?_
                  obtain rfl := Option.some.inj h
                  exact zt_iret hC rfl rfl (Nat.le_of_ble_eq_true rfl) (Nat.le_of_ble_eq_true rfl) dX11_copy_94
            · refine zt_bipush hC kb_m12 dX11_copy_66 ?_
              obtain rfl := Option.some.inj h
              exact zt_iret hC rfl rfl (Nat.le_of_ble_eq_true rfl) (Nat.le_of_ble_eq_true rfl) dX11_copy_68
        · refine zt_bipush hC kb_m11 dX11_copy_42 ?_
          obtain rfl := Option.some.inj h
          exact zt_iret hC rfl rfl (Nat.le_of_ble_eq_true rfl) (Nat.le_of_ble_eq_true rfl) dX11_copy_44
def d_Rule_cost (N : Nat) (a : Nat) (M : Mm) : Option (Int32 × Mm) := (if (M.1 a).1 = 6 + 4 then f_X6_cost N a M else (if (M.1 a).1 = 0 + 4 then f_X0_cost N a M else (if (M.1 a).1 = 2 + 4 then f_X2_cost N a M else (if (M.1 a).1 = 3 + 4 then f_X3_cost N a M else (if (M.1 a).1 = 4 + 4 then f_X4_cost N a M else (if (M.1 a).1 = 8 + 4 then f_X8_cost N a M else (if (M.1 a).1 = 9 + 4 then f_X9_cost N a M else none)))))))
theorem d_Rule_cost_some {N : Nat} {a : Nat} {M : Mm} {r : Int32 × Mm} (h : d_Rule_cost N a M = some r) : ((M.1 a).1 = 6 + 4 ∧ f_X6_cost N a M = some r) ∨ ((M.1 a).1 = 0 + 4 ∧ f_X0_cost N a M = some r) ∨ ((M.1 a).1 = 2 + 4 ∧ f_X2_cost N a M = some r) ∨ ((M.1 a).1 = 3 + 4 ∧ f_X3_cost N a M = some r) ∨ ((M.1 a).1 = 4 + 4 ∧ f_X4_cost N a M = some r) ∨ ((M.1 a).1 = 8 + 4 ∧ f_X8_cost N a M = some r) ∨ ((M.1 a).1 = 9 + 4 ∧ f_X9_cost N a M = some r) := by
  unfold d_Rule_cost at h
  rcases ite_or h with ⟨c, h⟩ | ⟨c, h⟩
  · exact Or.inl ⟨c, h⟩
  · clear c
    rcases ite_or h with ⟨c, h⟩ | ⟨c, h⟩
    · exact Or.inr (Or.inl ⟨c, h⟩)
    · clear c
      rcases ite_or h with ⟨c, h⟩ | ⟨c, h⟩
      · exact Or.inr (Or.inr (Or.inl ⟨c, h⟩))
      · clear c
        rcases ite_or h with ⟨c, h⟩ | ⟨c, h⟩
        · exact Or.inr (Or.inr (Or.inr (Or.inl ⟨c, h⟩)))
        · clear c
          rcases ite_or h with ⟨c, h⟩ | ⟨c, h⟩
          · exact Or.inr (Or.inr (Or.inr (Or.inr (Or.inl ⟨c, h⟩))))
          · clear c
            rcases ite_or h with ⟨c, h⟩ | ⟨c, h⟩
            · exact Or.inr (Or.inr (Or.inr (Or.inr (Or.inr (Or.inl ⟨c, h⟩)))))
            · clear c
              rcases ite_or h with ⟨c, h⟩ | ⟨c, h⟩
              · exact Or.inr (Or.inr (Or.inr (Or.inr (Or.inr (Or.inr (⟨c, h⟩))))))
              · cases h
theorem hdo_d_Rule_cost : ("FerryBells$Rule" : String) ≠ "java/lang/invoke/MethodHandle" ∧ ("FerryBells$Rule" : String) ≠ "java/lang/invoke/VarHandle" ∧ (parseMethodDescriptor "()I").map (fun d => d.parameters.length) = some 0 := by decide +kernel
def rm_X11_care : Room := { frames := 4, cells := 0, slots := 0, locals := 80 }
theorem hd_X11_care : yX11_care.cls ≠ "java/lang/invoke/MethodHandle" ∧ yX11_care.cls ≠ "java/lang/invoke/VarHandle" ∧ (parseMethodDescriptor yX11_care.desc).map (fun d => d.parameters.length) = some 1 := by decide +kernel
def f_X11_care (N : Nat) (x0 : Nat) (x1 : Int32) (M : Mm) : Option (Int32 × Mm) :=
ck 11 M x0 (bnd (f_X11_ruleAt N x0 x1 M) (fun v1 M2 =>
(onn v1
(ck 11 M2 x0 (bnd (f_X11_refuseRule N x0 x1 M2) (fun v4 M5 =>
some (((-1000000000 : Int32) + v4), M5))))
(fun v1 =>
bnd (d_Rule_cost N v1 M2) (fun v7 M8 =>
some (v7, M8))))))
set_option maxRecDepth 100000 in
set_option maxHeartbeats 4000000 in
theorem c_X11_care (N : Nat) (x0 : Nat) (x1 : Int32) (M : Mm) (r : (Int32 × Mm)) (h : f_X11_care N x0 x1 M = some r) (l : Launch) (hfl : l.flags = flags0) {G : Gl} : MT l G yX11_care cX11_care 3 (some .int) rm_X11_care [.ref x0, .int x1] M (some (.int r.1)) r.2 := by
  unfold f_X11_care at h
  refine zt_start hfl (lv := [(0, .ref x0), (1, .int x1)]) (by decide) (Nat.le_of_ble_eq_true rfl) rfl wd_801 (fun X hC _ => ?_)
  refine zt_aload_n hC rfl dX11_care_0 ?_
  refine zt_iload_n hC rfl dX11_care_1 ?_
  obtain ⟨hk, h⟩ := ck_some h
  obtain ⟨v1, M2, h3, h⟩ := bnd_some h
  refine zt_callV (z := yX11_ruleAt) (As := [.int x1]) (rest := []) (st1 := (va_rf v1 :: [])) hC 1 hk cl11 (fun l hl => c_X11_ruleAt N x0 x1 M (v1, M2) h3 l hl) rfl wd_406 wd_403 wd_405 ws_8 wd_1 hd_X11_ruleAt rfl ⟨⟨(Nat.le_of_ble_eq_true rfl), (Nat.le_of_ble_eq_true rfl)⟩, (Nat.le_of_ble_eq_true rfl), (Nat.le_of_ble_eq_true rfl)⟩ rfl (Nat.le_of_ble_eq_true rfl) rfl dX11_care_2 ?_
  rcases onn_some h with ⟨ew, hw⟩ | ⟨qq, ew, hw⟩
  · clear h
    subst ew
    have h := hw
    clear hw
    refine zt_astore_nN (lv' := [(2, .null), (0, .ref x0), (1, .int x1)]) hC (by decide) rfl dX11_care_5 ?_
    refine zt_aload_nN hC rfl dX11_care_6 ?_
    refine zt_ifnonnullN hC dX11_care_7 ?_
    refine zt_ldc hC wd_606 dX11_care_10 ?_
    refine zt_aload_n hC rfl dX11_care_12 ?_
    refine zt_iload_n hC rfl dX11_care_13 ?_
    obtain ⟨hk, h⟩ := ck_some h
    obtain ⟨v4, M5, h6, h⟩ := bnd_some h
    refine zt_callV (z := yX11_refuseRule) (As := [.int x1]) (rest := [.int (-1000000000 : Int32)]) (st1 := (.int v4 :: [.int (-1000000000 : Int32)])) hC 1 hk cl11 (fun l hl => c_X11_refuseRule N x0 x1 M2 (v4, M5) h6 l hl) rfl wd_410 wd_407 wd_409 ws_9 wd_1 hd_X11_refuseRule rfl ⟨⟨(Nat.le_of_ble_eq_true rfl), (Nat.le_of_ble_eq_true rfl)⟩, (Nat.le_of_ble_eq_true rfl), (Nat.le_of_ble_eq_true rfl)⟩ rfl (Nat.le_of_ble_eq_true rfl) rfl dX11_care_14 ?_
    refine zt_iadd hC dX11_care_17 ?_
    obtain rfl := Option.some.inj h
    exact zt_iret hC rfl rfl (Nat.le_of_ble_eq_true rfl) (Nat.le_of_ble_eq_true rfl) dX11_care_18
  · clear h
    subst ew
    have h := hw
    clear hw
    obtain ⟨v1, ev⟩ : ∃ q, q = qq := ⟨_, rfl⟩
    subst ev
    refine zt_astore_n (lv' := [(2, .ref v1), (0, .ref x0), (1, .int x1)]) hC (by decide) rfl dX11_care_5 ?_
    refine zt_aload_n hC rfl dX11_care_6 ?_
    refine zt_ifnonnull (tgt := 19) hC (by decide) dX11_care_7 ?_
    refine zt_aload_n hC rfl dX11_care_19 ?_
    obtain ⟨v7, M8, h9, h⟩ := bnd_some h
    have kk : TW X G 3 (RQ X G (some (.int r.1)) r.2 rm_X11_care) 0 0 M8 23 [(2, .ref v1), (0, .ref x0), (1, .int x1)] (.int v7 :: []) := by
      obtain rfl := Option.some.inj h
      exact zt_iret hC rfl rfl (Nat.le_of_ble_eq_true rfl) (Nat.le_of_ble_eq_true rfl) dX11_care_23
    rcases d_Rule_cost_some h9 with ⟨hk, h9⟩ | ⟨hk, h9⟩ | ⟨hk, h9⟩ | ⟨hk, h9⟩ | ⟨hk, h9⟩ | ⟨hk, h9⟩ | ⟨hk, h9⟩
    · exact zt_callO (z := yX6_cost) (As := []) (rest := []) (st1 := (.int v7 :: [])) hC 0 hk cl6 (fun l hl => c_X6_cost N v1 M2 (v7, M8) h9 l hl) wd_830 wd_802 wd_805 wd_803 wd_830 wd_804 wd_803 wd_4 hdo_d_Rule_cost rfl ⟨⟨(Nat.le_of_ble_eq_true rfl), (Nat.le_of_ble_eq_true rfl)⟩, (Nat.le_of_ble_eq_true rfl), (Nat.le_of_ble_eq_true rfl)⟩ rfl (Nat.le_of_ble_eq_true rfl) rfl dX11_care_20 kk
    · exact zt_callO (z := yX0_cost) (As := []) (rest := []) (st1 := (.int v7 :: [])) hC 0 hk cl0 (fun l hl => c_X0_cost N v1 M2 (v7, M8) h9 l hl) wd_808 wd_802 wd_805 wd_803 wd_830 wd_806 wd_807 wd_12 hdo_d_Rule_cost rfl ⟨⟨(Nat.le_of_ble_eq_true rfl), (Nat.le_of_ble_eq_true rfl)⟩, (Nat.le_of_ble_eq_true rfl), (Nat.le_of_ble_eq_true rfl)⟩ rfl (Nat.le_of_ble_eq_true rfl) rfl dX11_care_20 kk
    · exact zt_callO (z := yX2_cost) (As := []) (rest := []) (st1 := (.int v7 :: [])) hC 0 hk cl2 (fun l hl => c_X2_cost N v1 M2 (v7, M8) h9 l hl) wd_811 wd_802 wd_805 wd_803 wd_830 wd_816 wd_810 wd_11 hdo_d_Rule_cost rfl ⟨⟨(Nat.le_of_ble_eq_true rfl), (Nat.le_of_ble_eq_true rfl)⟩, (Nat.le_of_ble_eq_true rfl), (Nat.le_of_ble_eq_true rfl)⟩ rfl (Nat.le_of_ble_eq_true rfl) rfl dX11_care_20 kk
    · exact zt_callO (z := yX3_cost) (As := []) (rest := []) (st1 := (.int v7 :: [])) hC 0 hk cl3 (fun l hl => c_X3_cost N v1 M2 (v7, M8) h9 l hl) wd_819 wd_802 wd_805 wd_803 wd_830 wd_817 wd_818 wd_14 hdo_d_Rule_cost rfl ⟨⟨(Nat.le_of_ble_eq_true rfl), (Nat.le_of_ble_eq_true rfl)⟩, (Nat.le_of_ble_eq_true rfl), (Nat.le_of_ble_eq_true rfl)⟩ rfl (Nat.le_of_ble_eq_true rfl) rfl dX11_care_20 kk
    · exact zt_callO (z := yX4_cost) (As := []) (rest := []) (st1 := (.int v7 :: [])) hC 0 hk cl4 (fun l hl => c_X4_cost N v1 M2 (v7, M8) h9 l hl) wd_814 wd_802 wd_805 wd_803 wd_830 wd_821 wd_813 wd_10 hdo_d_Rule_cost rfl ⟨⟨(Nat.le_of_ble_eq_true rfl), (Nat.le_of_ble_eq_true rfl)⟩, (Nat.le_of_ble_eq_true rfl), (Nat.le_of_ble_eq_true rfl)⟩ rfl (Nat.le_of_ble_eq_true rfl) rfl dX11_care_20 kk
    · exact zt_callO (z := yX8_cost) (As := []) (rest := []) (st1 := (.int v7 :: [])) hC 0 hk cl8 (fun l hl => c_X8_cost N v1 M2 (v7, M8) h9 l hl) wd_824 wd_802 wd_805 wd_803 wd_830 wd_822 wd_823 wd_15 hdo_d_Rule_cost rfl ⟨⟨(Nat.le_of_ble_eq_true rfl), (Nat.le_of_ble_eq_true rfl)⟩, (Nat.le_of_ble_eq_true rfl), (Nat.le_of_ble_eq_true rfl)⟩ rfl (Nat.le_of_ble_eq_true rfl) rfl dX11_care_20 kk
    · exact zt_callO (z := yX9_cost) (As := []) (rest := []) (st1 := (.int v7 :: [])) hC 0 hk cl9 (fun l hl => c_X9_cost N v1 M2 (v7, M8) h9 l hl) wd_827 wd_802 wd_805 wd_803 wd_830 wd_829 wd_826 wd_13 hdo_d_Rule_cost rfl ⟨⟨(Nat.le_of_ble_eq_true rfl), (Nat.le_of_ble_eq_true rfl)⟩, (Nat.le_of_ble_eq_true rfl), (Nat.le_of_ble_eq_true rfl)⟩ rfl (Nat.le_of_ble_eq_true rfl) rfl dX11_care_20 kk
def rm_X12_sets : Room := { frames := 0, cells := 0, slots := 0, locals := 0 }
theorem hd_X12_sets : yX12_sets.cls ≠ "java/lang/invoke/MethodHandle" ∧ yX12_sets.cls ≠ "java/lang/invoke/VarHandle" ∧ (parseMethodDescriptor yX12_sets.desc).map (fun d => d.parameters.length) = some 4 := by decide +kernel
def f_X12_sets (N : Nat) (x0 : Nat) (x1 : Int32) (x2 : Int32) (x3 : Int32) (M : Mm) : Option (Unit × Mm) :=
ast M x0 (((50 : Int32) + ((12 : Int32) * x1)) + x2) x3 (fun M1 =>
some ((), M1))
set_option maxRecDepth 100000 in
set_option maxHeartbeats 4000000 in
theorem c_X12_sets (N : Nat) (x0 : Nat) (x1 : Int32) (x2 : Int32) (x3 : Int32) (M : Mm) (r : (Unit × Mm)) (h : f_X12_sets N x0 x1 x2 x3 M = some r) (l : Launch) (hfl : l.flags = flags0) {G : Gl} : MT l G yX12_sets cX12_sets 4 none rm_X12_sets [.ref x0, .int x1, .int x2, .int x3] M none r.2 := by
  unfold f_X12_sets at h
  refine zt_start hfl (lv := [(0, .ref x0), (1, .int x1), (2, .int x2), (3, .int x3)]) (by decide) (Nat.le_of_ble_eq_true rfl) rfl wd_990 (fun X hC _ => ?_)
  refine zt_aload_n hC rfl dX12_sets_0 ?_
  refine zt_bipush hC kb_50 dX12_sets_1 ?_
  refine zt_bipush hC kb_12 dX12_sets_3 ?_
  refine zt_iload_n hC rfl dX12_sets_5 ?_
  refine zt_imul hC dX12_sets_6 ?_
  refine zt_iadd hC dX12_sets_7 ?_
  refine zt_iload_n hC rfl dX12_sets_8 ?_
  refine zt_iadd hC dX12_sets_9 ?_
  refine zt_iload_n hC rfl dX12_sets_10 ?_
  refine zt_ast hC h dX12_sets_11 (fun M1 h => ?_)
  obtain rfl := Option.some.inj h
  exact zt_vret hC rfl rfl (Nat.le_of_ble_eq_true rfl) (Nat.le_of_ble_eq_true rfl) dX12_sets_12
def rm_X12_puts : Room := { frames := 1, cells := 0, slots := 0, locals := 23 }
theorem hd_X12_puts : yX12_puts.cls ≠ "java/lang/invoke/MethodHandle" ∧ yX12_puts.cls ≠ "java/lang/invoke/VarHandle" ∧ (parseMethodDescriptor yX12_puts.desc).map (fun d => d.parameters.length) = some 5 := by decide +kernel
def f_X12_puts (N : Nat) (x0 : Nat) (x1 : Int32) (x2 : Int32) (x3 : Int32) (x4 : Int32) (M : Mm) : Option (Unit × Mm) :=
bnd (f_X12_sets N x0 x1 (0 : Int32) x2 M) (fun v1 M2 =>
bnd (f_X12_sets N x0 x1 (1 : Int32) (-4 : Int32) M2) (fun v4 M5 =>
bnd (f_X12_sets N x0 x1 (2 : Int32) (0 : Int32) M5) (fun v7 M8 =>
bnd (f_X12_sets N x0 x1 (3 : Int32) (0 : Int32) M8) (fun v10 M11 =>
bnd (f_X12_sets N x0 x1 (4 : Int32) x3 M11) (fun v13 M14 =>
bnd (f_X12_sets N x0 x1 (5 : Int32) x4 M14) (fun v16 M17 =>
some ((), M17)))))))
set_option maxRecDepth 100000 in
set_option maxHeartbeats 4000000 in
theorem c_X12_puts (N : Nat) (x0 : Nat) (x1 : Int32) (x2 : Int32) (x3 : Int32) (x4 : Int32) (M : Mm) (r : (Unit × Mm)) (h : f_X12_puts N x0 x1 x2 x3 x4 M = some r) (l : Launch) (hfl : l.flags = flags0) {G : Gl} : MT l G yX12_puts cX12_puts 5 none rm_X12_puts [.ref x0, .int x1, .int x2, .int x3, .int x4] M none r.2 := by
  unfold f_X12_puts at h
  refine zt_start hfl (lv := [(0, .ref x0), (1, .int x1), (2, .int x2), (3, .int x3), (4, .int x4)]) (by decide) (Nat.le_of_ble_eq_true rfl) rfl wd_987 (fun X hC _ => ?_)
  refine zt_aload_n hC rfl dX12_puts_0 ?_
  refine zt_iload_n hC rfl dX12_puts_1 ?_
  refine zt_iconst hC ki_0 dX12_puts_2 ?_
  refine zt_iload_n hC rfl dX12_puts_3 ?_
  obtain ⟨v1, M2, h3, h⟩ := bnd_some h
  refine zt_callS (z := yX12_sets) (As := [.ref x0, .int x1, .int (0 : Int32), .int x2]) (rest := []) (st1 := []) hC 4 (fun l hl => c_X12_sets N x0 x1 (0 : Int32) x2 M (v1, M2) h3 l hl) rfl wd_990 wd_988 wd_989 wd_7 hd_X12_sets rfl ⟨⟨(Nat.le_of_ble_eq_true rfl), (Nat.le_of_ble_eq_true rfl)⟩, (Nat.le_of_ble_eq_true rfl), (Nat.le_of_ble_eq_true rfl)⟩ rfl (Nat.le_of_ble_eq_true rfl) rfl dX12_puts_4 ?_
  refine zt_aload_n hC rfl dX12_puts_7 ?_
  refine zt_iload_n hC rfl dX12_puts_8 ?_
  refine zt_iconst hC ki_1 dX12_puts_9 ?_
  refine zt_bipush hC kb_m4 dX12_puts_10 ?_
  obtain ⟨v4, M5, h6, h⟩ := bnd_some h
  refine zt_callS (z := yX12_sets) (As := [.ref x0, .int x1, .int (1 : Int32), .int (-4 : Int32)]) (rest := []) (st1 := []) hC 4 (fun l hl => c_X12_sets N x0 x1 (1 : Int32) (-4 : Int32) M2 (v4, M5) h6 l hl) rfl wd_990 wd_988 wd_989 wd_7 hd_X12_sets rfl ⟨⟨(Nat.le_of_ble_eq_true rfl), (Nat.le_of_ble_eq_true rfl)⟩, (Nat.le_of_ble_eq_true rfl), (Nat.le_of_ble_eq_true rfl)⟩ rfl (Nat.le_of_ble_eq_true rfl) rfl dX12_puts_12 ?_
  refine zt_aload_n hC rfl dX12_puts_15 ?_
  refine zt_iload_n hC rfl dX12_puts_16 ?_
  refine zt_iconst hC ki_2 dX12_puts_17 ?_
  refine zt_iconst hC ki_0 dX12_puts_18 ?_
  obtain ⟨v7, M8, h9, h⟩ := bnd_some h
  refine zt_callS (z := yX12_sets) (As := [.ref x0, .int x1, .int (2 : Int32), .int (0 : Int32)]) (rest := []) (st1 := []) hC 4 (fun l hl => c_X12_sets N x0 x1 (2 : Int32) (0 : Int32) M5 (v7, M8) h9 l hl) rfl wd_990 wd_988 wd_989 wd_7 hd_X12_sets rfl ⟨⟨(Nat.le_of_ble_eq_true rfl), (Nat.le_of_ble_eq_true rfl)⟩, (Nat.le_of_ble_eq_true rfl), (Nat.le_of_ble_eq_true rfl)⟩ rfl (Nat.le_of_ble_eq_true rfl) rfl dX12_puts_19 ?_
  refine zt_aload_n hC rfl dX12_puts_22 ?_
  refine zt_iload_n hC rfl dX12_puts_23 ?_
  refine zt_iconst hC ki_3 dX12_puts_24 ?_
  refine zt_iconst hC ki_0 dX12_puts_25 ?_
  obtain ⟨v10, M11, h12, h⟩ := bnd_some h
  refine zt_callS (z := yX12_sets) (As := [.ref x0, .int x1, .int (3 : Int32), .int (0 : Int32)]) (rest := []) (st1 := []) hC 4 (fun l hl => c_X12_sets N x0 x1 (3 : Int32) (0 : Int32) M8 (v10, M11) h12 l hl) rfl wd_990 wd_988 wd_989 wd_7 hd_X12_sets rfl ⟨⟨(Nat.le_of_ble_eq_true rfl), (Nat.le_of_ble_eq_true rfl)⟩, (Nat.le_of_ble_eq_true rfl), (Nat.le_of_ble_eq_true rfl)⟩ rfl (Nat.le_of_ble_eq_true rfl) rfl dX12_puts_26 ?_
  refine zt_aload_n hC rfl dX12_puts_29 ?_
  refine zt_iload_n hC rfl dX12_puts_30 ?_
  refine zt_iconst hC ki_4 dX12_puts_31 ?_
  refine zt_iload_n hC rfl dX12_puts_32 ?_
  obtain ⟨v13, M14, h15, h⟩ := bnd_some h
  refine zt_callS (z := yX12_sets) (As := [.ref x0, .int x1, .int (4 : Int32), .int x3]) (rest := []) (st1 := []) hC 4 (fun l hl => c_X12_sets N x0 x1 (4 : Int32) x3 M11 (v13, M14) h15 l hl) rfl wd_990 wd_988 wd_989 wd_7 hd_X12_sets rfl ⟨⟨(Nat.le_of_ble_eq_true rfl), (Nat.le_of_ble_eq_true rfl)⟩, (Nat.le_of_ble_eq_true rfl), (Nat.le_of_ble_eq_true rfl)⟩ rfl (Nat.le_of_ble_eq_true rfl) rfl dX12_puts_33 ?_
  refine zt_aload_n hC rfl dX12_puts_36 ?_
  refine zt_iload_n hC rfl dX12_puts_37 ?_
  refine zt_iconst hC ki_5 dX12_puts_38 ?_
  refine zt_iload hC rfl dX12_puts_39 ?_
  obtain ⟨v16, M17, h18, h⟩ := bnd_some h
  refine zt_callS (z := yX12_sets) (As := [.ref x0, .int x1, .int (5 : Int32), .int x4]) (rest := []) (st1 := []) hC 4 (fun l hl => c_X12_sets N x0 x1 (5 : Int32) x4 M14 (v16, M17) h18 l hl) rfl wd_990 wd_988 wd_989 wd_7 hd_X12_sets rfl ⟨⟨(Nat.le_of_ble_eq_true rfl), (Nat.le_of_ble_eq_true rfl)⟩, (Nat.le_of_ble_eq_true rfl), (Nat.le_of_ble_eq_true rfl)⟩ rfl (Nat.le_of_ble_eq_true rfl) rfl dX12_puts_41 ?_
  obtain rfl := Option.some.inj h
  exact zt_vret hC rfl rfl (Nat.le_of_ble_eq_true rfl) (Nat.le_of_ble_eq_true rfl) dX12_puts_44
def rm_X12_init : Room := { frames := 2, cells := 11, slots := 1541, locals := 47 }
theorem hd_X12_init : yX12_init.cls ≠ "java/lang/invoke/MethodHandle" ∧ yX12_init.cls ≠ "java/lang/invoke/VarHandle" ∧ (parseMethodDescriptor yX12_init.desc).map (fun d => d.parameters.length) = some 0 := by decide +kernel
def b_X12_init_126 (N : Nat) (k119 : Nat → Int32 → Nat → Nat → Mm → Option (Unit × Mm)) (k126 : Nat → Int32 → Int32 → Nat → Nat → Mm → Option (Unit × Mm)) (x0 : Nat) (x1 : Int32) (x2 : Int32) (gc gs : Nat) (M : Mm) : Option (Unit × Mm) :=
(if (4 : Int32) ≤ x2 then
k119 x0 (x1 + (1 : Int32)) gc gs M
else
gR 12 M x0 0 (fun v1 =>
ast M v1 (((9 : Int32) + ((4 : Int32) * x1)) + x2) (3 : Int32) (fun M2 =>
k126 x0 x1 (x2 + (1 : Int32)) gc gs M2)))
def l_X12_init_126 (N : Nat) (k119 : Nat → Int32 → Nat → Nat → Mm → Option (Unit × Mm)) : Nat → Nat → Int32 → Int32 → Nat → Nat → Mm → Option (Unit × Mm)
  | 0 => fun _ _ _ _ _ _ => none
  | n + 1 => b_X12_init_126 N k119 (l_X12_init_126 N k119 n)
set_option maxRecDepth 100000 in
set_option maxHeartbeats 4000000 in
theorem v_X12_init_126 {X : Cx} {G : Gl} {r : (Unit × Mm)} (N : Nat) (hC : CX X G yX12_init cX12_init 3 none rm_X12_init) (k119 : Nat → Int32 → Nat → Nat → Mm → Option (Unit × Mm)) (hk119 : ∀ (x0 : Nat) (x1 : Int32) (gc gs : Nat) (M : Mm), k119 x0 x1 gc gs M = some r → TW X G 3 (RQ X G none r.2 rm_X12_init) gc gs M 119 [(0, .ref x0), (1, .int x1)] []) (k126 : Nat → Int32 → Int32 → Nat → Nat → Mm → Option (Unit × Mm)) (hk126 : ∀ (x0 : Nat) (x1 : Int32) (x2 : Int32) (gc gs : Nat) (M : Mm), k126 x0 x1 x2 gc gs M = some r → TW X G 3 (RQ X G none r.2 rm_X12_init) gc gs M 126 [(0, .ref x0), (1, .int x1), (2, .int x2)] []) (x0 : Nat) (x1 : Int32) (x2 : Int32) (gc gs : Nat) (M : Mm) (h : b_X12_init_126 N k119 k126 x0 x1 x2 gc gs M = some r) : TW X G 3 (RQ X G none r.2 rm_X12_init) gc gs M 126 [(0, .ref x0), (1, .int x1), (2, .int x2)] [] := by
  unfold b_X12_init_126 at h
  refine zt_iload_n hC rfl dX12_init_126 ?_
  refine zt_iconst hC ki_4 dX12_init_127 ?_
  refine zt_icmp_ge (tgt := 151) hC h (by decide) dX12_init_128 (fun h => ?_) (fun h => ?_)
  · refine zt_iinc (v := (x1 + (1 : Int32))) (lv' := [(1, .int (x1 + (1 : Int32))), (0, .ref x0), (2, .int x2)]) hC rfl (by rw [ki_1]) (by decide) rfl dX12_init_151 ?_
    refine zt_goto (tgt := 119) hC (by decide) dX12_init_154 ?_
    refine zt_keep [0, 1] rfl ?_
    exact hk119 x0 (x1 + (1 : Int32)) gc gs M h
  · refine zt_aload_n hC rfl dX12_init_131 ?_
    refine zt_gR hC h cl12 (k := 0) (by decide) rfl wd_991 (Or.inl rfl) dX12_init_132 (fun v1 h => ?_)
    refine zt_bipush hC kb_9 dX12_init_135 ?_
    refine zt_iconst hC ki_4 dX12_init_137 ?_
    refine zt_iload_n hC rfl dX12_init_138 ?_
    refine zt_imul hC dX12_init_139 ?_
    refine zt_iadd hC dX12_init_140 ?_
    refine zt_iload_n hC rfl dX12_init_141 ?_
    refine zt_iadd hC dX12_init_142 ?_
    refine zt_iconst hC ki_3 dX12_init_143 ?_
    refine zt_ast hC h dX12_init_144 (fun M2 h => ?_)
    refine zt_iinc (v := (x2 + (1 : Int32))) (lv' := [(2, .int (x2 + (1 : Int32))), (0, .ref x0), (1, .int x1)]) hC rfl (by rw [ki_1]) (by decide) rfl dX12_init_145 ?_
    refine zt_goto (tgt := 126) hC (by decide) dX12_init_148 ?_
    refine zt_keep [0, 1, 2] rfl ?_
    exact hk126 x0 x1 (x2 + (1 : Int32)) gc gs M2 h
theorem w_X12_init_126 {X : Cx} {G : Gl} {r : (Unit × Mm)} (N : Nat) (hC : CX X G yX12_init cX12_init 3 none rm_X12_init) (k119 : Nat → Int32 → Nat → Nat → Mm → Option (Unit × Mm)) (hk119 : ∀ (x0 : Nat) (x1 : Int32) (gc gs : Nat) (M : Mm), k119 x0 x1 gc gs M = some r → TW X G 3 (RQ X G none r.2 rm_X12_init) gc gs M 119 [(0, .ref x0), (1, .int x1)] []) (n : Nat) : ∀ (x0 : Nat) (x1 : Int32) (x2 : Int32) (gc gs : Nat) (M : Mm), l_X12_init_126 N k119 n x0 x1 x2 gc gs M = some r → TW X G 3 (RQ X G none r.2 rm_X12_init) gc gs M 126 [(0, .ref x0), (1, .int x1), (2, .int x2)] [] := by
  induction n with
  | zero => intro  x0 x1 x2 gc gs M h; cases (show none = some r from h)
  | succ n ih => intro  x0 x1 x2 gc gs M h; exact v_X12_init_126 N hC k119 hk119 (l_X12_init_126 N k119 n) ih x0 x1 x2 gc gs M h
def b_X12_init_119 (N : Nat) (k119 : Nat → Int32 → Nat → Nat → Mm → Option (Unit × Mm)) (x0 : Nat) (x1 : Int32) (gc gs : Nat) (M : Mm) : Option (Unit × Mm) :=
(if (4 : Int32) ≤ x1 then
gR 12 M x0 0 (fun v1 =>
rq (gc + 0 ≤ 11 ∧ gs + 0 ≤ 1541) (bnd (f_X12_puts N v1 (0 : Int32) (0 : Int32) (0 : Int32) (0 : Int32) M) (fun v2 M3 =>
rq (gc ≤ 11 ∧ gs ≤ 1541) (some ((), M3)))))
else
l_X12_init_126 N k119 N x0 x1 (0 : Int32) gc gs M)
def l_X12_init_119 (N : Nat) : Nat → Nat → Int32 → Nat → Nat → Mm → Option (Unit × Mm)
  | 0 => fun _ _ _ _ _ => none
  | n + 1 => b_X12_init_119 N (l_X12_init_119 N n)
set_option maxRecDepth 100000 in
set_option maxHeartbeats 4000000 in
theorem v_X12_init_119 {X : Cx} {G : Gl} {r : (Unit × Mm)} (N : Nat) (hC : CX X G yX12_init cX12_init 3 none rm_X12_init) (k119 : Nat → Int32 → Nat → Nat → Mm → Option (Unit × Mm)) (hk119 : ∀ (x0 : Nat) (x1 : Int32) (gc gs : Nat) (M : Mm), k119 x0 x1 gc gs M = some r → TW X G 3 (RQ X G none r.2 rm_X12_init) gc gs M 119 [(0, .ref x0), (1, .int x1)] []) (x0 : Nat) (x1 : Int32) (gc gs : Nat) (M : Mm) (h : b_X12_init_119 N k119 x0 x1 gc gs M = some r) : TW X G 3 (RQ X G none r.2 rm_X12_init) gc gs M 119 [(0, .ref x0), (1, .int x1)] [] := by
  unfold b_X12_init_119 at h
  refine zt_iload_n hC rfl dX12_init_119 ?_
  refine zt_iconst hC ki_4 dX12_init_120 ?_
  refine zt_icmp_ge (tgt := 157) hC h (by decide) dX12_init_121 (fun h => ?_) (fun h => ?_)
  · refine zt_aload_n hC rfl dX12_init_157 ?_
    refine zt_gR hC h cl12 (k := 0) (by decide) rfl wd_991 (Or.inl rfl) dX12_init_158 (fun v1 h => ?_)
    refine zt_iconst hC ki_0 dX12_init_161 ?_
    refine zt_iconst hC ki_0 dX12_init_162 ?_
    refine zt_iconst hC ki_0 dX12_init_163 ?_
    refine zt_iconst hC ki_0 dX12_init_164 ?_
    obtain ⟨hg, h⟩ := rq_some h
    obtain ⟨v2, M3, h4, h⟩ := bnd_some h
    refine zt_callS (z := yX12_puts) (As := [.ref v1, .int (0 : Int32), .int (0 : Int32), .int (0 : Int32), .int (0 : Int32)]) (rest := []) (st1 := []) hC 5 (fun l hl => c_X12_puts N v1 (0 : Int32) (0 : Int32) (0 : Int32) (0 : Int32) M (v2, M3) h4 l hl) rfl wd_987 wd_985 wd_986 wd_7 hd_X12_puts rfl ⟨⟨(Nat.le_of_ble_eq_true rfl), (Nat.le_of_ble_eq_true rfl)⟩, hg.1, hg.2⟩ rfl (Nat.le_of_ble_eq_true rfl) rfl dX12_init_165 ?_
    obtain ⟨hg, h⟩ := rq_some h
    obtain rfl := Option.some.inj h
    exact zt_vret hC rfl rfl hg.1 hg.2 dX12_init_168
  · refine zt_iconst hC ki_0 dX12_init_124 ?_
    refine zt_istore_n (lv' := [(2, .int (0 : Int32)), (0, .ref x0), (1, .int x1)]) hC (by decide) rfl dX12_init_125 ?_
    refine zt_keep [0, 1, 2] rfl ?_
    exact w_X12_init_126 N hC k119 hk119 N x0 x1 (0 : Int32) gc gs M h
theorem w_X12_init_119 {X : Cx} {G : Gl} {r : (Unit × Mm)} (N : Nat) (hC : CX X G yX12_init cX12_init 3 none rm_X12_init) (n : Nat) : ∀ (x0 : Nat) (x1 : Int32) (gc gs : Nat) (M : Mm), l_X12_init_119 N n x0 x1 gc gs M = some r → TW X G 3 (RQ X G none r.2 rm_X12_init) gc gs M 119 [(0, .ref x0), (1, .int x1)] [] := by
  induction n with
  | zero => intro  x0 x1 gc gs M h; cases (show none = some r from h)
  | succ n ih => intro  x0 x1 gc gs M h; exact v_X12_init_119 N hC (l_X12_init_119 N n) ih x0 x1 gc gs M h
def f_X12_init (N : Nat) (x0 : Nat) (M : Mm) : Option (Unit × Mm) :=
nwo 1 174 M (fun a2 M1 =>
pR 12 M1 x0 0 (some a2) (fun M3 =>
nwo 1 174 M3 (fun a5 M4 =>
pR 12 M4 x0 1 (some a5) (fun M6 =>
nwo 1 174 M6 (fun a8 M7 =>
pR 12 M7 x0 2 (some a8) (fun M9 =>
nwo 1 174 M9 (fun a11 M10 =>
pR 12 M10 x0 3 (some a11) (fun M12 =>
nwo 1 8 M12 (fun a14 M13 =>
pR 12 M13 x0 4 (some a14) (fun M15 =>
nwo 1 8 M15 (fun a17 M16 =>
pR 12 M16 x0 5 (some a17) (fun M18 =>
nwo 1 8 M18 (fun a20 M19 =>
pR 12 M19 x0 6 (some a20) (fun M21 =>
nwo 1 800 M21 (fun a23 M22 =>
pR 12 M22 x0 7 (some a23) (fun M24 =>
nwo 1 8 M24 (fun a26 M25 =>
pR 12 M25 x0 8 (some a26) (fun M27 =>
nwo 1 8 M27 (fun a29 M28 =>
pR 12 M28 x0 9 (some a29) (fun M30 =>
nwo 1 5 M30 (fun a32 M31 =>
pR 12 M31 x0 16 (some a32) (fun M33 =>
gR 12 M33 x0 0 (fun v34 =>
ast M33 v34 (0 : Int32) (3 : Int32) (fun M35 =>
gR 12 M35 x0 0 (fun v36 =>
ast M35 v36 (2 : Int32) (3 : Int32) (fun M37 =>
gR 12 M37 x0 0 (fun v38 =>
ast M37 v38 (4 : Int32) (1 : Int32) (fun M39 =>
l_X12_init_119 N N x0 (0 : Int32) 11 1541 M39))))))))))))))))))))))))))))
set_option maxRecDepth 100000 in
set_option maxHeartbeats 4000000 in
theorem c_X12_init (N : Nat) (x0 : Nat) (M : Mm) (r : (Unit × Mm)) (h : f_X12_init N x0 M = some r) (l : Launch) (hfl : l.flags = flags0) {G : Gl} : MT l G yX12_init cX12_init 3 none rm_X12_init [.ref x0] M none r.2 := by
  unfold f_X12_init at h
  refine zt_start hfl (lv := [(0, .ref x0)]) (by decide) (Nat.le_of_ble_eq_true rfl) rfl wd_983 (fun X hC _ => ?_)
  refine zt_aload_n hC rfl dX12_init_0 ?_
  refine zt_objI (rest := []) hC wd_984 wd_28 wd_29 rfl (Nat.le_of_ble_eq_true rfl) (Nat.le_of_ble_eq_true rfl) dX12_init_1 ?_
  refine zt_aload_n hC rfl dX12_init_4 ?_
  refine zt_sipush hC ks_174 dX12_init_5 ?_
  refine zt_newao (N := 174) hC h wd_65 (by decide) (by decide) (by decide) (Nat.le_of_ble_eq_true rfl) (Nat.le_of_ble_eq_true rfl) dX12_init_8 (fun a2 M1 h => ?_)
  refine zt_pR hC h rfl cl12 (k := 0) (by decide) rfl wd_991 (Or.inl rfl) (Or.inr ⟨rfl, rfl, rfl⟩) dX12_init_10 (fun M3 h => ?_)
  refine zt_aload_n hC rfl dX12_init_13 ?_
  refine zt_sipush hC ks_174 dX12_init_14 ?_
  refine zt_newao (N := 174) hC h wd_65 (by decide) (by decide) (by decide) (Nat.le_of_ble_eq_true rfl) (Nat.le_of_ble_eq_true rfl) dX12_init_17 (fun a5 M4 h => ?_)
  refine zt_pR hC h rfl cl12 (k := 1) (by decide) rfl wd_992 (Or.inl rfl) (Or.inr ⟨rfl, rfl, rfl⟩) dX12_init_19 (fun M6 h => ?_)
  refine zt_aload_n hC rfl dX12_init_22 ?_
  refine zt_sipush hC ks_174 dX12_init_23 ?_
  refine zt_newao (N := 174) hC h wd_65 (by decide) (by decide) (by decide) (Nat.le_of_ble_eq_true rfl) (Nat.le_of_ble_eq_true rfl) dX12_init_26 (fun a8 M7 h => ?_)
  refine zt_pR hC h rfl cl12 (k := 2) (by decide) rfl wd_993 (Or.inl rfl) (Or.inr ⟨rfl, rfl, rfl⟩) dX12_init_28 (fun M9 h => ?_)
  refine zt_aload_n hC rfl dX12_init_31 ?_
  refine zt_sipush hC ks_174 dX12_init_32 ?_
  refine zt_newao (N := 174) hC h wd_65 (by decide) (by decide) (by decide) (Nat.le_of_ble_eq_true rfl) (Nat.le_of_ble_eq_true rfl) dX12_init_35 (fun a11 M10 h => ?_)
  refine zt_pR hC h rfl cl12 (k := 3) (by decide) rfl wd_994 (Or.inl rfl) (Or.inr ⟨rfl, rfl, rfl⟩) dX12_init_37 (fun M12 h => ?_)
  refine zt_aload_n hC rfl dX12_init_40 ?_
  refine zt_bipush hC kb_8 dX12_init_41 ?_
  refine zt_newao (N := 8) hC h wd_65 (by decide) (by decide) (by decide) (Nat.le_of_ble_eq_true rfl) (Nat.le_of_ble_eq_true rfl) dX12_init_43 (fun a14 M13 h => ?_)
  refine zt_pR hC h rfl cl12 (k := 4) (by decide) rfl wd_995 (Or.inl rfl) (Or.inr ⟨rfl, rfl, rfl⟩) dX12_init_45 (fun M15 h => ?_)
  refine zt_aload_n hC rfl dX12_init_48 ?_
  refine zt_bipush hC kb_8 dX12_init_49 ?_
  refine zt_newao (N := 8) hC h wd_65 (by decide) (by decide) (by decide) (Nat.le_of_ble_eq_true rfl) (Nat.le_of_ble_eq_true rfl) dX12_init_51 (fun a17 M16 h => ?_)
  refine zt_pR hC h rfl cl12 (k := 5) (by decide) rfl wd_996 (Or.inl rfl) (Or.inr ⟨rfl, rfl, rfl⟩) dX12_init_53 (fun M18 h => ?_)
  refine zt_aload_n hC rfl dX12_init_56 ?_
  refine zt_bipush hC kb_8 dX12_init_57 ?_
  refine zt_newao (N := 8) hC h wd_65 (by decide) (by decide) (by decide) (Nat.le_of_ble_eq_true rfl) (Nat.le_of_ble_eq_true rfl) dX12_init_59 (fun a20 M19 h => ?_)
  refine zt_pR hC h rfl cl12 (k := 6) (by decide) rfl wd_997 (Or.inl rfl) (Or.inr ⟨rfl, rfl, rfl⟩) dX12_init_61 (fun M21 h => ?_)
  refine zt_aload_n hC rfl dX12_init_64 ?_
  refine zt_sipush hC ks_800 dX12_init_65 ?_
  refine zt_newao (N := 800) hC h wd_65 (by decide) (by decide) (by decide) (Nat.le_of_ble_eq_true rfl) (Nat.le_of_ble_eq_true rfl) dX12_init_68 (fun a23 M22 h => ?_)
  refine zt_pR hC h rfl cl12 (k := 7) (by decide) rfl wd_998 (Or.inl rfl) (Or.inr ⟨rfl, rfl, rfl⟩) dX12_init_70 (fun M24 h => ?_)
  refine zt_aload_n hC rfl dX12_init_73 ?_
  refine zt_bipush hC kb_8 dX12_init_74 ?_
  refine zt_newao (N := 8) hC h wd_65 (by decide) (by decide) (by decide) (Nat.le_of_ble_eq_true rfl) (Nat.le_of_ble_eq_true rfl) dX12_init_76 (fun a26 M25 h => ?_)
  refine zt_pR hC h rfl cl12 (k := 8) (by decide) rfl wd_999 (Or.inl rfl) (Or.inr ⟨rfl, rfl, rfl⟩) dX12_init_78 (fun M27 h => ?_)
  refine zt_aload_n hC rfl dX12_init_81 ?_
  refine zt_bipush hC kb_8 dX12_init_82 ?_
  refine zt_newao (N := 8) hC h wd_65 (by decide) (by decide) (by decide) (Nat.le_of_ble_eq_true rfl) (Nat.le_of_ble_eq_true rfl) dX12_init_84 (fun a29 M28 h => ?_)
  refine zt_pR hC h rfl cl12 (k := 9) (by decide) rfl wd_1000 (Or.inl rfl) (Or.inr ⟨rfl, rfl, rfl⟩) dX12_init_86 (fun M30 h => ?_)
  refine zt_aload_n hC rfl dX12_init_89 ?_
  refine zt_iconst hC ki_5 dX12_init_90 ?_
  refine zt_newao (N := 5) hC h wd_65 (by decide) (by decide) (by decide) (Nat.le_of_ble_eq_true rfl) (Nat.le_of_ble_eq_true rfl) dX12_init_91 (fun a32 M31 h => ?_)
  refine zt_pR hC h rfl cl12 (k := 16) (by decide) rfl wd_1007 (Or.inl rfl) (Or.inr ⟨rfl, rfl, rfl⟩) dX12_init_93 (fun M33 h => ?_)
  refine zt_aload_n hC rfl dX12_init_96 ?_
  refine zt_gR hC h cl12 (k := 0) (by decide) rfl wd_991 (Or.inl rfl) dX12_init_97 (fun v34 h => ?_)
  refine zt_iconst hC ki_0 dX12_init_100 ?_
  refine zt_iconst hC ki_3 dX12_init_101 ?_
  refine zt_ast hC h dX12_init_102 (fun M35 h => ?_)
  refine zt_aload_n hC rfl dX12_init_103 ?_
  refine zt_gR hC h cl12 (k := 0) (by decide) rfl wd_991 (Or.inl rfl) dX12_init_104 (fun v36 h => ?_)
  refine zt_iconst hC ki_2 dX12_init_107 ?_
  refine zt_iconst hC ki_3 dX12_init_108 ?_
  refine zt_ast hC h dX12_init_109 (fun M37 h => ?_)
  refine zt_aload_n hC rfl dX12_init_110 ?_
  refine zt_gR hC h cl12 (k := 0) (by decide) rfl wd_991 (Or.inl rfl) dX12_init_111 (fun v38 h => ?_)
  refine zt_iconst hC ki_4 dX12_init_114 ?_
  refine zt_iconst hC ki_1 dX12_init_115 ?_
  refine zt_ast hC h dX12_init_116 (fun M39 h => ?_)
  refine zt_iconst hC ki_0 dX12_init_117 ?_
  refine zt_istore_n (lv' := [(1, .int (0 : Int32)), (0, .ref x0)]) hC (by decide) rfl dX12_init_118 ?_
  refine zt_keep [0, 1] rfl ?_
  exact w_X12_init_119 N hC N x0 (0 : Int32) 11 1541 M39 h
def rm_X12_thrown : Room := { frames := 0, cells := 0, slots := 0, locals := 0 }
theorem hd_X12_thrown : yX12_thrown.cls ≠ "java/lang/invoke/MethodHandle" ∧ yX12_thrown.cls ≠ "java/lang/invoke/VarHandle" ∧ (parseMethodDescriptor yX12_thrown.desc).map (fun d => d.parameters.length) = some 0 := by decide +kernel
def f_X12_thrown (N : Nat) (x0 : Nat) (M : Mm) : Option (Int32 × Mm) :=
gI 12 M x0 11 (fun v1 =>
some (v1, M))
set_option maxRecDepth 100000 in
set_option maxHeartbeats 4000000 in
theorem c_X12_thrown (N : Nat) (x0 : Nat) (M : Mm) (r : (Int32 × Mm)) (h : f_X12_thrown N x0 M = some r) (l : Launch) (hfl : l.flags = flags0) {G : Gl} : MT l G yX12_thrown cX12_thrown 1 (some .int) rm_X12_thrown [.ref x0] M (some (.int r.1)) r.2 := by
  unfold f_X12_thrown at h
  refine zt_start hfl (lv := [(0, .ref x0)]) (by decide) (Nat.le_of_ble_eq_true rfl) rfl wd_1052 (fun X hC _ => ?_)
  refine zt_aload_n hC rfl dX12_thrown_0 ?_
  refine zt_gI hC h cl12 (k := 11) (by decide) rfl wd_1002 (Or.inl rfl) dX12_thrown_1 (fun v1 h => ?_)
  obtain rfl := Option.some.inj h
  exact zt_iret hC rfl rfl (Nat.le_of_ble_eq_true rfl) (Nat.le_of_ble_eq_true rfl) dX12_thrown_4
def rm_X12_isIn : Room := { frames := 0, cells := 0, slots := 0, locals := 0 }
theorem hd_X12_isIn : yX12_isIn.cls ≠ "java/lang/invoke/MethodHandle" ∧ yX12_isIn.cls ≠ "java/lang/invoke/VarHandle" ∧ (parseMethodDescriptor yX12_isIn.desc).map (fun d => d.parameters.length) = some 3 := by decide +kernel
def f_X12_isIn (N : Nat) (x0 : Int64) (x2 : Int64) (x4 : Int64) (M : Mm) : Option (Int32 × Mm) :=
(if (lg_cmp x0 x2) < 0 then
some ((0 : Int32), M)
else
(if 0 < (lg_cmp x0 x4) then
some ((0 : Int32), M)
else
some ((1 : Int32), M)))
set_option maxRecDepth 100000 in
set_option maxHeartbeats 4000000 in
theorem c_X12_isIn (N : Nat) (x0 : Int64) (x2 : Int64) (x4 : Int64) (M : Mm) (r : (Int32 × Mm)) (h : f_X12_isIn N x0 x2 x4 M = some r) (l : Launch) (hfl : l.flags = flags0) {G : Gl} : MT l G yX12_isIn cX12_isIn 6 (some .boolean) rm_X12_isIn [.long x0, .long x2, .long x4] M (some (.int r.1)) r.2 := by
  unfold f_X12_isIn at h
  refine zt_start hfl (lv := [(0, .long x0), (2, .long x2), (4, .long x4)]) (by decide) (Nat.le_of_ble_eq_true rfl) rfl wd_1067 (fun X hC _ => ?_)
  refine zt_lload_n hC rfl dX12_isIn_0 ?_
  refine zt_lload_n hC rfl dX12_isIn_1 ?_
  refine zt_lcmp hC dX12_isIn_2 ?_
  refine zt_if_lt (tgt := 17) hC h (by decide) dX12_isIn_3 (fun h => ?_) (fun h => ?_)
  · refine zt_iconst hC ki_0 dX12_isIn_17 ?_
    obtain rfl := Option.some.inj h
    exact zt_zret hC rfl rfl (Or.inl rfl) (Nat.le_of_ble_eq_true rfl) (Nat.le_of_ble_eq_true rfl) dX12_isIn_18
  · refine zt_lload_n hC rfl dX12_isIn_6 ?_
    refine zt_lload hC rfl dX12_isIn_7 ?_
    refine zt_lcmp hC dX12_isIn_9 ?_
    refine zt_if_gt (tgt := 17) hC h (by decide) dX12_isIn_10 (fun h => ?_) (fun h => ?_)
    · refine zt_iconst hC ki_0 dX12_isIn_17 ?_
      obtain rfl := Option.some.inj h
      exact zt_zret hC rfl rfl (Or.inl rfl) (Nat.le_of_ble_eq_true rfl) (Nat.le_of_ble_eq_true rfl) dX12_isIn_18
    · refine zt_iconst hC ki_1 dX12_isIn_13 ?_
      refine zt_goto (tgt := 18) hC (by decide) dX12_isIn_14 ?_
      obtain rfl := Option.some.inj h
      exact zt_zret hC rfl rfl (Or.inr rfl) (Nat.le_of_ble_eq_true rfl) (Nat.le_of_ble_eq_true rfl) dX12_isIn_18
def rm_X12_isLanding : Room := { frames := 1, cells := 0, slots := 0, locals := 25 }
theorem hd_X12_isLanding : yX12_isLanding.cls ≠ "java/lang/invoke/MethodHandle" ∧ yX12_isLanding.cls ≠ "java/lang/invoke/VarHandle" ∧ (parseMethodDescriptor yX12_isLanding.desc).map (fun d => d.parameters.length) = some 1 := by decide +kernel
def f_X12_isLanding (N : Nat) (x0 : Nat) (x1 : Int32) (M : Mm) : Option (Int32 × Mm) :=
gR 12 M x0 0 (fun v1 =>
ald M v1 (0 : Int32) (fun v2 =>
bnd (f_X12_isIn N (Int32.toInt64 x1) (0 : Int64) (Int32.toInt64 (v2 - (1 : Int32))) M) (fun v3 M4 =>
rq (v3 = 0 ∨ v3 = 1) (some (v3, M4)))))
set_option maxRecDepth 100000 in
set_option maxHeartbeats 4000000 in
theorem c_X12_isLanding (N : Nat) (x0 : Nat) (x1 : Int32) (M : Mm) (r : (Int32 × Mm)) (h : f_X12_isLanding N x0 x1 M = some r) (l : Launch) (hfl : l.flags = flags0) {G : Gl} : MT l G yX12_isLanding cX12_isLanding 2 (some .boolean) rm_X12_isLanding [.ref x0, .int x1] M (some (.int r.1)) r.2 := by
  unfold f_X12_isLanding at h
  refine zt_start hfl (lv := [(0, .ref x0), (1, .int x1)]) (by decide) (Nat.le_of_ble_eq_true rfl) rfl wd_1122 (fun X hC _ => ?_)
  refine zt_iload_n hC rfl dX12_isLanding_0 ?_
  refine zt_i2l hC dX12_isLanding_1 ?_
  refine zt_lconst hC kl_0 dX12_isLanding_2 ?_
  refine zt_aload_n hC rfl dX12_isLanding_3 ?_
  refine zt_gR hC h cl12 (k := 0) (by decide) rfl wd_991 (Or.inl rfl) dX12_isLanding_4 (fun v1 h => ?_)
  refine zt_iconst hC ki_0 dX12_isLanding_7 ?_
  refine zt_ald hC h dX12_isLanding_8 (fun v2 h => ?_)
  refine zt_iconst hC ki_1 dX12_isLanding_9 ?_
  refine zt_isub hC dX12_isLanding_10 ?_
  refine zt_i2l hC dX12_isLanding_11 ?_
  obtain ⟨v3, M4, h5, h⟩ := bnd_some h
  refine zt_callS (z := yX12_isIn) (As := [.long (Int32.toInt64 x1), .long (0 : Int64), .long (Int32.toInt64 (v2 - (1 : Int32)))]) (rest := []) (st1 := (.int v3 :: [])) hC 3 (fun l hl => c_X12_isIn N (Int32.toInt64 x1) (0 : Int64) (Int32.toInt64 (v2 - (1 : Int32))) M (v3, M4) h5 l hl) rfl wd_1067 wd_1065 wd_1066 wd_7 hd_X12_isIn rfl ⟨⟨(Nat.le_of_ble_eq_true rfl), (Nat.le_of_ble_eq_true rfl)⟩, (Nat.le_of_ble_eq_true rfl), (Nat.le_of_ble_eq_true rfl)⟩ rfl (Nat.le_of_ble_eq_true rfl) rfl dX12_isLanding_12 ?_
  obtain ⟨hz, h⟩ := rq_some h
  obtain rfl := Option.some.inj h
  exact zt_zret hC rfl rfl hz (Nat.le_of_ble_eq_true rfl) (Nat.le_of_ble_eq_true rfl) dX12_isLanding_15
def rm_X12_isSort : Room := { frames := 1, cells := 0, slots := 0, locals := 25 }
theorem hd_X12_isSort : yX12_isSort.cls ≠ "java/lang/invoke/MethodHandle" ∧ yX12_isSort.cls ≠ "java/lang/invoke/VarHandle" ∧ (parseMethodDescriptor yX12_isSort.desc).map (fun d => d.parameters.length) = some 1 := by decide +kernel
def f_X12_isSort (N : Nat) (x0 : Nat) (x1 : Int32) (M : Mm) : Option (Int32 × Mm) :=
gR 12 M x0 0 (fun v1 =>
ald M v1 (1 : Int32) (fun v2 =>
bnd (f_X12_isIn N (Int32.toInt64 x1) (0 : Int64) (Int32.toInt64 (v2 - (1 : Int32))) M) (fun v3 M4 =>
rq (v3 = 0 ∨ v3 = 1) (some (v3, M4)))))
set_option maxRecDepth 100000 in
set_option maxHeartbeats 4000000 in
theorem c_X12_isSort (N : Nat) (x0 : Nat) (x1 : Int32) (M : Mm) (r : (Int32 × Mm)) (h : f_X12_isSort N x0 x1 M = some r) (l : Launch) (hfl : l.flags = flags0) {G : Gl} : MT l G yX12_isSort cX12_isSort 2 (some .boolean) rm_X12_isSort [.ref x0, .int x1] M (some (.int r.1)) r.2 := by
  unfold f_X12_isSort at h
  refine zt_start hfl (lv := [(0, .ref x0), (1, .int x1)]) (by decide) (Nat.le_of_ble_eq_true rfl) rfl wd_1130 (fun X hC _ => ?_)
  refine zt_iload_n hC rfl dX12_isSort_0 ?_
  refine zt_i2l hC dX12_isSort_1 ?_
  refine zt_lconst hC kl_0 dX12_isSort_2 ?_
  refine zt_aload_n hC rfl dX12_isSort_3 ?_
  refine zt_gR hC h cl12 (k := 0) (by decide) rfl wd_991 (Or.inl rfl) dX12_isSort_4 (fun v1 h => ?_)
  refine zt_iconst hC ki_1 dX12_isSort_7 ?_
  refine zt_ald hC h dX12_isSort_8 (fun v2 h => ?_)
  refine zt_iconst hC ki_1 dX12_isSort_9 ?_
  refine zt_isub hC dX12_isSort_10 ?_
  refine zt_i2l hC dX12_isSort_11 ?_
  obtain ⟨v3, M4, h5, h⟩ := bnd_some h
  refine zt_callS (z := yX12_isIn) (As := [.long (Int32.toInt64 x1), .long (0 : Int64), .long (Int32.toInt64 (v2 - (1 : Int32)))]) (rest := []) (st1 := (.int v3 :: [])) hC 3 (fun l hl => c_X12_isIn N (Int32.toInt64 x1) (0 : Int64) (Int32.toInt64 (v2 - (1 : Int32))) M (v3, M4) h5 l hl) rfl wd_1067 wd_1065 wd_1066 wd_7 hd_X12_isIn rfl ⟨⟨(Nat.le_of_ble_eq_true rfl), (Nat.le_of_ble_eq_true rfl)⟩, (Nat.le_of_ble_eq_true rfl), (Nat.le_of_ble_eq_true rfl)⟩ rfl (Nat.le_of_ble_eq_true rfl) rfl dX12_isSort_12 ?_
  obtain ⟨hz, h⟩ := rq_some h
  obtain rfl := Option.some.inj h
  exact zt_zret hC rfl rfl hz (Nat.le_of_ble_eq_true rfl) (Nat.le_of_ble_eq_true rfl) dX12_isSort_15
def rm_X12_isShelf : Room := { frames := 1, cells := 0, slots := 0, locals := 25 }
theorem hd_X12_isShelf : yX12_isShelf.cls ≠ "java/lang/invoke/MethodHandle" ∧ yX12_isShelf.cls ≠ "java/lang/invoke/VarHandle" ∧ (parseMethodDescriptor yX12_isShelf.desc).map (fun d => d.parameters.length) = some 1 := by decide +kernel
def f_X12_isShelf (N : Nat) (x0 : Int32) (M : Mm) : Option (Int32 × Mm) :=
bnd (f_X12_isIn N (Int32.toInt64 x0) (0 : Int64) (7 : Int64) M) (fun v1 M2 =>
rq (v1 = 0 ∨ v1 = 1) (some (v1, M2)))
set_option maxRecDepth 100000 in
set_option maxHeartbeats 4000000 in
theorem c_X12_isShelf (N : Nat) (x0 : Int32) (M : Mm) (r : (Int32 × Mm)) (h : f_X12_isShelf N x0 M = some r) (l : Launch) (hfl : l.flags = flags0) {G : Gl} : MT l G yX12_isShelf cX12_isShelf 1 (some .boolean) rm_X12_isShelf [.int x0] M (some (.int r.1)) r.2 := by
  unfold f_X12_isShelf at h
  refine zt_start hfl (lv := [(0, .int x0)]) (by decide) (Nat.le_of_ble_eq_true rfl) rfl wd_1063 (fun X hC _ => ?_)
  refine zt_iload_n hC rfl dX12_isShelf_0 ?_
  refine zt_i2l hC dX12_isShelf_1 ?_
  refine zt_lconst hC kl_0 dX12_isShelf_2 ?_
  refine zt_ldc2 hC wd_1064 dX12_isShelf_3 ?_
  obtain ⟨v1, M2, h3, h⟩ := bnd_some h
  refine zt_callS (z := yX12_isIn) (As := [.long (Int32.toInt64 x0), .long (0 : Int64), .long (7 : Int64)]) (rest := []) (st1 := (.int v1 :: [])) hC 3 (fun l hl => c_X12_isIn N (Int32.toInt64 x0) (0 : Int64) (7 : Int64) M (v1, M2) h3 l hl) rfl wd_1067 wd_1065 wd_1066 wd_7 hd_X12_isIn rfl ⟨⟨(Nat.le_of_ble_eq_true rfl), (Nat.le_of_ble_eq_true rfl)⟩, (Nat.le_of_ble_eq_true rfl), (Nat.le_of_ble_eq_true rfl)⟩ rfl (Nat.le_of_ble_eq_true rfl) rfl dX12_isShelf_6 ?_
  obtain ⟨hz, h⟩ := rq_some h
  obtain rfl := Option.some.inj h
  exact zt_zret hC rfl rfl hz (Nat.le_of_ble_eq_true rfl) (Nat.le_of_ble_eq_true rfl) dX12_isShelf_9
def rm_X12_get : Room := { frames := 0, cells := 0, slots := 0, locals := 0 }
theorem hd_X12_get : yX12_get.cls ≠ "java/lang/invoke/MethodHandle" ∧ yX12_get.cls ≠ "java/lang/invoke/VarHandle" ∧ (parseMethodDescriptor yX12_get.desc).map (fun d => d.parameters.length) = some 3 := by decide +kernel
def f_X12_get (N : Nat) (x0 : Nat) (x1 : Int32) (x2 : Int32) (M : Mm) : Option (Int32 × Mm) :=
ald M x0 (((25 : Int32) + ((5 : Int32) * x1)) + x2) (fun v1 =>
some (v1, M))
set_option maxRecDepth 100000 in
set_option maxHeartbeats 4000000 in
theorem c_X12_get (N : Nat) (x0 : Nat) (x1 : Int32) (x2 : Int32) (M : Mm) (r : (Int32 × Mm)) (h : f_X12_get N x0 x1 x2 M = some r) (l : Launch) (hfl : l.flags = flags0) {G : Gl} : MT l G yX12_get cX12_get 3 (some .int) rm_X12_get [.ref x0, .int x1, .int x2] M (some (.int r.1)) r.2 := by
  unfold f_X12_get at h
  refine zt_start hfl (lv := [(0, .ref x0), (1, .int x1), (2, .int x2)]) (by decide) (Nat.le_of_ble_eq_true rfl) rfl wd_1112 (fun X hC _ => ?_)
  refine zt_aload_n hC rfl dX12_get_0 ?_
  refine zt_bipush hC kb_25 dX12_get_1 ?_
  refine zt_iconst hC ki_5 dX12_get_3 ?_
  refine zt_iload_n hC rfl dX12_get_4 ?_
  refine zt_imul hC dX12_get_5 ?_
  refine zt_iadd hC dX12_get_6 ?_
  refine zt_iload_n hC rfl dX12_get_7 ?_
  refine zt_iadd hC dX12_get_8 ?_
  refine zt_ald hC h dX12_get_9 (fun v1 h => ?_)
  obtain rfl := Option.some.inj h
  exact zt_iret hC rfl rfl (Nat.le_of_ble_eq_true rfl) (Nat.le_of_ble_eq_true rfl) dX12_get_10
def rm_X12_boatOf : Room := { frames := 0, cells := 0, slots := 0, locals := 0 }
theorem hd_X12_boatOf : yX12_boatOf.cls ≠ "java/lang/invoke/MethodHandle" ∧ yX12_boatOf.cls ≠ "java/lang/invoke/VarHandle" ∧ (parseMethodDescriptor yX12_boatOf.desc).map (fun d => d.parameters.length) = some 3 := by decide +kernel
def f_X12_boatOf (N : Nat) (x0 : Nat) (x1 : Int32) (x2 : Int32) (M : Mm) : Option (Int32 × Mm) :=
ald M x0 (((50 : Int32) + ((12 : Int32) * x1)) + x2) (fun v1 =>
some (v1, M))
set_option maxRecDepth 100000 in
set_option maxHeartbeats 4000000 in
theorem c_X12_boatOf (N : Nat) (x0 : Nat) (x1 : Int32) (x2 : Int32) (M : Mm) (r : (Int32 × Mm)) (h : f_X12_boatOf N x0 x1 x2 M = some r) (l : Launch) (hfl : l.flags = flags0) {G : Gl} : MT l G yX12_boatOf cX12_boatOf 3 (some .int) rm_X12_boatOf [.ref x0, .int x1, .int x2] M (some (.int r.1)) r.2 := by
  unfold f_X12_boatOf at h
  refine zt_start hfl (lv := [(0, .ref x0), (1, .int x1), (2, .int x2)]) (by decide) (Nat.le_of_ble_eq_true rfl) rfl wd_1109 (fun X hC _ => ?_)
  refine zt_aload_n hC rfl dX12_boatOf_0 ?_
  refine zt_bipush hC kb_50 dX12_boatOf_1 ?_
  refine zt_bipush hC kb_12 dX12_boatOf_3 ?_
  refine zt_iload_n hC rfl dX12_boatOf_5 ?_
  refine zt_imul hC dX12_boatOf_6 ?_
  refine zt_iadd hC dX12_boatOf_7 ?_
  refine zt_iload_n hC rfl dX12_boatOf_8 ?_
  refine zt_iadd hC dX12_boatOf_9 ?_
  refine zt_ald hC h dX12_boatOf_10 (fun v1 h => ?_)
  obtain rfl := Option.some.inj h
  exact zt_iret hC rfl rfl (Nat.le_of_ble_eq_true rfl) (Nat.le_of_ble_eq_true rfl) dX12_boatOf_11
def rm_X12_standing : Room := { frames := 0, cells := 0, slots := 0, locals := 0 }
theorem hd_X12_standing : yX12_standing.cls ≠ "java/lang/invoke/MethodHandle" ∧ yX12_standing.cls ≠ "java/lang/invoke/VarHandle" ∧ (parseMethodDescriptor yX12_standing.desc).map (fun d => d.parameters.length) = some 2 := by decide +kernel
def f_X12_standing (N : Nat) (x0 : Nat) (x1 : Int32) (M : Mm) : Option (Int32 × Mm) :=
ald M x0 ((74 : Int32) + ((25 : Int32) * x1)) (fun v1 =>
some (v1, M))
set_option maxRecDepth 100000 in
set_option maxHeartbeats 4000000 in
theorem c_X12_standing (N : Nat) (x0 : Nat) (x1 : Int32) (M : Mm) (r : (Int32 × Mm)) (h : f_X12_standing N x0 x1 M = some r) (l : Launch) (hfl : l.flags = flags0) {G : Gl} : MT l G yX12_standing cX12_standing 2 (some .int) rm_X12_standing [.ref x0, .int x1] M (some (.int r.1)) r.2 := by
  unfold f_X12_standing at h
  refine zt_start hfl (lv := [(0, .ref x0), (1, .int x1)]) (by decide) (Nat.le_of_ble_eq_true rfl) rfl wd_1106 (fun X hC _ => ?_)
  refine zt_aload_n hC rfl dX12_standing_0 ?_
  refine zt_bipush hC kb_74 dX12_standing_1 ?_
  refine zt_bipush hC kb_25 dX12_standing_3 ?_
  refine zt_iload_n hC rfl dX12_standing_5 ?_
  refine zt_imul hC dX12_standing_6 ?_
  refine zt_iadd hC dX12_standing_7 ?_
  refine zt_ald hC h dX12_standing_8 (fun v1 h => ?_)
  obtain rfl := Option.some.inj h
  exact zt_iret hC rfl rfl (Nat.le_of_ble_eq_true rfl) (Nat.le_of_ble_eq_true rfl) dX12_standing_9
def rm_X12_becomes : Room := { frames := 0, cells := 0, slots := 0, locals := 0 }
theorem hd_X12_becomes : yX12_becomes.cls ≠ "java/lang/invoke/MethodHandle" ∧ yX12_becomes.cls ≠ "java/lang/invoke/VarHandle" ∧ (parseMethodDescriptor yX12_becomes.desc).map (fun d => d.parameters.length) = some 2 := by decide +kernel
def f_X12_becomes (N : Nat) (x0 : Nat) (x1 : Int32) (x2 : Int32) (M : Mm) : Option (Int32 × Mm) :=
gR 12 M x0 0 (fun v1 =>
ald M v1 x1 (fun v2 =>
gR 12 M x0 0 (fun v3 =>
ast M v3 x1 x2 (fun M4 =>
some (v2, M4)))))
set_option maxRecDepth 100000 in
set_option maxHeartbeats 4000000 in
theorem c_X12_becomes (N : Nat) (x0 : Nat) (x1 : Int32) (x2 : Int32) (M : Mm) (r : (Int32 × Mm)) (h : f_X12_becomes N x0 x1 x2 M = some r) (l : Launch) (hfl : l.flags = flags0) {G : Gl} : MT l G yX12_becomes cX12_becomes 4 (some .int) rm_X12_becomes [.ref x0, .int x1, .int x2] M (some (.int r.1)) r.2 := by
  unfold f_X12_becomes at h
  refine zt_start hfl (lv := [(0, .ref x0), (1, .int x1), (2, .int x2)]) (by decide) (Nat.le_of_ble_eq_true rfl) rfl wd_1139 (fun X hC _ => ?_)
  refine zt_aload_n hC rfl dX12_becomes_0 ?_
  refine zt_gR hC h cl12 (k := 0) (by decide) rfl wd_991 (Or.inl rfl) dX12_becomes_1 (fun v1 h => ?_)
  refine zt_iload_n hC rfl dX12_becomes_4 ?_
  refine zt_ald hC h dX12_becomes_5 (fun v2 h => ?_)
  refine zt_istore_n (lv' := [(3, .int v2), (0, .ref x0), (1, .int x1), (2, .int x2)]) hC (by decide) rfl dX12_becomes_6 ?_
  refine zt_aload_n hC rfl dX12_becomes_7 ?_
  refine zt_gR hC h cl12 (k := 0) (by decide) rfl wd_991 (Or.inl rfl) dX12_becomes_8 (fun v3 h => ?_)
  refine zt_iload_n hC rfl dX12_becomes_11 ?_
  refine zt_iload_n hC rfl dX12_becomes_12 ?_
  refine zt_ast hC h dX12_becomes_13 (fun M4 h => ?_)
  refine zt_iload_n hC rfl dX12_becomes_14 ?_
  obtain rfl := Option.some.inj h
  exact zt_iret hC rfl rfl (Nat.le_of_ble_eq_true rfl) (Nat.le_of_ble_eq_true rfl) dX12_becomes_15
def rm_X12_here : Room := { frames := 0, cells := 0, slots := 0, locals := 0 }
theorem hd_X12_here : yX12_here.cls ≠ "java/lang/invoke/MethodHandle" ∧ yX12_here.cls ≠ "java/lang/invoke/VarHandle" ∧ (parseMethodDescriptor yX12_here.desc).map (fun d => d.parameters.length) = some 0 := by decide +kernel
def f_X12_here (N : Nat) (x0 : Nat) (M : Mm) : Option (Int32 × Mm) :=
gI 12 M x0 12 (fun v1 =>
gI 12 M x0 14 (fun v2 =>
(if v2 ≤ v1 then
some ((-1000 : Int32), M)
else
gR 12 M x0 7 (fun v3 =>
gI 12 M x0 13 (fun v4 =>
gI 12 M x0 12 (fun v5 =>
ald M v3 (v4 + v5) (fun v6 =>
some (v6, M))))))))
set_option maxRecDepth 100000 in
set_option maxHeartbeats 4000000 in
theorem c_X12_here (N : Nat) (x0 : Nat) (M : Mm) (r : (Int32 × Mm)) (h : f_X12_here N x0 M = some r) (l : Launch) (hfl : l.flags = flags0) {G : Gl} : MT l G yX12_here cX12_here 1 (some .int) rm_X12_here [.ref x0] M (some (.int r.1)) r.2 := by
  unfold f_X12_here at h
  refine zt_start hfl (lv := [(0, .ref x0)]) (by decide) (Nat.le_of_ble_eq_true rfl) rfl wd_1075 (fun X hC _ => ?_)
  refine zt_aload_n hC rfl dX12_here_0 ?_
  refine zt_gI hC h cl12 (k := 12) (by decide) rfl wd_1003 (Or.inl rfl) dX12_here_1 (fun v1 h => ?_)
  refine zt_aload_n hC rfl dX12_here_4 ?_
  refine zt_gI hC h cl12 (k := 14) (by decide) rfl wd_1005 (Or.inl rfl) dX12_here_5 (fun v2 h => ?_)
  refine zt_icmp_ge (tgt := 28) hC h (by decide) dX12_here_8 (fun h => ?_) (fun h => ?_)
  · refine zt_sipush hC ks_m1000 dX12_here_28 ?_
    obtain rfl := Option.some.inj h
    exact zt_iret hC rfl rfl (Nat.le_of_ble_eq_true rfl) (Nat.le_of_ble_eq_true rfl) dX12_here_31
  · refine zt_aload_n hC rfl dX12_here_11 ?_
    refine zt_gR hC h cl12 (k := 7) (by decide) rfl wd_998 (Or.inl rfl) dX12_here_12 (fun v3 h => ?_)
    refine zt_aload_n hC rfl dX12_here_15 ?_
    refine zt_gI hC h cl12 (k := 13) (by decide) rfl wd_1004 (Or.inl rfl) dX12_here_16 (fun v4 h => ?_)
    refine zt_aload_n hC rfl dX12_here_19 ?_
    refine zt_gI hC h cl12 (k := 12) (by decide) rfl wd_1003 (Or.inl rfl) dX12_here_20 (fun v5 h => ?_)
    refine zt_iadd hC dX12_here_23 ?_
    refine zt_ald hC h dX12_here_24 (fun v6 h => ?_)
    refine zt_goto (tgt := 31) hC (by decide) dX12_here_25 ?_
    obtain rfl := Option.some.inj h
    exact zt_iret hC rfl rfl (Nat.le_of_ble_eq_true rfl) (Nat.le_of_ble_eq_true rfl) dX12_here_31
def rm_X12_isDigit : Room := { frames := 1, cells := 0, slots := 0, locals := 25 }
theorem hd_X12_isDigit : yX12_isDigit.cls ≠ "java/lang/invoke/MethodHandle" ∧ yX12_isDigit.cls ≠ "java/lang/invoke/VarHandle" ∧ (parseMethodDescriptor yX12_isDigit.desc).map (fun d => d.parameters.length) = some 0 := by decide +kernel
def f_X12_isDigit (N : Nat) (x0 : Nat) (M : Mm) : Option (Int32 × Mm) :=
ck 12 M x0 (bnd (f_X12_here N x0 M) (fun v1 M2 =>
bnd (f_X12_isIn N (Int32.toInt64 v1) (48 : Int64) (57 : Int64) M2) (fun v4 M5 =>
rq (v4 = 0 ∨ v4 = 1) (some (v4, M5)))))
set_option maxRecDepth 100000 in
set_option maxHeartbeats 4000000 in
theorem c_X12_isDigit (N : Nat) (x0 : Nat) (M : Mm) (r : (Int32 × Mm)) (h : f_X12_isDigit N x0 M = some r) (l : Launch) (hfl : l.flags = flags0) {G : Gl} : MT l G yX12_isDigit cX12_isDigit 1 (some .boolean) rm_X12_isDigit [.ref x0] M (some (.int r.1)) r.2 := by
  unfold f_X12_isDigit at h
  refine zt_start hfl (lv := [(0, .ref x0)]) (by decide) (Nat.le_of_ble_eq_true rfl) rfl wd_1083 (fun X hC _ => ?_)
  refine zt_aload_n hC rfl dX12_isDigit_0 ?_
  obtain ⟨hk, h⟩ := ck_some h
  obtain ⟨v1, M2, h3, h⟩ := bnd_some h
  refine zt_callV (z := yX12_here) (As := []) (rest := []) (st1 := (.int v1 :: [])) hC 0 hk cl12 (fun l hl => c_X12_here N x0 M (v1, M2) h3 l hl) rfl wd_1075 wd_1072 wd_1074 ws_22 wd_7 hd_X12_here rfl ⟨⟨(Nat.le_of_ble_eq_true rfl), (Nat.le_of_ble_eq_true rfl)⟩, (Nat.le_of_ble_eq_true rfl), (Nat.le_of_ble_eq_true rfl)⟩ rfl (Nat.le_of_ble_eq_true rfl) rfl dX12_isDigit_1 ?_
  refine zt_i2l hC dX12_isDigit_4 ?_
  refine zt_ldc2 hC wd_1084 dX12_isDigit_5 ?_
  refine zt_ldc2 hC wd_1085 dX12_isDigit_8 ?_
  obtain ⟨v4, M5, h6, h⟩ := bnd_some h
  refine zt_callS (z := yX12_isIn) (As := [.long (Int32.toInt64 v1), .long (48 : Int64), .long (57 : Int64)]) (rest := []) (st1 := (.int v4 :: [])) hC 3 (fun l hl => c_X12_isIn N (Int32.toInt64 v1) (48 : Int64) (57 : Int64) M2 (v4, M5) h6 l hl) rfl wd_1067 wd_1065 wd_1066 wd_7 hd_X12_isIn rfl ⟨⟨(Nat.le_of_ble_eq_true rfl), (Nat.le_of_ble_eq_true rfl)⟩, (Nat.le_of_ble_eq_true rfl), (Nat.le_of_ble_eq_true rfl)⟩ rfl (Nat.le_of_ble_eq_true rfl) rfl dX12_isDigit_11 ?_
  obtain ⟨hz, h⟩ := rq_some h
  obtain rfl := Option.some.inj h
  exact zt_zret hC rfl rfl hz (Nat.le_of_ble_eq_true rfl) (Nat.le_of_ble_eq_true rfl) dX12_isDigit_14
def rm_X12_takes : Room := { frames := 1, cells := 0, slots := 0, locals := 20 }
theorem hd_X12_takes : yX12_takes.cls ≠ "java/lang/invoke/MethodHandle" ∧ yX12_takes.cls ≠ "java/lang/invoke/VarHandle" ∧ (parseMethodDescriptor yX12_takes.desc).map (fun d => d.parameters.length) = some 1 := by decide +kernel
def f_X12_takes (N : Nat) (x0 : Nat) (x1 : Int32) (M : Mm) : Option (Int32 × Mm) :=
ck 12 M x0 (bnd (f_X12_here N x0 M) (fun v1 M2 =>
(if v1 = x1 then
gI 12 M2 x0 12 (fun v4 =>
pI 12 M2 x0 12 (v4 + (1 : Int32)) (fun M5 =>
some ((1 : Int32), M5)))
else
some ((0 : Int32), M2))))
set_option maxRecDepth 100000 in
set_option maxHeartbeats 4000000 in
theorem c_X12_takes (N : Nat) (x0 : Nat) (x1 : Int32) (M : Mm) (r : (Int32 × Mm)) (h : f_X12_takes N x0 x1 M = some r) (l : Launch) (hfl : l.flags = flags0) {G : Gl} : MT l G yX12_takes cX12_takes 2 (some .boolean) rm_X12_takes [.ref x0, .int x1] M (some (.int r.1)) r.2 := by
  unfold f_X12_takes at h
  refine zt_start hfl (lv := [(0, .ref x0), (1, .int x1)]) (by decide) (Nat.le_of_ble_eq_true rfl) rfl wd_1089 (fun X hC _ => ?_)
  refine zt_aload_n hC rfl dX12_takes_0 ?_
  obtain ⟨hk, h⟩ := ck_some h
  obtain ⟨v1, M2, h3, h⟩ := bnd_some h
  refine zt_callV (z := yX12_here) (As := []) (rest := []) (st1 := (.int v1 :: [])) hC 0 hk cl12 (fun l hl => c_X12_here N x0 M (v1, M2) h3 l hl) rfl wd_1075 wd_1072 wd_1074 ws_22 wd_7 hd_X12_here rfl ⟨⟨(Nat.le_of_ble_eq_true rfl), (Nat.le_of_ble_eq_true rfl)⟩, (Nat.le_of_ble_eq_true rfl), (Nat.le_of_ble_eq_true rfl)⟩ rfl (Nat.le_of_ble_eq_true rfl) rfl dX12_takes_1 ?_
  refine zt_iload_n hC rfl dX12_takes_4 ?_
  refine zt_icmp_eq (tgt := 10) hC h (by decide) dX12_takes_5 (fun h => ?_) (fun h => ?_)
  · refine zt_aload_n hC rfl dX12_takes_10 ?_
    refine zt_dup hC rfl dX12_takes_11 ?_
    refine zt_gI hC h cl12 (k := 12) (by decide) rfl wd_1003 (Or.inl rfl) dX12_takes_12 (fun v4 h => ?_)
    refine zt_iconst hC ki_1 dX12_takes_15 ?_
    refine zt_iadd hC dX12_takes_16 ?_
    refine zt_pI hC h cl12 (k := 12) (by decide) rfl wd_1003 (Or.inl rfl) (Or.inl rfl) dX12_takes_17 (fun M5 h => ?_)
    refine zt_iconst hC ki_1 dX12_takes_20 ?_
    obtain rfl := Option.some.inj h
    exact zt_zret hC rfl rfl (Or.inr rfl) (Nat.le_of_ble_eq_true rfl) (Nat.le_of_ble_eq_true rfl) dX12_takes_21
  · refine zt_iconst hC ki_0 dX12_takes_8 ?_
    obtain rfl := Option.some.inj h
    exact zt_zret hC rfl rfl (Or.inl rfl) (Nat.le_of_ble_eq_true rfl) (Nat.le_of_ble_eq_true rfl) dX12_takes_9
def rm_X12_readsDigit : Room := { frames := 2, cells := 0, slots := 0, locals := 45 }
theorem hd_X12_readsDigit : yX12_readsDigit.cls ≠ "java/lang/invoke/MethodHandle" ∧ yX12_readsDigit.cls ≠ "java/lang/invoke/VarHandle" ∧ (parseMethodDescriptor yX12_readsDigit.desc).map (fun d => d.parameters.length) = some 0 := by decide +kernel
def f_X12_readsDigit (N : Nat) (x0 : Nat) (M : Mm) : Option (Int32 × Mm) :=
ck 12 M x0 (bnd (f_X12_isDigit N x0 M) (fun v1 M2 =>
(if v1 = 0 then
some ((0 : Int32), M2)
else
gR 12 M2 x0 16 (fun v4 =>
gI 12 M2 x0 15 (fun v5 =>
ck 12 M2 x0 (bnd (f_X12_here N x0 M2) (fun v6 M7 =>
ast M7 v4 v5 (v6 - (48 : Int32)) (fun M9 =>
gI 12 M9 x0 15 (fun v10 =>
pI 12 M9 x0 15 (v10 + (1 : Int32)) (fun M11 =>
gI 12 M11 x0 12 (fun v12 =>
pI 12 M11 x0 12 (v12 + (1 : Int32)) (fun M13 =>
some ((1 : Int32), M13)))))))))))))
set_option maxRecDepth 100000 in
set_option maxHeartbeats 4000000 in
theorem c_X12_readsDigit (N : Nat) (x0 : Nat) (M : Mm) (r : (Int32 × Mm)) (h : f_X12_readsDigit N x0 M = some r) (l : Launch) (hfl : l.flags = flags0) {G : Gl} : MT l G yX12_readsDigit cX12_readsDigit 1 (some .boolean) rm_X12_readsDigit [.ref x0] M (some (.int r.1)) r.2 := by
  unfold f_X12_readsDigit at h
  refine zt_start hfl (lv := [(0, .ref x0)]) (by decide) (Nat.le_of_ble_eq_true rfl) rfl wd_1079 (fun X hC _ => ?_)
  refine zt_aload_n hC rfl dX12_readsDigit_0 ?_
  obtain ⟨hk, h⟩ := ck_some h
  obtain ⟨v1, M2, h3, h⟩ := bnd_some h
  refine zt_callV (z := yX12_isDigit) (As := []) (rest := []) (st1 := (.int v1 :: [])) hC 0 hk cl12 (fun l hl => c_X12_isDigit N x0 M (v1, M2) h3 l hl) rfl wd_1083 wd_1080 wd_1082 ws_24 wd_7 hd_X12_isDigit rfl ⟨⟨(Nat.le_of_ble_eq_true rfl), (Nat.le_of_ble_eq_true rfl)⟩, (Nat.le_of_ble_eq_true rfl), (Nat.le_of_ble_eq_true rfl)⟩ rfl (Nat.le_of_ble_eq_true rfl) rfl dX12_readsDigit_1 ?_
  refine zt_if_ne (tgt := 9) hC h (by decide) dX12_readsDigit_4 (fun h => ?_) (fun h => ?_)
  · refine zt_aload_n hC rfl dX12_readsDigit_9 ?_
    refine zt_gR hC h cl12 (k := 16) (by decide) rfl wd_1007 (Or.inl rfl) dX12_readsDigit_10 (fun v4 h => ?_)
    refine zt_aload_n hC rfl dX12_readsDigit_13 ?_
    refine zt_gI hC h cl12 (k := 15) (by decide) rfl wd_1006 (Or.inl rfl) dX12_readsDigit_14 (fun v5 h => ?_)
    refine zt_aload_n hC rfl dX12_readsDigit_17 ?_
    obtain ⟨hk, h⟩ := ck_some h
    obtain ⟨v6, M7, h8, h⟩ := bnd_some h
    refine zt_callV (z := yX12_here) (As := []) (rest := [.int v5, .ref v4]) (st1 := (.int v6 :: [.int v5, .ref v4])) hC 0 hk cl12 (fun l hl => c_X12_here N x0 M2 (v6, M7) h8 l hl) rfl wd_1075 wd_1072 wd_1074 ws_22 wd_7 hd_X12_here rfl ⟨⟨(Nat.le_of_ble_eq_true rfl), (Nat.le_of_ble_eq_true rfl)⟩, (Nat.le_of_ble_eq_true rfl), (Nat.le_of_ble_eq_true rfl)⟩ rfl (Nat.le_of_ble_eq_true rfl) rfl dX12_readsDigit_18 ?_
    refine zt_bipush hC kb_48 dX12_readsDigit_21 ?_
    refine zt_isub hC dX12_readsDigit_23 ?_
    refine zt_ast hC h dX12_readsDigit_24 (fun M9 h => ?_)
    refine zt_aload_n hC rfl dX12_readsDigit_25 ?_
    refine zt_dup hC rfl dX12_readsDigit_26 ?_
    refine zt_gI hC h cl12 (k := 15) (by decide) rfl wd_1006 (Or.inl rfl) dX12_readsDigit_27 (fun v10 h => ?_)
    refine zt_iconst hC ki_1 dX12_readsDigit_30 ?_
    refine zt_iadd hC dX12_readsDigit_31 ?_
    refine zt_pI hC h cl12 (k := 15) (by decide) rfl wd_1006 (Or.inl rfl) (Or.inl rfl) dX12_readsDigit_32 (fun M11 h => ?_)
    refine zt_aload_n hC rfl dX12_readsDigit_35 ?_
    refine zt_dup hC rfl dX12_readsDigit_36 ?_
    refine zt_gI hC h cl12 (k := 12) (by decide) rfl wd_1003 (Or.inl rfl) dX12_readsDigit_37 (fun v12 h => ?_)
    refine zt_iconst hC ki_1 dX12_readsDigit_40 ?_
    refine zt_iadd hC dX12_readsDigit_41 ?_
    refine zt_pI hC h cl12 (k := 12) (by decide) rfl wd_1003 (Or.inl rfl) (Or.inl rfl) dX12_readsDigit_42 (fun M13 h => ?_)
    refine zt_iconst hC ki_1 dX12_readsDigit_45 ?_
    obtain rfl := Option.some.inj h
    exact zt_zret hC rfl rfl (Or.inr rfl) (Nat.le_of_ble_eq_true rfl) (Nat.le_of_ble_eq_true rfl) dX12_readsDigit_46
  · refine zt_iconst hC ki_0 dX12_readsDigit_7 ?_
    obtain rfl := Option.some.inj h
    exact zt_zret hC rfl rfl (Or.inl rfl) (Nat.le_of_ble_eq_true rfl) (Nat.le_of_ble_eq_true rfl) dX12_readsDigit_8
def rm_X12_readsNumber : Room := { frames := 3, cells := 0, slots := 0, locals := 65 }
theorem hd_X12_readsNumber : yX12_readsNumber.cls ≠ "java/lang/invoke/MethodHandle" ∧ yX12_readsNumber.cls ≠ "java/lang/invoke/VarHandle" ∧ (parseMethodDescriptor yX12_readsNumber.desc).map (fun d => d.parameters.length) = some 0 := by decide +kernel
def j_X12_readsNumber_68 (N : Nat) (x0 : Nat) (x1 : Int32) (M : Mm) : Option (Int32 × Mm) :=
gR 12 M x0 16 (fun v1 =>
gI 12 M x0 15 (fun v2 =>
ast M v1 (v2 - (1 : Int32)) x1 (fun M3 =>
some ((1 : Int32), M3))))
set_option maxRecDepth 100000 in
set_option maxHeartbeats 4000000 in
theorem w_X12_readsNumber_68 {X : Cx} {G : Gl} {r : (Int32 × Mm)} (N : Nat) (hC : CX X G yX12_readsNumber cX12_readsNumber 3 (some .boolean) rm_X12_readsNumber) (x0 : Nat) (x1 : Int32) (M : Mm) (h : j_X12_readsNumber_68 N x0 x1 M = some r) : TW X G 3 (RQ X G (some (.int r.1)) r.2 rm_X12_readsNumber) 0 0 M 68 [(0, .ref x0), (1, .int x1)] [] := by
  unfold j_X12_readsNumber_68 at h
  refine zt_aload_n hC rfl dX12_readsNumber_68 ?_
  refine zt_gR hC h cl12 (k := 16) (by decide) rfl wd_1007 (Or.inl rfl) dX12_readsNumber_69 (fun v1 h => ?_)
  refine zt_aload_n hC rfl dX12_readsNumber_72 ?_
  refine zt_gI hC h cl12 (k := 15) (by decide) rfl wd_1006 (Or.inl rfl) dX12_readsNumber_73 (fun v2 h => ?_)
  refine zt_iconst hC ki_1 dX12_readsNumber_76 ?_
  refine zt_isub hC dX12_readsNumber_77 ?_
  refine zt_iload_n hC rfl dX12_readsNumber_78 ?_
  refine zt_ast hC h dX12_readsNumber_79 (fun M3 h => ?_)
  refine zt_iconst hC ki_1 dX12_readsNumber_80 ?_
  obtain rfl := Option.some.inj h
  exact zt_zret hC rfl rfl (Or.inr rfl) (Nat.le_of_ble_eq_true rfl) (Nat.le_of_ble_eq_true rfl) dX12_readsNumber_81
def b_X12_readsNumber_23 (N : Nat) (k23 : Nat → Int32 → Int32 → Mm → Option (Int32 × Mm)) (x0 : Nat) (x1 : Int32) (x2 : Int32) (M : Mm) : Option (Int32 × Mm) :=
(if (3 : Int32) ≤ x2 then
j_X12_readsNumber_68 N x0 x1 M
else
(if x1 ≤ 0 then
j_X12_readsNumber_68 N x0 x1 M
else
ck 12 M x0 (bnd (f_X12_isDigit N x0 M) (fun v1 M2 =>
(if v1 = 0 then
j_X12_readsNumber_68 N x0 x1 M2
else
ck 12 M2 x0 (bnd (f_X12_here N x0 M2) (fun v4 M5 =>
gI 12 M5 x0 12 (fun v7 =>
pI 12 M5 x0 12 (v7 + (1 : Int32)) (fun M8 =>
k23 x0 ((((10 : Int32) * x1) + v4) - (48 : Int32)) (x2 + (1 : Int32)) M8)))))))))
def l_X12_readsNumber_23 (N : Nat) : Nat → Nat → Int32 → Int32 → Mm → Option (Int32 × Mm)
  | 0 => fun _ _ _ _ => none
  | n + 1 => b_X12_readsNumber_23 N (l_X12_readsNumber_23 N n)
set_option maxRecDepth 100000 in
set_option maxHeartbeats 4000000 in
theorem v_X12_readsNumber_23 {X : Cx} {G : Gl} {r : (Int32 × Mm)} (N : Nat) (hC : CX X G yX12_readsNumber cX12_readsNumber 3 (some .boolean) rm_X12_readsNumber) (k23 : Nat → Int32 → Int32 → Mm → Option (Int32 × Mm)) (hk23 : ∀ (x0 : Nat) (x1 : Int32) (x2 : Int32) (M : Mm), k23 x0 x1 x2 M = some r → TW X G 3 (RQ X G (some (.int r.1)) r.2 rm_X12_readsNumber) 0 0 M 23 [(0, .ref x0), (1, .int x1), (2, .int x2)] []) (x0 : Nat) (x1 : Int32) (x2 : Int32) (M : Mm) (h : b_X12_readsNumber_23 N k23 x0 x1 x2 M = some r) : TW X G 3 (RQ X G (some (.int r.1)) r.2 rm_X12_readsNumber) 0 0 M 23 [(0, .ref x0), (1, .int x1), (2, .int x2)] [] := by
  unfold b_X12_readsNumber_23 at h
  refine zt_iload_n hC rfl dX12_readsNumber_23 ?_
  refine zt_iconst hC ki_3 dX12_readsNumber_24 ?_
  refine zt_icmp_ge (tgt := 68) hC h (by decide) dX12_readsNumber_25 (fun h => ?_) (fun h => ?_)
  · refine zt_keep [0, 1] rfl ?_
    exact w_X12_readsNumber_68 N hC x0 x1 M h
  · refine zt_iload_n hC rfl dX12_readsNumber_28 ?_
    refine zt_if_le (tgt := 68) hC h (by decide) dX12_readsNumber_29 (fun h => ?_) (fun h => ?_)
    · refine zt_keep [0, 1] rfl ?_
      exact w_X12_readsNumber_68 N hC x0 x1 M h
    · refine zt_aload_n hC rfl dX12_readsNumber_32 ?_
      obtain ⟨hk, h⟩ := ck_some h
      obtain ⟨v1, M2, h3, h⟩ := bnd_some h
      refine zt_callV (z := yX12_isDigit) (As := []) (rest := []) (st1 := (.int v1 :: [])) hC 0 hk cl12 (fun l hl => c_X12_isDigit N x0 M (v1, M2) h3 l hl) rfl wd_1083 wd_1080 wd_1082 ws_24 wd_7 hd_X12_isDigit rfl ⟨⟨(Nat.le_of_ble_eq_true rfl), (Nat.le_of_ble_eq_true rfl)⟩, (Nat.le_of_ble_eq_true rfl), (Nat.le_of_ble_eq_true rfl)⟩ rfl (Nat.le_of_ble_eq_true rfl) rfl dX12_readsNumber_33 ?_
      refine zt_if_eq (tgt := 68) hC h (by decide) dX12_readsNumber_36 (fun h => ?_) (fun h => ?_)
      · refine zt_keep [0, 1] rfl ?_
        exact w_X12_readsNumber_68 N hC x0 x1 M2 h
      · refine zt_bipush hC kb_10 dX12_readsNumber_39 ?_
        refine zt_iload_n hC rfl dX12_readsNumber_41 ?_
        refine zt_imul hC dX12_readsNumber_42 ?_
        refine zt_aload_n hC rfl dX12_readsNumber_43 ?_
        obtain ⟨hk, h⟩ := ck_some h
        obtain ⟨v4, M5, h6, h⟩ := bnd_some h
        refine zt_callV (z := yX12_here) (As := []) (rest := [.int ((10 : Int32) * x1)]) (st1 := (.int v4 :: [.int ((10 : Int32) * x1)])) hC 0 hk cl12 (fun l hl => c_X12_here N x0 M2 (v4, M5) h6 l hl) rfl wd_1075 wd_1072 wd_1074 ws_22 wd_7 hd_X12_here rfl ⟨⟨(Nat.le_of_ble_eq_true rfl), (Nat.le_of_ble_eq_true rfl)⟩, (Nat.le_of_ble_eq_true rfl), (Nat.le_of_ble_eq_true rfl)⟩ rfl (Nat.le_of_ble_eq_true rfl) rfl dX12_readsNumber_44 ?_
        refine zt_iadd hC dX12_readsNumber_47 ?_
        refine zt_bipush hC kb_48 dX12_readsNumber_48 ?_
        refine zt_isub hC dX12_readsNumber_50 ?_
        refine zt_istore_n (lv' := [(1, .int ((((10 : Int32) * x1) + v4) - (48 : Int32))), (0, .ref x0), (2, .int x2)]) hC (by decide) rfl dX12_readsNumber_51 ?_
        refine zt_aload_n hC rfl dX12_readsNumber_52 ?_
        refine zt_dup hC rfl dX12_readsNumber_53 ?_
        refine zt_gI hC h cl12 (k := 12) (by decide) rfl wd_1003 (Or.inl rfl) dX12_readsNumber_54 (fun v7 h => ?_)
        refine zt_iconst hC ki_1 dX12_readsNumber_57 ?_
        refine zt_iadd hC dX12_readsNumber_58 ?_
        refine zt_pI hC h cl12 (k := 12) (by decide) rfl wd_1003 (Or.inl rfl) (Or.inl rfl) dX12_readsNumber_59 (fun M8 h => ?_)
        refine zt_iinc (v := (x2 + (1 : Int32))) (lv' := [(2, .int (x2 + (1 : Int32))), (1, .int ((((10 : Int32) * x1) + v4) - (48 : Int32))), (0, .ref x0)]) hC rfl (by rw [ki_1]) (by decide) rfl dX12_readsNumber_62 ?_
        refine zt_goto (tgt := 23) hC (by decide) dX12_readsNumber_65 ?_
        refine zt_keep [0, 1, 2] rfl ?_
        exact hk23 x0 ((((10 : Int32) * x1) + v4) - (48 : Int32)) (x2 + (1 : Int32)) M8 h
theorem w_X12_readsNumber_23 {X : Cx} {G : Gl} {r : (Int32 × Mm)} (N : Nat) (hC : CX X G yX12_readsNumber cX12_readsNumber 3 (some .boolean) rm_X12_readsNumber) (n : Nat) : ∀ (x0 : Nat) (x1 : Int32) (x2 : Int32) (M : Mm), l_X12_readsNumber_23 N n x0 x1 x2 M = some r → TW X G 3 (RQ X G (some (.int r.1)) r.2 rm_X12_readsNumber) 0 0 M 23 [(0, .ref x0), (1, .int x1), (2, .int x2)] [] := by
  induction n with
  | zero => intro  x0 x1 x2 M h; cases (show none = some r from h)
  | succ n ih => intro  x0 x1 x2 M h; exact v_X12_readsNumber_23 N hC (l_X12_readsNumber_23 N n) ih x0 x1 x2 M h
def f_X12_readsNumber (N : Nat) (x0 : Nat) (M : Mm) : Option (Int32 × Mm) :=
ck 12 M x0 (bnd (f_X12_readsDigit N x0 M) (fun v1 M2 =>
(if v1 = 0 then
some ((0 : Int32), M2)
else
gR 12 M2 x0 16 (fun v4 =>
gI 12 M2 x0 15 (fun v5 =>
ald M2 v4 (v5 - (1 : Int32)) (fun v6 =>
l_X12_readsNumber_23 N N x0 v6 (1 : Int32) M2))))))
set_option maxRecDepth 100000 in
set_option maxHeartbeats 4000000 in
theorem c_X12_readsNumber (N : Nat) (x0 : Nat) (M : Mm) (r : (Int32 × Mm)) (h : f_X12_readsNumber N x0 M = some r) (l : Launch) (hfl : l.flags = flags0) {G : Gl} : MT l G yX12_readsNumber cX12_readsNumber 3 (some .boolean) rm_X12_readsNumber [.ref x0] M (some (.int r.1)) r.2 := by
  unfold f_X12_readsNumber at h
  refine zt_start hfl (lv := [(0, .ref x0)]) (by decide) (Nat.le_of_ble_eq_true rfl) rfl wd_1093 (fun X hC _ => ?_)
  refine zt_aload_n hC rfl dX12_readsNumber_0 ?_
  obtain ⟨hk, h⟩ := ck_some h
  obtain ⟨v1, M2, h3, h⟩ := bnd_some h
  refine zt_callV (z := yX12_readsDigit) (As := []) (rest := []) (st1 := (.int v1 :: [])) hC 0 hk cl12 (fun l hl => c_X12_readsDigit N x0 M (v1, M2) h3 l hl) rfl wd_1079 wd_1076 wd_1078 ws_23 wd_7 hd_X12_readsDigit rfl ⟨⟨(Nat.le_of_ble_eq_true rfl), (Nat.le_of_ble_eq_true rfl)⟩, (Nat.le_of_ble_eq_true rfl), (Nat.le_of_ble_eq_true rfl)⟩ rfl (Nat.le_of_ble_eq_true rfl) rfl dX12_readsNumber_1 ?_
  refine zt_if_ne (tgt := 9) hC h (by decide) dX12_readsNumber_4 (fun h => ?_) (fun h => ?_)
  · refine zt_aload_n hC rfl dX12_readsNumber_9 ?_
    refine zt_gR hC h cl12 (k := 16) (by decide) rfl wd_1007 (Or.inl rfl) dX12_readsNumber_10 (fun v4 h => ?_)
    refine zt_aload_n hC rfl dX12_readsNumber_13 ?_
    refine zt_gI hC h cl12 (k := 15) (by decide) rfl wd_1006 (Or.inl rfl) dX12_readsNumber_14 (fun v5 h => ?_)
    refine zt_iconst hC ki_1 dX12_readsNumber_17 ?_
    refine zt_isub hC dX12_readsNumber_18 ?_
    refine zt_ald hC h dX12_readsNumber_19 (fun v6 h => ?_)
    refine zt_istore_n (lv' := [(1, .int v6), (0, .ref x0)]) hC (by decide) rfl dX12_readsNumber_20 ?_
    refine zt_iconst hC ki_1 dX12_readsNumber_21 ?_
    refine zt_istore_n (lv' := [(2, .int (1 : Int32)), (1, .int v6), (0, .ref x0)]) hC (by decide) rfl dX12_readsNumber_22 ?_
    refine zt_keep [0, 1, 2] rfl ?_
    exact w_X12_readsNumber_23 N hC N x0 v6 (1 : Int32) M2 h
  · refine zt_iconst hC ki_0 dX12_readsNumber_7 ?_
    obtain rfl := Option.some.inj h
    exact zt_zret hC rfl rfl (Or.inl rfl) (Nat.le_of_ble_eq_true rfl) (Nat.le_of_ble_eq_true rfl) dX12_readsNumber_8
def rm_X12_readsStatement : Room := { frames := 4, cells := 0, slots := 0, locals := 87 }
theorem hd_X12_readsStatement : yX12_readsStatement.cls ≠ "java/lang/invoke/MethodHandle" ∧ yX12_readsStatement.cls ≠ "java/lang/invoke/VarHandle" ∧ (parseMethodDescriptor yX12_readsStatement.desc).map (fun d => d.parameters.length) = some 0 := by decide +kernel
def j_X12_readsStatement_147 (N : Nat) (x0 : Nat) (M : Mm) : Option (Int32 × Mm) :=
ck 12 M x0 (bnd (f_X12_takes N x0 (59 : Int32) M) (fun v1 M2 =>
rq (v1 = 0 ∨ v1 = 1) (some (v1, M2))))
set_option maxRecDepth 100000 in
set_option maxHeartbeats 4000000 in
theorem w_X12_readsStatement_147 {X : Cx} {G : Gl} {r : (Int32 × Mm)} (N : Nat) (hC : CX X G yX12_readsStatement cX12_readsStatement 2 (some .boolean) rm_X12_readsStatement) (x0 : Nat) (M : Mm) (h : j_X12_readsStatement_147 N x0 M = some r) : TW X G 2 (RQ X G (some (.int r.1)) r.2 rm_X12_readsStatement) 0 0 M 147 [(0, .ref x0)] [] := by
  unfold j_X12_readsStatement_147 at h
  refine zt_aload_n hC rfl dX12_readsStatement_147 ?_
  refine zt_bipush hC kb_59 dX12_readsStatement_148 ?_
  obtain ⟨hk, h⟩ := ck_some h
  obtain ⟨v1, M2, h3, h⟩ := bnd_some h
  refine zt_callV (z := yX12_takes) (As := [.int (59 : Int32)]) (rest := []) (st1 := (.int v1 :: [])) hC 1 hk cl12 (fun l hl => c_X12_takes N x0 (59 : Int32) M (v1, M2) h3 l hl) rfl wd_1089 wd_1086 wd_1088 ws_25 wd_7 hd_X12_takes rfl ⟨⟨(Nat.le_of_ble_eq_true rfl), (Nat.le_of_ble_eq_true rfl)⟩, (Nat.le_of_ble_eq_true rfl), (Nat.le_of_ble_eq_true rfl)⟩ rfl (Nat.le_of_ble_eq_true rfl) rfl dX12_readsStatement_150 ?_
  obtain ⟨hz, h⟩ := rq_some h
  obtain rfl := Option.some.inj h
  exact zt_zret hC rfl rfl hz (Nat.le_of_ble_eq_true rfl) (Nat.le_of_ble_eq_true rfl) dX12_readsStatement_153
def j_X12_readsStatement_100 (N : Nat) (x0 : Nat) (x1 : Int32) (M : Mm) : Option (Int32 × Mm) :=
(if x1 = (115 : Int32) then
ck 12 M x0 (bnd (f_X12_readsNumber N x0 M) (fun v1 M2 =>
(if v1 = 0 then
some ((0 : Int32), M2)
else
ck 12 M2 x0 (bnd (f_X12_takes N x0 (32 : Int32) M2) (fun v4 M5 =>
(if v4 = 0 then
some ((0 : Int32), M5)
else
ck 12 M5 x0 (bnd (f_X12_readsNumber N x0 M5) (fun v7 M8 =>
(if v7 = 0 then
some ((0 : Int32), M8)
else
ck 12 M8 x0 (bnd (f_X12_takes N x0 (32 : Int32) M8) (fun v10 M11 =>
(if v10 = 0 then
some ((0 : Int32), M11)
else
ck 12 M11 x0 (bnd (f_X12_readsNumber N x0 M11) (fun v13 M14 =>
(if v13 = 0 then
some ((0 : Int32), M14)
else
j_X12_readsStatement_147 N x0 M14)))))))))))))))
else
j_X12_readsStatement_147 N x0 M)
set_option maxRecDepth 100000 in
set_option maxHeartbeats 4000000 in
theorem w_X12_readsStatement_100 {X : Cx} {G : Gl} {r : (Int32 × Mm)} (N : Nat) (hC : CX X G yX12_readsStatement cX12_readsStatement 2 (some .boolean) rm_X12_readsStatement) (x0 : Nat) (x1 : Int32) (M : Mm) (h : j_X12_readsStatement_100 N x0 x1 M = some r) : TW X G 2 (RQ X G (some (.int r.1)) r.2 rm_X12_readsStatement) 0 0 M 100 [(0, .ref x0), (1, .int x1)] [] := by
  unfold j_X12_readsStatement_100 at h
  refine zt_iload_n hC rfl dX12_readsStatement_100 ?_
  refine zt_bipush hC kb_115 dX12_readsStatement_101 ?_
  refine zt_icmp_ne (tgt := 147) hC h (by decide) dX12_readsStatement_103 (fun h => ?_) (fun h => ?_)
  · refine zt_keep [0] rfl ?_
    exact w_X12_readsStatement_147 N hC x0 M h
  · refine zt_aload_n hC rfl dX12_readsStatement_106 ?_
    obtain ⟨hk, h⟩ := ck_some h
    obtain ⟨v1, M2, h3, h⟩ := bnd_some h
    refine zt_callV (z := yX12_readsNumber) (As := []) (rest := []) (st1 := (.int v1 :: [])) hC 0 hk cl12 (fun l hl => c_X12_readsNumber N x0 M (v1, M2) h3 l hl) rfl wd_1093 wd_1090 wd_1092 ws_26 wd_7 hd_X12_readsNumber rfl ⟨⟨(Nat.le_of_ble_eq_true rfl), (Nat.le_of_ble_eq_true rfl)⟩, (Nat.le_of_ble_eq_true rfl), (Nat.le_of_ble_eq_true rfl)⟩ rfl (Nat.le_of_ble_eq_true rfl) rfl dX12_readsStatement_107 ?_
    refine zt_if_eq (tgt := 145) hC h (by decide) dX12_readsStatement_110 (fun h => ?_) (fun h => ?_)
    · refine zt_iconst hC ki_0 dX12_readsStatement_145 ?_
      obtain rfl := Option.some.inj h
      exact zt_zret hC rfl rfl (Or.inl rfl) (Nat.le_of_ble_eq_true rfl) (Nat.le_of_ble_eq_true rfl) dX12_readsStatement_146
    · refine zt_aload_n hC rfl dX12_readsStatement_113 ?_
      refine zt_bipush hC kb_32 dX12_readsStatement_114 ?_
      obtain ⟨hk, h⟩ := ck_some h
      obtain ⟨v4, M5, h6, h⟩ := bnd_some h
      refine zt_callV (z := yX12_takes) (As := [.int (32 : Int32)]) (rest := []) (st1 := (.int v4 :: [])) hC 1 hk cl12 (fun l hl => c_X12_takes N x0 (32 : Int32) M2 (v4, M5) h6 l hl) rfl wd_1089 wd_1086 wd_1088 ws_25 wd_7 hd_X12_takes rfl ⟨⟨(Nat.le_of_ble_eq_true rfl), (Nat.le_of_ble_eq_true rfl)⟩, (Nat.le_of_ble_eq_true rfl), (Nat.le_of_ble_eq_true rfl)⟩ rfl (Nat.le_of_ble_eq_true rfl) rfl dX12_readsStatement_116 ?_
      refine zt_if_eq (tgt := 145) hC h (by decide) dX12_readsStatement_119 (fun h => ?_) (fun h => ?_)
      · refine zt_iconst hC ki_0 dX12_readsStatement_145 ?_
        obtain rfl := Option.some.inj h
        exact zt_zret hC rfl rfl (Or.inl rfl) (Nat.le_of_ble_eq_true rfl) (Nat.le_of_ble_eq_true rfl) dX12_readsStatement_146
      · refine zt_aload_n hC rfl dX12_readsStatement_122 ?_
        obtain ⟨hk, h⟩ := ck_some h
        obtain ⟨v7, M8, h9, h⟩ := bnd_some h
        refine zt_callV (z := yX12_readsNumber) (As := []) (rest := []) (st1 := (.int v7 :: [])) hC 0 hk cl12 (fun l hl => c_X12_readsNumber N x0 M5 (v7, M8) h9 l hl) rfl wd_1093 wd_1090 wd_1092 ws_26 wd_7 hd_X12_readsNumber rfl ⟨⟨(Nat.le_of_ble_eq_true rfl), (Nat.le_of_ble_eq_true rfl)⟩, (Nat.le_of_ble_eq_true rfl), (Nat.le_of_ble_eq_true rfl)⟩ rfl (Nat.le_of_ble_eq_true rfl) rfl dX12_readsStatement_123 ?_
        refine zt_if_eq (tgt := 145) hC h (by decide) dX12_readsStatement_126 (fun h => ?_) (fun h => ?_)
        · refine zt_iconst hC ki_0 dX12_readsStatement_145 ?_
          obtain rfl := Option.some.inj h
          exact zt_zret hC rfl rfl (Or.inl rfl) (Nat.le_of_ble_eq_true rfl) (Nat.le_of_ble_eq_true rfl) dX12_readsStatement_146
        · refine zt_aload_n hC rfl dX12_readsStatement_129 ?_
          refine zt_bipush hC kb_32 dX12_readsStatement_130 ?_
          obtain ⟨hk, h⟩ := ck_some h
          obtain ⟨v10, M11, h12, h⟩ := bnd_some h
          refine zt_callV (z := yX12_takes) (As := [.int (32 : Int32)]) (rest := []) (st1 := (.int v10 :: [])) hC 1 hk cl12 (fun l hl => c_X12_takes N x0 (32 : Int32) M8 (v10, M11) h12 l hl) rfl wd_1089 wd_1086 wd_1088 ws_25 wd_7 hd_X12_takes rfl ⟨⟨(Nat.le_of_ble_eq_true rfl), (Nat.le_of_ble_eq_true rfl)⟩, (Nat.le_of_ble_eq_true rfl), (Nat.le_of_ble_eq_true rfl)⟩ rfl (Nat.le_of_ble_eq_true rfl) rfl dX12_readsStatement_132 ?_
          refine zt_if_eq (tgt := 145) hC h (by decide) dX12_readsStatement_135 (fun h => ?_) (fun h => ?_)
          · refine zt_iconst hC ki_0 dX12_readsStatement_145 ?_
            obtain rfl := Option.some.inj h
            exact zt_zret hC rfl rfl (Or.inl rfl) (Nat.le_of_ble_eq_true rfl) (Nat.le_of_ble_eq_true rfl) dX12_readsStatement_146
          · refine zt_aload_n hC rfl dX12_readsStatement_138 ?_
            obtain ⟨hk, h⟩ := ck_some h
            obtain ⟨v13, M14, h15, h⟩ := bnd_some h
            refine zt_callV (z := yX12_readsNumber) (As := []) (rest := []) (st1 := (.int v13 :: [])) hC 0 hk cl12 (fun l hl => c_X12_readsNumber N x0 M11 (v13, M14) h15 l hl) rfl wd_1093 wd_1090 wd_1092 ws_26 wd_7 hd_X12_readsNumber rfl ⟨⟨(Nat.le_of_ble_eq_true rfl), (Nat.le_of_ble_eq_true rfl)⟩, (Nat.le_of_ble_eq_true rfl), (Nat.le_of_ble_eq_true rfl)⟩ rfl (Nat.le_of_ble_eq_true rfl) rfl dX12_readsStatement_139 ?_
            refine zt_if_ne (tgt := 147) hC h (by decide) dX12_readsStatement_142 (fun h => ?_) (fun h => ?_)
            · refine zt_keep [0] rfl ?_
              exact w_X12_readsStatement_147 N hC x0 M14 h
            · refine zt_iconst hC ki_0 dX12_readsStatement_145 ?_
              obtain rfl := Option.some.inj h
              exact zt_zret hC rfl rfl (Or.inl rfl) (Nat.le_of_ble_eq_true rfl) (Nat.le_of_ble_eq_true rfl) dX12_readsStatement_146
def j_X12_readsStatement_85 (N : Nat) (x0 : Nat) (x1 : Int32) (M : Mm) : Option (Int32 × Mm) :=
(if x1 = (109 : Int32) then
ck 12 M x0 (bnd (f_X12_readsDigit N x0 M) (fun v1 M2 =>
(if v1 = 0 then
some ((0 : Int32), M2)
else
j_X12_readsStatement_100 N x0 x1 M2)))
else
j_X12_readsStatement_100 N x0 x1 M)
set_option maxRecDepth 100000 in
set_option maxHeartbeats 4000000 in
theorem w_X12_readsStatement_85 {X : Cx} {G : Gl} {r : (Int32 × Mm)} (N : Nat) (hC : CX X G yX12_readsStatement cX12_readsStatement 2 (some .boolean) rm_X12_readsStatement) (x0 : Nat) (x1 : Int32) (M : Mm) (h : j_X12_readsStatement_85 N x0 x1 M = some r) : TW X G 2 (RQ X G (some (.int r.1)) r.2 rm_X12_readsStatement) 0 0 M 85 [(0, .ref x0), (1, .int x1)] [] := by
  unfold j_X12_readsStatement_85 at h
  refine zt_iload_n hC rfl dX12_readsStatement_85 ?_
  refine zt_bipush hC kb_109 dX12_readsStatement_86 ?_
  refine zt_icmp_ne (tgt := 100) hC h (by decide) dX12_readsStatement_88 (fun h => ?_) (fun h => ?_)
  · refine zt_keep [0, 1] rfl ?_
    exact w_X12_readsStatement_100 N hC x0 x1 M h
  · refine zt_aload_n hC rfl dX12_readsStatement_91 ?_
    obtain ⟨hk, h⟩ := ck_some h
    obtain ⟨v1, M2, h3, h⟩ := bnd_some h
    refine zt_callV (z := yX12_readsDigit) (As := []) (rest := []) (st1 := (.int v1 :: [])) hC 0 hk cl12 (fun l hl => c_X12_readsDigit N x0 M (v1, M2) h3 l hl) rfl wd_1079 wd_1076 wd_1078 ws_23 wd_7 hd_X12_readsDigit rfl ⟨⟨(Nat.le_of_ble_eq_true rfl), (Nat.le_of_ble_eq_true rfl)⟩, (Nat.le_of_ble_eq_true rfl), (Nat.le_of_ble_eq_true rfl)⟩ rfl (Nat.le_of_ble_eq_true rfl) rfl dX12_readsStatement_92 ?_
    refine zt_if_ne (tgt := 100) hC h (by decide) dX12_readsStatement_95 (fun h => ?_) (fun h => ?_)
    · refine zt_keep [0, 1] rfl ?_
      exact w_X12_readsStatement_100 N hC x0 x1 M2 h
    · refine zt_iconst hC ki_0 dX12_readsStatement_98 ?_
      obtain rfl := Option.some.inj h
      exact zt_zret hC rfl rfl (Or.inl rfl) (Nat.le_of_ble_eq_true rfl) (Nat.le_of_ble_eq_true rfl) dX12_readsStatement_99
def j_X12_readsStatement_67 (N : Nat) (x0 : Nat) (x1 : Int32) (M : Mm) : Option (Int32 × Mm) :=
ck 12 M x0 (bnd (f_X12_readsDigit N x0 M) (fun v1 M2 =>
(if v1 = 0 then
some ((0 : Int32), M2)
else
ck 12 M2 x0 (bnd (f_X12_takes N x0 (32 : Int32) M2) (fun v4 M5 =>
(if v4 = 0 then
some ((0 : Int32), M5)
else
j_X12_readsStatement_85 N x0 x1 M5))))))
set_option maxRecDepth 100000 in
set_option maxHeartbeats 4000000 in
theorem w_X12_readsStatement_67 {X : Cx} {G : Gl} {r : (Int32 × Mm)} (N : Nat) (hC : CX X G yX12_readsStatement cX12_readsStatement 2 (some .boolean) rm_X12_readsStatement) (x0 : Nat) (x1 : Int32) (M : Mm) (h : j_X12_readsStatement_67 N x0 x1 M = some r) : TW X G 2 (RQ X G (some (.int r.1)) r.2 rm_X12_readsStatement) 0 0 M 67 [(0, .ref x0), (1, .int x1)] [] := by
  unfold j_X12_readsStatement_67 at h
  refine zt_aload_n hC rfl dX12_readsStatement_67 ?_
  obtain ⟨hk, h⟩ := ck_some h
  obtain ⟨v1, M2, h3, h⟩ := bnd_some h
  refine zt_callV (z := yX12_readsDigit) (As := []) (rest := []) (st1 := (.int v1 :: [])) hC 0 hk cl12 (fun l hl => c_X12_readsDigit N x0 M (v1, M2) h3 l hl) rfl wd_1079 wd_1076 wd_1078 ws_23 wd_7 hd_X12_readsDigit rfl ⟨⟨(Nat.le_of_ble_eq_true rfl), (Nat.le_of_ble_eq_true rfl)⟩, (Nat.le_of_ble_eq_true rfl), (Nat.le_of_ble_eq_true rfl)⟩ rfl (Nat.le_of_ble_eq_true rfl) rfl dX12_readsStatement_68 ?_
  refine zt_if_eq (tgt := 83) hC h (by decide) dX12_readsStatement_71 (fun h => ?_) (fun h => ?_)
  · refine zt_iconst hC ki_0 dX12_readsStatement_83 ?_
    obtain rfl := Option.some.inj h
    exact zt_zret hC rfl rfl (Or.inl rfl) (Nat.le_of_ble_eq_true rfl) (Nat.le_of_ble_eq_true rfl) dX12_readsStatement_84
  · refine zt_aload_n hC rfl dX12_readsStatement_74 ?_
    refine zt_bipush hC kb_32 dX12_readsStatement_75 ?_
    obtain ⟨hk, h⟩ := ck_some h
    obtain ⟨v4, M5, h6, h⟩ := bnd_some h
    refine zt_callV (z := yX12_takes) (As := [.int (32 : Int32)]) (rest := []) (st1 := (.int v4 :: [])) hC 1 hk cl12 (fun l hl => c_X12_takes N x0 (32 : Int32) M2 (v4, M5) h6 l hl) rfl wd_1089 wd_1086 wd_1088 ws_25 wd_7 hd_X12_takes rfl ⟨⟨(Nat.le_of_ble_eq_true rfl), (Nat.le_of_ble_eq_true rfl)⟩, (Nat.le_of_ble_eq_true rfl), (Nat.le_of_ble_eq_true rfl)⟩ rfl (Nat.le_of_ble_eq_true rfl) rfl dX12_readsStatement_77 ?_
    refine zt_if_ne (tgt := 85) hC h (by decide) dX12_readsStatement_80 (fun h => ?_) (fun h => ?_)
    · refine zt_keep [0, 1] rfl ?_
      exact w_X12_readsStatement_85 N hC x0 x1 M5 h
    · refine zt_iconst hC ki_0 dX12_readsStatement_83 ?_
      obtain rfl := Option.some.inj h
      exact zt_zret hC rfl rfl (Or.inl rfl) (Nat.le_of_ble_eq_true rfl) (Nat.le_of_ble_eq_true rfl) dX12_readsStatement_84
def j_X12_readsStatement_36 (N : Nat) (x0 : Nat) (x1 : Int32) (M : Mm) : Option (Int32 × Mm) :=
gI 12 M x0 12 (fun v1 =>
pI 12 M x0 12 (v1 + (1 : Int32)) (fun M2 =>
ck 12 M2 x0 (bnd (f_X12_readsDigit N x0 M2) (fun v3 M4 =>
(if v3 = 0 then
some ((0 : Int32), M4)
else
(if x1 = (109 : Int32) then
j_X12_readsStatement_67 N x0 x1 M4
else
(if x1 = (115 : Int32) then
j_X12_readsStatement_67 N x0 x1 M4
else
j_X12_readsStatement_85 N x0 x1 M4)))))))
set_option maxRecDepth 100000 in
set_option maxHeartbeats 4000000 in
theorem w_X12_readsStatement_36 {X : Cx} {G : Gl} {r : (Int32 × Mm)} (N : Nat) (hC : CX X G yX12_readsStatement cX12_readsStatement 2 (some .boolean) rm_X12_readsStatement) (x0 : Nat) (x1 : Int32) (M : Mm) (h : j_X12_readsStatement_36 N x0 x1 M = some r) : TW X G 2 (RQ X G (some (.int r.1)) r.2 rm_X12_readsStatement) 0 0 M 36 [(0, .ref x0), (1, .int x1)] [] := by
  unfold j_X12_readsStatement_36 at h
  refine zt_aload_n hC rfl dX12_readsStatement_36 ?_
  refine zt_dup hC rfl dX12_readsStatement_37 ?_
  refine zt_gI hC h cl12 (k := 12) (by decide) rfl wd_1003 (Or.inl rfl) dX12_readsStatement_38 (fun v1 h => ?_)
  refine zt_iconst hC ki_1 dX12_readsStatement_41 ?_
  refine zt_iadd hC dX12_readsStatement_42 ?_
  refine zt_pI hC h cl12 (k := 12) (by decide) rfl wd_1003 (Or.inl rfl) (Or.inl rfl) dX12_readsStatement_43 (fun M2 h => ?_)
  refine zt_aload_n hC rfl dX12_readsStatement_46 ?_
  obtain ⟨hk, h⟩ := ck_some h
  obtain ⟨v3, M4, h5, h⟩ := bnd_some h
  refine zt_callV (z := yX12_readsDigit) (As := []) (rest := []) (st1 := (.int v3 :: [])) hC 0 hk cl12 (fun l hl => c_X12_readsDigit N x0 M2 (v3, M4) h5 l hl) rfl wd_1079 wd_1076 wd_1078 ws_23 wd_7 hd_X12_readsDigit rfl ⟨⟨(Nat.le_of_ble_eq_true rfl), (Nat.le_of_ble_eq_true rfl)⟩, (Nat.le_of_ble_eq_true rfl), (Nat.le_of_ble_eq_true rfl)⟩ rfl (Nat.le_of_ble_eq_true rfl) rfl dX12_readsStatement_47 ?_
  refine zt_if_ne (tgt := 55) hC h (by decide) dX12_readsStatement_50 (fun h => ?_) (fun h => ?_)
  · refine zt_iload_n hC rfl dX12_readsStatement_55 ?_
    refine zt_bipush hC kb_109 dX12_readsStatement_56 ?_
    refine zt_icmp_eq (tgt := 67) hC h (by decide) dX12_readsStatement_58 (fun h => ?_) (fun h => ?_)
    · refine zt_keep [0, 1] rfl ?_
      exact w_X12_readsStatement_67 N hC x0 x1 M4 h
    · refine zt_iload_n hC rfl dX12_readsStatement_61 ?_
      refine zt_bipush hC kb_115 dX12_readsStatement_62 ?_
      refine zt_icmp_ne (tgt := 85) hC h (by decide) dX12_readsStatement_64 (fun h => ?_) (fun h => ?_)
      · refine zt_keep [0, 1] rfl ?_
        exact w_X12_readsStatement_85 N hC x0 x1 M4 h
      · refine zt_keep [0, 1] rfl ?_
        exact w_X12_readsStatement_67 N hC x0 x1 M4 h
  · refine zt_iconst hC ki_0 dX12_readsStatement_53 ?_
    obtain rfl := Option.some.inj h
    exact zt_zret hC rfl rfl (Or.inl rfl) (Nat.le_of_ble_eq_true rfl) (Nat.le_of_ble_eq_true rfl) dX12_readsStatement_54
def f_X12_readsStatement (N : Nat) (x0 : Nat) (M : Mm) : Option (Int32 × Mm) :=
ck 12 M x0 (bnd (f_X12_here N x0 M) (fun v1 M2 =>
pI 12 M2 x0 15 (0 : Int32) (fun M4 =>
(if v1 = (110 : Int32) then
j_X12_readsStatement_36 N x0 v1 M4
else
(if v1 = (109 : Int32) then
j_X12_readsStatement_36 N x0 v1 M4
else
(if v1 = (115 : Int32) then
j_X12_readsStatement_36 N x0 v1 M4
else
(if v1 = (98 : Int32) then
j_X12_readsStatement_36 N x0 v1 M4
else
some ((0 : Int32), M4))))))))
set_option maxRecDepth 100000 in
set_option maxHeartbeats 4000000 in
theorem c_X12_readsStatement (N : Nat) (x0 : Nat) (M : Mm) (r : (Int32 × Mm)) (h : f_X12_readsStatement N x0 M = some r) (l : Launch) (hfl : l.flags = flags0) {G : Gl} : MT l G yX12_readsStatement cX12_readsStatement 2 (some .boolean) rm_X12_readsStatement [.ref x0] M (some (.int r.1)) r.2 := by
  unfold f_X12_readsStatement at h
  refine zt_start hfl (lv := [(0, .ref x0)]) (by decide) (Nat.le_of_ble_eq_true rfl) rfl wd_1071 (fun X hC _ => ?_)
  refine zt_aload_n hC rfl dX12_readsStatement_0 ?_
  obtain ⟨hk, h⟩ := ck_some h
  obtain ⟨v1, M2, h3, h⟩ := bnd_some h
  refine zt_callV (z := yX12_here) (As := []) (rest := []) (st1 := (.int v1 :: [])) hC 0 hk cl12 (fun l hl => c_X12_here N x0 M (v1, M2) h3 l hl) rfl wd_1075 wd_1072 wd_1074 ws_22 wd_7 hd_X12_here rfl ⟨⟨(Nat.le_of_ble_eq_true rfl), (Nat.le_of_ble_eq_true rfl)⟩, (Nat.le_of_ble_eq_true rfl), (Nat.le_of_ble_eq_true rfl)⟩ rfl (Nat.le_of_ble_eq_true rfl) rfl dX12_readsStatement_1 ?_
  refine zt_istore_n (lv' := [(1, .int v1), (0, .ref x0)]) hC (by decide) rfl dX12_readsStatement_4 ?_
  refine zt_aload_n hC rfl dX12_readsStatement_5 ?_
  refine zt_iconst hC ki_0 dX12_readsStatement_6 ?_
  refine zt_pI hC h cl12 (k := 15) (by decide) rfl wd_1006 (Or.inl rfl) (Or.inl rfl) dX12_readsStatement_7 (fun M4 h => ?_)
  refine zt_iload_n hC rfl dX12_readsStatement_10 ?_
  refine zt_bipush hC kb_110 dX12_readsStatement_11 ?_
  refine zt_icmp_eq (tgt := 36) hC h (by decide) dX12_readsStatement_13 (fun h => ?_) (fun h => ?_)
  · refine zt_keep [0, 1] rfl ?_
    exact w_X12_readsStatement_36 N hC x0 v1 M4 h
  · refine zt_iload_n hC rfl dX12_readsStatement_16 ?_
    refine zt_bipush hC kb_109 dX12_readsStatement_17 ?_
    refine zt_icmp_eq (tgt := 36) hC h (by decide) dX12_readsStatement_19 (fun h => ?_) (fun h => ?_)
    · refine zt_keep [0, 1] rfl ?_
      exact w_X12_readsStatement_36 N hC x0 v1 M4 h
    · refine zt_iload_n hC rfl dX12_readsStatement_22 ?_
      refine zt_bipush hC kb_115 dX12_readsStatement_23 ?_
      refine zt_icmp_eq (tgt := 36) hC h (by decide) dX12_readsStatement_25 (fun h => ?_) (fun h => ?_)
      · refine zt_keep [0, 1] rfl ?_
        exact w_X12_readsStatement_36 N hC x0 v1 M4 h
      · refine zt_iload_n hC rfl dX12_readsStatement_28 ?_
        refine zt_bipush hC kb_98 dX12_readsStatement_29 ?_
        refine zt_icmp_eq (tgt := 36) hC h (by decide) dX12_readsStatement_31 (fun h => ?_) (fun h => ?_)
        · refine zt_keep [0, 1] rfl ?_
          exact w_X12_readsStatement_36 N hC x0 v1 M4 h
        · refine zt_iconst hC ki_0 dX12_readsStatement_34 ?_
          obtain rfl := Option.some.inj h
          exact zt_zret hC rfl rfl (Or.inl rfl) (Nat.le_of_ble_eq_true rfl) (Nat.le_of_ble_eq_true rfl) dX12_readsStatement_35
def rm_X12_mayHave : Room := { frames := 1, cells := 0, slots := 0, locals := 25 }
theorem hd_X12_mayHave : yX12_mayHave.cls ≠ "java/lang/invoke/MethodHandle" ∧ yX12_mayHave.cls ≠ "java/lang/invoke/VarHandle" ∧ (parseMethodDescriptor yX12_mayHave.desc).map (fun d => d.parameters.length) = some 1 := by decide +kernel
def j_X12_mayHave_138 (N : Nat) (k93 : Nat → Int32 → Int32 → Int32 → Mm → Option (Int32 × Mm)) (x0 : Nat) (x1 : Int32) (x3 : Int32) (s0 : Int32) (M : Mm) : Option (Int32 × Mm) :=
k93 x0 x1 s0 (x3 + (1 : Int32)) M
set_option maxRecDepth 100000 in
set_option maxHeartbeats 4000000 in
theorem w_X12_mayHave_138 {X : Cx} {G : Gl} {r : (Int32 × Mm)} (N : Nat) (hC : CX X G yX12_mayHave cX12_mayHave 4 (some .boolean) rm_X12_mayHave) (k93 : Nat → Int32 → Int32 → Int32 → Mm → Option (Int32 × Mm)) (hk93 : ∀ (x0 : Nat) (x1 : Int32) (x2 : Int32) (x3 : Int32) (M : Mm), k93 x0 x1 x2 x3 M = some r → TW X G 4 (RQ X G (some (.int r.1)) r.2 rm_X12_mayHave) 0 0 M 93 [(0, .ref x0), (1, .int x1), (2, .int x2), (3, .int x3)] []) (x0 : Nat) (x1 : Int32) (x3 : Int32) (s0 : Int32) (M : Mm) (h : j_X12_mayHave_138 N k93 x0 x1 x3 s0 M = some r) : TW X G 4 (RQ X G (some (.int r.1)) r.2 rm_X12_mayHave) 0 0 M 138 [(0, .ref x0), (1, .int x1), (3, .int x3)] [.int s0] := by
  unfold j_X12_mayHave_138 at h
  refine zt_istore_n (lv' := [(2, .int s0), (0, .ref x0), (1, .int x1), (3, .int x3)]) hC (by decide) rfl dX12_mayHave_138 ?_
  refine zt_iinc (v := (x3 + (1 : Int32))) (lv' := [(3, .int (x3 + (1 : Int32))), (2, .int s0), (0, .ref x0), (1, .int x1)]) hC rfl (by rw [ki_1]) (by decide) rfl dX12_mayHave_139 ?_
  refine zt_goto (tgt := 93) hC (by decide) dX12_mayHave_142 ?_
  refine zt_keep [0, 1, 2, 3] rfl ?_
  exact hk93 x0 x1 s0 (x3 + (1 : Int32)) M h
def j_X12_mayHave_137 (N : Nat) (k93 : Nat → Int32 → Int32 → Int32 → Mm → Option (Int32 × Mm)) (x0 : Nat) (x1 : Int32) (x3 : Int32) (M : Mm) : Option (Int32 × Mm) :=
j_X12_mayHave_138 N k93 x0 x1 x3 (0 : Int32) M
set_option maxRecDepth 100000 in
set_option maxHeartbeats 4000000 in
theorem w_X12_mayHave_137 {X : Cx} {G : Gl} {r : (Int32 × Mm)} (N : Nat) (hC : CX X G yX12_mayHave cX12_mayHave 4 (some .boolean) rm_X12_mayHave) (k93 : Nat → Int32 → Int32 → Int32 → Mm → Option (Int32 × Mm)) (hk93 : ∀ (x0 : Nat) (x1 : Int32) (x2 : Int32) (x3 : Int32) (M : Mm), k93 x0 x1 x2 x3 M = some r → TW X G 4 (RQ X G (some (.int r.1)) r.2 rm_X12_mayHave) 0 0 M 93 [(0, .ref x0), (1, .int x1), (2, .int x2), (3, .int x3)] []) (x0 : Nat) (x1 : Int32) (x3 : Int32) (M : Mm) (h : j_X12_mayHave_137 N k93 x0 x1 x3 M = some r) : TW X G 4 (RQ X G (some (.int r.1)) r.2 rm_X12_mayHave) 0 0 M 137 [(0, .ref x0), (1, .int x1), (3, .int x3)] [] := by
  unfold j_X12_mayHave_137 at h
  refine zt_iconst hC ki_0 dX12_mayHave_137 ?_
  refine zt_keep [0, 1, 3] rfl ?_
  exact w_X12_mayHave_138 N hC k93 hk93 x0 x1 x3 (0 : Int32) M h
def b_X12_mayHave_93 (N : Nat) (k93 : Nat → Int32 → Int32 → Int32 → Mm → Option (Int32 × Mm)) (x0 : Nat) (x1 : Int32) (x2 : Int32) (x3 : Int32) (M : Mm) : Option (Int32 × Mm) :=
gR 12 M x0 3 (fun v1 =>
ald M v1 (1 : Int32) (fun v2 =>
(if v2 ≤ x3 then
rq (x2 = 0 ∨ x2 = 1) (some (x2, M))
else
(if x2 = 0 then
j_X12_mayHave_137 N k93 x0 x1 x3 M
else
gR 12 M x0 3 (fun v3 =>
bnd (f_X12_get N v3 x3 (0 : Int32) M) (fun v4 M5 =>
(if x1 ≤ v4 then
j_X12_mayHave_137 N k93 x0 x1 x3 M5
else
gR 12 M5 x0 3 (fun v7 =>
bnd (f_X12_get N v7 x3 (1 : Int32) M5) (fun v8 M9 =>
(if x1 ≤ v8 then
j_X12_mayHave_137 N k93 x0 x1 x3 M9
else
j_X12_mayHave_138 N k93 x0 x1 x3 (1 : Int32) M9))))))))))
def l_X12_mayHave_93 (N : Nat) : Nat → Nat → Int32 → Int32 → Int32 → Mm → Option (Int32 × Mm)
  | 0 => fun _ _ _ _ _ => none
  | n + 1 => b_X12_mayHave_93 N (l_X12_mayHave_93 N n)
set_option maxRecDepth 100000 in
set_option maxHeartbeats 4000000 in
theorem v_X12_mayHave_93 {X : Cx} {G : Gl} {r : (Int32 × Mm)} (N : Nat) (hC : CX X G yX12_mayHave cX12_mayHave 4 (some .boolean) rm_X12_mayHave) (k93 : Nat → Int32 → Int32 → Int32 → Mm → Option (Int32 × Mm)) (hk93 : ∀ (x0 : Nat) (x1 : Int32) (x2 : Int32) (x3 : Int32) (M : Mm), k93 x0 x1 x2 x3 M = some r → TW X G 4 (RQ X G (some (.int r.1)) r.2 rm_X12_mayHave) 0 0 M 93 [(0, .ref x0), (1, .int x1), (2, .int x2), (3, .int x3)] []) (x0 : Nat) (x1 : Int32) (x2 : Int32) (x3 : Int32) (M : Mm) (h : b_X12_mayHave_93 N k93 x0 x1 x2 x3 M = some r) : TW X G 4 (RQ X G (some (.int r.1)) r.2 rm_X12_mayHave) 0 0 M 93 [(0, .ref x0), (1, .int x1), (2, .int x2), (3, .int x3)] [] := by
  unfold b_X12_mayHave_93 at h
  refine zt_iload_n hC rfl dX12_mayHave_93 ?_
  refine zt_aload_n hC rfl dX12_mayHave_94 ?_
  refine zt_gR hC h cl12 (k := 3) (by decide) rfl wd_994 (Or.inl rfl) dX12_mayHave_95 (fun v1 h => ?_)
  refine zt_iconst hC ki_1 dX12_mayHave_98 ?_
  refine zt_ald hC h dX12_mayHave_99 (fun v2 h => ?_)
  refine zt_icmp_ge (tgt := 145) hC h (by decide) dX12_mayHave_100 (fun h => ?_) (fun h => ?_)
  · refine zt_iload_n hC rfl dX12_mayHave_145 ?_
    obtain ⟨hz, h⟩ := rq_some h
    obtain rfl := Option.some.inj h
    exact zt_zret hC rfl rfl hz (Nat.le_of_ble_eq_true rfl) (Nat.le_of_ble_eq_true rfl) dX12_mayHave_146
  · refine zt_iload_n hC rfl dX12_mayHave_103 ?_
    refine zt_if_eq (tgt := 137) hC h (by decide) dX12_mayHave_104 (fun h => ?_) (fun h => ?_)
    · refine zt_keep [0, 1, 3] rfl ?_
      exact w_X12_mayHave_137 N hC k93 hk93 x0 x1 x3 M h
    · refine zt_aload_n hC rfl dX12_mayHave_107 ?_
      refine zt_gR hC h cl12 (k := 3) (by decide) rfl wd_994 (Or.inl rfl) dX12_mayHave_108 (fun v3 h => ?_)
      refine zt_iload_n hC rfl dX12_mayHave_111 ?_
      refine zt_iconst hC ki_0 dX12_mayHave_112 ?_
      obtain ⟨v4, M5, h6, h⟩ := bnd_some h
      refine zt_callS (z := yX12_get) (As := [.ref v3, .int x3, .int (0 : Int32)]) (rest := []) (st1 := (.int v4 :: [])) hC 3 (fun l hl => c_X12_get N v3 x3 (0 : Int32) M (v4, M5) h6 l hl) rfl wd_1112 wd_1110 wd_1111 wd_7 hd_X12_get rfl ⟨⟨(Nat.le_of_ble_eq_true rfl), (Nat.le_of_ble_eq_true rfl)⟩, (Nat.le_of_ble_eq_true rfl), (Nat.le_of_ble_eq_true rfl)⟩ rfl (Nat.le_of_ble_eq_true rfl) rfl dX12_mayHave_113 ?_
      refine zt_iload_n hC rfl dX12_mayHave_116 ?_
      refine zt_icmp_ge (tgt := 137) hC h (by decide) dX12_mayHave_117 (fun h => ?_) (fun h => ?_)
      · refine zt_keep [0, 1, 3] rfl ?_
        exact w_X12_mayHave_137 N hC k93 hk93 x0 x1 x3 M5 h
      · refine zt_aload_n hC rfl dX12_mayHave_120 ?_
        refine zt_gR hC h cl12 (k := 3) (by decide) rfl wd_994 (Or.inl rfl) dX12_mayHave_121 (fun v7 h => ?_)
        refine zt_iload_n hC rfl dX12_mayHave_124 ?_
        refine zt_iconst hC ki_1 dX12_mayHave_125 ?_
        obtain ⟨v8, M9, h10, h⟩ := bnd_some h
        refine zt_callS (z := yX12_get) (As := [.ref v7, .int x3, .int (1 : Int32)]) (rest := []) (st1 := (.int v8 :: [])) hC 3 (fun l hl => c_X12_get N v7 x3 (1 : Int32) M5 (v8, M9) h10 l hl) rfl wd_1112 wd_1110 wd_1111 wd_7 hd_X12_get rfl ⟨⟨(Nat.le_of_ble_eq_true rfl), (Nat.le_of_ble_eq_true rfl)⟩, (Nat.le_of_ble_eq_true rfl), (Nat.le_of_ble_eq_true rfl)⟩ rfl (Nat.le_of_ble_eq_true rfl) rfl dX12_mayHave_126 ?_
        refine zt_iload_n hC rfl dX12_mayHave_129 ?_
        refine zt_icmp_ge (tgt := 137) hC h (by decide) dX12_mayHave_130 (fun h => ?_) (fun h => ?_)
        · refine zt_keep [0, 1, 3] rfl ?_
          exact w_X12_mayHave_137 N hC k93 hk93 x0 x1 x3 M9 h
        · refine zt_iconst hC ki_1 dX12_mayHave_133 ?_
          refine zt_goto (tgt := 138) hC (by decide) dX12_mayHave_134 ?_
          refine zt_keep [0, 1, 3] rfl ?_
          exact w_X12_mayHave_138 N hC k93 hk93 x0 x1 x3 (1 : Int32) M9 h
theorem w_X12_mayHave_93 {X : Cx} {G : Gl} {r : (Int32 × Mm)} (N : Nat) (hC : CX X G yX12_mayHave cX12_mayHave 4 (some .boolean) rm_X12_mayHave) (n : Nat) : ∀ (x0 : Nat) (x1 : Int32) (x2 : Int32) (x3 : Int32) (M : Mm), l_X12_mayHave_93 N n x0 x1 x2 x3 M = some r → TW X G 4 (RQ X G (some (.int r.1)) r.2 rm_X12_mayHave) 0 0 M 93 [(0, .ref x0), (1, .int x1), (2, .int x2), (3, .int x3)] [] := by
  induction n with
  | zero => intro  x0 x1 x2 x3 M h; cases (show none = some r from h)
  | succ n ih => intro  x0 x1 x2 x3 M h; exact v_X12_mayHave_93 N hC (l_X12_mayHave_93 N n) ih x0 x1 x2 x3 M h
def j_X12_mayHave_90 (N : Nat) (x0 : Nat) (x1 : Int32) (s0 : Int32) (M : Mm) : Option (Int32 × Mm) :=
l_X12_mayHave_93 N N x0 x1 s0 (0 : Int32) M
set_option maxRecDepth 100000 in
set_option maxHeartbeats 4000000 in
theorem w_X12_mayHave_90 {X : Cx} {G : Gl} {r : (Int32 × Mm)} (N : Nat) (hC : CX X G yX12_mayHave cX12_mayHave 4 (some .boolean) rm_X12_mayHave) (x0 : Nat) (x1 : Int32) (s0 : Int32) (M : Mm) (h : j_X12_mayHave_90 N x0 x1 s0 M = some r) : TW X G 4 (RQ X G (some (.int r.1)) r.2 rm_X12_mayHave) 0 0 M 90 [(0, .ref x0), (1, .int x1)] [.int s0] := by
  unfold j_X12_mayHave_90 at h
  refine zt_istore_n (lv' := [(2, .int s0), (0, .ref x0), (1, .int x1)]) hC (by decide) rfl dX12_mayHave_90 ?_
  refine zt_iconst hC ki_0 dX12_mayHave_91 ?_
  refine zt_istore_n (lv' := [(3, .int (0 : Int32)), (2, .int s0), (0, .ref x0), (1, .int x1)]) hC (by decide) rfl dX12_mayHave_92 ?_
  refine zt_keep [0, 1, 2, 3] rfl ?_
  exact w_X12_mayHave_93 N hC N x0 x1 s0 (0 : Int32) M h
def j_X12_mayHave_89 (N : Nat) (x0 : Nat) (x1 : Int32) (M : Mm) : Option (Int32 × Mm) :=
j_X12_mayHave_90 N x0 x1 (0 : Int32) M
set_option maxRecDepth 100000 in
set_option maxHeartbeats 4000000 in
theorem w_X12_mayHave_89 {X : Cx} {G : Gl} {r : (Int32 × Mm)} (N : Nat) (hC : CX X G yX12_mayHave cX12_mayHave 4 (some .boolean) rm_X12_mayHave) (x0 : Nat) (x1 : Int32) (M : Mm) (h : j_X12_mayHave_89 N x0 x1 M = some r) : TW X G 4 (RQ X G (some (.int r.1)) r.2 rm_X12_mayHave) 0 0 M 89 [(0, .ref x0), (1, .int x1)] [] := by
  unfold j_X12_mayHave_89 at h
  refine zt_iconst hC ki_0 dX12_mayHave_89 ?_
  refine zt_keep [0, 1] rfl ?_
  exact w_X12_mayHave_90 N hC x0 x1 (0 : Int32) M h
def b_X12_mayHave_18 (N : Nat) (k18 : Nat → Int32 → Int32 → Mm → Option (Int32 × Mm)) (x0 : Nat) (x1 : Int32) (x2 : Int32) (M : Mm) : Option (Int32 × Mm) :=
gR 12 M x0 3 (fun v1 =>
ald M v1 (0 : Int32) (fun v2 =>
(if v2 ≤ x2 then
gR 12 M x0 3 (fun v3 =>
bnd (f_X12_boatOf N v3 (0 : Int32) (3 : Int32) M) (fun v4 M5 =>
(if v4 = 0 then
gR 12 M5 x0 3 (fun v7 =>
bnd (f_X12_boatOf N v7 (0 : Int32) (0 : Int32) M5) (fun v8 M9 =>
(if x1 ≤ v8 then
j_X12_mayHave_89 N x0 x1 M9
else
gR 12 M9 x0 3 (fun v11 =>
bnd (f_X12_boatOf N v11 (0 : Int32) (1 : Int32) M9) (fun v12 M13 =>
(if x1 ≤ v12 then
j_X12_mayHave_89 N x0 x1 M13
else
j_X12_mayHave_90 N x0 x1 (1 : Int32) M13))))))
else
j_X12_mayHave_89 N x0 x1 M5)))
else
gR 12 M x0 3 (fun v15 =>
bnd (f_X12_standing N v15 x2 M) (fun v16 M17 =>
(if v16 ≤ 0 then
k18 x0 x1 (x2 + (1 : Int32)) M17
else
some ((0 : Int32), M17)))))))
def l_X12_mayHave_18 (N : Nat) : Nat → Nat → Int32 → Int32 → Mm → Option (Int32 × Mm)
  | 0 => fun _ _ _ _ => none
  | n + 1 => b_X12_mayHave_18 N (l_X12_mayHave_18 N n)
set_option maxRecDepth 100000 in
set_option maxHeartbeats 4000000 in
theorem v_X12_mayHave_18 {X : Cx} {G : Gl} {r : (Int32 × Mm)} (N : Nat) (hC : CX X G yX12_mayHave cX12_mayHave 4 (some .boolean) rm_X12_mayHave) (k18 : Nat → Int32 → Int32 → Mm → Option (Int32 × Mm)) (hk18 : ∀ (x0 : Nat) (x1 : Int32) (x2 : Int32) (M : Mm), k18 x0 x1 x2 M = some r → TW X G 4 (RQ X G (some (.int r.1)) r.2 rm_X12_mayHave) 0 0 M 18 [(0, .ref x0), (1, .int x1), (2, .int x2)] []) (x0 : Nat) (x1 : Int32) (x2 : Int32) (M : Mm) (h : b_X12_mayHave_18 N k18 x0 x1 x2 M = some r) : TW X G 4 (RQ X G (some (.int r.1)) r.2 rm_X12_mayHave) 0 0 M 18 [(0, .ref x0), (1, .int x1), (2, .int x2)] [] := by
  unfold b_X12_mayHave_18 at h
  refine zt_iload_n hC rfl dX12_mayHave_18 ?_
  refine zt_aload_n hC rfl dX12_mayHave_19 ?_
  refine zt_gR hC h cl12 (k := 3) (by decide) rfl wd_994 (Or.inl rfl) dX12_mayHave_20 (fun v1 h => ?_)
  refine zt_iconst hC ki_0 dX12_mayHave_23 ?_
  refine zt_ald hC h dX12_mayHave_24 (fun v2 h => ?_)
  refine zt_icmp_ge (tgt := 47) hC h (by decide) dX12_mayHave_25 (fun h => ?_) (fun h => ?_)
  · refine zt_aload_n hC rfl dX12_mayHave_47 ?_
    refine zt_gR hC h cl12 (k := 3) (by decide) rfl wd_994 (Or.inl rfl) dX12_mayHave_48 (fun v3 h => ?_)
    refine zt_iconst hC ki_0 dX12_mayHave_51 ?_
    refine zt_iconst hC ki_3 dX12_mayHave_52 ?_
    obtain ⟨v4, M5, h6, h⟩ := bnd_some h
    refine zt_callS (z := yX12_boatOf) (As := [.ref v3, .int (0 : Int32), .int (3 : Int32)]) (rest := []) (st1 := (.int v4 :: [])) hC 3 (fun l hl => c_X12_boatOf N v3 (0 : Int32) (3 : Int32) M (v4, M5) h6 l hl) rfl wd_1109 wd_1107 wd_1108 wd_7 hd_X12_boatOf rfl ⟨⟨(Nat.le_of_ble_eq_true rfl), (Nat.le_of_ble_eq_true rfl)⟩, (Nat.le_of_ble_eq_true rfl), (Nat.le_of_ble_eq_true rfl)⟩ rfl (Nat.le_of_ble_eq_true rfl) rfl dX12_mayHave_53 ?_
    refine zt_if_ne (tgt := 89) hC h (by decide) dX12_mayHave_56 (fun h => ?_) (fun h => ?_)
    · refine zt_keep [0, 1] rfl ?_
      exact w_X12_mayHave_89 N hC x0 x1 M5 h
    · refine zt_aload_n hC rfl dX12_mayHave_59 ?_
      refine zt_gR hC h cl12 (k := 3) (by decide) rfl wd_994 (Or.inl rfl) dX12_mayHave_60 (fun v7 h => ?_)
      refine zt_iconst hC ki_0 dX12_mayHave_63 ?_
      refine zt_iconst hC ki_0 dX12_mayHave_64 ?_
      obtain ⟨v8, M9, h10, h⟩ := bnd_some h
      refine zt_callS (z := yX12_boatOf) (As := [.ref v7, .int (0 : Int32), .int (0 : Int32)]) (rest := []) (st1 := (.int v8 :: [])) hC 3 (fun l hl => c_X12_boatOf N v7 (0 : Int32) (0 : Int32) M5 (v8, M9) h10 l hl) rfl wd_1109 wd_1107 wd_1108 wd_7 hd_X12_boatOf rfl ⟨⟨(Nat.le_of_ble_eq_true rfl), (Nat.le_of_ble_eq_true rfl)⟩, (Nat.le_of_ble_eq_true rfl), (Nat.le_of_ble_eq_true rfl)⟩ rfl (Nat.le_of_ble_eq_true rfl) rfl dX12_mayHave_65 ?_
      refine zt_iload_n hC rfl dX12_mayHave_68 ?_
      refine zt_icmp_ge (tgt := 89) hC h (by decide) dX12_mayHave_69 (fun h => ?_) (fun h => ?_)
      · refine zt_keep [0, 1] rfl ?_
        exact w_X12_mayHave_89 N hC x0 x1 M9 h
      · refine zt_aload_n hC rfl dX12_mayHave_72 ?_
        refine zt_gR hC h cl12 (k := 3) (by decide) rfl wd_994 (Or.inl rfl) dX12_mayHave_73 (fun v11 h => ?_)
        refine zt_iconst hC ki_0 dX12_mayHave_76 ?_
        refine zt_iconst hC ki_1 dX12_mayHave_77 ?_
        obtain ⟨v12, M13, h14, h⟩ := bnd_some h
        refine zt_callS (z := yX12_boatOf) (As := [.ref v11, .int (0 : Int32), .int (1 : Int32)]) (rest := []) (st1 := (.int v12 :: [])) hC 3 (fun l hl => c_X12_boatOf N v11 (0 : Int32) (1 : Int32) M9 (v12, M13) h14 l hl) rfl wd_1109 wd_1107 wd_1108 wd_7 hd_X12_boatOf rfl ⟨⟨(Nat.le_of_ble_eq_true rfl), (Nat.le_of_ble_eq_true rfl)⟩, (Nat.le_of_ble_eq_true rfl), (Nat.le_of_ble_eq_true rfl)⟩ rfl (Nat.le_of_ble_eq_true rfl) rfl dX12_mayHave_78 ?_
        refine zt_iload_n hC rfl dX12_mayHave_81 ?_
        refine zt_icmp_ge (tgt := 89) hC h (by decide) dX12_mayHave_82 (fun h => ?_) (fun h => ?_)
        · refine zt_keep [0, 1] rfl ?_
          exact w_X12_mayHave_89 N hC x0 x1 M13 h
        · refine zt_iconst hC ki_1 dX12_mayHave_85 ?_
          refine zt_goto (tgt := 90) hC (by decide) dX12_mayHave_86 ?_
          refine zt_keep [0, 1] rfl ?_
          exact w_X12_mayHave_90 N hC x0 x1 (1 : Int32) M13 h
  · refine zt_aload_n hC rfl dX12_mayHave_28 ?_
    refine zt_gR hC h cl12 (k := 3) (by decide) rfl wd_994 (Or.inl rfl) dX12_mayHave_29 (fun v15 h => ?_)
    refine zt_iload_n hC rfl dX12_mayHave_32 ?_
    obtain ⟨v16, M17, h18, h⟩ := bnd_some h
    refine zt_callS (z := yX12_standing) (As := [.ref v15, .int x2]) (rest := []) (st1 := (.int v16 :: [])) hC 2 (fun l hl => c_X12_standing N v15 x2 M (v16, M17) h18 l hl) rfl wd_1106 wd_1104 wd_1105 wd_7 hd_X12_standing rfl ⟨⟨(Nat.le_of_ble_eq_true rfl), (Nat.le_of_ble_eq_true rfl)⟩, (Nat.le_of_ble_eq_true rfl), (Nat.le_of_ble_eq_true rfl)⟩ rfl (Nat.le_of_ble_eq_true rfl) rfl dX12_mayHave_33 ?_
    refine zt_if_le (tgt := 41) hC h (by decide) dX12_mayHave_36 (fun h => ?_) (fun h => ?_)
    · refine zt_iinc (v := (x2 + (1 : Int32))) (lv' := [(2, .int (x2 + (1 : Int32))), (0, .ref x0), (1, .int x1)]) hC rfl (by rw [ki_1]) (by decide) rfl dX12_mayHave_41 ?_
      refine zt_goto (tgt := 18) hC (by decide) dX12_mayHave_44 ?_
      refine zt_keep [0, 1, 2] rfl ?_
      exact hk18 x0 x1 (x2 + (1 : Int32)) M17 h
    · refine zt_iconst hC ki_0 dX12_mayHave_39 ?_
      obtain rfl := Option.some.inj h
      exact zt_zret hC rfl rfl (Or.inl rfl) (Nat.le_of_ble_eq_true rfl) (Nat.le_of_ble_eq_true rfl) dX12_mayHave_40
theorem w_X12_mayHave_18 {X : Cx} {G : Gl} {r : (Int32 × Mm)} (N : Nat) (hC : CX X G yX12_mayHave cX12_mayHave 4 (some .boolean) rm_X12_mayHave) (n : Nat) : ∀ (x0 : Nat) (x1 : Int32) (x2 : Int32) (M : Mm), l_X12_mayHave_18 N n x0 x1 x2 M = some r → TW X G 4 (RQ X G (some (.int r.1)) r.2 rm_X12_mayHave) 0 0 M 18 [(0, .ref x0), (1, .int x1), (2, .int x2)] [] := by
  induction n with
  | zero => intro  x0 x1 x2 M h; cases (show none = some r from h)
  | succ n ih => intro  x0 x1 x2 M h; exact v_X12_mayHave_18 N hC (l_X12_mayHave_18 N n) ih x0 x1 x2 M h
def f_X12_mayHave (N : Nat) (x0 : Nat) (x1 : Int32) (M : Mm) : Option (Int32 × Mm) :=
bnd (f_X12_isIn N (Int32.toInt64 x1) (2 : Int64) (4 : Int64) M) (fun v1 M2 =>
(if v1 = 0 then
some ((0 : Int32), M2)
else
l_X12_mayHave_18 N N x0 x1 (0 : Int32) M2))
set_option maxRecDepth 100000 in
set_option maxHeartbeats 4000000 in
theorem c_X12_mayHave (N : Nat) (x0 : Nat) (x1 : Int32) (M : Mm) (r : (Int32 × Mm)) (h : f_X12_mayHave N x0 x1 M = some r) (l : Launch) (hfl : l.flags = flags0) {G : Gl} : MT l G yX12_mayHave cX12_mayHave 4 (some .boolean) rm_X12_mayHave [.ref x0, .int x1] M (some (.int r.1)) r.2 := by
  unfold f_X12_mayHave at h
  refine zt_start hfl (lv := [(0, .ref x0), (1, .int x1)]) (by decide) (Nat.le_of_ble_eq_true rfl) rfl wd_1101 (fun X hC _ => ?_)
  refine zt_iload_n hC rfl dX12_mayHave_0 ?_
  refine zt_i2l hC dX12_mayHave_1 ?_
  refine zt_ldc2 hC wd_1102 dX12_mayHave_2 ?_
  refine zt_ldc2 hC wd_1103 dX12_mayHave_5 ?_
  obtain ⟨v1, M2, h3, h⟩ := bnd_some h
  refine zt_callS (z := yX12_isIn) (As := [.long (Int32.toInt64 x1), .long (2 : Int64), .long (4 : Int64)]) (rest := []) (st1 := (.int v1 :: [])) hC 3 (fun l hl => c_X12_isIn N (Int32.toInt64 x1) (2 : Int64) (4 : Int64) M (v1, M2) h3 l hl) rfl wd_1067 wd_1065 wd_1066 wd_7 hd_X12_isIn rfl ⟨⟨(Nat.le_of_ble_eq_true rfl), (Nat.le_of_ble_eq_true rfl)⟩, (Nat.le_of_ble_eq_true rfl), (Nat.le_of_ble_eq_true rfl)⟩ rfl (Nat.le_of_ble_eq_true rfl) rfl dX12_mayHave_8 ?_
  refine zt_if_ne (tgt := 16) hC h (by decide) dX12_mayHave_11 (fun h => ?_) (fun h => ?_)
  · refine zt_iconst hC ki_0 dX12_mayHave_16 ?_
    refine zt_istore_n (lv' := [(2, .int (0 : Int32)), (0, .ref x0), (1, .int x1)]) hC (by decide) rfl dX12_mayHave_17 ?_
    refine zt_keep [0, 1, 2] rfl ?_
    exact w_X12_mayHave_18 N hC N x0 x1 (0 : Int32) M2 h
  · refine zt_iconst hC ki_0 dX12_mayHave_14 ?_
    obtain rfl := Option.some.inj h
    exact zt_zret hC rfl rfl (Or.inl rfl) (Nat.le_of_ble_eq_true rfl) (Nat.le_of_ble_eq_true rfl) dX12_mayHave_15
def rm_X12_comes : Room := { frames := 2, cells := 0, slots := 0, locals := 48 }
theorem hd_X12_comes : yX12_comes.cls ≠ "java/lang/invoke/MethodHandle" ∧ yX12_comes.cls ≠ "java/lang/invoke/VarHandle" ∧ (parseMethodDescriptor yX12_comes.desc).map (fun d => d.parameters.length) = some 1 := by decide +kernel
def b_X12_comes_223 (N : Nat) (k223 : Nat → Int32 → Mm → Option (Int32 × Mm)) (x0 : Nat) (x4 : Int32) (M : Mm) : Option (Int32 × Mm) :=
(if (5 : Int32) ≤ x4 then
gR 12 M x0 3 (fun v1 =>
ald M v1 (1 : Int32) (fun v2 =>
ast M v1 (1 : Int32) (v2 + (1 : Int32)) (fun M3 =>
some ((1 : Int32), M3))))
else
gR 12 M x0 3 (fun v4 =>
gR 12 M x0 3 (fun v5 =>
ald M v5 (1 : Int32) (fun v6 =>
gR 12 M x0 16 (fun v7 =>
ald M v7 x4 (fun v8 =>
ast M v4 (((25 : Int32) + ((5 : Int32) * v6)) + x4) v8 (fun M9 =>
k223 x0 (x4 + (1 : Int32)) M9)))))))
def l_X12_comes_223 (N : Nat) : Nat → Nat → Int32 → Mm → Option (Int32 × Mm)
  | 0 => fun _ _ _ => none
  | n + 1 => b_X12_comes_223 N (l_X12_comes_223 N n)
set_option maxRecDepth 100000 in
set_option maxHeartbeats 4000000 in
theorem v_X12_comes_223 {X : Cx} {G : Gl} {r : (Int32 × Mm)} (N : Nat) (hC : CX X G yX12_comes cX12_comes 5 (some .boolean) rm_X12_comes) (k223 : Nat → Int32 → Mm → Option (Int32 × Mm)) (hk223 : ∀ (x0 : Nat) (x4 : Int32) (M : Mm), k223 x0 x4 M = some r → TW X G 5 (RQ X G (some (.int r.1)) r.2 rm_X12_comes) 0 0 M 223 [(0, .ref x0), (4, .int x4)] []) (x0 : Nat) (x4 : Int32) (M : Mm) (h : b_X12_comes_223 N k223 x0 x4 M = some r) : TW X G 5 (RQ X G (some (.int r.1)) r.2 rm_X12_comes) 0 0 M 223 [(0, .ref x0), (4, .int x4)] [] := by
  unfold b_X12_comes_223 at h
  refine zt_iload hC rfl dX12_comes_223 ?_
  refine zt_iconst hC ki_5 dX12_comes_225 ?_
  refine zt_icmp_ge (tgt := 261) hC h (by decide) dX12_comes_226 (fun h => ?_) (fun h => ?_)
  · refine zt_aload_n hC rfl dX12_comes_261 ?_
    refine zt_gR hC h cl12 (k := 3) (by decide) rfl wd_994 (Or.inl rfl) dX12_comes_262 (fun v1 h => ?_)
    refine zt_iconst hC ki_1 dX12_comes_265 ?_
    refine zt_dup2 hC rfl rfl dX12_comes_266 ?_
    refine zt_ald hC h dX12_comes_267 (fun v2 h => ?_)
    refine zt_iconst hC ki_1 dX12_comes_268 ?_
    refine zt_iadd hC dX12_comes_269 ?_
    refine zt_ast hC h dX12_comes_270 (fun M3 h => ?_)
    refine zt_iconst hC ki_1 dX12_comes_271 ?_
    obtain rfl := Option.some.inj h
    exact zt_zret hC rfl rfl (Or.inr rfl) (Nat.le_of_ble_eq_true rfl) (Nat.le_of_ble_eq_true rfl) dX12_comes_272
  · refine zt_aload_n hC rfl dX12_comes_229 ?_
    refine zt_gR hC h cl12 (k := 3) (by decide) rfl wd_994 (Or.inl rfl) dX12_comes_230 (fun v4 h => ?_)
    refine zt_bipush hC kb_25 dX12_comes_233 ?_
    refine zt_iconst hC ki_5 dX12_comes_235 ?_
    refine zt_aload_n hC rfl dX12_comes_236 ?_
    refine zt_gR hC h cl12 (k := 3) (by decide) rfl wd_994 (Or.inl rfl) dX12_comes_237 (fun v5 h => ?_)
    refine zt_iconst hC ki_1 dX12_comes_240 ?_
    refine zt_ald hC h dX12_comes_241 (fun v6 h => ?_)
    refine zt_imul hC dX12_comes_242 ?_
    refine zt_iadd hC dX12_comes_243 ?_
    refine zt_iload hC rfl dX12_comes_244 ?_
    refine zt_iadd hC dX12_comes_246 ?_
    refine zt_aload_n hC rfl dX12_comes_247 ?_
    refine zt_gR hC h cl12 (k := 16) (by decide) rfl wd_1007 (Or.inl rfl) dX12_comes_248 (fun v7 h => ?_)
    refine zt_iload hC rfl dX12_comes_251 ?_
    refine zt_ald hC h dX12_comes_253 (fun v8 h => ?_)
    refine zt_ast hC h dX12_comes_254 (fun M9 h => ?_)
    refine zt_iinc (v := (x4 + (1 : Int32))) (lv' := [(4, .int (x4 + (1 : Int32))), (0, .ref x0)]) hC rfl (by rw [ki_1]) (by decide) rfl dX12_comes_255 ?_
    refine zt_goto (tgt := 223) hC (by decide) dX12_comes_258 ?_
    refine zt_keep [0, 4] rfl ?_
    exact hk223 x0 (x4 + (1 : Int32)) M9 h
theorem w_X12_comes_223 {X : Cx} {G : Gl} {r : (Int32 × Mm)} (N : Nat) (hC : CX X G yX12_comes cX12_comes 5 (some .boolean) rm_X12_comes) (n : Nat) : ∀ (x0 : Nat) (x4 : Int32) (M : Mm), l_X12_comes_223 N n x0 x4 M = some r → TW X G 5 (RQ X G (some (.int r.1)) r.2 rm_X12_comes) 0 0 M 223 [(0, .ref x0), (4, .int x4)] [] := by
  induction n with
  | zero => intro  x0 x4 M h; cases (show none = some r from h)
  | succ n ih => intro  x0 x4 M h; exact v_X12_comes_223 N hC (l_X12_comes_223 N n) ih x0 x4 M h
def f_X12_comes (N : Nat) (x0 : Nat) (x1 : Int32) (M : Mm) : Option (Int32 × Mm) :=
gR 12 M x0 16 (fun v1 =>
ald M v1 (0 : Int32) (fun v2 =>
(if x1 = (110 : Int32) then
ck 12 M x0 (bnd (f_X12_mayHave N x0 v2 M) (fun v39 M40 =>
(if v39 = 0 then
some ((0 : Int32), M40)
else
gR 12 M40 x0 3 (fun v42 =>
ast M40 v42 (0 : Int32) v2 (fun M43 =>
some ((1 : Int32), M43))))))
else
(if x1 = (98 : Int32) then
gR 12 M x0 3 (fun v30 =>
ast M v30 (2 : Int32) v2 (fun M31 =>
bnd (f_X12_isIn N (Int32.toInt64 v2) (1 : Int64) (6 : Int64) M31) (fun v32 M33 =>
(if v32 = 0 then
some ((0 : Int32), M33)
else
gR 12 M33 x0 3 (fun v35 =>
bnd (f_X12_boatOf N v35 (0 : Int32) (3 : Int32) M33) (fun v36 M37 =>
(if v2 < v36 then
some ((0 : Int32), M37)
else
some ((1 : Int32), M37))))))))
else
gR 12 M x0 16 (fun v3 =>
ald M v3 (1 : Int32) (fun v4 =>
gR 12 M x0 3 (fun v5 =>
ald M v5 (0 : Int32) (fun v6 =>
(if v6 ≤ v2 then
some ((0 : Int32), M)
else
gR 12 M x0 3 (fun v7 =>
ald M v7 (0 : Int32) (fun v8 =>
(if v8 ≤ v4 then
some ((0 : Int32), M)
else
(if v2 = v4 then
some ((0 : Int32), M)
else
(if x1 = (109 : Int32) then
gR 12 M x0 3 (fun v20 =>
gR 12 M x0 16 (fun v21 =>
ald M v21 (2 : Int32) (fun v22 =>
ast M v20 (((9 : Int32) + ((4 : Int32) * v2)) + v4) v22 (fun M23 =>
gR 12 M23 x0 3 (fun v24 =>
gR 12 M23 x0 16 (fun v25 =>
ald M23 v25 (2 : Int32) (fun v26 =>
ast M23 v24 (((9 : Int32) + ((4 : Int32) * v4)) + v2) v26 (fun M27 =>
gR 12 M27 x0 16 (fun v28 =>
ald M27 v28 (2 : Int32) (fun v29 =>
(if v29 ≤ 0 then
some ((0 : Int32), M27)
else
some ((1 : Int32), M27))))))))))))
else
gR 12 M x0 16 (fun v9 =>
ald M v9 (2 : Int32) (fun v10 =>
(if (100 : Int32) < v10 then
some ((0 : Int32), M)
else
gR 12 M x0 16 (fun v11 =>
ald M v11 (3 : Int32) (fun v12 =>
bnd (f_X12_isIn N (Int32.toInt64 v12) (1 : Int64) (20 : Int64) M) (fun v13 M14 =>
(if v13 = 0 then
some ((0 : Int32), M14)
else
gR 12 M14 x0 16 (fun v16 =>
ald M14 v16 (4 : Int32) (fun v17 =>
(if (99 : Int32) < v17 then
some ((0 : Int32), M14)
else
gR 12 M14 x0 3 (fun v18 =>
ald M14 v18 (1 : Int32) (fun v19 =>
(if v19 = (5 : Int32) then
some ((0 : Int32), M14)
else
l_X12_comes_223 N N x0 (0 : Int32) M14)))))))))))))))))))))))))))
set_option maxRecDepth 100000 in
set_option maxHeartbeats 4000000 in
theorem c_X12_comes (N : Nat) (x0 : Nat) (x1 : Int32) (M : Mm) (r : (Int32 × Mm)) (h : f_X12_comes N x0 x1 M = some r) (l : Launch) (hfl : l.flags = flags0) {G : Gl} : MT l G yX12_comes cX12_comes 5 (some .boolean) rm_X12_comes [.ref x0, .int x1] M (some (.int r.1)) r.2 := by
  unfold f_X12_comes at h
  refine zt_start hfl (lv := [(0, .ref x0), (1, .int x1)]) (by decide) (Nat.le_of_ble_eq_true rfl) rfl wd_1097 (fun X hC _ => ?_)
  refine zt_aload_n hC rfl dX12_comes_0 ?_
  refine zt_gR hC h cl12 (k := 16) (by decide) rfl wd_1007 (Or.inl rfl) dX12_comes_1 (fun v1 h => ?_)
  refine zt_iconst hC ki_0 dX12_comes_4 ?_
  refine zt_ald hC h dX12_comes_5 (fun v2 h => ?_)
  refine zt_istore_n (lv' := [(2, .int v2), (0, .ref x0), (1, .int x1)]) hC (by decide) rfl dX12_comes_6 ?_
  refine zt_iload_n hC rfl dX12_comes_7 ?_
  refine zt_bipush hC kb_110 dX12_comes_8 ?_
  refine zt_icmp_ne (tgt := 32) hC h (by decide) dX12_comes_10 (fun h => ?_) (fun h => ?_)
  · refine zt_iload_n hC rfl dX12_comes_32 ?_
    refine zt_bipush hC kb_98 dX12_comes_33 ?_
    refine zt_icmp_ne (tgt := 76) hC h (by decide) dX12_comes_35 (fun h => ?_) (fun h => ?_)
    · refine zt_aload_n hC rfl dX12_comes_76 ?_
      refine zt_gR hC h cl12 (k := 16) (by decide) rfl wd_1007 (Or.inl rfl) dX12_comes_77 (fun v3 h => ?_)
      refine zt_iconst hC ki_1 dX12_comes_80 ?_
      refine zt_ald hC h dX12_comes_81 (fun v4 h => ?_)
      refine zt_istore_n (lv' := [(3, .int v4), (2, .int v2), (0, .ref x0), (1, .int x1)]) hC (by decide) rfl dX12_comes_82 ?_
      refine zt_iload_n hC rfl dX12_comes_83 ?_
      refine zt_aload_n hC rfl dX12_comes_84 ?_
      refine zt_gR hC h cl12 (k := 3) (by decide) rfl wd_994 (Or.inl rfl) dX12_comes_85 (fun v5 h => ?_)
      refine zt_iconst hC ki_0 dX12_comes_88 ?_
      refine zt_ald hC h dX12_comes_89 (fun v6 h => ?_)
      refine zt_icmp_ge (tgt := 108) hC h (by decide) dX12_comes_90 (fun h => ?_) (fun h => ?_)
      · refine zt_iconst hC ki_0 dX12_comes_108 ?_
        obtain rfl := Option.some.inj h
        exact zt_zret hC rfl rfl (Or.inl rfl) (Nat.le_of_ble_eq_true rfl) (Nat.le_of_ble_eq_true rfl) dX12_comes_109
      · refine zt_iload_n hC rfl dX12_comes_93 ?_
        refine zt_aload_n hC rfl dX12_comes_94 ?_
        refine zt_gR hC h cl12 (k := 3) (by decide) rfl wd_994 (Or.inl rfl) dX12_comes_95 (fun v7 h => ?_)
        refine zt_iconst hC ki_0 dX12_comes_98 ?_
        refine zt_ald hC h dX12_comes_99 (fun v8 h => ?_)
        refine zt_icmp_ge (tgt := 108) hC h (by decide) dX12_comes_100 (fun h => ?_) (fun h => ?_)
        · refine zt_iconst hC ki_0 dX12_comes_108 ?_
          obtain rfl := Option.some.inj h
          exact zt_zret hC rfl rfl (Or.inl rfl) (Nat.le_of_ble_eq_true rfl) (Nat.le_of_ble_eq_true rfl) dX12_comes_109
        · refine zt_iload_n hC rfl dX12_comes_103 ?_
          refine zt_iload_n hC rfl dX12_comes_104 ?_
          refine zt_icmp_ne (tgt := 110) hC h (by decide) dX12_comes_105 (fun h => ?_) (fun h => ?_)
          · refine zt_iload_n hC rfl dX12_comes_110 ?_
            refine zt_bipush hC kb_109 dX12_comes_111 ?_
            refine zt_icmp_ne (tgt := 169) hC h (by decide) dX12_comes_113 (fun h => ?_) (fun h => ?_)
            · refine zt_aload_n hC rfl dX12_comes_169 ?_
              refine zt_gR hC h cl12 (k := 16) (by decide) rfl wd_1007 (Or.inl rfl) dX12_comes_170 (fun v9 h => ?_)
              refine zt_iconst hC ki_2 dX12_comes_173 ?_
              refine zt_ald hC h dX12_comes_174 (fun v10 h => ?_)
              refine zt_bipush hC kb_100 dX12_comes_175 ?_
              refine zt_icmp_gt (tgt := 218) hC h (by decide) dX12_comes_177 (fun h => ?_) (fun h => ?_)
              · refine zt_iconst hC ki_0 dX12_comes_218 ?_
                obtain rfl := Option.some.inj h
                exact zt_zret hC rfl rfl (Or.inl rfl) (Nat.le_of_ble_eq_true rfl) (Nat.le_of_ble_eq_true rfl) dX12_comes_219
              · refine zt_aload_n hC rfl dX12_comes_180 ?_
                refine zt_gR hC h cl12 (k := 16) (by decide) rfl wd_1007 (Or.inl rfl) dX12_comes_181 (fun v11 h => ?_)
                refine zt_iconst hC ki_3 dX12_comes_184 ?_
                refine zt_ald hC h dX12_comes_185 (fun v12 h => ?_)
                refine zt_i2l hC dX12_comes_186 ?_
                refine zt_lconst hC kl_1 dX12_comes_187 ?_
                refine zt_ldc2 hC wd_1114 dX12_comes_188 ?_
                obtain ⟨v13, M14, h15, h⟩ := bnd_some h
                refine zt_callS (z := yX12_isIn) (As := [.long (Int32.toInt64 v12), .long (1 : Int64), .long (20 : Int64)]) (rest := []) (st1 := (.int v13 :: [])) hC 3 (fun l hl => c_X12_isIn N (Int32.toInt64 v12) (1 : Int64) (20 : Int64) M (v13, M14) h15 l hl) rfl wd_1067 wd_1065 wd_1066 wd_7 hd_X12_isIn rfl ⟨⟨(Nat.le_of_ble_eq_true rfl), (Nat.le_of_ble_eq_true rfl)⟩, (Nat.le_of_ble_eq_true rfl), (Nat.le_of_ble_eq_true rfl)⟩ rfl (Nat.le_of_ble_eq_true rfl) rfl dX12_comes_191 ?_
                refine zt_if_eq (tgt := 218) hC h (by decide) dX12_comes_194 (fun h => ?_) (fun h => ?_)
                · refine zt_iconst hC ki_0 dX12_comes_218 ?_
                  obtain rfl := Option.some.inj h
                  exact zt_zret hC rfl rfl (Or.inl rfl) (Nat.le_of_ble_eq_true rfl) (Nat.le_of_ble_eq_true rfl) dX12_comes_219
                · refine zt_aload_n hC rfl dX12_comes_197 ?_
                  refine zt_gR hC h cl12 (k := 16) (by decide) rfl wd_1007 (Or.inl rfl) dX12_comes_198 (fun v16 h => ?_)
                  refine zt_iconst hC ki_4 dX12_comes_201 ?_
                  refine zt_ald hC h dX12_comes_202 (fun v17 h => ?_)
                  refine zt_bipush hC kb_99 dX12_comes_203 ?_
                  refine zt_icmp_gt (tgt := 218) hC h (by decide) dX12_comes_205 (fun h => ?_) (fun h => ?_)
                  · refine zt_iconst hC ki_0 dX12_comes_218 ?_
                    obtain rfl := Option.some.inj h
                    exact zt_zret hC rfl rfl (Or.inl rfl) (Nat.le_of_ble_eq_true rfl) (Nat.le_of_ble_eq_true rfl) dX12_comes_219
                  · refine zt_aload_n hC rfl dX12_comes_208 ?_
                    refine zt_gR hC h cl12 (k := 3) (by decide) rfl wd_994 (Or.inl rfl) dX12_comes_209 (fun v18 h => ?_)
                    refine zt_iconst hC ki_1 dX12_comes_212 ?_
                    refine zt_ald hC h dX12_comes_213 (fun v19 h => ?_)
                    refine zt_iconst hC ki_5 dX12_comes_214 ?_
                    refine zt_icmp_ne (tgt := 220) hC h (by decide) dX12_comes_215 (fun h => ?_) (fun h => ?_)
                    · refine zt_iconst hC ki_0 dX12_comes_220 ?_
                      refine zt_istore (lv' := [(4, .int (0 : Int32)), (3, .int v4), (2, .int v2), (0, .ref x0), (1, .int x1)]) hC (by decide) rfl dX12_comes_221 ?_
                      refine zt_keep [0, 4] rfl ?_
                      exact w_X12_comes_223 N hC N x0 (0 : Int32) M14 h
                    · refine zt_iconst hC ki_0 dX12_comes_218 ?_
                      obtain rfl := Option.some.inj h
                      exact zt_zret hC rfl rfl (Or.inl rfl) (Nat.le_of_ble_eq_true rfl) (Nat.le_of_ble_eq_true rfl) dX12_comes_219
            · refine zt_aload_n hC rfl dX12_comes_116 ?_
              refine zt_gR hC h cl12 (k := 3) (by decide) rfl wd_994 (Or.inl rfl) dX12_comes_117 (fun v20 h => ?_)
              refine zt_bipush hC kb_9 dX12_comes_120 ?_
              refine zt_iconst hC ki_4 dX12_comes_122 ?_
              refine zt_iload_n hC rfl dX12_comes_123 ?_
              refine zt_imul hC dX12_comes_124 ?_
              refine zt_iadd hC dX12_comes_125 ?_
              refine zt_iload_n hC rfl dX12_comes_126 ?_
              refine zt_iadd hC dX12_comes_127 ?_
              refine zt_aload_n hC rfl dX12_comes_128 ?_
              refine zt_gR hC h cl12 (k := 16) (by decide) rfl wd_1007 (Or.inl rfl) dX12_comes_129 (fun v21 h => ?_)
              refine zt_iconst hC ki_2 dX12_comes_132 ?_
              refine zt_ald hC h dX12_comes_133 (fun v22 h => ?_)
              refine zt_ast hC h dX12_comes_134 (fun M23 h => ?_)
              refine zt_aload_n hC rfl dX12_comes_135 ?_
              refine zt_gR hC h cl12 (k := 3) (by decide) rfl wd_994 (Or.inl rfl) dX12_comes_136 (fun v24 h => ?_)
              refine zt_bipush hC kb_9 dX12_comes_139 ?_
              refine zt_iconst hC ki_4 dX12_comes_141 ?_
              refine zt_iload_n hC rfl dX12_comes_142 ?_
              refine zt_imul hC dX12_comes_143 ?_
              refine zt_iadd hC dX12_comes_144 ?_
              refine zt_iload_n hC rfl dX12_comes_145 ?_
              refine zt_iadd hC dX12_comes_146 ?_
              refine zt_aload_n hC rfl dX12_comes_147 ?_
              refine zt_gR hC h cl12 (k := 16) (by decide) rfl wd_1007 (Or.inl rfl) dX12_comes_148 (fun v25 h => ?_)
              refine zt_iconst hC ki_2 dX12_comes_151 ?_
              refine zt_ald hC h dX12_comes_152 (fun v26 h => ?_)
              refine zt_ast hC h dX12_comes_153 (fun M27 h => ?_)
              refine zt_aload_n hC rfl dX12_comes_154 ?_
              refine zt_gR hC h cl12 (k := 16) (by decide) rfl wd_1007 (Or.inl rfl) dX12_comes_155 (fun v28 h => ?_)
              refine zt_iconst hC ki_2 dX12_comes_158 ?_
              refine zt_ald hC h dX12_comes_159 (fun v29 h => ?_)
              refine zt_if_le (tgt := 167) hC h (by decide) dX12_comes_160 (fun h => ?_) (fun h => ?_)
              · refine zt_iconst hC ki_0 dX12_comes_167 ?_
                obtain rfl := Option.some.inj h
                exact zt_zret hC rfl rfl (Or.inl rfl) (Nat.le_of_ble_eq_true rfl) (Nat.le_of_ble_eq_true rfl) dX12_comes_168
              · refine zt_iconst hC ki_1 dX12_comes_163 ?_
                refine zt_goto (tgt := 168) hC (by decide) dX12_comes_164 ?_
                obtain rfl := Option.some.inj h
                exact zt_zret hC rfl rfl (Or.inr rfl) (Nat.le_of_ble_eq_true rfl) (Nat.le_of_ble_eq_true rfl) dX12_comes_168
          · refine zt_iconst hC ki_0 dX12_comes_108 ?_
            obtain rfl := Option.some.inj h
            exact zt_zret hC rfl rfl (Or.inl rfl) (Nat.le_of_ble_eq_true rfl) (Nat.le_of_ble_eq_true rfl) dX12_comes_109
    · refine zt_aload_n hC rfl dX12_comes_38 ?_
      refine zt_gR hC h cl12 (k := 3) (by decide) rfl wd_994 (Or.inl rfl) dX12_comes_39 (fun v30 h => ?_)
      refine zt_iconst hC ki_2 dX12_comes_42 ?_
      refine zt_iload_n hC rfl dX12_comes_43 ?_
      refine zt_ast hC h dX12_comes_44 (fun M31 h => ?_)
      refine zt_iload_n hC rfl dX12_comes_45 ?_
      refine zt_i2l hC dX12_comes_46 ?_
      refine zt_lconst hC kl_1 dX12_comes_47 ?_
      refine zt_ldc2 hC wd_1113 dX12_comes_48 ?_
      obtain ⟨v32, M33, h34, h⟩ := bnd_some h
      refine zt_callS (z := yX12_isIn) (As := [.long (Int32.toInt64 v2), .long (1 : Int64), .long (6 : Int64)]) (rest := []) (st1 := (.int v32 :: [])) hC 3 (fun l hl => c_X12_isIn N (Int32.toInt64 v2) (1 : Int64) (6 : Int64) M31 (v32, M33) h34 l hl) rfl wd_1067 wd_1065 wd_1066 wd_7 hd_X12_isIn rfl ⟨⟨(Nat.le_of_ble_eq_true rfl), (Nat.le_of_ble_eq_true rfl)⟩, (Nat.le_of_ble_eq_true rfl), (Nat.le_of_ble_eq_true rfl)⟩ rfl (Nat.le_of_ble_eq_true rfl) rfl dX12_comes_51 ?_
      refine zt_if_eq (tgt := 74) hC h (by decide) dX12_comes_54 (fun h => ?_) (fun h => ?_)
      · refine zt_iconst hC ki_0 dX12_comes_74 ?_
        obtain rfl := Option.some.inj h
        exact zt_zret hC rfl rfl (Or.inl rfl) (Nat.le_of_ble_eq_true rfl) (Nat.le_of_ble_eq_true rfl) dX12_comes_75
      · refine zt_iload_n hC rfl dX12_comes_57 ?_
        refine zt_aload_n hC rfl dX12_comes_58 ?_
        refine zt_gR hC h cl12 (k := 3) (by decide) rfl wd_994 (Or.inl rfl) dX12_comes_59 (fun v35 h => ?_)
        refine zt_iconst hC ki_0 dX12_comes_62 ?_
        refine zt_iconst hC ki_3 dX12_comes_63 ?_
        obtain ⟨v36, M37, h38, h⟩ := bnd_some h
        refine zt_callS (z := yX12_boatOf) (As := [.ref v35, .int (0 : Int32), .int (3 : Int32)]) (rest := [.int v2]) (st1 := (.int v36 :: [.int v2])) hC 3 (fun l hl => c_X12_boatOf N v35 (0 : Int32) (3 : Int32) M33 (v36, M37) h38 l hl) rfl wd_1109 wd_1107 wd_1108 wd_7 hd_X12_boatOf rfl ⟨⟨(Nat.le_of_ble_eq_true rfl), (Nat.le_of_ble_eq_true rfl)⟩, (Nat.le_of_ble_eq_true rfl), (Nat.le_of_ble_eq_true rfl)⟩ rfl (Nat.le_of_ble_eq_true rfl) rfl dX12_comes_64 ?_
        refine zt_icmp_lt (tgt := 74) hC h (by decide) dX12_comes_67 (fun h => ?_) (fun h => ?_)
        · refine zt_iconst hC ki_0 dX12_comes_74 ?_
          obtain rfl := Option.some.inj h
          exact zt_zret hC rfl rfl (Or.inl rfl) (Nat.le_of_ble_eq_true rfl) (Nat.le_of_ble_eq_true rfl) dX12_comes_75
        · refine zt_iconst hC ki_1 dX12_comes_70 ?_
          refine zt_goto (tgt := 75) hC (by decide) dX12_comes_71 ?_
          obtain rfl := Option.some.inj h
          exact zt_zret hC rfl rfl (Or.inr rfl) (Nat.le_of_ble_eq_true rfl) (Nat.le_of_ble_eq_true rfl) dX12_comes_75
  · refine zt_aload_n hC rfl dX12_comes_13 ?_
    refine zt_iload_n hC rfl dX12_comes_14 ?_
    obtain ⟨hk, h⟩ := ck_some h
    obtain ⟨v39, M40, h41, h⟩ := bnd_some h
    refine zt_callV (z := yX12_mayHave) (As := [.int v2]) (rest := []) (st1 := (.int v39 :: [])) hC 1 hk cl12 (fun l hl => c_X12_mayHave N x0 v2 M (v39, M40) h41 l hl) rfl wd_1101 wd_1098 wd_1100 ws_28 wd_7 hd_X12_mayHave rfl ⟨⟨(Nat.le_of_ble_eq_true rfl), (Nat.le_of_ble_eq_true rfl)⟩, (Nat.le_of_ble_eq_true rfl), (Nat.le_of_ble_eq_true rfl)⟩ rfl (Nat.le_of_ble_eq_true rfl) rfl dX12_comes_15 ?_
    refine zt_if_ne (tgt := 23) hC h (by decide) dX12_comes_18 (fun h => ?_) (fun h => ?_)
    · refine zt_aload_n hC rfl dX12_comes_23 ?_
      refine zt_gR hC h cl12 (k := 3) (by decide) rfl wd_994 (Or.inl rfl) dX12_comes_24 (fun v42 h => ?_)
      refine zt_iconst hC ki_0 dX12_comes_27 ?_
      refine zt_iload_n hC rfl dX12_comes_28 ?_
      refine zt_ast hC h dX12_comes_29 (fun M43 h => ?_)
      refine zt_iconst hC ki_1 dX12_comes_30 ?_
      obtain rfl := Option.some.inj h
      exact zt_zret hC rfl rfl (Or.inr rfl) (Nat.le_of_ble_eq_true rfl) (Nat.le_of_ble_eq_true rfl) dX12_comes_31
    · refine zt_iconst hC ki_0 dX12_comes_21 ?_
      obtain rfl := Option.some.inj h
      exact zt_zret hC rfl rfl (Or.inl rfl) (Nat.le_of_ble_eq_true rfl) (Nat.le_of_ble_eq_true rfl) dX12_comes_22
def rm_X12_wrongRow : Room := { frames := 2, cells := 0, slots := 0, locals := 45 }
theorem hd_X12_wrongRow : yX12_wrongRow.cls ≠ "java/lang/invoke/MethodHandle" ∧ yX12_wrongRow.cls ≠ "java/lang/invoke/VarHandle" ∧ (parseMethodDescriptor yX12_wrongRow.desc).map (fun d => d.parameters.length) = some 2 := by decide +kernel
def j_X12_wrongRow_49 (N : Nat) (M : Mm) : Option (Int32 × Mm) :=
some ((-12 : Int32), M)
set_option maxRecDepth 100000 in
set_option maxHeartbeats 4000000 in
theorem w_X12_wrongRow_49 {X : Cx} {G : Gl} {r : (Int32 × Mm)} (N : Nat) (hC : CX X G yX12_wrongRow cX12_wrongRow 3 (some .int) rm_X12_wrongRow) (M : Mm) (h : j_X12_wrongRow_49 N M = some r) : TW X G 3 (RQ X G (some (.int r.1)) r.2 rm_X12_wrongRow) 0 0 M 49 [] [] := by
  unfold j_X12_wrongRow_49 at h
  refine zt_bipush hC kb_m12 dX12_wrongRow_49 ?_
  refine zt_goto (tgt := 55) hC (by decide) dX12_wrongRow_51 ?_
  obtain rfl := Option.some.inj h
  exact zt_iret hC rfl rfl (Nat.le_of_ble_eq_true rfl) (Nat.le_of_ble_eq_true rfl) dX12_wrongRow_55
def f_X12_wrongRow (N : Nat) (x0 : Nat) (x1 : Int32) (x2 : Int32) (M : Mm) : Option (Int32 × Mm) :=
bnd (f_X12_isShelf N x1 M) (fun v1 M2 =>
(if v1 = 0 then
some ((-1 : Int32), M2)
else
gR 12 M2 x0 4 (fun v4 =>
ald M2 v4 x1 (fun v5 =>
(if v5 = 0 then
some ((-11 : Int32), M2)
else
gR 12 M2 x0 4 (fun v6 =>
ald M2 v6 x1 (fun v7 =>
(if v7 = (2 : Int32) then
(if x2 < 0 then
some ((0 : Int32), M2)
else
gR 12 M2 x0 5 (fun v8 =>
ald M2 v8 x1 (fun v9 =>
(if v9 = x2 then
some ((0 : Int32), M2)
else
j_X12_wrongRow_49 N M2))))
else
j_X12_wrongRow_49 N M2))))))))
set_option maxRecDepth 100000 in
set_option maxHeartbeats 4000000 in
theorem c_X12_wrongRow (N : Nat) (x0 : Nat) (x1 : Int32) (x2 : Int32) (M : Mm) (r : (Int32 × Mm)) (h : f_X12_wrongRow N x0 x1 x2 M = some r) (l : Launch) (hfl : l.flags = flags0) {G : Gl} : MT l G yX12_wrongRow cX12_wrongRow 3 (some .int) rm_X12_wrongRow [.ref x0, .int x1, .int x2] M (some (.int r.1)) r.2 := by
  unfold f_X12_wrongRow at h
  refine zt_start hfl (lv := [(0, .ref x0), (1, .int x1), (2, .int x2)]) (by decide) (Nat.le_of_ble_eq_true rfl) rfl wd_1060 (fun X hC _ => ?_)
  refine zt_iload_n hC rfl dX12_wrongRow_0 ?_
  obtain ⟨v1, M2, h3, h⟩ := bnd_some h
  refine zt_callS (z := yX12_isShelf) (As := [.int x1]) (rest := []) (st1 := (.int v1 :: [])) hC 1 (fun l hl => c_X12_isShelf N x1 M (v1, M2) h3 l hl) rfl wd_1063 wd_1061 wd_1062 wd_7 hd_X12_isShelf rfl ⟨⟨(Nat.le_of_ble_eq_true rfl), (Nat.le_of_ble_eq_true rfl)⟩, (Nat.le_of_ble_eq_true rfl), (Nat.le_of_ble_eq_true rfl)⟩ rfl (Nat.le_of_ble_eq_true rfl) rfl dX12_wrongRow_1 ?_
  refine zt_if_ne (tgt := 11) hC h (by decide) dX12_wrongRow_4 (fun h => ?_) (fun h => ?_)
  · refine zt_aload_n hC rfl dX12_wrongRow_11 ?_
    refine zt_gR hC h cl12 (k := 4) (by decide) rfl wd_995 (Or.inl rfl) dX12_wrongRow_12 (fun v4 h => ?_)
    refine zt_iload_n hC rfl dX12_wrongRow_15 ?_
    refine zt_ald hC h dX12_wrongRow_16 (fun v5 h => ?_)
    refine zt_if_ne (tgt := 25) hC h (by decide) dX12_wrongRow_17 (fun h => ?_) (fun h => ?_)
    · refine zt_aload_n hC rfl dX12_wrongRow_25 ?_
      refine zt_gR hC h cl12 (k := 4) (by decide) rfl wd_995 (Or.inl rfl) dX12_wrongRow_26 (fun v6 h => ?_)
      refine zt_iload_n hC rfl dX12_wrongRow_29 ?_
      refine zt_ald hC h dX12_wrongRow_30 (fun v7 h => ?_)
      refine zt_iconst hC ki_2 dX12_wrongRow_31 ?_
      refine zt_icmp_ne (tgt := 49) hC h (by decide) dX12_wrongRow_32 (fun h => ?_) (fun h => ?_)
      · refine zt_keep [] rfl ?_
        exact w_X12_wrongRow_49 N hC M2 h
      · refine zt_iload_n hC rfl dX12_wrongRow_35 ?_
        refine zt_if_lt (tgt := 54) hC h (by decide) dX12_wrongRow_36 (fun h => ?_) (fun h => ?_)
        · refine zt_iconst hC ki_0 dX12_wrongRow_54 ?_
          obtain rfl := Option.some.inj h
          exact zt_iret hC rfl rfl (Nat.le_of_ble_eq_true rfl) (Nat.le_of_ble_eq_true rfl) dX12_wrongRow_55
        · refine zt_aload_n hC rfl dX12_wrongRow_39 ?_
          refine zt_gR hC h cl12 (k := 5) (by decide) rfl wd_996 (Or.inl rfl) dX12_wrongRow_40 (fun v8 h => ?_)
          refine zt_iload_n hC rfl dX12_wrongRow_43 ?_
          refine zt_ald hC h dX12_wrongRow_44 (fun v9 h => ?_)
          refine zt_iload_n hC rfl dX12_wrongRow_45 ?_
          refine zt_icmp_eq (tgt := 54) hC h (by decide) dX12_wrongRow_46 (fun h => ?_) (fun h => ?_)
          · refine zt_iconst hC ki_0 dX12_wrongRow_54 ?_
            obtain rfl := Option.some.inj h
            exact zt_iret hC rfl rfl (Nat.le_of_ble_eq_true rfl) (Nat.le_of_ble_eq_true rfl) dX12_wrongRow_55
          · refine zt_keep [] rfl ?_
            exact w_X12_wrongRow_49 N hC M2 h
    · refine zt_bipush hC kb_m11 dX12_wrongRow_20 ?_
      refine zt_goto (tgt := 55) hC (by decide) dX12_wrongRow_22 ?_
      obtain rfl := Option.some.inj h
      exact zt_iret hC rfl rfl (Nat.le_of_ble_eq_true rfl) (Nat.le_of_ble_eq_true rfl) dX12_wrongRow_55
  · refine zt_iconst hC ki_m1 dX12_wrongRow_7 ?_
    refine zt_goto (tgt := 55) hC (by decide) dX12_wrongRow_8 ?_
    obtain rfl := Option.some.inj h
    exact zt_iret hC rfl rfl (Nat.le_of_ble_eq_true rfl) (Nat.le_of_ble_eq_true rfl) dX12_wrongRow_55
def rm_X12_river : Room := { frames := 5, cells := 0, slots := 0, locals := 108 }
theorem hd_X12_river : yX12_river.cls ≠ "java/lang/invoke/MethodHandle" ∧ yX12_river.cls ≠ "java/lang/invoke/VarHandle" ∧ (parseMethodDescriptor yX12_river.desc).map (fun d => d.parameters.length) = some 1 := by decide +kernel
def b_X12_river_155 (N : Nat) (k155 : Nat → Int32 → Int32 → Mm → Option (Int32 × Mm)) (x0 : Nat) (x3 : Int32) (x4 : Int32) (M : Mm) : Option (Int32 × Mm) :=
(if (174 : Int32) ≤ x4 then
some (x3, M)
else
gR 12 M x0 0 (fun v1 =>
gR 12 M x0 3 (fun v2 =>
ald M v2 x4 (fun v3 =>
ast M v1 x4 v3 (fun M4 =>
k155 x0 x3 (x4 + (1 : Int32)) M4)))))
def l_X12_river_155 (N : Nat) : Nat → Nat → Int32 → Int32 → Mm → Option (Int32 × Mm)
  | 0 => fun _ _ _ _ => none
  | n + 1 => b_X12_river_155 N (l_X12_river_155 N n)
set_option maxRecDepth 100000 in
set_option maxHeartbeats 4000000 in
theorem v_X12_river_155 {X : Cx} {G : Gl} {r : (Int32 × Mm)} (N : Nat) (hC : CX X G yX12_river cX12_river 7 (some .int) rm_X12_river) (k155 : Nat → Int32 → Int32 → Mm → Option (Int32 × Mm)) (hk155 : ∀ (x0 : Nat) (x3 : Int32) (x4 : Int32) (M : Mm), k155 x0 x3 x4 M = some r → TW X G 7 (RQ X G (some (.int r.1)) r.2 rm_X12_river) 0 0 M 155 [(0, .ref x0), (3, .int x3), (4, .int x4)] []) (x0 : Nat) (x3 : Int32) (x4 : Int32) (M : Mm) (h : b_X12_river_155 N k155 x0 x3 x4 M = some r) : TW X G 7 (RQ X G (some (.int r.1)) r.2 rm_X12_river) 0 0 M 155 [(0, .ref x0), (3, .int x3), (4, .int x4)] [] := by
  unfold b_X12_river_155 at h
  refine zt_iload hC rfl dX12_river_155 ?_
  refine zt_sipush hC ks_174 dX12_river_157 ?_
  refine zt_icmp_ge (tgt := 183) hC h (by decide) dX12_river_160 (fun h => ?_) (fun h => ?_)
  · refine zt_iload_n hC rfl dX12_river_183 ?_
    obtain rfl := Option.some.inj h
    exact zt_iret hC rfl rfl (Nat.le_of_ble_eq_true rfl) (Nat.le_of_ble_eq_true rfl) dX12_river_184
  · refine zt_aload_n hC rfl dX12_river_163 ?_
    refine zt_gR hC h cl12 (k := 0) (by decide) rfl wd_991 (Or.inl rfl) dX12_river_164 (fun v1 h => ?_)
    refine zt_iload hC rfl dX12_river_167 ?_
    refine zt_aload_n hC rfl dX12_river_169 ?_
    refine zt_gR hC h cl12 (k := 3) (by decide) rfl wd_994 (Or.inl rfl) dX12_river_170 (fun v2 h => ?_)
    refine zt_iload hC rfl dX12_river_173 ?_
    refine zt_ald hC h dX12_river_175 (fun v3 h => ?_)
    refine zt_ast hC h dX12_river_176 (fun M4 h => ?_)
    refine zt_iinc (v := (x4 + (1 : Int32))) (lv' := [(4, .int (x4 + (1 : Int32))), (0, .ref x0), (3, .int x3)]) hC rfl (by rw [ki_1]) (by decide) rfl dX12_river_177 ?_
    refine zt_goto (tgt := 155) hC (by decide) dX12_river_180 ?_
    refine zt_keep [0, 3, 4] rfl ?_
    exact hk155 x0 x3 (x4 + (1 : Int32)) M4 h
theorem w_X12_river_155 {X : Cx} {G : Gl} {r : (Int32 × Mm)} (N : Nat) (hC : CX X G yX12_river cX12_river 7 (some .int) rm_X12_river) (n : Nat) : ∀ (x0 : Nat) (x3 : Int32) (x4 : Int32) (M : Mm), l_X12_river_155 N n x0 x3 x4 M = some r → TW X G 7 (RQ X G (some (.int r.1)) r.2 rm_X12_river) 0 0 M 155 [(0, .ref x0), (3, .int x3), (4, .int x4)] [] := by
  induction n with
  | zero => intro  x0 x3 x4 M h; cases (show none = some r from h)
  | succ n ih => intro  x0 x3 x4 M h; exact v_X12_river_155 N hC (l_X12_river_155 N n) ih x0 x3 x4 M h
def b_X12_river_104 (N : Nat) (k104 : Nat → Int32 → Mm → Option (Int32 × Mm)) (x0 : Nat) (x3 : Int32) (M : Mm) : Option (Int32 × Mm) :=
gI 12 M x0 12 (fun v1 =>
gI 12 M x0 14 (fun v2 =>
(if v2 ≤ v1 then
l_X12_river_155 N N x0 x3 (0 : Int32) M
else
gI 12 M x0 12 (fun v3 =>
ck 12 M x0 (bnd (f_X12_here N x0 M) (fun v4 M5 =>
ck 12 M5 x0 (bnd (f_X12_readsStatement N x0 M5) (fun v7 M8 =>
ck 12 M8 x0 (bnd (f_X12_comes N x0 v4 M8) (fun v10 M11 =>
(if v10 = 0 then
some (((-2000 : Int32) - v3), M11)
else
k104 x0 x3 M11)))))))))))
def l_X12_river_104 (N : Nat) : Nat → Nat → Int32 → Mm → Option (Int32 × Mm)
  | 0 => fun _ _ _ => none
  | n + 1 => b_X12_river_104 N (l_X12_river_104 N n)
set_option maxRecDepth 100000 in
set_option maxHeartbeats 4000000 in
theorem v_X12_river_104 {X : Cx} {G : Gl} {r : (Int32 × Mm)} (N : Nat) (hC : CX X G yX12_river cX12_river 7 (some .int) rm_X12_river) (k104 : Nat → Int32 → Mm → Option (Int32 × Mm)) (hk104 : ∀ (x0 : Nat) (x3 : Int32) (M : Mm), k104 x0 x3 M = some r → TW X G 7 (RQ X G (some (.int r.1)) r.2 rm_X12_river) 0 0 M 104 [(0, .ref x0), (3, .int x3)] []) (x0 : Nat) (x3 : Int32) (M : Mm) (h : b_X12_river_104 N k104 x0 x3 M = some r) : TW X G 7 (RQ X G (some (.int r.1)) r.2 rm_X12_river) 0 0 M 104 [(0, .ref x0), (3, .int x3)] [] := by
  unfold b_X12_river_104 at h
  refine zt_aload_n hC rfl dX12_river_104 ?_
  refine zt_gI hC h cl12 (k := 12) (by decide) rfl wd_1003 (Or.inl rfl) dX12_river_105 (fun v1 h => ?_)
  refine zt_aload_n hC rfl dX12_river_108 ?_
  refine zt_gI hC h cl12 (k := 14) (by decide) rfl wd_1005 (Or.inl rfl) dX12_river_109 (fun v2 h => ?_)
  refine zt_icmp_ge (tgt := 152) hC h (by decide) dX12_river_112 (fun h => ?_) (fun h => ?_)
  · refine zt_iconst hC ki_0 dX12_river_152 ?_
    refine zt_istore (lv' := [(4, .int (0 : Int32)), (0, .ref x0), (3, .int x3)]) hC (by decide) rfl dX12_river_153 ?_
    refine zt_keep [0, 3, 4] rfl ?_
    exact w_X12_river_155 N hC N x0 x3 (0 : Int32) M h
  · refine zt_aload_n hC rfl dX12_river_115 ?_
    refine zt_gI hC h cl12 (k := 12) (by decide) rfl wd_1003 (Or.inl rfl) dX12_river_116 (fun v3 h => ?_)
    refine zt_istore (lv' := [(4, .int v3), (0, .ref x0), (3, .int x3)]) hC (by decide) rfl dX12_river_119 ?_
    refine zt_aload_n hC rfl dX12_river_121 ?_
    obtain ⟨hk, h⟩ := ck_some h
    obtain ⟨v4, M5, h6, h⟩ := bnd_some h
    refine zt_callV (z := yX12_here) (As := []) (rest := []) (st1 := (.int v4 :: [])) hC 0 hk cl12 (fun l hl => c_X12_here N x0 M (v4, M5) h6 l hl) rfl wd_1075 wd_1072 wd_1074 ws_22 wd_7 hd_X12_here rfl ⟨⟨(Nat.le_of_ble_eq_true rfl), (Nat.le_of_ble_eq_true rfl)⟩, (Nat.le_of_ble_eq_true rfl), (Nat.le_of_ble_eq_true rfl)⟩ rfl (Nat.le_of_ble_eq_true rfl) rfl dX12_river_122 ?_
    refine zt_istore (lv' := [(5, .int v4), (4, .int v3), (0, .ref x0), (3, .int x3)]) hC (by decide) rfl dX12_river_125 ?_
    refine zt_aload_n hC rfl dX12_river_127 ?_
    obtain ⟨hk, h⟩ := ck_some h
    obtain ⟨v7, M8, h9, h⟩ := bnd_some h
    refine zt_callV (z := yX12_readsStatement) (As := []) (rest := []) (st1 := (.int v7 :: [])) hC 0 hk cl12 (fun l hl => c_X12_readsStatement N x0 M5 (v7, M8) h9 l hl) rfl wd_1071 wd_1068 wd_1070 ws_21 wd_7 hd_X12_readsStatement rfl ⟨⟨(Nat.le_of_ble_eq_true rfl), (Nat.le_of_ble_eq_true rfl)⟩, (Nat.le_of_ble_eq_true rfl), (Nat.le_of_ble_eq_true rfl)⟩ rfl (Nat.le_of_ble_eq_true rfl) rfl dX12_river_128 ?_
    refine zt_istore (lv' := [(6, .int v7), (5, .int v4), (4, .int v3), (0, .ref x0), (3, .int x3)]) hC (by decide) rfl dX12_river_131 ?_
    refine zt_aload_n hC rfl dX12_river_133 ?_
    refine zt_iload hC rfl dX12_river_134 ?_
    obtain ⟨hk, h⟩ := ck_some h
    obtain ⟨v10, M11, h12, h⟩ := bnd_some h
    refine zt_callV (z := yX12_comes) (As := [.int v4]) (rest := []) (st1 := (.int v10 :: [])) hC 1 hk cl12 (fun l hl => c_X12_comes N x0 v4 M8 (v10, M11) h12 l hl) rfl wd_1097 wd_1094 wd_1096 ws_27 wd_7 hd_X12_comes rfl ⟨⟨(Nat.le_of_ble_eq_true rfl), (Nat.le_of_ble_eq_true rfl)⟩, (Nat.le_of_ble_eq_true rfl), (Nat.le_of_ble_eq_true rfl)⟩ rfl (Nat.le_of_ble_eq_true rfl) rfl dX12_river_136 ?_
    refine zt_if_ne (tgt := 149) hC h (by decide) dX12_river_139 (fun h => ?_) (fun h => ?_)
    · refine zt_goto (tgt := 104) hC (by decide) dX12_river_149 ?_
      refine zt_keep [0, 3] rfl ?_
      exact hk104 x0 x3 M11 h
    · refine zt_sipush hC ks_m2000 dX12_river_142 ?_
      refine zt_iload hC rfl dX12_river_145 ?_
      refine zt_isub hC dX12_river_147 ?_
      obtain rfl := Option.some.inj h
      exact zt_iret hC rfl rfl (Nat.le_of_ble_eq_true rfl) (Nat.le_of_ble_eq_true rfl) dX12_river_148
theorem w_X12_river_104 {X : Cx} {G : Gl} {r : (Int32 × Mm)} (N : Nat) (hC : CX X G yX12_river cX12_river 7 (some .int) rm_X12_river) (n : Nat) : ∀ (x0 : Nat) (x3 : Int32) (M : Mm), l_X12_river_104 N n x0 x3 M = some r → TW X G 7 (RQ X G (some (.int r.1)) r.2 rm_X12_river) 0 0 M 104 [(0, .ref x0), (3, .int x3)] [] := by
  induction n with
  | zero => intro  x0 x3 M h; cases (show none = some r from h)
  | succ n ih => intro  x0 x3 M h; exact v_X12_river_104 N hC (l_X12_river_104 N n) ih x0 x3 M h
def b_X12_river_71 (N : Nat) (k71 : Nat → Int32 → Int32 → Mm → Option (Int32 × Mm)) (x0 : Nat) (x3 : Int32) (x4 : Int32) (M : Mm) : Option (Int32 × Mm) :=
(if (174 : Int32) ≤ x4 then
pI 12 M x0 12 (0 : Int32) (fun M1 =>
l_X12_river_104 N N x0 x3 M1)
else
gR 12 M x0 3 (fun v2 =>
gR 12 M x0 0 (fun v3 =>
ald M v3 x4 (fun v4 =>
ast M v2 x4 v4 (fun M5 =>
k71 x0 x3 (x4 + (1 : Int32)) M5)))))
def l_X12_river_71 (N : Nat) : Nat → Nat → Int32 → Int32 → Mm → Option (Int32 × Mm)
  | 0 => fun _ _ _ _ => none
  | n + 1 => b_X12_river_71 N (l_X12_river_71 N n)
set_option maxRecDepth 100000 in
set_option maxHeartbeats 4000000 in
theorem v_X12_river_71 {X : Cx} {G : Gl} {r : (Int32 × Mm)} (N : Nat) (hC : CX X G yX12_river cX12_river 7 (some .int) rm_X12_river) (k71 : Nat → Int32 → Int32 → Mm → Option (Int32 × Mm)) (hk71 : ∀ (x0 : Nat) (x3 : Int32) (x4 : Int32) (M : Mm), k71 x0 x3 x4 M = some r → TW X G 7 (RQ X G (some (.int r.1)) r.2 rm_X12_river) 0 0 M 71 [(0, .ref x0), (3, .int x3), (4, .int x4)] []) (x0 : Nat) (x3 : Int32) (x4 : Int32) (M : Mm) (h : b_X12_river_71 N k71 x0 x3 x4 M = some r) : TW X G 7 (RQ X G (some (.int r.1)) r.2 rm_X12_river) 0 0 M 71 [(0, .ref x0), (3, .int x3), (4, .int x4)] [] := by
  unfold b_X12_river_71 at h
  refine zt_iload hC rfl dX12_river_71 ?_
  refine zt_sipush hC ks_174 dX12_river_73 ?_
  refine zt_icmp_ge (tgt := 99) hC h (by decide) dX12_river_76 (fun h => ?_) (fun h => ?_)
  · refine zt_aload_n hC rfl dX12_river_99 ?_
    refine zt_iconst hC ki_0 dX12_river_100 ?_
    refine zt_pI hC h cl12 (k := 12) (by decide) rfl wd_1003 (Or.inl rfl) (Or.inl rfl) dX12_river_101 (fun M1 h => ?_)
    refine zt_keep [0, 3] rfl ?_
    exact w_X12_river_104 N hC N x0 x3 M1 h
  · refine zt_aload_n hC rfl dX12_river_79 ?_
    refine zt_gR hC h cl12 (k := 3) (by decide) rfl wd_994 (Or.inl rfl) dX12_river_80 (fun v2 h => ?_)
    refine zt_iload hC rfl dX12_river_83 ?_
    refine zt_aload_n hC rfl dX12_river_85 ?_
    refine zt_gR hC h cl12 (k := 0) (by decide) rfl wd_991 (Or.inl rfl) dX12_river_86 (fun v3 h => ?_)
    refine zt_iload hC rfl dX12_river_89 ?_
    refine zt_ald hC h dX12_river_91 (fun v4 h => ?_)
    refine zt_ast hC h dX12_river_92 (fun M5 h => ?_)
    refine zt_iinc (v := (x4 + (1 : Int32))) (lv' := [(4, .int (x4 + (1 : Int32))), (0, .ref x0), (3, .int x3)]) hC rfl (by rw [ki_1]) (by decide) rfl dX12_river_93 ?_
    refine zt_goto (tgt := 71) hC (by decide) dX12_river_96 ?_
    refine zt_keep [0, 3, 4] rfl ?_
    exact hk71 x0 x3 (x4 + (1 : Int32)) M5 h
theorem w_X12_river_71 {X : Cx} {G : Gl} {r : (Int32 × Mm)} (N : Nat) (hC : CX X G yX12_river cX12_river 7 (some .int) rm_X12_river) (n : Nat) : ∀ (x0 : Nat) (x3 : Int32) (x4 : Int32) (M : Mm), l_X12_river_71 N n x0 x3 x4 M = some r → TW X G 7 (RQ X G (some (.int r.1)) r.2 rm_X12_river) 0 0 M 71 [(0, .ref x0), (3, .int x3), (4, .int x4)] [] := by
  induction n with
  | zero => intro  x0 x3 x4 M h; cases (show none = some r from h)
  | succ n ih => intro  x0 x3 x4 M h; exact v_X12_river_71 N hC (l_X12_river_71 N n) ih x0 x3 x4 M h
def b_X12_river_38 (N : Nat) (k38 : Nat → Int32 → Mm → Option (Int32 × Mm)) (x0 : Nat) (x3 : Int32) (M : Mm) : Option (Int32 × Mm) :=
ck 12 M x0 (bnd (f_X12_readsStatement N x0 M) (fun v1 M2 =>
(if v1 = 0 then
gI 12 M2 x0 12 (fun v6 =>
some (((-1000 : Int32) - v6), M2))
else
gI 12 M2 x0 12 (fun v4 =>
gI 12 M2 x0 14 (fun v5 =>
(if v4 < v5 then
k38 x0 (x3 + (1 : Int32)) M2
else
l_X12_river_71 N N x0 (x3 + (1 : Int32)) (0 : Int32) M2))))))
def l_X12_river_38 (N : Nat) : Nat → Nat → Int32 → Mm → Option (Int32 × Mm)
  | 0 => fun _ _ _ => none
  | n + 1 => b_X12_river_38 N (l_X12_river_38 N n)
set_option maxRecDepth 100000 in
set_option maxHeartbeats 4000000 in
theorem v_X12_river_38 {X : Cx} {G : Gl} {r : (Int32 × Mm)} (N : Nat) (hC : CX X G yX12_river cX12_river 7 (some .int) rm_X12_river) (k38 : Nat → Int32 → Mm → Option (Int32 × Mm)) (hk38 : ∀ (x0 : Nat) (x3 : Int32) (M : Mm), k38 x0 x3 M = some r → TW X G 7 (RQ X G (some (.int r.1)) r.2 rm_X12_river) 0 0 M 38 [(0, .ref x0), (3, .int x3)] []) (x0 : Nat) (x3 : Int32) (M : Mm) (h : b_X12_river_38 N k38 x0 x3 M = some r) : TW X G 7 (RQ X G (some (.int r.1)) r.2 rm_X12_river) 0 0 M 38 [(0, .ref x0), (3, .int x3)] [] := by
  unfold b_X12_river_38 at h
  refine zt_aload_n hC rfl dX12_river_38 ?_
  obtain ⟨hk, h⟩ := ck_some h
  obtain ⟨v1, M2, h3, h⟩ := bnd_some h
  refine zt_callV (z := yX12_readsStatement) (As := []) (rest := []) (st1 := (.int v1 :: [])) hC 0 hk cl12 (fun l hl => c_X12_readsStatement N x0 M (v1, M2) h3 l hl) rfl wd_1071 wd_1068 wd_1070 ws_21 wd_7 hd_X12_readsStatement rfl ⟨⟨(Nat.le_of_ble_eq_true rfl), (Nat.le_of_ble_eq_true rfl)⟩, (Nat.le_of_ble_eq_true rfl), (Nat.le_of_ble_eq_true rfl)⟩ rfl (Nat.le_of_ble_eq_true rfl) rfl dX12_river_39 ?_
  refine zt_if_ne (tgt := 54) hC h (by decide) dX12_river_42 (fun h => ?_) (fun h => ?_)
  · refine zt_iinc (v := (x3 + (1 : Int32))) (lv' := [(3, .int (x3 + (1 : Int32))), (0, .ref x0)]) hC rfl (by rw [ki_1]) (by decide) rfl dX12_river_54 ?_
    refine zt_aload_n hC rfl dX12_river_57 ?_
    refine zt_gI hC h cl12 (k := 12) (by decide) rfl wd_1003 (Or.inl rfl) dX12_river_58 (fun v4 h => ?_)
    refine zt_aload_n hC rfl dX12_river_61 ?_
    refine zt_gI hC h cl12 (k := 14) (by decide) rfl wd_1005 (Or.inl rfl) dX12_river_62 (fun v5 h => ?_)
    refine zt_icmp_lt (tgt := 38) hC h (by decide) dX12_river_65 (fun h => ?_) (fun h => ?_)
    · refine zt_keep [0, 3] rfl ?_
      exact hk38 x0 (x3 + (1 : Int32)) M2 h
    · refine zt_iconst hC ki_0 dX12_river_68 ?_
      refine zt_istore (lv' := [(4, .int (0 : Int32)), (3, .int (x3 + (1 : Int32))), (0, .ref x0)]) hC (by decide) rfl dX12_river_69 ?_
      refine zt_keep [0, 3, 4] rfl ?_
      exact w_X12_river_71 N hC N x0 (x3 + (1 : Int32)) (0 : Int32) M2 h
  · refine zt_sipush hC ks_m1000 dX12_river_45 ?_
    refine zt_aload_n hC rfl dX12_river_48 ?_
    refine zt_gI hC h cl12 (k := 12) (by decide) rfl wd_1003 (Or.inl rfl) dX12_river_49 (fun v6 h => ?_)
    refine zt_isub hC dX12_river_52 ?_
    obtain rfl := Option.some.inj h
    exact zt_iret hC rfl rfl (Nat.le_of_ble_eq_true rfl) (Nat.le_of_ble_eq_true rfl) dX12_river_53
theorem w_X12_river_38 {X : Cx} {G : Gl} {r : (Int32 × Mm)} (N : Nat) (hC : CX X G yX12_river cX12_river 7 (some .int) rm_X12_river) (n : Nat) : ∀ (x0 : Nat) (x3 : Int32) (M : Mm), l_X12_river_38 N n x0 x3 M = some r → TW X G 7 (RQ X G (some (.int r.1)) r.2 rm_X12_river) 0 0 M 38 [(0, .ref x0), (3, .int x3)] [] := by
  induction n with
  | zero => intro  x0 x3 M h; cases (show none = some r from h)
  | succ n ih => intro  x0 x3 M h; exact v_X12_river_38 N hC (l_X12_river_38 N n) ih x0 x3 M h
def f_X12_river (N : Nat) (x0 : Nat) (x1 : Int32) (M : Mm) : Option (Int32 × Mm) :=
ck 12 M x0 (bnd (f_X12_wrongRow N x0 x1 (0 : Int32) M) (fun v1 M2 =>
(if v1 = 0 then
pI 12 M2 x0 13 ((100 : Int32) * x1) (fun M4 =>
gR 12 M4 x0 6 (fun v5 =>
ald M4 v5 x1 (fun v6 =>
pI 12 M4 x0 14 v6 (fun M7 =>
pI 12 M7 x0 12 (0 : Int32) (fun M8 =>
l_X12_river_38 N N x0 (0 : Int32) M8)))))
else
some (v1, M2))))
set_option maxRecDepth 100000 in
set_option maxHeartbeats 4000000 in
theorem c_X12_river (N : Nat) (x0 : Nat) (x1 : Int32) (M : Mm) (r : (Int32 × Mm)) (h : f_X12_river N x0 x1 M = some r) (l : Launch) (hfl : l.flags = flags0) {G : Gl} : MT l G yX12_river cX12_river 7 (some .int) rm_X12_river [.ref x0, .int x1] M (some (.int r.1)) r.2 := by
  unfold f_X12_river at h
  refine zt_start hfl (lv := [(0, .ref x0), (1, .int x1)]) (by decide) (Nat.le_of_ble_eq_true rfl) rfl wd_1056 (fun X hC _ => ?_)
  refine zt_aload_n hC rfl dX12_river_0 ?_
  refine zt_iload_n hC rfl dX12_river_1 ?_
  refine zt_iconst hC ki_0 dX12_river_2 ?_
  obtain ⟨hk, h⟩ := ck_some h
  obtain ⟨v1, M2, h3, h⟩ := bnd_some h
  refine zt_callV (z := yX12_wrongRow) (As := [.int x1, .int (0 : Int32)]) (rest := []) (st1 := (.int v1 :: [])) hC 2 hk cl12 (fun l hl => c_X12_wrongRow N x0 x1 (0 : Int32) M (v1, M2) h3 l hl) rfl wd_1060 wd_1057 wd_1059 ws_20 wd_7 hd_X12_wrongRow rfl ⟨⟨(Nat.le_of_ble_eq_true rfl), (Nat.le_of_ble_eq_true rfl)⟩, (Nat.le_of_ble_eq_true rfl), (Nat.le_of_ble_eq_true rfl)⟩ rfl (Nat.le_of_ble_eq_true rfl) rfl dX12_river_3 ?_
  refine zt_istore_n (lv' := [(2, .int v1), (0, .ref x0), (1, .int x1)]) hC (by decide) rfl dX12_river_6 ?_
  refine zt_iload_n hC rfl dX12_river_7 ?_
  refine zt_if_eq (tgt := 13) hC h (by decide) dX12_river_8 (fun h => ?_) (fun h => ?_)
  · refine zt_aload_n hC rfl dX12_river_13 ?_
    refine zt_bipush hC kb_100 dX12_river_14 ?_
    refine zt_iload_n hC rfl dX12_river_16 ?_
    refine zt_imul hC dX12_river_17 ?_
    refine zt_pI hC h cl12 (k := 13) (by decide) rfl wd_1004 (Or.inl rfl) (Or.inl rfl) dX12_river_18 (fun M4 h => ?_)
    refine zt_aload_n hC rfl dX12_river_21 ?_
    refine zt_aload_n hC rfl dX12_river_22 ?_
    refine zt_gR hC h cl12 (k := 6) (by decide) rfl wd_997 (Or.inl rfl) dX12_river_23 (fun v5 h => ?_)
    refine zt_iload_n hC rfl dX12_river_26 ?_
    refine zt_ald hC h dX12_river_27 (fun v6 h => ?_)
    refine zt_pI hC h cl12 (k := 14) (by decide) rfl wd_1005 (Or.inl rfl) (Or.inl rfl) dX12_river_28 (fun M7 h => ?_)
    refine zt_aload_n hC rfl dX12_river_31 ?_
    refine zt_iconst hC ki_0 dX12_river_32 ?_
    refine zt_pI hC h cl12 (k := 12) (by decide) rfl wd_1003 (Or.inl rfl) (Or.inl rfl) dX12_river_33 (fun M8 h => ?_)
    refine zt_iconst hC ki_0 dX12_river_36 ?_
    refine zt_istore_n (lv' := [(3, .int (0 : Int32)), (2, .int v1), (0, .ref x0), (1, .int x1)]) hC (by decide) rfl dX12_river_37 ?_
    refine zt_keep [0, 3] rfl ?_
    exact w_X12_river_38 N hC N x0 (0 : Int32) M8 h
  · refine zt_iload_n hC rfl dX12_river_11 ?_
    obtain rfl := Option.some.inj h
    exact zt_iret hC rfl rfl (Nat.le_of_ble_eq_true rfl) (Nat.le_of_ble_eq_true rfl) dX12_river_12
