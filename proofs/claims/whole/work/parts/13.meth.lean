def rm_X11_boat : Room := { frames := 1, cells := 0, slots := 0, locals := 20 }
theorem hd_X11_boat : yX11_boat.cls ≠ "java/lang/invoke/MethodHandle" ∧ yX11_boat.cls ≠ "java/lang/invoke/VarHandle" ∧ (parseMethodDescriptor yX11_boat.desc).map (fun d => d.parameters.length) = some 1 := by decide +kernel
def j_X11_boat_20 (N : Nat) (x1 : Int32) (x2 : Nat) (s0 : Int32) (M : Mm) : Option (Int32 × Mm) :=
(if x1 = (0 : Int32) then
(if s0 = 0 then
gI 1 M x2 0 (fun v1 =>
some (v1, M))
else
some ((-4 : Int32), M))
else
(if x1 = (1 : Int32) then
(if s0 = 0 then
some ((-4 : Int32), M)
else
gI 1 M x2 0 (fun v2 =>
some (v2, M)))
else
(if x1 = (2 : Int32) then
gI 1 M x2 1 (fun v3 =>
some (v3, M))
else
(if x1 = (3 : Int32) then
gI 1 M x2 2 (fun v4 =>
some (v4, M))
else
(if x1 = (4 : Int32) then
gR 1 M x2 4 (fun v5 =>
bnd (d_Rule_kind N v5 M) (fun v6 M7 =>
some (v6, M7)))
else
some ((-1 : Int32), M))))))
set_option maxRecDepth 100000 in
set_option maxHeartbeats 4000000 in
theorem w_X11_boat_20 {X : Cx} {G : Gl} {r : (Int32 × Mm)} (N : Nat) (hC : CX X G yX11_boat cX11_boat 4 (some .int) rm_X11_boat) (x1 : Int32) (x2 : Nat) (s0 : Int32) (M : Mm) (h : j_X11_boat_20 N x1 x2 s0 M = some r) : TW X G 4 (RQ X G (some (.int r.1)) r.2 rm_X11_boat) 0 0 M 20 [(1, .int x1), (2, .ref x2)] [.int s0] := by
  unfold j_X11_boat_20 at h
  refine zt_istore_n (lv' := [(3, .int s0), (1, .int x1), (2, .ref x2)]) hC (by decide) rfl dX11_boat_20 ?_
  refine zt_iload_n hC rfl dX11_boat_21 ?_
  rcases ite_or h with ⟨c0, h⟩ | ⟨c0, h⟩
  · refine zt_tsIn (tgt := 56) hC c0 (by decide) (by decide) rfl (by decide) dX11_boat_22 ?_
    refine zt_iload_n hC rfl dX11_boat_56 ?_
    refine zt_if_eq (tgt := 65) hC h (by decide) dX11_boat_57 (fun h => ?_) (fun h => ?_)
    · refine zt_aload_n hC rfl dX11_boat_65 ?_
      refine zt_gI hC h cl1 (k := 0) (by decide) rfl wd_71 (Or.inl rfl) dX11_boat_66 (fun v1 h => ?_)
      obtain rfl := Option.some.inj h
      exact zt_iret hC rfl rfl (Nat.le_of_ble_eq_true rfl) (Nat.le_of_ble_eq_true rfl) dX11_boat_69
    · refine zt_bipush hC kb_m4 dX11_boat_60 ?_
      refine zt_goto (tgt := 69) hC (by decide) dX11_boat_62 ?_
      obtain rfl := Option.some.inj h
      exact zt_iret hC rfl rfl (Nat.le_of_ble_eq_true rfl) (Nat.le_of_ble_eq_true rfl) dX11_boat_69
  · rcases ite_or h with ⟨c1, h⟩ | ⟨c1, h⟩
    · refine zt_tsIn (tgt := 70) hC c1 (by decide) (by decide) rfl (by decide) dX11_boat_22 ?_
      refine zt_iload_n hC rfl dX11_boat_70 ?_
      refine zt_if_eq (tgt := 81) hC h (by decide) dX11_boat_71 (fun h => ?_) (fun h => ?_)
      · refine zt_bipush hC kb_m4 dX11_boat_81 ?_
        obtain rfl := Option.some.inj h
        exact zt_iret hC rfl rfl (Nat.le_of_ble_eq_true rfl) (Nat.le_of_ble_eq_true rfl) dX11_boat_83
      · refine zt_aload_n hC rfl dX11_boat_74 ?_
        refine zt_gI hC h cl1 (k := 0) (by decide) rfl wd_71 (Or.inl rfl) dX11_boat_75 (fun v2 h => ?_)
        refine zt_goto (tgt := 83) hC (by decide) dX11_boat_78 ?_
        obtain rfl := Option.some.inj h
        exact zt_iret hC rfl rfl (Nat.le_of_ble_eq_true rfl) (Nat.le_of_ble_eq_true rfl) dX11_boat_83
    · rcases ite_or h with ⟨c2, h⟩ | ⟨c2, h⟩
      · refine zt_tsIn (tgt := 84) hC c2 (by decide) (by decide) rfl (by decide) dX11_boat_22 ?_
        refine zt_aload_n hC rfl dX11_boat_84 ?_
        refine zt_gI hC h cl1 (k := 1) (by decide) rfl wd_74 (Or.inl rfl) dX11_boat_85 (fun v3 h => ?_)
        obtain rfl := Option.some.inj h
        exact zt_iret hC rfl rfl (Nat.le_of_ble_eq_true rfl) (Nat.le_of_ble_eq_true rfl) dX11_boat_88
      · rcases ite_or h with ⟨c3, h⟩ | ⟨c3, h⟩
        · refine zt_tsIn (tgt := 89) hC c3 (by decide) (by decide) rfl (by decide) dX11_boat_22 ?_
          refine zt_aload_n hC rfl dX11_boat_89 ?_
          refine zt_gI hC h cl1 (k := 2) (by decide) rfl wd_81 (Or.inl rfl) dX11_boat_90 (fun v4 h => ?_)
          obtain rfl := Option.some.inj h
          exact zt_iret hC rfl rfl (Nat.le_of_ble_eq_true rfl) (Nat.le_of_ble_eq_true rfl) dX11_boat_93
        · rcases ite_or h with ⟨c4, h⟩ | ⟨c4, h⟩
          · refine zt_tsIn (tgt := 94) hC c4 (by decide) (by decide) rfl (by decide) dX11_boat_22 ?_
            refine zt_aload_n hC rfl dX11_boat_94 ?_
            refine zt_gR hC h cl1 (k := 4) (by decide) rfl wd_89 (Or.inl rfl) dX11_boat_95 (fun v5 h => ?_)
            obtain ⟨v6, M7, h8, h⟩ := bnd_some h
            have kk : TW X G 4 (RQ X G (some (.int r.1)) r.2 rm_X11_boat) 0 0 M7 101 [(3, .int s0), (1, .int x1), (2, .ref x2)] (.int v6 :: []) := by
              obtain rfl := Option.some.inj h
              exact zt_iret hC rfl rfl (Nat.le_of_ble_eq_true rfl) (Nat.le_of_ble_eq_true rfl) dX11_boat_101
            rcases d_Rule_kind_some h8 with ⟨hk, h8⟩ | ⟨hk, h8⟩ | ⟨hk, h8⟩ | ⟨hk, h8⟩ | ⟨hk, h8⟩ | ⟨hk, h8⟩ | ⟨hk, h8⟩
            · exact zt_callO (z := yX6_kind) (As := []) (rest := []) (st1 := (.int v6 :: [])) hC 0 hk cl6 (fun l hl => c_X6_kind N v5 M (v6, M7) h8 l hl) wd_433 wd_411 wd_414 wd_412 wd_433 wd_413 wd_412 wd_4 hdo_d_Rule_kind rfl ⟨⟨(Nat.le_of_ble_eq_true rfl), (Nat.le_of_ble_eq_true rfl)⟩, (Nat.le_of_ble_eq_true rfl), (Nat.le_of_ble_eq_true rfl)⟩ rfl (Nat.le_of_ble_eq_true rfl) rfl dX11_boat_98 kk
            · exact zt_callO (z := yX0_kind) (As := []) (rest := []) (st1 := (.int v6 :: [])) hC 0 hk cl0 (fun l hl => c_X0_kind N v5 M (v6, M7) h8 l hl) wd_417 wd_411 wd_414 wd_412 wd_433 wd_415 wd_416 wd_12 hdo_d_Rule_kind rfl ⟨⟨(Nat.le_of_ble_eq_true rfl), (Nat.le_of_ble_eq_true rfl)⟩, (Nat.le_of_ble_eq_true rfl), (Nat.le_of_ble_eq_true rfl)⟩ rfl (Nat.le_of_ble_eq_true rfl) rfl dX11_boat_98 kk
            · exact zt_callO (z := yX2_kind) (As := []) (rest := []) (st1 := (.int v6 :: [])) hC 0 hk cl2 (fun l hl => c_X2_kind N v5 M (v6, M7) h8 l hl) wd_420 wd_411 wd_414 wd_412 wd_433 wd_418 wd_419 wd_11 hdo_d_Rule_kind rfl ⟨⟨(Nat.le_of_ble_eq_true rfl), (Nat.le_of_ble_eq_true rfl)⟩, (Nat.le_of_ble_eq_true rfl), (Nat.le_of_ble_eq_true rfl)⟩ rfl (Nat.le_of_ble_eq_true rfl) rfl dX11_boat_98 kk
            · exact zt_callO (z := yX3_kind) (As := []) (rest := []) (st1 := (.int v6 :: [])) hC 0 hk cl3 (fun l hl => c_X3_kind N v5 M (v6, M7) h8 l hl) wd_423 wd_411 wd_414 wd_412 wd_433 wd_421 wd_422 wd_14 hdo_d_Rule_kind rfl ⟨⟨(Nat.le_of_ble_eq_true rfl), (Nat.le_of_ble_eq_true rfl)⟩, (Nat.le_of_ble_eq_true rfl), (Nat.le_of_ble_eq_true rfl)⟩ rfl (Nat.le_of_ble_eq_true rfl) rfl dX11_boat_98 kk
            · exact zt_callO (z := yX4_kind) (As := []) (rest := []) (st1 := (.int v6 :: [])) hC 0 hk cl4 (fun l hl => c_X4_kind N v5 M (v6, M7) h8 l hl) wd_426 wd_411 wd_414 wd_412 wd_433 wd_424 wd_425 wd_10 hdo_d_Rule_kind rfl ⟨⟨(Nat.le_of_ble_eq_true rfl), (Nat.le_of_ble_eq_true rfl)⟩, (Nat.le_of_ble_eq_true rfl), (Nat.le_of_ble_eq_true rfl)⟩ rfl (Nat.le_of_ble_eq_true rfl) rfl dX11_boat_98 kk
            · exact zt_callO (z := yX8_kind) (As := []) (rest := []) (st1 := (.int v6 :: [])) hC 0 hk cl8 (fun l hl => c_X8_kind N v5 M (v6, M7) h8 l hl) wd_429 wd_411 wd_414 wd_412 wd_433 wd_427 wd_428 wd_15 hdo_d_Rule_kind rfl ⟨⟨(Nat.le_of_ble_eq_true rfl), (Nat.le_of_ble_eq_true rfl)⟩, (Nat.le_of_ble_eq_true rfl), (Nat.le_of_ble_eq_true rfl)⟩ rfl (Nat.le_of_ble_eq_true rfl) rfl dX11_boat_98 kk
            · exact zt_callO (z := yX9_kind) (As := []) (rest := []) (st1 := (.int v6 :: [])) hC 0 hk cl9 (fun l hl => c_X9_kind N v5 M (v6, M7) h8 l hl) wd_432 wd_411 wd_414 wd_412 wd_433 wd_430 wd_431 wd_13 hdo_d_Rule_kind rfl ⟨⟨(Nat.le_of_ble_eq_true rfl), (Nat.le_of_ble_eq_true rfl)⟩, (Nat.le_of_ble_eq_true rfl), (Nat.le_of_ble_eq_true rfl)⟩ rfl (Nat.le_of_ble_eq_true rfl) rfl dX11_boat_98 kk
          · refine zt_tsOut (tgt := 102) hC (by have e0 := sw_ne c0 (j := 0) (by decide); have e1 := sw_ne c1 (j := 1) (by decide); have e2 := sw_ne c2 (j := 2) (by decide); have e3 := sw_ne c3 (j := 3) (by decide); have e4 := sw_ne c4 (j := 4) (by decide); omega) (by decide) dX11_boat_22 ?_
            refine zt_iconst hC ki_m1 dX11_boat_102 ?_
            obtain rfl := Option.some.inj h
            exact zt_iret hC rfl rfl (Nat.le_of_ble_eq_true rfl) (Nat.le_of_ble_eq_true rfl) dX11_boat_103
def f_X11_boat (N : Nat) (x0 : Nat) (x1 : Int32) (M : Mm) : Option (Int32 × Mm) :=
gR 11 M x0 0 (fun v1 =>
gR 10 M v1 7 (fun v2 =>
gI 1 M v2 1 (fun v3 =>
(if v3 ≤ 0 then
j_X11_boat_20 N x1 v2 (0 : Int32) M
else
j_X11_boat_20 N x1 v2 (1 : Int32) M))))
set_option maxRecDepth 100000 in
set_option maxHeartbeats 4000000 in
theorem c_X11_boat (N : Nat) (x0 : Nat) (x1 : Int32) (M : Mm) (r : (Int32 × Mm)) (h : f_X11_boat N x0 x1 M = some r) (l : Launch) (hfl : l.flags = flags0) {G : Gl} : MT l G yX11_boat cX11_boat 4 (some .int) rm_X11_boat [.ref x0, .int x1] M (some (.int r.1)) r.2 := by
  unfold f_X11_boat at h
  refine zt_start hfl (lv := [(0, .ref x0), (1, .int x1)]) (by decide) (Nat.le_of_ble_eq_true rfl) rfl wd_555 (fun X hC _ => ?_)
  refine zt_aload_n hC rfl dX11_boat_0 ?_
  refine zt_gR hC h cl11 (k := 0) (by decide) rfl wd_227 (Or.inl rfl) dX11_boat_1 (fun v1 h => ?_)
  refine zt_gR hC h cl10 (k := 7) (by decide) rfl wd_122 (Or.inl rfl) dX11_boat_4 (fun v2 h => ?_)
  refine zt_astore_n (lv' := [(2, .ref v2), (0, .ref x0), (1, .int x1)]) hC (by decide) rfl dX11_boat_7 ?_
  refine zt_aload_n hC rfl dX11_boat_8 ?_
  refine zt_gI hC h cl1 (k := 1) (by decide) rfl wd_74 (Or.inl rfl) dX11_boat_9 (fun v3 h => ?_)
  refine zt_if_le (tgt := 19) hC h (by decide) dX11_boat_12 (fun h => ?_) (fun h => ?_)
  · refine zt_iconst hC ki_0 dX11_boat_19 ?_
    refine zt_keep [1, 2] rfl ?_
    exact w_X11_boat_20 N hC x1 v2 (0 : Int32) M h
  · refine zt_iconst hC ki_1 dX11_boat_15 ?_
    refine zt_goto (tgt := 20) hC (by decide) dX11_boat_16 ?_
    refine zt_keep [1, 2] rfl ?_
    exact w_X11_boat_20 N hC x1 v2 (1 : Int32) M h
def rm_X11_stand : Room := { frames := 2, cells := 0, slots := 0, locals := 46 }
theorem hd_X11_stand : yX11_stand.cls ≠ "java/lang/invoke/MethodHandle" ∧ yX11_stand.cls ≠ "java/lang/invoke/VarHandle" ∧ (parseMethodDescriptor yX11_stand.desc).map (fun d => d.parameters.length) = some 3 := by decide +kernel
def f_X11_stand (N : Nat) (x0 : Nat) (x1 : Int32) (x2 : Int32) (x3 : Int32) (M : Mm) : Option (Int32 × Mm) :=
gR 11 M x0 0 (fun v1 =>
ck 10 M v1 (bnd (f_X10_hasLanding N v1 x1 M) (fun v2 M3 =>
(if v2 = 0 then
some ((-1 : Int32), M3)
else
(if x2 < (-1 : Int32) then
some ((-1 : Int32), M3)
else
(if x3 < 0 then
some ((-1 : Int32), M3)
else
(if x3 ≤ (1 : Int32) then
gR 11 M3 x0 0 (fun v5 =>
ck 10 M3 v5 (bnd (f_X10_standingAt N v5 x1 M3) (fun v6 M7 =>
(if x2 = (-1 : Int32) then
some (v6, M7)
else
(if x2 < v6 then
(if x3 = 0 then
gR 11 M7 x0 0 (fun v13 =>
ck 10 M7 v13 (bnd (f_X10_whoStands N v13 x1 x2 M7) (fun v14 M15 =>
some (v14, M15))))
else
gR 11 M7 x0 0 (fun v9 =>
ck 10 M7 v9 (bnd (f_X10_sinceStands N v9 x1 x2 M7) (fun v10 M11 =>
some (v10, M11)))))
else
some ((-4 : Int32), M7))))))
else
some ((-1 : Int32), M3))))))))
set_option maxRecDepth 100000 in
set_option maxHeartbeats 4000000 in
theorem c_X11_stand (N : Nat) (x0 : Nat) (x1 : Int32) (x2 : Int32) (x3 : Int32) (M : Mm) (r : (Int32 × Mm)) (h : f_X11_stand N x0 x1 x2 x3 M = some r) (l : Launch) (hfl : l.flags = flags0) {G : Gl} : MT l G yX11_stand cX11_stand 5 (some .int) rm_X11_stand [.ref x0, .int x1, .int x2, .int x3] M (some (.int r.1)) r.2 := by
  unfold f_X11_stand at h
  refine zt_start hfl (lv := [(0, .ref x0), (1, .int x1), (2, .int x2), (3, .int x3)]) (by decide) (Nat.le_of_ble_eq_true rfl) rfl wd_559 (fun X hC _ => ?_)
  refine zt_aload_n hC rfl dX11_stand_0 ?_
  refine zt_gR hC h cl11 (k := 0) (by decide) rfl wd_227 (Or.inl rfl) dX11_stand_1 (fun v1 h => ?_)
  refine zt_iload_n hC rfl dX11_stand_4 ?_
  obtain ⟨hk, h⟩ := ck_some h
  obtain ⟨v2, M3, h4, h⟩ := bnd_some h
  refine zt_callV (z := yX10_hasLanding) (As := [.int x1]) (rest := []) (st1 := (.int v2 :: [])) hC 1 hk cl10 (fun l hl => c_X10_hasLanding N v1 x1 M (v2, M3) h4 l hl) rfl wd_358 wd_372 wd_356 wd_357 wd_2 hd_X10_hasLanding rfl ⟨⟨(Nat.le_of_ble_eq_true rfl), (Nat.le_of_ble_eq_true rfl)⟩, (Nat.le_of_ble_eq_true rfl), (Nat.le_of_ble_eq_true rfl)⟩ rfl (Nat.le_of_ble_eq_true rfl) rfl dX11_stand_5 ?_
  refine zt_if_eq (tgt := 25) hC h (by decide) dX11_stand_8 (fun h => ?_) (fun h => ?_)
  · refine zt_iconst hC ki_m1 dX11_stand_25 ?_
    obtain rfl := Option.some.inj h
    exact zt_iret hC rfl rfl (Nat.le_of_ble_eq_true rfl) (Nat.le_of_ble_eq_true rfl) dX11_stand_26
  · refine zt_iload_n hC rfl dX11_stand_11 ?_
    refine zt_iconst hC ki_m1 dX11_stand_12 ?_
    refine zt_icmp_lt (tgt := 25) hC h (by decide) dX11_stand_13 (fun h => ?_) (fun h => ?_)
    · refine zt_iconst hC ki_m1 dX11_stand_25 ?_
      obtain rfl := Option.some.inj h
      exact zt_iret hC rfl rfl (Nat.le_of_ble_eq_true rfl) (Nat.le_of_ble_eq_true rfl) dX11_stand_26
    · refine zt_iload_n hC rfl dX11_stand_16 ?_
      refine zt_if_lt (tgt := 25) hC h (by decide) dX11_stand_17 (fun h => ?_) (fun h => ?_)
      · refine zt_iconst hC ki_m1 dX11_stand_25 ?_
        obtain rfl := Option.some.inj h
        exact zt_iret hC rfl rfl (Nat.le_of_ble_eq_true rfl) (Nat.le_of_ble_eq_true rfl) dX11_stand_26
      · refine zt_iload_n hC rfl dX11_stand_20 ?_
        refine zt_iconst hC ki_1 dX11_stand_21 ?_
        refine zt_icmp_le (tgt := 27) hC h (by decide) dX11_stand_22 (fun h => ?_) (fun h => ?_)
        · refine zt_aload_n hC rfl dX11_stand_27 ?_
          refine zt_gR hC h cl11 (k := 0) (by decide) rfl wd_227 (Or.inl rfl) dX11_stand_28 (fun v5 h => ?_)
          refine zt_iload_n hC rfl dX11_stand_31 ?_
          obtain ⟨hk, h⟩ := ck_some h
          obtain ⟨v6, M7, h8, h⟩ := bnd_some h
          refine zt_callV (z := yX10_standingAt) (As := [.int x1]) (rest := []) (st1 := (.int v6 :: [])) hC 1 hk cl10 (fun l hl => c_X10_standingAt N v5 x1 M3 (v6, M7) h8 l hl) rfl wd_456 wd_560 wd_454 wd_455 wd_2 hd_X10_standingAt rfl ⟨⟨(Nat.le_of_ble_eq_true rfl), (Nat.le_of_ble_eq_true rfl)⟩, (Nat.le_of_ble_eq_true rfl), (Nat.le_of_ble_eq_true rfl)⟩ rfl (Nat.le_of_ble_eq_true rfl) rfl dX11_stand_32 ?_
          refine zt_istore (lv' := [(4, .int v6), (0, .ref x0), (1, .int x1), (2, .int x2), (3, .int x3)]) hC (by decide) rfl dX11_stand_35 ?_
          refine zt_iload_n hC rfl dX11_stand_37 ?_
          refine zt_iconst hC ki_m1 dX11_stand_38 ?_
          refine zt_icmp_ne (tgt := 45) hC h (by decide) dX11_stand_39 (fun h => ?_) (fun h => ?_)
          · refine zt_iload_n hC rfl dX11_stand_45 ?_
            refine zt_iload hC rfl dX11_stand_46 ?_
            refine zt_icmp_lt (tgt := 54) hC h (by decide) dX11_stand_48 (fun h => ?_) (fun h => ?_)
            · refine zt_iload_n hC rfl dX11_stand_54 ?_
              refine zt_if_ne (tgt := 70) hC h (by decide) dX11_stand_55 (fun h => ?_) (fun h => ?_)
              · refine zt_aload_n hC rfl dX11_stand_70 ?_
                refine zt_gR hC h cl11 (k := 0) (by decide) rfl wd_227 (Or.inl rfl) dX11_stand_71 (fun v9 h => ?_)
                refine zt_iload_n hC rfl dX11_stand_74 ?_
                refine zt_iload_n hC rfl dX11_stand_75 ?_
                obtain ⟨hk, h⟩ := ck_some h
                obtain ⟨v10, M11, h12, h⟩ := bnd_some h
                refine zt_callV (z := yX10_sinceStands) (As := [.int x1, .int x2]) (rest := []) (st1 := (.int v10 :: [])) hC 2 hk cl10 (fun l hl => c_X10_sinceStands N v9 x1 x2 M7 (v10, M11) h12 l hl) rfl wd_508 wd_565 wd_506 wd_507 wd_2 hd_X10_sinceStands rfl ⟨⟨(Nat.le_of_ble_eq_true rfl), (Nat.le_of_ble_eq_true rfl)⟩, (Nat.le_of_ble_eq_true rfl), (Nat.le_of_ble_eq_true rfl)⟩ rfl (Nat.le_of_ble_eq_true rfl) rfl dX11_stand_76 ?_
                obtain rfl := Option.some.inj h
                exact zt_iret hC rfl rfl (Nat.le_of_ble_eq_true rfl) (Nat.le_of_ble_eq_true rfl) dX11_stand_79
              · refine zt_aload_n hC rfl dX11_stand_58 ?_
                refine zt_gR hC h cl11 (k := 0) (by decide) rfl wd_227 (Or.inl rfl) dX11_stand_59 (fun v13 h => ?_)
                refine zt_iload_n hC rfl dX11_stand_62 ?_
                refine zt_iload_n hC rfl dX11_stand_63 ?_
                obtain ⟨hk, h⟩ := ck_some h
                obtain ⟨v14, M15, h16, h⟩ := bnd_some h
                refine zt_callV (z := yX10_whoStands) (As := [.int x1, .int x2]) (rest := []) (st1 := (.int v14 :: [])) hC 2 hk cl10 (fun l hl => c_X10_whoStands N v13 x1 x2 M7 (v14, M15) h16 l hl) rfl wd_564 wd_561 wd_562 wd_563 wd_2 hd_X10_whoStands rfl ⟨⟨(Nat.le_of_ble_eq_true rfl), (Nat.le_of_ble_eq_true rfl)⟩, (Nat.le_of_ble_eq_true rfl), (Nat.le_of_ble_eq_true rfl)⟩ rfl (Nat.le_of_ble_eq_true rfl) rfl dX11_stand_64 ?_
                refine zt_goto (tgt := 79) hC (by decide) dX11_stand_67 ?_
                obtain rfl := Option.some.inj h
                exact zt_iret hC rfl rfl (Nat.le_of_ble_eq_true rfl) (Nat.le_of_ble_eq_true rfl) dX11_stand_79
            · refine zt_bipush hC kb_m4 dX11_stand_51 ?_
              obtain rfl := Option.some.inj h
              exact zt_iret hC rfl rfl (Nat.le_of_ble_eq_true rfl) (Nat.le_of_ble_eq_true rfl) dX11_stand_53
          · refine zt_iload hC rfl dX11_stand_42 ?_
            obtain rfl := Option.some.inj h
            exact zt_iret hC rfl rfl (Nat.le_of_ble_eq_true rfl) (Nat.le_of_ble_eq_true rfl) dX11_stand_44
        · refine zt_iconst hC ki_m1 dX11_stand_25 ?_
          obtain rfl := Option.some.inj h
          exact zt_iret hC rfl rfl (Nat.le_of_ble_eq_true rfl) (Nat.le_of_ble_eq_true rfl) dX11_stand_26
def rm_X11_aboard : Room := { frames := 1, cells := 0, slots := 0, locals := 21 }
theorem hd_X11_aboard : yX11_aboard.cls ≠ "java/lang/invoke/MethodHandle" ∧ yX11_aboard.cls ≠ "java/lang/invoke/VarHandle" ∧ (parseMethodDescriptor yX11_aboard.desc).map (fun d => d.parameters.length) = some 1 := by decide +kernel
def f_X11_aboard (N : Nat) (x0 : Nat) (x1 : Int32) (M : Mm) : Option (Int32 × Mm) :=
(if 0 ≤ x1 then
gR 11 M x0 0 (fun v1 =>
gR 10 M v1 7 (fun v2 =>
gI 1 M v2 2 (fun v3 =>
(if v3 ≤ x1 then
some ((-4 : Int32), M)
else
gR 11 M x0 0 (fun v4 =>
gR 10 M v4 7 (fun v5 =>
gR 1 M v5 3 (fun v6 =>
bnd (f_X11_at N v6 x1 M) (fun v7 M8 =>
some (v7, M8)))))))))
else
some ((-1 : Int32), M))
set_option maxRecDepth 100000 in
set_option maxHeartbeats 4000000 in
theorem c_X11_aboard (N : Nat) (x0 : Nat) (x1 : Int32) (M : Mm) (r : (Int32 × Mm)) (h : f_X11_aboard N x0 x1 M = some r) (l : Launch) (hfl : l.flags = flags0) {G : Gl} : MT l G yX11_aboard cX11_aboard 2 (some .int) rm_X11_aboard [.ref x0, .int x1] M (some (.int r.1)) r.2 := by
  unfold f_X11_aboard at h
  refine zt_start hfl (lv := [(0, .ref x0), (1, .int x1)]) (by decide) (Nat.le_of_ble_eq_true rfl) rfl wd_569 (fun X hC _ => ?_)
  refine zt_iload_n hC rfl dX11_aboard_0 ?_
  refine zt_if_ge (tgt := 6) hC h (by decide) dX11_aboard_1 (fun h => ?_) (fun h => ?_)
  · refine zt_iload_n hC rfl dX11_aboard_6 ?_
    refine zt_aload_n hC rfl dX11_aboard_7 ?_
    refine zt_gR hC h cl11 (k := 0) (by decide) rfl wd_227 (Or.inl rfl) dX11_aboard_8 (fun v1 h => ?_)
    refine zt_gR hC h cl10 (k := 7) (by decide) rfl wd_122 (Or.inl rfl) dX11_aboard_11 (fun v2 h => ?_)
    refine zt_gI hC h cl1 (k := 2) (by decide) rfl wd_81 (Or.inl rfl) dX11_aboard_14 (fun v3 h => ?_)
    refine zt_icmp_ge (tgt := 37) hC h (by decide) dX11_aboard_17 (fun h => ?_) (fun h => ?_)
    · refine zt_bipush hC kb_m4 dX11_aboard_37 ?_
      obtain rfl := Option.some.inj h
      exact zt_iret hC rfl rfl (Nat.le_of_ble_eq_true rfl) (Nat.le_of_ble_eq_true rfl) dX11_aboard_39
    · refine zt_aload_n hC rfl dX11_aboard_20 ?_
      refine zt_gR hC h cl11 (k := 0) (by decide) rfl wd_227 (Or.inl rfl) dX11_aboard_21 (fun v4 h => ?_)
      refine zt_gR hC h cl10 (k := 7) (by decide) rfl wd_122 (Or.inl rfl) dX11_aboard_24 (fun v5 h => ?_)
      refine zt_gR hC h cl1 (k := 3) (by decide) rfl wd_86 (Or.inl rfl) dX11_aboard_27 (fun v6 h => ?_)
      refine zt_iload_n hC rfl dX11_aboard_30 ?_
      obtain ⟨v7, M8, h9, h⟩ := bnd_some h
      refine zt_callS (z := yX11_at) (As := [.ref v6, .int x1]) (rest := []) (st1 := (.int v7 :: [])) hC 2 (fun l hl => c_X11_at N v6 x1 M (v7, M8) h9 l hl) rfl wd_379 wd_570 wd_378 wd_1 hd_X11_at rfl ⟨⟨(Nat.le_of_ble_eq_true rfl), (Nat.le_of_ble_eq_true rfl)⟩, (Nat.le_of_ble_eq_true rfl), (Nat.le_of_ble_eq_true rfl)⟩ rfl (Nat.le_of_ble_eq_true rfl) rfl dX11_aboard_31 ?_
      refine zt_goto (tgt := 39) hC (by decide) dX11_aboard_34 ?_
      obtain rfl := Option.some.inj h
      exact zt_iret hC rfl rfl (Nat.le_of_ble_eq_true rfl) (Nat.le_of_ble_eq_true rfl) dX11_aboard_39
  · refine zt_iconst hC ki_m1 dX11_aboard_4 ?_
    obtain rfl := Option.some.inj h
    exact zt_iret hC rfl rfl (Nat.le_of_ble_eq_true rfl) (Nat.le_of_ble_eq_true rfl) dX11_aboard_5
def rm_X11_told : Room := { frames := 1, cells := 0, slots := 0, locals := 21 }
theorem hd_X11_told : yX11_told.cls ≠ "java/lang/invoke/MethodHandle" ∧ yX11_told.cls ≠ "java/lang/invoke/VarHandle" ∧ (parseMethodDescriptor yX11_told.desc).map (fun d => d.parameters.length) = some 1 := by decide +kernel
def f_X11_told (N : Nat) (x0 : Nat) (x1 : Int32) (M : Mm) : Option (Int32 × Mm) :=
gR 11 M x0 0 (fun v1 =>
ck 10 M v1 (bnd (f_X10_figureOf N v1 x1 M) (fun v2 M3 =>
some (v2, M3))))
set_option maxRecDepth 100000 in
set_option maxHeartbeats 4000000 in
theorem c_X11_told (N : Nat) (x0 : Nat) (x1 : Int32) (M : Mm) (r : (Int32 × Mm)) (h : f_X11_told N x0 x1 M = some r) (l : Launch) (hfl : l.flags = flags0) {G : Gl} : MT l G yX11_told cX11_told 2 (some .int) rm_X11_told [.ref x0, .int x1] M (some (.int r.1)) r.2 := by
  unfold f_X11_told at h
  refine zt_start hfl (lv := [(0, .ref x0), (1, .int x1)]) (by decide) (Nat.le_of_ble_eq_true rfl) rfl wd_574 (fun X hC _ => ?_)
  refine zt_aload_n hC rfl dX11_told_0 ?_
  refine zt_gR hC h cl11 (k := 0) (by decide) rfl wd_227 (Or.inl rfl) dX11_told_1 (fun v1 h => ?_)
  refine zt_iload_n hC rfl dX11_told_4 ?_
  obtain ⟨hk, h⟩ := ck_some h
  obtain ⟨v2, M3, h4, h⟩ := bnd_some h
  refine zt_callV (z := yX10_figureOf) (As := [.int x1]) (rest := []) (st1 := (.int v2 :: [])) hC 1 hk cl10 (fun l hl => c_X10_figureOf N v1 x1 M (v2, M3) h4 l hl) rfl wd_578 wd_575 wd_576 wd_577 wd_2 hd_X10_figureOf rfl ⟨⟨(Nat.le_of_ble_eq_true rfl), (Nat.le_of_ble_eq_true rfl)⟩, (Nat.le_of_ble_eq_true rfl), (Nat.le_of_ble_eq_true rfl)⟩ rfl (Nat.le_of_ble_eq_true rfl) rfl dX11_told_5 ?_
  obtain rfl := Option.some.inj h
  exact zt_iret hC rfl rfl (Nat.le_of_ble_eq_true rfl) (Nat.le_of_ble_eq_true rfl) dX11_told_8
def rm_X11_begin : Room := { frames := 4, cells := 0, slots := 0, locals := 147 }
theorem hd_X11_begin : yX11_begin.cls ≠ "java/lang/invoke/MethodHandle" ∧ yX11_begin.cls ≠ "java/lang/invoke/VarHandle" ∧ (parseMethodDescriptor yX11_begin.desc).map (fun d => d.parameters.length) = some 3 := by decide +kernel
def f_X11_begin (N : Nat) (x0 : Nat) (x1 : Nat) (x2 : Int32) (x3 : Int32) (M : Mm) : Option (Unit × Mm) :=
gR 11 M x0 3 (fun v1 =>
gR 11 M x0 0 (fun v2 =>
ck 10 M v1 (bnd (f_X10_beginDay N v1 v2 x1 x2 x3 M) (fun v3 M4 =>
some ((), M4)))))
set_option maxRecDepth 100000 in
set_option maxHeartbeats 4000000 in
theorem c_X11_begin (N : Nat) (x0 : Nat) (x1 : Nat) (x2 : Int32) (x3 : Int32) (M : Mm) (r : (Unit × Mm)) (h : f_X11_begin N x0 x1 x2 x3 M = some r) (l : Launch) (hfl : l.flags = flags0) {G : Gl} : MT l G yX11_begin cX11_begin 4 none rm_X11_begin [.ref x0, .ref x1, .int x2, .int x3] M none r.2 := by
  unfold f_X11_begin at h
  refine zt_start hfl (lv := [(0, .ref x0), (1, .ref x1), (2, .int x2), (3, .int x3)]) (by decide) (Nat.le_of_ble_eq_true rfl) rfl wd_589 (fun X hC _ => ?_)
  refine zt_aload_n hC rfl dX11_begin_0 ?_
  refine zt_gR hC h cl11 (k := 3) (by decide) rfl wd_230 (Or.inl rfl) dX11_begin_1 (fun v1 h => ?_)
  refine zt_aload_n hC rfl dX11_begin_4 ?_
  refine zt_gR hC h cl11 (k := 0) (by decide) rfl wd_227 (Or.inl rfl) dX11_begin_5 (fun v2 h => ?_)
  refine zt_aload_n hC rfl dX11_begin_8 ?_
  refine zt_iload_n hC rfl dX11_begin_9 ?_
  refine zt_iload_n hC rfl dX11_begin_10 ?_
  obtain ⟨hk, h⟩ := ck_some h
  obtain ⟨v3, M4, h5, h⟩ := bnd_some h
  refine zt_callV (z := yX10_beginDay) (As := [.ref v2, .ref x1, .int x2, .int x3]) (rest := []) (st1 := []) hC 4 hk cl10 (fun l hl => c_X10_beginDay N v1 v2 x1 x2 x3 M (v3, M4) h5 l hl) rfl wd_593 wd_590 wd_591 wd_592 wd_2 hd_X10_beginDay rfl ⟨⟨(Nat.le_of_ble_eq_true rfl), (Nat.le_of_ble_eq_true rfl)⟩, (Nat.le_of_ble_eq_true rfl), (Nat.le_of_ble_eq_true rfl)⟩ rfl (Nat.le_of_ble_eq_true rfl) rfl dX11_begin_11 ?_
  obtain rfl := Option.some.inj h
  exact zt_vret hC rfl rfl (Nat.le_of_ble_eq_true rfl) (Nat.le_of_ble_eq_true rfl) dX11_begin_14
def rm_X11_isNoSpan : Room := { frames := 0, cells := 0, slots := 0, locals := 0 }
theorem hd_X11_isNoSpan : yX11_isNoSpan.cls ≠ "java/lang/invoke/MethodHandle" ∧ yX11_isNoSpan.cls ≠ "java/lang/invoke/VarHandle" ∧ (parseMethodDescriptor yX11_isNoSpan.desc).map (fun d => d.parameters.length) = some 1 := by decide +kernel
def j_X11_isNoSpan_11 (N : Nat) (M : Mm) : Option (Int32 × Mm) :=
some ((1 : Int32), M)
set_option maxRecDepth 100000 in
set_option maxHeartbeats 4000000 in
theorem w_X11_isNoSpan_11 {X : Cx} {G : Gl} {r : (Int32 × Mm)} (N : Nat) (hC : CX X G yX11_isNoSpan cX11_isNoSpan 1 (some .boolean) rm_X11_isNoSpan) (M : Mm) (h : j_X11_isNoSpan_11 N M = some r) : TW X G 1 (RQ X G (some (.int r.1)) r.2 rm_X11_isNoSpan) 0 0 M 11 [] [] := by
  unfold j_X11_isNoSpan_11 at h
  refine zt_iconst hC ki_1 dX11_isNoSpan_11 ?_
  refine zt_goto (tgt := 16) hC (by decide) dX11_isNoSpan_12 ?_
  obtain rfl := Option.some.inj h
  exact zt_zret hC rfl rfl (Or.inr rfl) (Nat.le_of_ble_eq_true rfl) (Nat.le_of_ble_eq_true rfl) dX11_isNoSpan_16
def f_X11_isNoSpan (N : Nat) (x0 : Int32) (M : Mm) : Option (Int32 × Mm) :=
(if x0 < (1 : Int32) then
j_X11_isNoSpan_11 N M
else
(if x0 ≤ (120 : Int32) then
some ((0 : Int32), M)
else
j_X11_isNoSpan_11 N M))
set_option maxRecDepth 100000 in
set_option maxHeartbeats 4000000 in
theorem c_X11_isNoSpan (N : Nat) (x0 : Int32) (M : Mm) (r : (Int32 × Mm)) (h : f_X11_isNoSpan N x0 M = some r) (l : Launch) (hfl : l.flags = flags0) {G : Gl} : MT l G yX11_isNoSpan cX11_isNoSpan 1 (some .boolean) rm_X11_isNoSpan [.int x0] M (some (.int r.1)) r.2 := by
  unfold f_X11_isNoSpan at h
  refine zt_start hfl (lv := [(0, .int x0)]) (by decide) (Nat.le_of_ble_eq_true rfl) rfl wd_585 (fun X hC _ => ?_)
  refine zt_iload_n hC rfl dX11_isNoSpan_0 ?_
  refine zt_iconst hC ki_1 dX11_isNoSpan_1 ?_
  refine zt_icmp_lt (tgt := 11) hC h (by decide) dX11_isNoSpan_2 (fun h => ?_) (fun h => ?_)
  · refine zt_keep [] rfl ?_
    exact w_X11_isNoSpan_11 N hC M h
  · refine zt_iload_n hC rfl dX11_isNoSpan_5 ?_
    refine zt_bipush hC kb_120 dX11_isNoSpan_6 ?_
    refine zt_icmp_le (tgt := 15) hC h (by decide) dX11_isNoSpan_8 (fun h => ?_) (fun h => ?_)
    · refine zt_iconst hC ki_0 dX11_isNoSpan_15 ?_
      obtain rfl := Option.some.inj h
      exact zt_zret hC rfl rfl (Or.inl rfl) (Nat.le_of_ble_eq_true rfl) (Nat.le_of_ble_eq_true rfl) dX11_isNoSpan_16
    · refine zt_keep [] rfl ?_
      exact w_X11_isNoSpan_11 N hC M h
def rm_X11_day : Room := { frames := 6, cells := 0, slots := 0, locals := 170 }
theorem hd_X11_day : yX11_day.cls ≠ "java/lang/invoke/MethodHandle" ∧ yX11_day.cls ≠ "java/lang/invoke/VarHandle" ∧ (parseMethodDescriptor yX11_day.desc).map (fun d => d.parameters.length) = some 5 := by decide +kernel
def f_X11_day (N : Nat) (x0 : Nat) (x1 : Int32) (x2 : Int32) (x3 : Int32) (x4 : Int32) (x5 : Int32) (M : Mm) : Option (Int32 × Mm) :=
gR 11 M x0 0 (fun v1 =>
ck 10 M v1 (bnd (f_X10_hasLanding N v1 x2 M) (fun v2 M3 =>
(if v2 = 0 then
some ((-1 : Int32), M3)
else
bnd (f_X11_isNoSpan N x3 M3) (fun v5 M6 =>
(if v5 = 0 then
(if x5 < 0 then
some ((-1 : Int32), M6)
else
(if x5 ≤ (3 : Int32) then
ck 11 M6 x0 (bnd (f_X11_ruleAt N x0 x1 M6) (fun v8 M9 =>
(onn v8
(ck 11 M9 x0 (bnd (f_X11_refuseRule N x0 x1 M9) (fun v11 M12 =>
some (v11, M12))))
(fun v8 =>
ck 11 M9 x0 (bnd (f_X11_begin N x0 v8 x2 x4 M9) (fun v14 M15 =>
gR 11 M15 x0 3 (fun v17 =>
ck 10 M15 v17 (bnd (f_X10_pass N v17 x3 M15) (fun v18 M19 =>
gR 11 M19 x0 3 (fun v21 =>
ck 10 M19 v21 (bnd (f_X10_figureOf N v21 x5 M19) (fun v22 M23 =>
some (v22, M23)))))))))))))
else
some ((-1 : Int32), M6)))
else
some ((-1 : Int32), M6)))))))
set_option maxRecDepth 100000 in
set_option maxHeartbeats 4000000 in
theorem c_X11_day (N : Nat) (x0 : Nat) (x1 : Int32) (x2 : Int32) (x3 : Int32) (x4 : Int32) (x5 : Int32) (M : Mm) (r : (Int32 × Mm)) (h : f_X11_day N x0 x1 x2 x3 x4 x5 M = some r) (l : Launch) (hfl : l.flags = flags0) {G : Gl} : MT l G yX11_day cX11_day 7 (some .int) rm_X11_day [.ref x0, .int x1, .int x2, .int x3, .int x4, .int x5] M (some (.int r.1)) r.2 := by
  unfold f_X11_day at h
  refine zt_start hfl (lv := [(0, .ref x0), (1, .int x1), (2, .int x2), (3, .int x3), (4, .int x4), (5, .int x5)]) (by decide) (Nat.le_of_ble_eq_true rfl) rfl wd_582 (fun X hC _ => ?_)
  refine zt_aload_n hC rfl dX11_day_0 ?_
  refine zt_gR hC h cl11 (k := 0) (by decide) rfl wd_227 (Or.inl rfl) dX11_day_1 (fun v1 h => ?_)
  refine zt_iload_n hC rfl dX11_day_4 ?_
  obtain ⟨hk, h⟩ := ck_some h
  obtain ⟨v2, M3, h4, h⟩ := bnd_some h
  refine zt_callV (z := yX10_hasLanding) (As := [.int x2]) (rest := []) (st1 := (.int v2 :: [])) hC 1 hk cl10 (fun l hl => c_X10_hasLanding N v1 x2 M (v2, M3) h4 l hl) rfl wd_358 wd_372 wd_356 wd_357 wd_2 hd_X10_hasLanding rfl ⟨⟨(Nat.le_of_ble_eq_true rfl), (Nat.le_of_ble_eq_true rfl)⟩, (Nat.le_of_ble_eq_true rfl), (Nat.le_of_ble_eq_true rfl)⟩ rfl (Nat.le_of_ble_eq_true rfl) rfl dX11_day_5 ?_
  refine zt_if_eq (tgt := 29) hC h (by decide) dX11_day_8 (fun h => ?_) (fun h => ?_)
  · refine zt_iconst hC ki_m1 dX11_day_29 ?_
    obtain rfl := Option.some.inj h
    exact zt_iret hC rfl rfl (Nat.le_of_ble_eq_true rfl) (Nat.le_of_ble_eq_true rfl) dX11_day_30
  · refine zt_iload_n hC rfl dX11_day_11 ?_
    obtain ⟨v5, M6, h7, h⟩ := bnd_some h
    refine zt_callS (z := yX11_isNoSpan) (As := [.int x3]) (rest := []) (st1 := (.int v5 :: [])) hC 1 (fun l hl => c_X11_isNoSpan N x3 M3 (v5, M6) h7 l hl) rfl wd_585 wd_583 wd_584 wd_1 hd_X11_isNoSpan rfl ⟨⟨(Nat.le_of_ble_eq_true rfl), (Nat.le_of_ble_eq_true rfl)⟩, (Nat.le_of_ble_eq_true rfl), (Nat.le_of_ble_eq_true rfl)⟩ rfl (Nat.le_of_ble_eq_true rfl) rfl dX11_day_12 ?_
    refine zt_if_ne (tgt := 29) hC h (by decide) dX11_day_15 (fun h => ?_) (fun h => ?_)
    · refine zt_iconst hC ki_m1 dX11_day_29 ?_
      obtain rfl := Option.some.inj h
      exact zt_iret hC rfl rfl (Nat.le_of_ble_eq_true rfl) (Nat.le_of_ble_eq_true rfl) dX11_day_30
    · refine zt_iload hC rfl dX11_day_18 ?_
      refine zt_if_lt (tgt := 29) hC h (by decide) dX11_day_20 (fun h => ?_) (fun h => ?_)
      · refine zt_iconst hC ki_m1 dX11_day_29 ?_
        obtain rfl := Option.some.inj h
        exact zt_iret hC rfl rfl (Nat.le_of_ble_eq_true rfl) (Nat.le_of_ble_eq_true rfl) dX11_day_30
      · refine zt_iload hC rfl dX11_day_23 ?_
        refine zt_iconst hC ki_3 dX11_day_25 ?_
        refine zt_icmp_le (tgt := 31) hC h (by decide) dX11_day_26 (fun h => ?_) (fun h => ?_)
        · refine zt_aload_n hC rfl dX11_day_31 ?_
          refine zt_iload_n hC rfl dX11_day_32 ?_
          obtain ⟨hk, h⟩ := ck_some h
          obtain ⟨v8, M9, h10, h⟩ := bnd_some h
          refine zt_callV (z := yX11_ruleAt) (As := [.int x1]) (rest := []) (st1 := (va_rf v8 :: [])) hC 1 hk cl11 (fun l hl => c_X11_ruleAt N x0 x1 M6 (v8, M9) h10 l hl) rfl wd_406 wd_403 wd_405 ws_8 wd_1 hd_X11_ruleAt rfl ⟨⟨(Nat.le_of_ble_eq_true rfl), (Nat.le_of_ble_eq_true rfl)⟩, (Nat.le_of_ble_eq_true rfl), (Nat.le_of_ble_eq_true rfl)⟩ rfl (Nat.le_of_ble_eq_true rfl) rfl dX11_day_33 ?_
          rcases onn_some h with ⟨ew, hw⟩ | ⟨qq, ew, hw⟩
          · clear h
            subst ew
            have h := hw
            clear hw
            refine zt_astoreN (lv' := [(6, .null), (0, .ref x0), (1, .int x1), (2, .int x2), (3, .int x3), (4, .int x4), (5, .int x5)]) hC (by decide) rfl dX11_day_36 ?_
            refine zt_aloadN hC rfl dX11_day_38 ?_
            refine zt_ifnonnullN hC dX11_day_40 ?_
            refine zt_aload_n hC rfl dX11_day_43 ?_
            refine zt_iload_n hC rfl dX11_day_44 ?_
            obtain ⟨hk, h⟩ := ck_some h
            obtain ⟨v11, M12, h13, h⟩ := bnd_some h
            refine zt_callV (z := yX11_refuseRule) (As := [.int x1]) (rest := []) (st1 := (.int v11 :: [])) hC 1 hk cl11 (fun l hl => c_X11_refuseRule N x0 x1 M9 (v11, M12) h13 l hl) rfl wd_410 wd_407 wd_409 ws_9 wd_1 hd_X11_refuseRule rfl ⟨⟨(Nat.le_of_ble_eq_true rfl), (Nat.le_of_ble_eq_true rfl)⟩, (Nat.le_of_ble_eq_true rfl), (Nat.le_of_ble_eq_true rfl)⟩ rfl (Nat.le_of_ble_eq_true rfl) rfl dX11_day_45 ?_
            obtain rfl := Option.some.inj h
            exact zt_iret hC rfl rfl (Nat.le_of_ble_eq_true rfl) (Nat.le_of_ble_eq_true rfl) dX11_day_48
          · clear h
            subst ew
            have h := hw
            clear hw
            obtain ⟨v8, ev⟩ : ∃ q, q = qq := ⟨_, rfl⟩
            subst ev
            refine zt_astore (lv' := [(6, .ref v8), (0, .ref x0), (1, .int x1), (2, .int x2), (3, .int x3), (4, .int x4), (5, .int x5)]) hC (by decide) rfl dX11_day_36 ?_
            refine zt_aload hC rfl dX11_day_38 ?_
            refine zt_ifnonnull (tgt := 49) hC (by decide) dX11_day_40 ?_
            refine zt_aload_n hC rfl dX11_day_49 ?_
            refine zt_aload hC rfl dX11_day_50 ?_
            refine zt_iload_n hC rfl dX11_day_52 ?_
            refine zt_iload hC rfl dX11_day_53 ?_
            obtain ⟨hk, h⟩ := ck_some h
            obtain ⟨v14, M15, h16, h⟩ := bnd_some h
            refine zt_callV (z := yX11_begin) (As := [.ref v8, .int x2, .int x4]) (rest := []) (st1 := []) hC 3 hk cl11 (fun l hl => c_X11_begin N x0 v8 x2 x4 M9 (v14, M15) h16 l hl) rfl wd_589 wd_586 wd_588 ws_14 wd_1 hd_X11_begin rfl ⟨⟨(Nat.le_of_ble_eq_true rfl), (Nat.le_of_ble_eq_true rfl)⟩, (Nat.le_of_ble_eq_true rfl), (Nat.le_of_ble_eq_true rfl)⟩ rfl (Nat.le_of_ble_eq_true rfl) rfl dX11_day_55 ?_
            refine zt_aload_n hC rfl dX11_day_58 ?_
            refine zt_gR hC h cl11 (k := 3) (by decide) rfl wd_230 (Or.inl rfl) dX11_day_59 (fun v17 h => ?_)
            refine zt_iload_n hC rfl dX11_day_62 ?_
            obtain ⟨hk, h⟩ := ck_some h
            obtain ⟨v18, M19, h20, h⟩ := bnd_some h
            refine zt_callV (z := yX10_pass) (As := [.int x3]) (rest := []) (st1 := []) hC 1 hk cl10 (fun l hl => c_X10_pass N v17 x3 M15 (v18, M19) h20 l hl) rfl wd_441 wd_438 wd_439 wd_440 wd_2 hd_X10_pass rfl ⟨⟨(Nat.le_of_ble_eq_true rfl), (Nat.le_of_ble_eq_true rfl)⟩, (Nat.le_of_ble_eq_true rfl), (Nat.le_of_ble_eq_true rfl)⟩ rfl (Nat.le_of_ble_eq_true rfl) rfl dX11_day_63 ?_
            refine zt_aload_n hC rfl dX11_day_66 ?_
            refine zt_gR hC h cl11 (k := 3) (by decide) rfl wd_230 (Or.inl rfl) dX11_day_67 (fun v21 h => ?_)
            refine zt_iload hC rfl dX11_day_70 ?_
            obtain ⟨hk, h⟩ := ck_some h
            obtain ⟨v22, M23, h24, h⟩ := bnd_some h
            refine zt_callV (z := yX10_figureOf) (As := [.int x5]) (rest := []) (st1 := (.int v22 :: [])) hC 1 hk cl10 (fun l hl => c_X10_figureOf N v21 x5 M19 (v22, M23) h24 l hl) rfl wd_578 wd_575 wd_576 wd_577 wd_2 hd_X10_figureOf rfl ⟨⟨(Nat.le_of_ble_eq_true rfl), (Nat.le_of_ble_eq_true rfl)⟩, (Nat.le_of_ble_eq_true rfl), (Nat.le_of_ble_eq_true rfl)⟩ rfl (Nat.le_of_ble_eq_true rfl) rfl dX11_day_72 ?_
            obtain rfl := Option.some.inj h
            exact zt_iret hC rfl rfl (Nat.le_of_ble_eq_true rfl) (Nat.le_of_ble_eq_true rfl) dX11_day_75
        · refine zt_iconst hC ki_m1 dX11_day_29 ?_
          obtain rfl := Option.some.inj h
          exact zt_iret hC rfl rfl (Nat.le_of_ble_eq_true rfl) (Nat.le_of_ble_eq_true rfl) dX11_day_30
def rm_X11_isNoDays : Room := { frames := 0, cells := 0, slots := 0, locals := 0 }
theorem hd_X11_isNoDays : yX11_isNoDays.cls ≠ "java/lang/invoke/MethodHandle" ∧ yX11_isNoDays.cls ≠ "java/lang/invoke/VarHandle" ∧ (parseMethodDescriptor yX11_isNoDays.desc).map (fun d => d.parameters.length) = some 1 := by decide +kernel
def j_X11_isNoDays_11 (N : Nat) (M : Mm) : Option (Int32 × Mm) :=
some ((1 : Int32), M)
set_option maxRecDepth 100000 in
set_option maxHeartbeats 4000000 in
theorem w_X11_isNoDays_11 {X : Cx} {G : Gl} {r : (Int32 × Mm)} (N : Nat) (hC : CX X G yX11_isNoDays cX11_isNoDays 1 (some .boolean) rm_X11_isNoDays) (M : Mm) (h : j_X11_isNoDays_11 N M = some r) : TW X G 1 (RQ X G (some (.int r.1)) r.2 rm_X11_isNoDays) 0 0 M 11 [] [] := by
  unfold j_X11_isNoDays_11 at h
  refine zt_iconst hC ki_1 dX11_isNoDays_11 ?_
  refine zt_goto (tgt := 16) hC (by decide) dX11_isNoDays_12 ?_
  obtain rfl := Option.some.inj h
  exact zt_zret hC rfl rfl (Or.inr rfl) (Nat.le_of_ble_eq_true rfl) (Nat.le_of_ble_eq_true rfl) dX11_isNoDays_16
def f_X11_isNoDays (N : Nat) (x0 : Int32) (M : Mm) : Option (Int32 × Mm) :=
(if x0 < (1 : Int32) then
j_X11_isNoDays_11 N M
else
(if x0 ≤ (10 : Int32) then
some ((0 : Int32), M)
else
j_X11_isNoDays_11 N M))
set_option maxRecDepth 100000 in
set_option maxHeartbeats 4000000 in
theorem c_X11_isNoDays (N : Nat) (x0 : Int32) (M : Mm) (r : (Int32 × Mm)) (h : f_X11_isNoDays N x0 M = some r) (l : Launch) (hfl : l.flags = flags0) {G : Gl} : MT l G yX11_isNoDays cX11_isNoDays 1 (some .boolean) rm_X11_isNoDays [.int x0] M (some (.int r.1)) r.2 := by
  unfold f_X11_isNoDays at h
  refine zt_start hfl (lv := [(0, .int x0)]) (by decide) (Nat.le_of_ble_eq_true rfl) rfl wd_604 (fun X hC _ => ?_)
  refine zt_iload_n hC rfl dX11_isNoDays_0 ?_
  refine zt_iconst hC ki_1 dX11_isNoDays_1 ?_
  refine zt_icmp_lt (tgt := 11) hC h (by decide) dX11_isNoDays_2 (fun h => ?_) (fun h => ?_)
  · refine zt_keep [] rfl ?_
    exact w_X11_isNoDays_11 N hC M h
  · refine zt_iload_n hC rfl dX11_isNoDays_5 ?_
    refine zt_bipush hC kb_10 dX11_isNoDays_6 ?_
    refine zt_icmp_le (tgt := 15) hC h (by decide) dX11_isNoDays_8 (fun h => ?_) (fun h => ?_)
    · refine zt_iconst hC ki_0 dX11_isNoDays_15 ?_
      obtain rfl := Option.some.inj h
      exact zt_zret hC rfl rfl (Or.inl rfl) (Nat.le_of_ble_eq_true rfl) (Nat.le_of_ble_eq_true rfl) dX11_isNoDays_16
    · refine zt_keep [] rfl ?_
      exact w_X11_isNoDays_11 N hC M h
def rm_X11_meanOf : Room := { frames := 6, cells := 0, slots := 0, locals := 170 }
theorem hd_X11_meanOf : yX11_meanOf.cls ≠ "java/lang/invoke/MethodHandle" ∧ yX11_meanOf.cls ≠ "java/lang/invoke/VarHandle" ∧ (parseMethodDescriptor yX11_meanOf.desc).map (fun d => d.parameters.length) = some 5 := by decide +kernel
def b_X11_meanOf_6 (N : Nat) (k6 : Nat → Nat → Int32 → Int32 → Int32 → Int32 → Int32 → Int32 → Mm → Option (Int32 × Mm)) (x0 : Nat) (x1 : Nat) (x2 : Int32) (x3 : Int32) (x4 : Int32) (x5 : Int32) (x6 : Int32) (x7 : Int32) (M : Mm) : Option (Int32 × Mm) :=
(if x4 ≤ x7 then
some (x6, M)
else
ck 11 M x0 (bnd (f_X11_begin N x0 x1 x2 (x5 + x7) M) (fun v1 M2 =>
gR 11 M2 x0 3 (fun v4 =>
ck 10 M2 v4 (bnd (f_X10_pass N v4 x3 M2) (fun v5 M6 =>
gR 11 M6 x0 3 (fun v8 =>
ck 10 M6 v8 (bnd (f_X10_gain N v8 M6) (fun v9 M10 =>
k6 x0 x1 x2 x3 x4 x5 (x6 + v9) (x7 + (1 : Int32)) M10)))))))))
def l_X11_meanOf_6 (N : Nat) : Nat → Nat → Nat → Int32 → Int32 → Int32 → Int32 → Int32 → Int32 → Mm → Option (Int32 × Mm)
  | 0 => fun _ _ _ _ _ _ _ _ _ => none
  | n + 1 => b_X11_meanOf_6 N (l_X11_meanOf_6 N n)
set_option maxRecDepth 100000 in
set_option maxHeartbeats 4000000 in
theorem v_X11_meanOf_6 {X : Cx} {G : Gl} {r : (Int32 × Mm)} (N : Nat) (hC : CX X G yX11_meanOf cX11_meanOf 8 (some .int) rm_X11_meanOf) (k6 : Nat → Nat → Int32 → Int32 → Int32 → Int32 → Int32 → Int32 → Mm → Option (Int32 × Mm)) (hk6 : ∀ (x0 : Nat) (x1 : Nat) (x2 : Int32) (x3 : Int32) (x4 : Int32) (x5 : Int32) (x6 : Int32) (x7 : Int32) (M : Mm), k6 x0 x1 x2 x3 x4 x5 x6 x7 M = some r → TW X G 8 (RQ X G (some (.int r.1)) r.2 rm_X11_meanOf) 0 0 M 6 [(0, .ref x0), (1, .ref x1), (2, .int x2), (3, .int x3), (4, .int x4), (5, .int x5), (6, .int x6), (7, .int x7)] []) (x0 : Nat) (x1 : Nat) (x2 : Int32) (x3 : Int32) (x4 : Int32) (x5 : Int32) (x6 : Int32) (x7 : Int32) (M : Mm) (h : b_X11_meanOf_6 N k6 x0 x1 x2 x3 x4 x5 x6 x7 M = some r) : TW X G 8 (RQ X G (some (.int r.1)) r.2 rm_X11_meanOf) 0 0 M 6 [(0, .ref x0), (1, .ref x1), (2, .int x2), (3, .int x3), (4, .int x4), (5, .int x5), (6, .int x6), (7, .int x7)] [] := by
  unfold b_X11_meanOf_6 at h
  refine zt_iload hC rfl dX11_meanOf_6 ?_
  refine zt_iload hC rfl dX11_meanOf_8 ?_
  refine zt_icmp_ge (tgt := 50) hC h (by decide) dX11_meanOf_10 (fun h => ?_) (fun h => ?_)
  · refine zt_iload hC rfl dX11_meanOf_50 ?_
    obtain rfl := Option.some.inj h
    exact zt_iret hC rfl rfl (Nat.le_of_ble_eq_true rfl) (Nat.le_of_ble_eq_true rfl) dX11_meanOf_52
  · refine zt_aload_n hC rfl dX11_meanOf_13 ?_
    refine zt_aload_n hC rfl dX11_meanOf_14 ?_
    refine zt_iload_n hC rfl dX11_meanOf_15 ?_
    refine zt_iload hC rfl dX11_meanOf_16 ?_
    refine zt_iload hC rfl dX11_meanOf_18 ?_
    refine zt_iadd hC dX11_meanOf_20 ?_
    obtain ⟨hk, h⟩ := ck_some h
    obtain ⟨v1, M2, h3, h⟩ := bnd_some h
    refine zt_callV (z := yX11_begin) (As := [.ref x1, .int x2, .int (x5 + x7)]) (rest := []) (st1 := []) hC 3 hk cl11 (fun l hl => c_X11_begin N x0 x1 x2 (x5 + x7) M (v1, M2) h3 l hl) rfl wd_589 wd_586 wd_588 ws_14 wd_1 hd_X11_begin rfl ⟨⟨(Nat.le_of_ble_eq_true rfl), (Nat.le_of_ble_eq_true rfl)⟩, (Nat.le_of_ble_eq_true rfl), (Nat.le_of_ble_eq_true rfl)⟩ rfl (Nat.le_of_ble_eq_true rfl) rfl dX11_meanOf_21 ?_
    refine zt_aload_n hC rfl dX11_meanOf_24 ?_
    refine zt_gR hC h cl11 (k := 3) (by decide) rfl wd_230 (Or.inl rfl) dX11_meanOf_25 (fun v4 h => ?_)
    refine zt_iload_n hC rfl dX11_meanOf_28 ?_
    obtain ⟨hk, h⟩ := ck_some h
    obtain ⟨v5, M6, h7, h⟩ := bnd_some h
    refine zt_callV (z := yX10_pass) (As := [.int x3]) (rest := []) (st1 := []) hC 1 hk cl10 (fun l hl => c_X10_pass N v4 x3 M2 (v5, M6) h7 l hl) rfl wd_441 wd_438 wd_439 wd_440 wd_2 hd_X10_pass rfl ⟨⟨(Nat.le_of_ble_eq_true rfl), (Nat.le_of_ble_eq_true rfl)⟩, (Nat.le_of_ble_eq_true rfl), (Nat.le_of_ble_eq_true rfl)⟩ rfl (Nat.le_of_ble_eq_true rfl) rfl dX11_meanOf_29 ?_
    refine zt_iload hC rfl dX11_meanOf_32 ?_
    refine zt_aload_n hC rfl dX11_meanOf_34 ?_
    refine zt_gR hC h cl11 (k := 3) (by decide) rfl wd_230 (Or.inl rfl) dX11_meanOf_35 (fun v8 h => ?_)
    obtain ⟨hk, h⟩ := ck_some h
    obtain ⟨v9, M10, h11, h⟩ := bnd_some h
    refine zt_callV (z := yX10_gain) (As := []) (rest := [.int x6]) (st1 := (.int v9 :: [.int x6])) hC 0 hk cl10 (fun l hl => c_X10_gain N v8 M6 (v9, M10) h11 l hl) rfl wd_614 wd_611 wd_612 wd_613 wd_2 hd_X10_gain rfl ⟨⟨(Nat.le_of_ble_eq_true rfl), (Nat.le_of_ble_eq_true rfl)⟩, (Nat.le_of_ble_eq_true rfl), (Nat.le_of_ble_eq_true rfl)⟩ rfl (Nat.le_of_ble_eq_true rfl) rfl dX11_meanOf_38 ?_
    refine zt_iadd hC dX11_meanOf_41 ?_
    refine zt_istore (lv' := [(6, .int (x6 + v9)), (0, .ref x0), (1, .ref x1), (2, .int x2), (3, .int x3), (4, .int x4), (5, .int x5), (7, .int x7)]) hC (by decide) rfl dX11_meanOf_42 ?_
    refine zt_iinc (v := (x7 + (1 : Int32))) (lv' := [(7, .int (x7 + (1 : Int32))), (6, .int (x6 + v9)), (0, .ref x0), (1, .ref x1), (2, .int x2), (3, .int x3), (4, .int x4), (5, .int x5)]) hC rfl (by rw [ki_1]) (by decide) rfl dX11_meanOf_44 ?_
    refine zt_goto (tgt := 6) hC (by decide) dX11_meanOf_47 ?_
    refine zt_keep [0, 1, 2, 3, 4, 5, 6, 7] rfl ?_
    exact hk6 x0 x1 x2 x3 x4 x5 (x6 + v9) (x7 + (1 : Int32)) M10 h
theorem w_X11_meanOf_6 {X : Cx} {G : Gl} {r : (Int32 × Mm)} (N : Nat) (hC : CX X G yX11_meanOf cX11_meanOf 8 (some .int) rm_X11_meanOf) (n : Nat) : ∀ (x0 : Nat) (x1 : Nat) (x2 : Int32) (x3 : Int32) (x4 : Int32) (x5 : Int32) (x6 : Int32) (x7 : Int32) (M : Mm), l_X11_meanOf_6 N n x0 x1 x2 x3 x4 x5 x6 x7 M = some r → TW X G 8 (RQ X G (some (.int r.1)) r.2 rm_X11_meanOf) 0 0 M 6 [(0, .ref x0), (1, .ref x1), (2, .int x2), (3, .int x3), (4, .int x4), (5, .int x5), (6, .int x6), (7, .int x7)] [] := by
  induction n with
  | zero => intro  x0 x1 x2 x3 x4 x5 x6 x7 M h; cases (show none = some r from h)
  | succ n ih => intro  x0 x1 x2 x3 x4 x5 x6 x7 M h; exact v_X11_meanOf_6 N hC (l_X11_meanOf_6 N n) ih x0 x1 x2 x3 x4 x5 x6 x7 M h
def f_X11_meanOf (N : Nat) (x0 : Nat) (x1 : Nat) (x2 : Int32) (x3 : Int32) (x4 : Int32) (x5 : Int32) (M : Mm) : Option (Int32 × Mm) :=
l_X11_meanOf_6 N N x0 x1 x2 x3 x4 x5 (0 : Int32) (0 : Int32) M
set_option maxRecDepth 100000 in
set_option maxHeartbeats 4000000 in
theorem c_X11_meanOf (N : Nat) (x0 : Nat) (x1 : Nat) (x2 : Int32) (x3 : Int32) (x4 : Int32) (x5 : Int32) (M : Mm) (r : (Int32 × Mm)) (h : f_X11_meanOf N x0 x1 x2 x3 x4 x5 M = some r) (l : Launch) (hfl : l.flags = flags0) {G : Gl} : MT l G yX11_meanOf cX11_meanOf 8 (some .int) rm_X11_meanOf [.ref x0, .ref x1, .int x2, .int x3, .int x4, .int x5] M (some (.int r.1)) r.2 := by
  unfold f_X11_meanOf at h
  refine zt_start hfl (lv := [(0, .ref x0), (1, .ref x1), (2, .int x2), (3, .int x3), (4, .int x4), (5, .int x5)]) (by decide) (Nat.le_of_ble_eq_true rfl) rfl wd_610 (fun X hC _ => ?_)
  refine zt_iconst hC ki_0 dX11_meanOf_0 ?_
  refine zt_istore (lv' := [(6, .int (0 : Int32)), (0, .ref x0), (1, .ref x1), (2, .int x2), (3, .int x3), (4, .int x4), (5, .int x5)]) hC (by decide) rfl dX11_meanOf_1 ?_
  refine zt_iconst hC ki_0 dX11_meanOf_3 ?_
  refine zt_istore (lv' := [(7, .int (0 : Int32)), (6, .int (0 : Int32)), (0, .ref x0), (1, .ref x1), (2, .int x2), (3, .int x3), (4, .int x4), (5, .int x5)]) hC (by decide) rfl dX11_meanOf_4 ?_
  refine zt_keep [0, 1, 2, 3, 4, 5, 6, 7] rfl ?_
  exact w_X11_meanOf_6 N hC N x0 x1 x2 x3 x4 x5 (0 : Int32) (0 : Int32) M h
def rm_X11_mean : Room := { frames := 7, cells := 0, slots := 0, locals := 197 }
theorem hd_X11_mean : yX11_mean.cls ≠ "java/lang/invoke/MethodHandle" ∧ yX11_mean.cls ≠ "java/lang/invoke/VarHandle" ∧ (parseMethodDescriptor yX11_mean.desc).map (fun d => d.parameters.length) = some 5 := by decide +kernel
def f_X11_mean (N : Nat) (x0 : Nat) (x1 : Int32) (x2 : Int32) (x3 : Int32) (x4 : Int32) (x5 : Int32) (M : Mm) : Option (Int32 × Mm) :=
gR 11 M x0 0 (fun v1 =>
ck 10 M v1 (bnd (f_X10_hasLanding N v1 x2 M) (fun v2 M3 =>
(if v2 = 0 then
some ((-1000000001 : Int32), M3)
else
bnd (f_X11_isNoSpan N x3 M3) (fun v5 M6 =>
(if v5 = 0 then
bnd (f_X11_isNoDays N x4 M6) (fun v8 M9 =>
(if v8 = 0 then
ck 11 M9 x0 (bnd (f_X11_ruleAt N x0 x1 M9) (fun v11 M12 =>
(onn v11
(ck 11 M12 x0 (bnd (f_X11_refuseRule N x0 x1 M12) (fun v14 M15 =>
some (((-1000000000 : Int32) + v14), M15))))
(fun v11 =>
ck 11 M12 x0 (bnd (f_X11_meanOf N x0 v11 x2 x3 x4 x5 M12) (fun v17 M18 =>
some (v17, M18)))))))
else
some ((-1000000001 : Int32), M9)))
else
some ((-1000000001 : Int32), M6)))))))
set_option maxRecDepth 100000 in
set_option maxHeartbeats 4000000 in
theorem c_X11_mean (N : Nat) (x0 : Nat) (x1 : Int32) (x2 : Int32) (x3 : Int32) (x4 : Int32) (x5 : Int32) (M : Mm) (r : (Int32 × Mm)) (h : f_X11_mean N x0 x1 x2 x3 x4 x5 M = some r) (l : Launch) (hfl : l.flags = flags0) {G : Gl} : MT l G yX11_mean cX11_mean 7 (some .int) rm_X11_mean [.ref x0, .int x1, .int x2, .int x3, .int x4, .int x5] M (some (.int r.1)) r.2 := by
  unfold f_X11_mean at h
  refine zt_start hfl (lv := [(0, .ref x0), (1, .int x1), (2, .int x2), (3, .int x3), (4, .int x4), (5, .int x5)]) (by decide) (Nat.le_of_ble_eq_true rfl) rfl wd_601 (fun X hC _ => ?_)
  refine zt_aload_n hC rfl dX11_mean_0 ?_
  refine zt_gR hC h cl11 (k := 0) (by decide) rfl wd_227 (Or.inl rfl) dX11_mean_1 (fun v1 h => ?_)
  refine zt_iload_n hC rfl dX11_mean_4 ?_
  obtain ⟨hk, h⟩ := ck_some h
  obtain ⟨v2, M3, h4, h⟩ := bnd_some h
  refine zt_callV (z := yX10_hasLanding) (As := [.int x2]) (rest := []) (st1 := (.int v2 :: [])) hC 1 hk cl10 (fun l hl => c_X10_hasLanding N v1 x2 M (v2, M3) h4 l hl) rfl wd_358 wd_372 wd_356 wd_357 wd_2 hd_X10_hasLanding rfl ⟨⟨(Nat.le_of_ble_eq_true rfl), (Nat.le_of_ble_eq_true rfl)⟩, (Nat.le_of_ble_eq_true rfl), (Nat.le_of_ble_eq_true rfl)⟩ rfl (Nat.le_of_ble_eq_true rfl) rfl dX11_mean_5 ?_
  refine zt_if_eq (tgt := 26) hC h (by decide) dX11_mean_8 (fun h => ?_) (fun h => ?_)
  · refine zt_ldc hC wd_605 dX11_mean_26 ?_
    obtain rfl := Option.some.inj h
    exact zt_iret hC rfl rfl (Nat.le_of_ble_eq_true rfl) (Nat.le_of_ble_eq_true rfl) dX11_mean_28
  · refine zt_iload_n hC rfl dX11_mean_11 ?_
    obtain ⟨v5, M6, h7, h⟩ := bnd_some h
    refine zt_callS (z := yX11_isNoSpan) (As := [.int x3]) (rest := []) (st1 := (.int v5 :: [])) hC 1 (fun l hl => c_X11_isNoSpan N x3 M3 (v5, M6) h7 l hl) rfl wd_585 wd_583 wd_584 wd_1 hd_X11_isNoSpan rfl ⟨⟨(Nat.le_of_ble_eq_true rfl), (Nat.le_of_ble_eq_true rfl)⟩, (Nat.le_of_ble_eq_true rfl), (Nat.le_of_ble_eq_true rfl)⟩ rfl (Nat.le_of_ble_eq_true rfl) rfl dX11_mean_12 ?_
    refine zt_if_ne (tgt := 26) hC h (by decide) dX11_mean_15 (fun h => ?_) (fun h => ?_)
    · refine zt_ldc hC wd_605 dX11_mean_26 ?_
      obtain rfl := Option.some.inj h
      exact zt_iret hC rfl rfl (Nat.le_of_ble_eq_true rfl) (Nat.le_of_ble_eq_true rfl) dX11_mean_28
    · refine zt_iload hC rfl dX11_mean_18 ?_
      obtain ⟨v8, M9, h10, h⟩ := bnd_some h
      refine zt_callS (z := yX11_isNoDays) (As := [.int x4]) (rest := []) (st1 := (.int v8 :: [])) hC 1 (fun l hl => c_X11_isNoDays N x4 M6 (v8, M9) h10 l hl) rfl wd_604 wd_602 wd_603 wd_1 hd_X11_isNoDays rfl ⟨⟨(Nat.le_of_ble_eq_true rfl), (Nat.le_of_ble_eq_true rfl)⟩, (Nat.le_of_ble_eq_true rfl), (Nat.le_of_ble_eq_true rfl)⟩ rfl (Nat.le_of_ble_eq_true rfl) rfl dX11_mean_20 ?_
      refine zt_if_eq (tgt := 29) hC h (by decide) dX11_mean_23 (fun h => ?_) (fun h => ?_)
      · refine zt_aload_n hC rfl dX11_mean_29 ?_
        refine zt_iload_n hC rfl dX11_mean_30 ?_
        obtain ⟨hk, h⟩ := ck_some h
        obtain ⟨v11, M12, h13, h⟩ := bnd_some h
        refine zt_callV (z := yX11_ruleAt) (As := [.int x1]) (rest := []) (st1 := (va_rf v11 :: [])) hC 1 hk cl11 (fun l hl => c_X11_ruleAt N x0 x1 M9 (v11, M12) h13 l hl) rfl wd_406 wd_403 wd_405 ws_8 wd_1 hd_X11_ruleAt rfl ⟨⟨(Nat.le_of_ble_eq_true rfl), (Nat.le_of_ble_eq_true rfl)⟩, (Nat.le_of_ble_eq_true rfl), (Nat.le_of_ble_eq_true rfl)⟩ rfl (Nat.le_of_ble_eq_true rfl) rfl dX11_mean_31 ?_
        rcases onn_some h with ⟨ew, hw⟩ | ⟨qq, ew, hw⟩
        · clear h
          subst ew
          have h := hw
          clear hw
          refine zt_astoreN (lv' := [(6, .null), (0, .ref x0), (1, .int x1), (2, .int x2), (3, .int x3), (4, .int x4), (5, .int x5)]) hC (by decide) rfl dX11_mean_34 ?_
          refine zt_aloadN hC rfl dX11_mean_36 ?_
          refine zt_ifnonnullN hC dX11_mean_38 ?_
          refine zt_ldc hC wd_606 dX11_mean_41 ?_
          refine zt_aload_n hC rfl dX11_mean_43 ?_
          refine zt_iload_n hC rfl dX11_mean_44 ?_
          obtain ⟨hk, h⟩ := ck_some h
          obtain ⟨v14, M15, h16, h⟩ := bnd_some h
          refine zt_callV (z := yX11_refuseRule) (As := [.int x1]) (rest := [.int (-1000000000 : Int32)]) (st1 := (.int v14 :: [.int (-1000000000 : Int32)])) hC 1 hk cl11 (fun l hl => c_X11_refuseRule N x0 x1 M12 (v14, M15) h16 l hl) rfl wd_410 wd_407 wd_409 ws_9 wd_1 hd_X11_refuseRule rfl ⟨⟨(Nat.le_of_ble_eq_true rfl), (Nat.le_of_ble_eq_true rfl)⟩, (Nat.le_of_ble_eq_true rfl), (Nat.le_of_ble_eq_true rfl)⟩ rfl (Nat.le_of_ble_eq_true rfl) rfl dX11_mean_45 ?_
          refine zt_iadd hC dX11_mean_48 ?_
          obtain rfl := Option.some.inj h
          exact zt_iret hC rfl rfl (Nat.le_of_ble_eq_true rfl) (Nat.le_of_ble_eq_true rfl) dX11_mean_49
        · clear h
          subst ew
          have h := hw
          clear hw
          obtain ⟨v11, ev⟩ : ∃ q, q = qq := ⟨_, rfl⟩
          subst ev
          refine zt_astore (lv' := [(6, .ref v11), (0, .ref x0), (1, .int x1), (2, .int x2), (3, .int x3), (4, .int x4), (5, .int x5)]) hC (by decide) rfl dX11_mean_34 ?_
          refine zt_aload hC rfl dX11_mean_36 ?_
          refine zt_ifnonnull (tgt := 50) hC (by decide) dX11_mean_38 ?_
          refine zt_aload_n hC rfl dX11_mean_50 ?_
          refine zt_aload hC rfl dX11_mean_51 ?_
          refine zt_iload_n hC rfl dX11_mean_53 ?_
          refine zt_iload_n hC rfl dX11_mean_54 ?_
          refine zt_iload hC rfl dX11_mean_55 ?_
          refine zt_iload hC rfl dX11_mean_57 ?_
          obtain ⟨hk, h⟩ := ck_some h
          obtain ⟨v17, M18, h19, h⟩ := bnd_some h
          refine zt_callV (z := yX11_meanOf) (As := [.ref v11, .int x2, .int x3, .int x4, .int x5]) (rest := []) (st1 := (.int v17 :: [])) hC 5 hk cl11 (fun l hl => c_X11_meanOf N x0 v11 x2 x3 x4 x5 M12 (v17, M18) h19 l hl) rfl wd_610 wd_607 wd_609 ws_15 wd_1 hd_X11_meanOf rfl ⟨⟨(Nat.le_of_ble_eq_true rfl), (Nat.le_of_ble_eq_true rfl)⟩, (Nat.le_of_ble_eq_true rfl), (Nat.le_of_ble_eq_true rfl)⟩ rfl (Nat.le_of_ble_eq_true rfl) rfl dX11_mean_59 ?_
          obtain rfl := Option.some.inj h
          exact zt_iret hC rfl rfl (Nat.le_of_ble_eq_true rfl) (Nat.le_of_ble_eq_true rfl) dX11_mean_62
      · refine zt_ldc hC wd_605 dX11_mean_26 ?_
        obtain rfl := Option.some.inj h
        exact zt_iret hC rfl rfl (Nat.le_of_ble_eq_true rfl) (Nat.le_of_ble_eq_true rfl) dX11_mean_28
def rm_X11_makeRule : Room := { frames := 5, cells := 1, slots := 1, locals := 108 }
theorem hd_X11_makeRule : yX11_makeRule.cls ≠ "java/lang/invoke/MethodHandle" ∧ yX11_makeRule.cls ≠ "java/lang/invoke/VarHandle" ∧ (parseMethodDescriptor yX11_makeRule.desc).map (fun d => d.parameters.length) = some 2 := by decide +kernel
def f_X11_makeRule (N : Nat) (x0 : Int32) (x1 : Int32) (M : Mm) : Option (Option Nat × Mm) :=
(if x0 = (1 : Int32) then
nwo 13 0 M (fun a7 M6 =>
bnd (f_X9_init N a7 x1 M6) (fun v8 M9 =>
some ((some a7), M9)))
else
(if x0 = (2 : Int32) then
nwo 8 0 M (fun a12 M11 =>
bnd (f_X4_init N a12 x1 M11) (fun v13 M14 =>
some ((some a12), M14)))
else
(if x0 = (3 : Int32) then
nwo 6 0 M (fun a17 M16 =>
bnd (f_X2_init N a17 x1 M16) (fun v18 M19 =>
some ((some a17), M19)))
else
(if x0 = (4 : Int32) then
nwo 7 0 M (fun a22 M21 =>
bnd (f_X3_init N a22 x1 M21) (fun v23 M24 =>
some ((some a22), M24)))
else
(if x0 = (5 : Int32) then
nwo 4 0 M (fun a27 M26 =>
bnd (f_X0_init N a27 x1 M26) (fun v28 M29 =>
some ((some a27), M29)))
else
(if x0 = (6 : Int32) then
nwo 12 0 M (fun a32 M31 =>
bnd (f_X8_init N a32 x1 M31) (fun v33 M34 =>
some ((some a32), M34)))
else
nwo 10 0 M (fun a2 M1 =>
bnd (f_X6_init N a2 x1 M1) (fun v3 M4 =>
some ((some a2), M4)))))))))
set_option maxRecDepth 100000 in
set_option maxHeartbeats 4000000 in
theorem c_X11_makeRule (N : Nat) (x0 : Int32) (x1 : Int32) (M : Mm) (r : (Option Nat × Mm)) (h : f_X11_makeRule N x0 x1 M = some r) (l : Launch) (hfl : l.flags = flags0) {G : Gl} : MT l G yX11_makeRule cX11_makeRule 2 (some (.object "FerryBells$Rule")) rm_X11_makeRule [.int x0, .int x1] M (some (va_rf r.1)) r.2 := by
  unfold f_X11_makeRule at h
  refine zt_start hfl (lv := [(0, .int x0), (1, .int x1)]) (by decide) (Nat.le_of_ble_eq_true rfl) rfl wd_631 (fun X hC _ => ?_)
  refine zt_iload_n hC rfl dX11_makeRule_0 ?_
  rcases ite_or h with ⟨c1, h⟩ | ⟨c1, h⟩
  · refine zt_tsIn (tgt := 40) hC c1 (by decide) (by decide) rfl (by decide) dX11_makeRule_1 ?_
    refine zt_newo hC h cl9 wd_632 wd_633 wd_13 (Nat.le_of_ble_eq_true rfl) (Nat.le_of_ble_eq_true rfl) dX11_makeRule_40 (fun a7 M6 h => ?_)
    refine zt_dup hC rfl dX11_makeRule_43 ?_
    refine zt_iload_n hC rfl dX11_makeRule_44 ?_
    obtain ⟨v8, M9, h10, h⟩ := bnd_some h
    refine zt_callI (z := yX9_init) (As := [.int x1]) (rest := [.ref a7]) hC 1 (fun l hl => c_X9_init N a7 x1 M6 (v8, M9) h10 l hl) wd_636 wd_634 wd_635 wd_13 rfl hd_X9_init rfl ⟨⟨(Nat.le_of_ble_eq_true rfl), (Nat.le_of_ble_eq_true rfl)⟩, (Nat.le_of_ble_eq_true rfl), (Nat.le_of_ble_eq_true rfl)⟩ rfl (Nat.le_of_ble_eq_true rfl) dX11_makeRule_45 ?_
    obtain rfl := Option.some.inj h
    exact zt_aret hC rfl rfl rfl (Nat.le_of_ble_eq_true rfl) (Nat.le_of_ble_eq_true rfl) dX11_makeRule_48
  · rcases ite_or h with ⟨c2, h⟩ | ⟨c2, h⟩
    · refine zt_tsIn (tgt := 49) hC c2 (by decide) (by decide) rfl (by decide) dX11_makeRule_1 ?_
      refine zt_newo hC h cl4 wd_640 wd_641 wd_10 (Nat.le_of_ble_eq_true rfl) (Nat.le_of_ble_eq_true rfl) dX11_makeRule_49 (fun a12 M11 h => ?_)
      refine zt_dup hC rfl dX11_makeRule_52 ?_
      refine zt_iload_n hC rfl dX11_makeRule_53 ?_
      obtain ⟨v13, M14, h15, h⟩ := bnd_some h
      refine zt_callI (z := yX4_init) (As := [.int x1]) (rest := [.ref a12]) hC 1 (fun l hl => c_X4_init N a12 x1 M11 (v13, M14) h15 l hl) wd_644 wd_642 wd_643 wd_10 rfl hd_X4_init rfl ⟨⟨(Nat.le_of_ble_eq_true rfl), (Nat.le_of_ble_eq_true rfl)⟩, (Nat.le_of_ble_eq_true rfl), (Nat.le_of_ble_eq_true rfl)⟩ rfl (Nat.le_of_ble_eq_true rfl) dX11_makeRule_54 ?_
      obtain rfl := Option.some.inj h
      exact zt_aret hC rfl rfl rfl (Nat.le_of_ble_eq_true rfl) (Nat.le_of_ble_eq_true rfl) dX11_makeRule_57
    · rcases ite_or h with ⟨c3, h⟩ | ⟨c3, h⟩
      · refine zt_tsIn (tgt := 58) hC c3 (by decide) (by decide) rfl (by decide) dX11_makeRule_1 ?_
        refine zt_newo hC h cl2 wd_647 wd_648 wd_11 (Nat.le_of_ble_eq_true rfl) (Nat.le_of_ble_eq_true rfl) dX11_makeRule_58 (fun a17 M16 h => ?_)
        refine zt_dup hC rfl dX11_makeRule_61 ?_
        refine zt_iload_n hC rfl dX11_makeRule_62 ?_
        obtain ⟨v18, M19, h20, h⟩ := bnd_some h
        refine zt_callI (z := yX2_init) (As := [.int x1]) (rest := [.ref a17]) hC 1 (fun l hl => c_X2_init N a17 x1 M16 (v18, M19) h20 l hl) wd_651 wd_649 wd_650 wd_11 rfl hd_X2_init rfl ⟨⟨(Nat.le_of_ble_eq_true rfl), (Nat.le_of_ble_eq_true rfl)⟩, (Nat.le_of_ble_eq_true rfl), (Nat.le_of_ble_eq_true rfl)⟩ rfl (Nat.le_of_ble_eq_true rfl) dX11_makeRule_63 ?_
        obtain rfl := Option.some.inj h
        exact zt_aret hC rfl rfl rfl (Nat.le_of_ble_eq_true rfl) (Nat.le_of_ble_eq_true rfl) dX11_makeRule_66
      · rcases ite_or h with ⟨c4, h⟩ | ⟨c4, h⟩
        · refine zt_tsIn (tgt := 67) hC c4 (by decide) (by decide) rfl (by decide) dX11_makeRule_1 ?_
          refine zt_newo hC h cl3 wd_655 wd_656 wd_14 (Nat.le_of_ble_eq_true rfl) (Nat.le_of_ble_eq_true rfl) dX11_makeRule_67 (fun a22 M21 h => ?_)
          refine zt_dup hC rfl dX11_makeRule_70 ?_
          refine zt_iload_n hC rfl dX11_makeRule_71 ?_
          obtain ⟨v23, M24, h25, h⟩ := bnd_some h
          refine zt_callI (z := yX3_init) (As := [.int x1]) (rest := [.ref a22]) hC 1 (fun l hl => c_X3_init N a22 x1 M21 (v23, M24) h25 l hl) wd_659 wd_657 wd_658 wd_14 rfl hd_X3_init rfl ⟨⟨(Nat.le_of_ble_eq_true rfl), (Nat.le_of_ble_eq_true rfl)⟩, (Nat.le_of_ble_eq_true rfl), (Nat.le_of_ble_eq_true rfl)⟩ rfl (Nat.le_of_ble_eq_true rfl) dX11_makeRule_72 ?_
          obtain rfl := Option.some.inj h
          exact zt_aret hC rfl rfl rfl (Nat.le_of_ble_eq_true rfl) (Nat.le_of_ble_eq_true rfl) dX11_makeRule_75
        · rcases ite_or h with ⟨c5, h⟩ | ⟨c5, h⟩
          · refine zt_tsIn (tgt := 76) hC c5 (by decide) (by decide) rfl (by decide) dX11_makeRule_1 ?_
            refine zt_newo hC h cl0 wd_662 wd_663 wd_12 (Nat.le_of_ble_eq_true rfl) (Nat.le_of_ble_eq_true rfl) dX11_makeRule_76 (fun a27 M26 h => ?_)
            refine zt_dup hC rfl dX11_makeRule_79 ?_
            refine zt_iload_n hC rfl dX11_makeRule_80 ?_
            obtain ⟨v28, M29, h30, h⟩ := bnd_some h
            refine zt_callI (z := yX0_init) (As := [.int x1]) (rest := [.ref a27]) hC 1 (fun l hl => c_X0_init N a27 x1 M26 (v28, M29) h30 l hl) wd_666 wd_664 wd_665 wd_12 rfl hd_X0_init rfl ⟨⟨(Nat.le_of_ble_eq_true rfl), (Nat.le_of_ble_eq_true rfl)⟩, (Nat.le_of_ble_eq_true rfl), (Nat.le_of_ble_eq_true rfl)⟩ rfl (Nat.le_of_ble_eq_true rfl) dX11_makeRule_81 ?_
            obtain rfl := Option.some.inj h
            exact zt_aret hC rfl rfl rfl (Nat.le_of_ble_eq_true rfl) (Nat.le_of_ble_eq_true rfl) dX11_makeRule_84
          · rcases ite_or h with ⟨c6, h⟩ | ⟨c6, h⟩
            · refine zt_tsIn (tgt := 85) hC c6 (by decide) (by decide) rfl (by decide) dX11_makeRule_1 ?_
              refine zt_newo hC h cl8 wd_670 wd_671 wd_15 (Nat.le_of_ble_eq_true rfl) (Nat.le_of_ble_eq_true rfl) dX11_makeRule_85 (fun a32 M31 h => ?_)
              refine zt_dup hC rfl dX11_makeRule_88 ?_
              refine zt_iload_n hC rfl dX11_makeRule_89 ?_
              obtain ⟨v33, M34, h35, h⟩ := bnd_some h
              refine zt_callI (z := yX8_init) (As := [.int x1]) (rest := [.ref a32]) hC 1 (fun l hl => c_X8_init N a32 x1 M31 (v33, M34) h35 l hl) wd_674 wd_672 wd_673 wd_15 rfl hd_X8_init rfl ⟨⟨(Nat.le_of_ble_eq_true rfl), (Nat.le_of_ble_eq_true rfl)⟩, (Nat.le_of_ble_eq_true rfl), (Nat.le_of_ble_eq_true rfl)⟩ rfl (Nat.le_of_ble_eq_true rfl) dX11_makeRule_90 ?_
              obtain rfl := Option.some.inj h
              exact zt_aret hC rfl rfl rfl (Nat.le_of_ble_eq_true rfl) (Nat.le_of_ble_eq_true rfl) dX11_makeRule_93
            · refine zt_tsOut (tgt := 94) hC (by have e1 := sw_ne c1 (j := 1) (by decide); have e2 := sw_ne c2 (j := 2) (by decide); have e3 := sw_ne c3 (j := 3) (by decide); have e4 := sw_ne c4 (j := 4) (by decide); have e5 := sw_ne c5 (j := 5) (by decide); have e6 := sw_ne c6 (j := 6) (by decide); omega) (by decide) dX11_makeRule_1 ?_
              refine zt_newo hC h cl6 wd_678 wd_43 wd_4 (Nat.le_of_ble_eq_true rfl) (Nat.le_of_ble_eq_true rfl) dX11_makeRule_94 (fun a2 M1 h => ?_)
              refine zt_dup hC rfl dX11_makeRule_97 ?_
              refine zt_iload_n hC rfl dX11_makeRule_98 ?_
              obtain ⟨v3, M4, h5, h⟩ := bnd_some h
              refine zt_callI (z := yX6_init) (As := [.int x1]) (rest := [.ref a2]) hC 1 (fun l hl => c_X6_init N a2 x1 M1 (v3, M4) h5 l hl) wd_46 wd_679 wd_45 wd_4 rfl hd_X6_init rfl ⟨⟨(Nat.le_of_ble_eq_true rfl), (Nat.le_of_ble_eq_true rfl)⟩, (Nat.le_of_ble_eq_true rfl), (Nat.le_of_ble_eq_true rfl)⟩ rfl (Nat.le_of_ble_eq_true rfl) dX11_makeRule_99 ?_
              obtain rfl := Option.some.inj h
              exact zt_aret hC rfl rfl rfl (Nat.le_of_ble_eq_true rfl) (Nat.le_of_ble_eq_true rfl) dX11_makeRule_102
def rm_X11_best : Room := { frames := 7, cells := 7, slots := 7, locals := 197 }
theorem hd_X11_best : yX11_best.cls ≠ "java/lang/invoke/MethodHandle" ∧ yX11_best.cls ≠ "java/lang/invoke/VarHandle" ∧ (parseMethodDescriptor yX11_best.desc).map (fun d => d.parameters.length) = some 5 := by decide +kernel
def j_X11_best_120 (N : Nat) (k75 : Nat → Int32 → Int32 → Int32 → Int32 → Nat → Int32 → Int32 → Int32 → Nat → Nat → Mm → Option (Int32 × Mm)) (x0 : Nat) (x2 : Int32) (x3 : Int32) (x4 : Int32) (x5 : Int32) (x7 : Nat) (x10 : Int32) (x11 : Int32) (gc gs : Nat) (M : Mm) : Option (Int32 × Mm) :=
k75 x0 x2 x3 x4 x5 x7 x10 x11 (x10 + (1 : Int32)) gc gs M
set_option maxRecDepth 100000 in
set_option maxHeartbeats 4000000 in
theorem w_X11_best_120 {X : Cx} {G : Gl} {r : (Int32 × Mm)} (N : Nat) (hC : CX X G yX11_best cX11_best 12 (some .int) rm_X11_best) (k75 : Nat → Int32 → Int32 → Int32 → Int32 → Nat → Int32 → Int32 → Int32 → Nat → Nat → Mm → Option (Int32 × Mm)) (hk75 : ∀ (x0 : Nat) (x2 : Int32) (x3 : Int32) (x4 : Int32) (x5 : Int32) (x7 : Nat) (x8 : Int32) (x9 : Int32) (x10 : Int32) (gc gs : Nat) (M : Mm), k75 x0 x2 x3 x4 x5 x7 x8 x9 x10 gc gs M = some r → TW X G 12 (RQ X G (some (.int r.1)) r.2 rm_X11_best) gc gs M 75 [(0, .ref x0), (2, .int x2), (3, .int x3), (4, .int x4), (5, .int x5), (7, .ref x7), (8, .int x8), (9, .int x9), (10, .int x10)] []) (x0 : Nat) (x2 : Int32) (x3 : Int32) (x4 : Int32) (x5 : Int32) (x7 : Nat) (x10 : Int32) (x11 : Int32) (gc gs : Nat) (M : Mm) (h : j_X11_best_120 N k75 x0 x2 x3 x4 x5 x7 x10 x11 gc gs M = some r) : TW X G 12 (RQ X G (some (.int r.1)) r.2 rm_X11_best) gc gs M 120 [(0, .ref x0), (2, .int x2), (3, .int x3), (4, .int x4), (5, .int x5), (7, .ref x7), (10, .int x10), (11, .int x11)] [] := by
  unfold j_X11_best_120 at h
  refine zt_iload hC rfl dX11_best_120 ?_
  refine zt_istore (lv' := [(9, .int x11), (0, .ref x0), (2, .int x2), (3, .int x3), (4, .int x4), (5, .int x5), (7, .ref x7), (10, .int x10), (11, .int x11)]) hC (by decide) rfl dX11_best_122 ?_
  refine zt_iload hC rfl dX11_best_124 ?_
  refine zt_istore (lv' := [(8, .int x10), (9, .int x11), (0, .ref x0), (2, .int x2), (3, .int x3), (4, .int x4), (5, .int x5), (7, .ref x7), (10, .int x10), (11, .int x11)]) hC (by decide) rfl dX11_best_126 ?_
  refine zt_iinc (v := (x10 + (1 : Int32))) (lv' := [(10, .int (x10 + (1 : Int32))), (8, .int x10), (9, .int x11), (0, .ref x0), (2, .int x2), (3, .int x3), (4, .int x4), (5, .int x5), (7, .ref x7), (11, .int x11)]) hC rfl (by rw [ki_1]) (by decide) rfl dX11_best_128 ?_
  refine zt_goto (tgt := 75) hC (by decide) dX11_best_131 ?_
  refine zt_keep [0, 2, 3, 4, 5, 7, 8, 9, 10] rfl ?_
  exact hk75 x0 x2 x3 x4 x5 x7 x10 x11 (x10 + (1 : Int32)) gc gs M h
def b_X11_best_75 (N : Nat) (k75 : Nat → Int32 → Int32 → Int32 → Int32 → Nat → Int32 → Int32 → Int32 → Nat → Nat → Mm → Option (Int32 × Mm)) (x0 : Nat) (x2 : Int32) (x3 : Int32) (x4 : Int32) (x5 : Int32) (x7 : Nat) (x8 : Int32) (x9 : Int32) (x10 : Int32) (gc gs : Nat) (M : Mm) : Option (Int32 × Mm) :=
gI 7 M x7 2 (fun v1 =>
(if v1 ≤ x10 then
rq (gc ≤ 7 ∧ gs ≤ 7) (some (x8, M))
else
rq (gc + 0 ≤ 7 ∧ gs + 0 ≤ 7) (ck 7 M x7 (bnd (f_X7_read N x7 x10 M) (fun v2 M3 =>
rq (gc + 1 ≤ 7 ∧ gs + 1 ≤ 7) (bnd (f_X11_makeRule N v2 x2 M3) (fun v5 M6 =>
nn v5 (fun v5 =>
rq ((gc + 1) + 0 ≤ 7 ∧ (gs + 1) + 0 ≤ 7) (ck 11 M6 x0 (bnd (f_X11_meanOf N x0 v5 (0 : Int32) x3 x4 x5 M6) (fun v8 M9 =>
(if x10 = 0 then
j_X11_best_120 N k75 x0 x2 x3 x4 x5 x7 x10 v8 (gc + 1) (gs + 1) M9
else
(if v8 ≤ x9 then
k75 x0 x2 x3 x4 x5 x7 x8 x9 (x10 + (1 : Int32)) (gc + 1) (gs + 1) M9
else
j_X11_best_120 N k75 x0 x2 x3 x4 x5 x7 x10 v8 (gc + 1) (gs + 1) M9)))))))))))))
def l_X11_best_75 (N : Nat) : Nat → Nat → Int32 → Int32 → Int32 → Int32 → Nat → Int32 → Int32 → Int32 → Nat → Nat → Mm → Option (Int32 × Mm)
  | 0 => fun _ _ _ _ _ _ _ _ _ _ _ _ => none
  | n + 1 => b_X11_best_75 N (l_X11_best_75 N n)
set_option maxRecDepth 100000 in
set_option maxHeartbeats 4000000 in
theorem v_X11_best_75 {X : Cx} {G : Gl} {r : (Int32 × Mm)} (N : Nat) (hC : CX X G yX11_best cX11_best 12 (some .int) rm_X11_best) (k75 : Nat → Int32 → Int32 → Int32 → Int32 → Nat → Int32 → Int32 → Int32 → Nat → Nat → Mm → Option (Int32 × Mm)) (hk75 : ∀ (x0 : Nat) (x2 : Int32) (x3 : Int32) (x4 : Int32) (x5 : Int32) (x7 : Nat) (x8 : Int32) (x9 : Int32) (x10 : Int32) (gc gs : Nat) (M : Mm), k75 x0 x2 x3 x4 x5 x7 x8 x9 x10 gc gs M = some r → TW X G 12 (RQ X G (some (.int r.1)) r.2 rm_X11_best) gc gs M 75 [(0, .ref x0), (2, .int x2), (3, .int x3), (4, .int x4), (5, .int x5), (7, .ref x7), (8, .int x8), (9, .int x9), (10, .int x10)] []) (x0 : Nat) (x2 : Int32) (x3 : Int32) (x4 : Int32) (x5 : Int32) (x7 : Nat) (x8 : Int32) (x9 : Int32) (x10 : Int32) (gc gs : Nat) (M : Mm) (h : b_X11_best_75 N k75 x0 x2 x3 x4 x5 x7 x8 x9 x10 gc gs M = some r) : TW X G 12 (RQ X G (some (.int r.1)) r.2 rm_X11_best) gc gs M 75 [(0, .ref x0), (2, .int x2), (3, .int x3), (4, .int x4), (5, .int x5), (7, .ref x7), (8, .int x8), (9, .int x9), (10, .int x10)] [] := by
  unfold b_X11_best_75 at h
  refine zt_iload hC rfl dX11_best_75 ?_
  refine zt_aload hC rfl dX11_best_77 ?_
  refine zt_gI hC h cl7 (k := 2) (by decide) rfl wd_215 (Or.inl rfl) dX11_best_79 (fun v1 h => ?_)
  refine zt_icmp_ge (tgt := 134) hC h (by decide) dX11_best_82 (fun h => ?_) (fun h => ?_)
  · refine zt_iload hC rfl dX11_best_134 ?_
    obtain ⟨hg, h⟩ := rq_some h
    obtain rfl := Option.some.inj h
    exact zt_iret hC rfl rfl hg.1 hg.2 dX11_best_136
  · refine zt_aload_n hC rfl dX11_best_85 ?_
    refine zt_aload hC rfl dX11_best_86 ?_
    refine zt_iload hC rfl dX11_best_88 ?_
    obtain ⟨hg, h⟩ := rq_some h
    obtain ⟨hk, h⟩ := ck_some h
    obtain ⟨v2, M3, h4, h⟩ := bnd_some h
    refine zt_callV (z := yX7_read) (As := [.int x10]) (rest := [.ref x0]) (st1 := (.int v2 :: [.ref x0])) hC 1 hk cl7 (fun l hl => c_X7_read N x7 x10 M (v2, M3) h4 l hl) rfl wd_626 wd_628 wd_624 wd_625 wd_6 hd_X7_read rfl ⟨⟨(Nat.le_of_ble_eq_true rfl), (Nat.le_of_ble_eq_true rfl)⟩, hg.1, hg.2⟩ rfl (Nat.le_of_ble_eq_true rfl) rfl dX11_best_90 ?_
    refine zt_iload_n hC rfl dX11_best_93 ?_
    obtain ⟨hg, h⟩ := rq_some h
    obtain ⟨v5, M6, h7, h⟩ := bnd_some h
    refine zt_callS (z := yX11_makeRule) (As := [.int v2, .int x2]) (rest := [.ref x0]) (st1 := (va_rf v5 :: [.ref x0])) hC 2 (fun l hl => c_X11_makeRule N v2 x2 M3 (v5, M6) h7 l hl) rfl wd_631 wd_629 wd_630 wd_1 hd_X11_makeRule rfl ⟨⟨(Nat.le_of_ble_eq_true rfl), (Nat.le_of_ble_eq_true rfl)⟩, hg.1, hg.2⟩ rfl (Nat.le_of_ble_eq_true rfl) rfl dX11_best_94 ?_
    obtain ⟨qq, ew, hw⟩ := nn_some h
    clear h
    subst ew
    have h := hw
    clear hw
    obtain ⟨v5, ev⟩ : ∃ q, q = qq := ⟨_, rfl⟩
    subst ev
    refine zt_iconst hC ki_0 dX11_best_97 ?_
    refine zt_iload_n hC rfl dX11_best_98 ?_
    refine zt_iload hC rfl dX11_best_99 ?_
    refine zt_iload hC rfl dX11_best_101 ?_
    obtain ⟨hg, h⟩ := rq_some h
    obtain ⟨hk, h⟩ := ck_some h
    obtain ⟨v8, M9, h10, h⟩ := bnd_some h
    refine zt_callV (z := yX11_meanOf) (As := [.ref v5, .int (0 : Int32), .int x3, .int x4, .int x5]) (rest := []) (st1 := (.int v8 :: [])) hC 5 hk cl11 (fun l hl => c_X11_meanOf N x0 v5 (0 : Int32) x3 x4 x5 M6 (v8, M9) h10 l hl) rfl wd_610 wd_607 wd_609 ws_15 wd_1 hd_X11_meanOf rfl ⟨⟨(Nat.le_of_ble_eq_true rfl), (Nat.le_of_ble_eq_true rfl)⟩, hg.1, hg.2⟩ rfl (Nat.le_of_ble_eq_true rfl) rfl dX11_best_103 ?_
    refine zt_istore (lv' := [(11, .int v8), (0, .ref x0), (2, .int x2), (3, .int x3), (4, .int x4), (5, .int x5), (7, .ref x7), (8, .int x8), (9, .int x9), (10, .int x10)]) hC (by decide) rfl dX11_best_106 ?_
    refine zt_iload hC rfl dX11_best_108 ?_
    refine zt_if_eq (tgt := 120) hC h (by decide) dX11_best_110 (fun h => ?_) (fun h => ?_)
    · refine zt_keep [0, 2, 3, 4, 5, 7, 10, 11] rfl ?_
      exact w_X11_best_120 N hC k75 hk75 x0 x2 x3 x4 x5 x7 x10 v8 (gc + 1) (gs + 1) M9 h
    · refine zt_iload hC rfl dX11_best_113 ?_
      refine zt_iload hC rfl dX11_best_115 ?_
      refine zt_icmp_le (tgt := 128) hC h (by decide) dX11_best_117 (fun h => ?_) (fun h => ?_)
      · refine zt_iinc (v := (x10 + (1 : Int32))) (lv' := [(10, .int (x10 + (1 : Int32))), (11, .int v8), (0, .ref x0), (2, .int x2), (3, .int x3), (4, .int x4), (5, .int x5), (7, .ref x7), (8, .int x8), (9, .int x9)]) hC rfl (by rw [ki_1]) (by decide) rfl dX11_best_128 ?_
        refine zt_goto (tgt := 75) hC (by decide) dX11_best_131 ?_
        refine zt_keep [0, 2, 3, 4, 5, 7, 8, 9, 10] rfl ?_
        exact hk75 x0 x2 x3 x4 x5 x7 x8 x9 (x10 + (1 : Int32)) (gc + 1) (gs + 1) M9 h
      · refine zt_keep [0, 2, 3, 4, 5, 7, 10, 11] rfl ?_
        exact w_X11_best_120 N hC k75 hk75 x0 x2 x3 x4 x5 x7 x10 v8 (gc + 1) (gs + 1) M9 h
theorem w_X11_best_75 {X : Cx} {G : Gl} {r : (Int32 × Mm)} (N : Nat) (hC : CX X G yX11_best cX11_best 12 (some .int) rm_X11_best) (n : Nat) : ∀ (x0 : Nat) (x2 : Int32) (x3 : Int32) (x4 : Int32) (x5 : Int32) (x7 : Nat) (x8 : Int32) (x9 : Int32) (x10 : Int32) (gc gs : Nat) (M : Mm), l_X11_best_75 N n x0 x2 x3 x4 x5 x7 x8 x9 x10 gc gs M = some r → TW X G 12 (RQ X G (some (.int r.1)) r.2 rm_X11_best) gc gs M 75 [(0, .ref x0), (2, .int x2), (3, .int x3), (4, .int x4), (5, .int x5), (7, .ref x7), (8, .int x8), (9, .int x9), (10, .int x10)] [] := by
  induction n with
  | zero => intro  x0 x2 x3 x4 x5 x7 x8 x9 x10 gc gs M h; cases (show none = some r from h)
  | succ n ih => intro  x0 x2 x3 x4 x5 x7 x8 x9 x10 gc gs M h; exact v_X11_best_75 N hC (l_X11_best_75 N n) ih x0 x2 x3 x4 x5 x7 x8 x9 x10 gc gs M h
def f_X11_best (N : Nat) (x0 : Nat) (x1 : Int32) (x2 : Int32) (x3 : Int32) (x4 : Int32) (x5 : Int32) (M : Mm) : Option (Int32 × Mm) :=
(if x2 < 0 then
some ((-1 : Int32), M)
else
(if (9 : Int32) < x2 then
some ((-1 : Int32), M)
else
bnd (f_X11_isNoSpan N x3 M) (fun v1 M2 =>
(if v1 = 0 then
bnd (f_X11_isNoDays N x4 M2) (fun v4 M5 =>
(if v4 = 0 then
ck 11 M5 x0 (bnd (f_X11_refuseRow N x0 x1 (0 : Int32) M5) (fun v7 M8 =>
ck 11 M8 x0 (bnd (f_X11_shelfAt N x0 x1 M8) (fun v10 M11 =>
(onn v10
((if v7 = 0 then
some (v7, M11)
else
some (v7, M11)))
(fun v10 =>
(if v7 = 0 then
ck 7 M11 v10 (bnd (f_X7_holdsKinds N v10 M11) (fun v13 M14 =>
(if v13 = 0 then
some ((-13 : Int32), M14)
else
l_X11_best_75 N N x0 x2 x3 x4 x5 v10 (0 : Int32) (0 : Int32) (0 : Int32) 0 0 M14)))
else
some (v7, M11))))))))
else
some ((-1 : Int32), M5)))
else
some ((-1 : Int32), M2)))))
set_option maxRecDepth 100000 in
set_option maxHeartbeats 4000000 in
theorem c_X11_best (N : Nat) (x0 : Nat) (x1 : Int32) (x2 : Int32) (x3 : Int32) (x4 : Int32) (x5 : Int32) (M : Mm) (r : (Int32 × Mm)) (h : f_X11_best N x0 x1 x2 x3 x4 x5 M = some r) (l : Launch) (hfl : l.flags = flags0) {G : Gl} : MT l G yX11_best cX11_best 12 (some .int) rm_X11_best [.ref x0, .int x1, .int x2, .int x3, .int x4, .int x5] M (some (.int r.1)) r.2 := by
  unfold f_X11_best at h
  refine zt_start hfl (lv := [(0, .ref x0), (1, .int x1), (2, .int x2), (3, .int x3), (4, .int x4), (5, .int x5)]) (by decide) (Nat.le_of_ble_eq_true rfl) rfl wd_618 (fun X hC _ => ?_)
  refine zt_iload_n hC rfl dX11_best_0 ?_
  refine zt_if_lt (tgt := 25) hC h (by decide) dX11_best_1 (fun h => ?_) (fun h => ?_)
  · refine zt_iconst hC ki_m1 dX11_best_25 ?_
    obtain rfl := Option.some.inj h
    exact zt_iret hC rfl rfl (Nat.le_of_ble_eq_true rfl) (Nat.le_of_ble_eq_true rfl) dX11_best_26
  · refine zt_iload_n hC rfl dX11_best_4 ?_
    refine zt_bipush hC kb_9 dX11_best_5 ?_
    refine zt_icmp_gt (tgt := 25) hC h (by decide) dX11_best_7 (fun h => ?_) (fun h => ?_)
    · refine zt_iconst hC ki_m1 dX11_best_25 ?_
      obtain rfl := Option.some.inj h
      exact zt_iret hC rfl rfl (Nat.le_of_ble_eq_true rfl) (Nat.le_of_ble_eq_true rfl) dX11_best_26
    · refine zt_iload_n hC rfl dX11_best_10 ?_
      obtain ⟨v1, M2, h3, h⟩ := bnd_some h
      refine zt_callS (z := yX11_isNoSpan) (As := [.int x3]) (rest := []) (st1 := (.int v1 :: [])) hC 1 (fun l hl => c_X11_isNoSpan N x3 M (v1, M2) h3 l hl) rfl wd_585 wd_583 wd_584 wd_1 hd_X11_isNoSpan rfl ⟨⟨(Nat.le_of_ble_eq_true rfl), (Nat.le_of_ble_eq_true rfl)⟩, (Nat.le_of_ble_eq_true rfl), (Nat.le_of_ble_eq_true rfl)⟩ rfl (Nat.le_of_ble_eq_true rfl) rfl dX11_best_11 ?_
      refine zt_if_ne (tgt := 25) hC h (by decide) dX11_best_14 (fun h => ?_) (fun h => ?_)
      · refine zt_iconst hC ki_m1 dX11_best_25 ?_
        obtain rfl := Option.some.inj h
        exact zt_iret hC rfl rfl (Nat.le_of_ble_eq_true rfl) (Nat.le_of_ble_eq_true rfl) dX11_best_26
      · refine zt_iload hC rfl dX11_best_17 ?_
        obtain ⟨v4, M5, h6, h⟩ := bnd_some h
        refine zt_callS (z := yX11_isNoDays) (As := [.int x4]) (rest := []) (st1 := (.int v4 :: [])) hC 1 (fun l hl => c_X11_isNoDays N x4 M2 (v4, M5) h6 l hl) rfl wd_604 wd_602 wd_603 wd_1 hd_X11_isNoDays rfl ⟨⟨(Nat.le_of_ble_eq_true rfl), (Nat.le_of_ble_eq_true rfl)⟩, (Nat.le_of_ble_eq_true rfl), (Nat.le_of_ble_eq_true rfl)⟩ rfl (Nat.le_of_ble_eq_true rfl) rfl dX11_best_19 ?_
        refine zt_if_eq (tgt := 27) hC h (by decide) dX11_best_22 (fun h => ?_) (fun h => ?_)
        · refine zt_aload_n hC rfl dX11_best_27 ?_
          refine zt_iload_n hC rfl dX11_best_28 ?_
          refine zt_iconst hC ki_0 dX11_best_29 ?_
          obtain ⟨hk, h⟩ := ck_some h
          obtain ⟨v7, M8, h9, h⟩ := bnd_some h
          refine zt_callV (z := yX11_refuseRow) (As := [.int x1, .int (0 : Int32)]) (rest := []) (st1 := (.int v7 :: [])) hC 2 hk cl11 (fun l hl => c_X11_refuseRow N x0 x1 (0 : Int32) M5 (v7, M8) h9 l hl) rfl wd_259 wd_256 wd_258 ws_0 wd_1 hd_X11_refuseRow rfl ⟨⟨(Nat.le_of_ble_eq_true rfl), (Nat.le_of_ble_eq_true rfl)⟩, (Nat.le_of_ble_eq_true rfl), (Nat.le_of_ble_eq_true rfl)⟩ rfl (Nat.le_of_ble_eq_true rfl) rfl dX11_best_30 ?_
          refine zt_istore (lv' := [(6, .int v7), (0, .ref x0), (1, .int x1), (2, .int x2), (3, .int x3), (4, .int x4), (5, .int x5)]) hC (by decide) rfl dX11_best_33 ?_
          refine zt_aload_n hC rfl dX11_best_35 ?_
          refine zt_iload_n hC rfl dX11_best_36 ?_
          obtain ⟨hk, h⟩ := ck_some h
          obtain ⟨v10, M11, h12, h⟩ := bnd_some h
          refine zt_callV (z := yX11_shelfAt) (As := [.int x1]) (rest := []) (st1 := (va_rf v10 :: [])) hC 1 hk cl11 (fun l hl => c_X11_shelfAt N x0 x1 M8 (v10, M11) h12 l hl) rfl wd_263 wd_260 wd_262 ws_1 wd_1 hd_X11_shelfAt rfl ⟨⟨(Nat.le_of_ble_eq_true rfl), (Nat.le_of_ble_eq_true rfl)⟩, (Nat.le_of_ble_eq_true rfl), (Nat.le_of_ble_eq_true rfl)⟩ rfl (Nat.le_of_ble_eq_true rfl) rfl dX11_best_37 ?_
          rcases onn_some h with ⟨ew, hw⟩ | ⟨qq, ew, hw⟩
          · clear h
            subst ew
            have h := hw
            clear hw
            refine zt_astoreN (lv' := [(7, .null), (6, .int v7), (0, .ref x0), (1, .int x1), (2, .int x2), (3, .int x3), (4, .int x4), (5, .int x5)]) hC (by decide) rfl dX11_best_40 ?_
            refine zt_iload hC rfl dX11_best_42 ?_
            refine zt_if_ne (tgt := 52) hC h (by decide) dX11_best_44 (fun h => ?_) (fun h => ?_)
            · refine zt_iload hC rfl dX11_best_52 ?_
              obtain rfl := Option.some.inj h
              exact zt_iret hC rfl rfl (Nat.le_of_ble_eq_true rfl) (Nat.le_of_ble_eq_true rfl) dX11_best_54
            · refine zt_aloadN hC rfl dX11_best_47 ?_
              refine zt_ifnonnullN hC dX11_best_49 ?_
              refine zt_iload hC rfl dX11_best_52 ?_
              obtain rfl := Option.some.inj h
              exact zt_iret hC rfl rfl (Nat.le_of_ble_eq_true rfl) (Nat.le_of_ble_eq_true rfl) dX11_best_54
          · clear h
            subst ew
            have h := hw
            clear hw
            obtain ⟨v10, ev⟩ : ∃ q, q = qq := ⟨_, rfl⟩
            subst ev
            refine zt_astore (lv' := [(7, .ref v10), (6, .int v7), (0, .ref x0), (1, .int x1), (2, .int x2), (3, .int x3), (4, .int x4), (5, .int x5)]) hC (by decide) rfl dX11_best_40 ?_
            refine zt_iload hC rfl dX11_best_42 ?_
            refine zt_if_ne (tgt := 52) hC h (by decide) dX11_best_44 (fun h => ?_) (fun h => ?_)
            · refine zt_iload hC rfl dX11_best_52 ?_
              obtain rfl := Option.some.inj h
              exact zt_iret hC rfl rfl (Nat.le_of_ble_eq_true rfl) (Nat.le_of_ble_eq_true rfl) dX11_best_54
            · refine zt_aload hC rfl dX11_best_47 ?_
              refine zt_ifnonnull (tgt := 55) hC (by decide) dX11_best_49 ?_
              refine zt_aload hC rfl dX11_best_55 ?_
              obtain ⟨hk, h⟩ := ck_some h
              obtain ⟨v13, M14, h15, h⟩ := bnd_some h
              refine zt_callV (z := yX7_holdsKinds) (As := []) (rest := []) (st1 := (.int v13 :: [])) hC 0 hk cl7 (fun l hl => c_X7_holdsKinds N v10 M11 (v13, M14) h15 l hl) rfl wd_622 wd_619 wd_620 wd_621 wd_6 hd_X7_holdsKinds rfl ⟨⟨(Nat.le_of_ble_eq_true rfl), (Nat.le_of_ble_eq_true rfl)⟩, (Nat.le_of_ble_eq_true rfl), (Nat.le_of_ble_eq_true rfl)⟩ rfl (Nat.le_of_ble_eq_true rfl) rfl dX11_best_57 ?_
              refine zt_if_ne (tgt := 66) hC h (by decide) dX11_best_60 (fun h => ?_) (fun h => ?_)
              · refine zt_iconst hC ki_0 dX11_best_66 ?_
                refine zt_istore (lv' := [(8, .int (0 : Int32)), (7, .ref v10), (6, .int v7), (0, .ref x0), (1, .int x1), (2, .int x2), (3, .int x3), (4, .int x4), (5, .int x5)]) hC (by decide) rfl dX11_best_67 ?_
                refine zt_iconst hC ki_0 dX11_best_69 ?_
                refine zt_istore (lv' := [(9, .int (0 : Int32)), (8, .int (0 : Int32)), (7, .ref v10), (6, .int v7), (0, .ref x0), (1, .int x1), (2, .int x2), (3, .int x3), (4, .int x4), (5, .int x5)]) hC (by decide) rfl dX11_best_70 ?_
                refine zt_iconst hC ki_0 dX11_best_72 ?_
                refine zt_istore (lv' := [(10, .int (0 : Int32)), (9, .int (0 : Int32)), (8, .int (0 : Int32)), (7, .ref v10), (6, .int v7), (0, .ref x0), (1, .int x1), (2, .int x2), (3, .int x3), (4, .int x4), (5, .int x5)]) hC (by decide) rfl dX11_best_73 ?_
                refine zt_keep [0, 2, 3, 4, 5, 7, 8, 9, 10] rfl ?_
                exact w_X11_best_75 N hC N x0 x2 x3 x4 x5 v10 (0 : Int32) (0 : Int32) (0 : Int32) 0 0 M14 h
              · refine zt_bipush hC kb_m13 dX11_best_63 ?_
                obtain rfl := Option.some.inj h
                exact zt_iret hC rfl rfl (Nat.le_of_ble_eq_true rfl) (Nat.le_of_ble_eq_true rfl) dX11_best_65
        · refine zt_iconst hC ki_m1 dX11_best_25 ?_
          obtain rfl := Option.some.inj h
          exact zt_iret hC rfl rfl (Nat.le_of_ble_eq_true rfl) (Nat.le_of_ble_eq_true rfl) dX11_best_26
def rm_X11_where : Room := { frames := 7, cells := 0, slots := 0, locals := 197 }
theorem hd_X11_where : yX11_where.cls ≠ "java/lang/invoke/MethodHandle" ∧ yX11_where.cls ≠ "java/lang/invoke/VarHandle" ∧ (parseMethodDescriptor yX11_where.desc).map (fun d => d.parameters.length) = some 4 := by decide +kernel
def j_X11_where_81 (N : Nat) (k43 : Nat → Int32 → Int32 → Int32 → Nat → Int32 → Int32 → Int32 → Mm → Option (Int32 × Mm)) (x0 : Nat) (x2 : Int32) (x3 : Int32) (x4 : Int32) (x5 : Nat) (x8 : Int32) (x9 : Int32) (M : Mm) : Option (Int32 × Mm) :=
k43 x0 x2 x3 x4 x5 x8 x9 (x8 + (1 : Int32)) M
set_option maxRecDepth 100000 in
set_option maxHeartbeats 4000000 in
theorem w_X11_where_81 {X : Cx} {G : Gl} {r : (Int32 × Mm)} (N : Nat) (hC : CX X G yX11_where cX11_where 10 (some .int) rm_X11_where) (k43 : Nat → Int32 → Int32 → Int32 → Nat → Int32 → Int32 → Int32 → Mm → Option (Int32 × Mm)) (hk43 : ∀ (x0 : Nat) (x2 : Int32) (x3 : Int32) (x4 : Int32) (x5 : Nat) (x6 : Int32) (x7 : Int32) (x8 : Int32) (M : Mm), k43 x0 x2 x3 x4 x5 x6 x7 x8 M = some r → TW X G 10 (RQ X G (some (.int r.1)) r.2 rm_X11_where) 0 0 M 43 [(0, .ref x0), (2, .int x2), (3, .int x3), (4, .int x4), (5, .ref x5), (6, .int x6), (7, .int x7), (8, .int x8)] []) (x0 : Nat) (x2 : Int32) (x3 : Int32) (x4 : Int32) (x5 : Nat) (x8 : Int32) (x9 : Int32) (M : Mm) (h : j_X11_where_81 N k43 x0 x2 x3 x4 x5 x8 x9 M = some r) : TW X G 10 (RQ X G (some (.int r.1)) r.2 rm_X11_where) 0 0 M 81 [(0, .ref x0), (2, .int x2), (3, .int x3), (4, .int x4), (5, .ref x5), (8, .int x8), (9, .int x9)] [] := by
  unfold j_X11_where_81 at h
  refine zt_iload hC rfl dX11_where_81 ?_
  refine zt_istore (lv' := [(7, .int x9), (0, .ref x0), (2, .int x2), (3, .int x3), (4, .int x4), (5, .ref x5), (8, .int x8), (9, .int x9)]) hC (by decide) rfl dX11_where_83 ?_
  refine zt_iload hC rfl dX11_where_85 ?_
  refine zt_istore (lv' := [(6, .int x8), (7, .int x9), (0, .ref x0), (2, .int x2), (3, .int x3), (4, .int x4), (5, .ref x5), (8, .int x8), (9, .int x9)]) hC (by decide) rfl dX11_where_87 ?_
  refine zt_iinc (v := (x8 + (1 : Int32))) (lv' := [(8, .int (x8 + (1 : Int32))), (6, .int x8), (7, .int x9), (0, .ref x0), (2, .int x2), (3, .int x3), (4, .int x4), (5, .ref x5), (9, .int x9)]) hC rfl (by rw [ki_1]) (by decide) rfl dX11_where_89 ?_
  refine zt_goto (tgt := 43) hC (by decide) dX11_where_92 ?_
  refine zt_keep [0, 2, 3, 4, 5, 6, 7, 8] rfl ?_
  exact hk43 x0 x2 x3 x4 x5 x8 x9 (x8 + (1 : Int32)) M h
def b_X11_where_43 (N : Nat) (k43 : Nat → Int32 → Int32 → Int32 → Nat → Int32 → Int32 → Int32 → Mm → Option (Int32 × Mm)) (x0 : Nat) (x2 : Int32) (x3 : Int32) (x4 : Int32) (x5 : Nat) (x6 : Int32) (x7 : Int32) (x8 : Int32) (M : Mm) : Option (Int32 × Mm) :=
gR 11 M x0 0 (fun v1 =>
gI 10 M v1 0 (fun v2 =>
(if v2 ≤ x8 then
some (x6, M)
else
ck 11 M x0 (bnd (f_X11_meanOf N x0 x5 x8 x2 x3 x4 M) (fun v3 M4 =>
(if x8 = 0 then
j_X11_where_81 N k43 x0 x2 x3 x4 x5 x8 v3 M4
else
(if v3 ≤ x7 then
k43 x0 x2 x3 x4 x5 x6 x7 (x8 + (1 : Int32)) M4
else
j_X11_where_81 N k43 x0 x2 x3 x4 x5 x8 v3 M4)))))))
def l_X11_where_43 (N : Nat) : Nat → Nat → Int32 → Int32 → Int32 → Nat → Int32 → Int32 → Int32 → Mm → Option (Int32 × Mm)
  | 0 => fun _ _ _ _ _ _ _ _ _ => none
  | n + 1 => b_X11_where_43 N (l_X11_where_43 N n)
set_option maxRecDepth 100000 in
set_option maxHeartbeats 4000000 in
theorem v_X11_where_43 {X : Cx} {G : Gl} {r : (Int32 × Mm)} (N : Nat) (hC : CX X G yX11_where cX11_where 10 (some .int) rm_X11_where) (k43 : Nat → Int32 → Int32 → Int32 → Nat → Int32 → Int32 → Int32 → Mm → Option (Int32 × Mm)) (hk43 : ∀ (x0 : Nat) (x2 : Int32) (x3 : Int32) (x4 : Int32) (x5 : Nat) (x6 : Int32) (x7 : Int32) (x8 : Int32) (M : Mm), k43 x0 x2 x3 x4 x5 x6 x7 x8 M = some r → TW X G 10 (RQ X G (some (.int r.1)) r.2 rm_X11_where) 0 0 M 43 [(0, .ref x0), (2, .int x2), (3, .int x3), (4, .int x4), (5, .ref x5), (6, .int x6), (7, .int x7), (8, .int x8)] []) (x0 : Nat) (x2 : Int32) (x3 : Int32) (x4 : Int32) (x5 : Nat) (x6 : Int32) (x7 : Int32) (x8 : Int32) (M : Mm) (h : b_X11_where_43 N k43 x0 x2 x3 x4 x5 x6 x7 x8 M = some r) : TW X G 10 (RQ X G (some (.int r.1)) r.2 rm_X11_where) 0 0 M 43 [(0, .ref x0), (2, .int x2), (3, .int x3), (4, .int x4), (5, .ref x5), (6, .int x6), (7, .int x7), (8, .int x8)] [] := by
  unfold b_X11_where_43 at h
  refine zt_iload hC rfl dX11_where_43 ?_
  refine zt_aload_n hC rfl dX11_where_45 ?_
  refine zt_gR hC h cl11 (k := 0) (by decide) rfl wd_227 (Or.inl rfl) dX11_where_46 (fun v1 h => ?_)
  refine zt_gI hC h cl10 (k := 0) (by decide) rfl wd_108 (Or.inl rfl) dX11_where_49 (fun v2 h => ?_)
  refine zt_icmp_ge (tgt := 95) hC h (by decide) dX11_where_52 (fun h => ?_) (fun h => ?_)
  · refine zt_iload hC rfl dX11_where_95 ?_
    obtain rfl := Option.some.inj h
    exact zt_iret hC rfl rfl (Nat.le_of_ble_eq_true rfl) (Nat.le_of_ble_eq_true rfl) dX11_where_97
  · refine zt_aload_n hC rfl dX11_where_55 ?_
    refine zt_aload hC rfl dX11_where_56 ?_
    refine zt_iload hC rfl dX11_where_58 ?_
    refine zt_iload_n hC rfl dX11_where_60 ?_
    refine zt_iload_n hC rfl dX11_where_61 ?_
    refine zt_iload hC rfl dX11_where_62 ?_
    obtain ⟨hk, h⟩ := ck_some h
    obtain ⟨v3, M4, h5, h⟩ := bnd_some h
    refine zt_callV (z := yX11_meanOf) (As := [.ref x5, .int x8, .int x2, .int x3, .int x4]) (rest := []) (st1 := (.int v3 :: [])) hC 5 hk cl11 (fun l hl => c_X11_meanOf N x0 x5 x8 x2 x3 x4 M (v3, M4) h5 l hl) rfl wd_610 wd_607 wd_609 ws_15 wd_1 hd_X11_meanOf rfl ⟨⟨(Nat.le_of_ble_eq_true rfl), (Nat.le_of_ble_eq_true rfl)⟩, (Nat.le_of_ble_eq_true rfl), (Nat.le_of_ble_eq_true rfl)⟩ rfl (Nat.le_of_ble_eq_true rfl) rfl dX11_where_64 ?_
    refine zt_istore (lv' := [(9, .int v3), (0, .ref x0), (2, .int x2), (3, .int x3), (4, .int x4), (5, .ref x5), (6, .int x6), (7, .int x7), (8, .int x8)]) hC (by decide) rfl dX11_where_67 ?_
    refine zt_iload hC rfl dX11_where_69 ?_
    refine zt_if_eq (tgt := 81) hC h (by decide) dX11_where_71 (fun h => ?_) (fun h => ?_)
    · refine zt_keep [0, 2, 3, 4, 5, 8, 9] rfl ?_
      exact w_X11_where_81 N hC k43 hk43 x0 x2 x3 x4 x5 x8 v3 M4 h
    · refine zt_iload hC rfl dX11_where_74 ?_
      refine zt_iload hC rfl dX11_where_76 ?_
      refine zt_icmp_le (tgt := 89) hC h (by decide) dX11_where_78 (fun h => ?_) (fun h => ?_)
      · refine zt_iinc (v := (x8 + (1 : Int32))) (lv' := [(8, .int (x8 + (1 : Int32))), (9, .int v3), (0, .ref x0), (2, .int x2), (3, .int x3), (4, .int x4), (5, .ref x5), (6, .int x6), (7, .int x7)]) hC rfl (by rw [ki_1]) (by decide) rfl dX11_where_89 ?_
        refine zt_goto (tgt := 43) hC (by decide) dX11_where_92 ?_
        refine zt_keep [0, 2, 3, 4, 5, 6, 7, 8] rfl ?_
        exact hk43 x0 x2 x3 x4 x5 x6 x7 (x8 + (1 : Int32)) M4 h
      · refine zt_keep [0, 2, 3, 4, 5, 8, 9] rfl ?_
        exact w_X11_where_81 N hC k43 hk43 x0 x2 x3 x4 x5 x8 v3 M4 h
theorem w_X11_where_43 {X : Cx} {G : Gl} {r : (Int32 × Mm)} (N : Nat) (hC : CX X G yX11_where cX11_where 10 (some .int) rm_X11_where) (n : Nat) : ∀ (x0 : Nat) (x2 : Int32) (x3 : Int32) (x4 : Int32) (x5 : Nat) (x6 : Int32) (x7 : Int32) (x8 : Int32) (M : Mm), l_X11_where_43 N n x0 x2 x3 x4 x5 x6 x7 x8 M = some r → TW X G 10 (RQ X G (some (.int r.1)) r.2 rm_X11_where) 0 0 M 43 [(0, .ref x0), (2, .int x2), (3, .int x3), (4, .int x4), (5, .ref x5), (6, .int x6), (7, .int x7), (8, .int x8)] [] := by
  induction n with
  | zero => intro  x0 x2 x3 x4 x5 x6 x7 x8 M h; cases (show none = some r from h)
  | succ n ih => intro  x0 x2 x3 x4 x5 x6 x7 x8 M h; exact v_X11_where_43 N hC (l_X11_where_43 N n) ih x0 x2 x3 x4 x5 x6 x7 x8 M h
def f_X11_where (N : Nat) (x0 : Nat) (x1 : Int32) (x2 : Int32) (x3 : Int32) (x4 : Int32) (M : Mm) : Option (Int32 × Mm) :=
bnd (f_X11_isNoSpan N x2 M) (fun v1 M2 =>
(if v1 = 0 then
bnd (f_X11_isNoDays N x3 M2) (fun v4 M5 =>
(if v4 = 0 then
ck 11 M5 x0 (bnd (f_X11_ruleAt N x0 x1 M5) (fun v7 M8 =>
(onn v7
(ck 11 M8 x0 (bnd (f_X11_refuseRule N x0 x1 M8) (fun v10 M11 =>
some (v10, M11))))
(fun v7 =>
l_X11_where_43 N N x0 x2 x3 x4 v7 (0 : Int32) (0 : Int32) (0 : Int32) M8))))
else
some ((-1 : Int32), M5)))
else
some ((-1 : Int32), M2)))
set_option maxRecDepth 100000 in
set_option maxHeartbeats 4000000 in
theorem c_X11_where (N : Nat) (x0 : Nat) (x1 : Int32) (x2 : Int32) (x3 : Int32) (x4 : Int32) (M : Mm) (r : (Int32 × Mm)) (h : f_X11_where N x0 x1 x2 x3 x4 M = some r) (l : Launch) (hfl : l.flags = flags0) {G : Gl} : MT l G yX11_where cX11_where 10 (some .int) rm_X11_where [.ref x0, .int x1, .int x2, .int x3, .int x4] M (some (.int r.1)) r.2 := by
  unfold f_X11_where at h
  refine zt_start hfl (lv := [(0, .ref x0), (1, .int x1), (2, .int x2), (3, .int x3), (4, .int x4)]) (by decide) (Nat.le_of_ble_eq_true rfl) rfl wd_683 (fun X hC _ => ?_)
  refine zt_iload_n hC rfl dX11_where_0 ?_
  obtain ⟨v1, M2, h3, h⟩ := bnd_some h
  refine zt_callS (z := yX11_isNoSpan) (As := [.int x2]) (rest := []) (st1 := (.int v1 :: [])) hC 1 (fun l hl => c_X11_isNoSpan N x2 M (v1, M2) h3 l hl) rfl wd_585 wd_583 wd_584 wd_1 hd_X11_isNoSpan rfl ⟨⟨(Nat.le_of_ble_eq_true rfl), (Nat.le_of_ble_eq_true rfl)⟩, (Nat.le_of_ble_eq_true rfl), (Nat.le_of_ble_eq_true rfl)⟩ rfl (Nat.le_of_ble_eq_true rfl) rfl dX11_where_1 ?_
  refine zt_if_ne (tgt := 14) hC h (by decide) dX11_where_4 (fun h => ?_) (fun h => ?_)
  · refine zt_iconst hC ki_m1 dX11_where_14 ?_
    obtain rfl := Option.some.inj h
    exact zt_iret hC rfl rfl (Nat.le_of_ble_eq_true rfl) (Nat.le_of_ble_eq_true rfl) dX11_where_15
  · refine zt_iload_n hC rfl dX11_where_7 ?_
    obtain ⟨v4, M5, h6, h⟩ := bnd_some h
    refine zt_callS (z := yX11_isNoDays) (As := [.int x3]) (rest := []) (st1 := (.int v4 :: [])) hC 1 (fun l hl => c_X11_isNoDays N x3 M2 (v4, M5) h6 l hl) rfl wd_604 wd_602 wd_603 wd_1 hd_X11_isNoDays rfl ⟨⟨(Nat.le_of_ble_eq_true rfl), (Nat.le_of_ble_eq_true rfl)⟩, (Nat.le_of_ble_eq_true rfl), (Nat.le_of_ble_eq_true rfl)⟩ rfl (Nat.le_of_ble_eq_true rfl) rfl dX11_where_8 ?_
    refine zt_if_eq (tgt := 16) hC h (by decide) dX11_where_11 (fun h => ?_) (fun h => ?_)
    · refine zt_aload_n hC rfl dX11_where_16 ?_
      refine zt_iload_n hC rfl dX11_where_17 ?_
      obtain ⟨hk, h⟩ := ck_some h
      obtain ⟨v7, M8, h9, h⟩ := bnd_some h
      refine zt_callV (z := yX11_ruleAt) (As := [.int x1]) (rest := []) (st1 := (va_rf v7 :: [])) hC 1 hk cl11 (fun l hl => c_X11_ruleAt N x0 x1 M5 (v7, M8) h9 l hl) rfl wd_406 wd_403 wd_405 ws_8 wd_1 hd_X11_ruleAt rfl ⟨⟨(Nat.le_of_ble_eq_true rfl), (Nat.le_of_ble_eq_true rfl)⟩, (Nat.le_of_ble_eq_true rfl), (Nat.le_of_ble_eq_true rfl)⟩ rfl (Nat.le_of_ble_eq_true rfl) rfl dX11_where_18 ?_
      rcases onn_some h with ⟨ew, hw⟩ | ⟨qq, ew, hw⟩
      · clear h
        subst ew
        have h := hw
        clear hw
        refine zt_astoreN (lv' := [(5, .null), (0, .ref x0), (1, .int x1), (2, .int x2), (3, .int x3), (4, .int x4)]) hC (by decide) rfl dX11_where_21 ?_
        refine zt_aloadN hC rfl dX11_where_23 ?_
        refine zt_ifnonnullN hC dX11_where_25 ?_
        refine zt_aload_n hC rfl dX11_where_28 ?_
        refine zt_iload_n hC rfl dX11_where_29 ?_
        obtain ⟨hk, h⟩ := ck_some h
        obtain ⟨v10, M11, h12, h⟩ := bnd_some h
        refine zt_callV (z := yX11_refuseRule) (As := [.int x1]) (rest := []) (st1 := (.int v10 :: [])) hC 1 hk cl11 (fun l hl => c_X11_refuseRule N x0 x1 M8 (v10, M11) h12 l hl) rfl wd_410 wd_407 wd_409 ws_9 wd_1 hd_X11_refuseRule rfl ⟨⟨(Nat.le_of_ble_eq_true rfl), (Nat.le_of_ble_eq_true rfl)⟩, (Nat.le_of_ble_eq_true rfl), (Nat.le_of_ble_eq_true rfl)⟩ rfl (Nat.le_of_ble_eq_true rfl) rfl dX11_where_30 ?_
        obtain rfl := Option.some.inj h
        exact zt_iret hC rfl rfl (Nat.le_of_ble_eq_true rfl) (Nat.le_of_ble_eq_true rfl) dX11_where_33
      · clear h
        subst ew
        have h := hw
        clear hw
        obtain ⟨v7, ev⟩ : ∃ q, q = qq := ⟨_, rfl⟩
        subst ev
        refine zt_astore (lv' := [(5, .ref v7), (0, .ref x0), (1, .int x1), (2, .int x2), (3, .int x3), (4, .int x4)]) hC (by decide) rfl dX11_where_21 ?_
        refine zt_aload hC rfl dX11_where_23 ?_
        refine zt_ifnonnull (tgt := 34) hC (by decide) dX11_where_25 ?_
        refine zt_iconst hC ki_0 dX11_where_34 ?_
        refine zt_istore (lv' := [(6, .int (0 : Int32)), (5, .ref v7), (0, .ref x0), (1, .int x1), (2, .int x2), (3, .int x3), (4, .int x4)]) hC (by decide) rfl dX11_where_35 ?_
        refine zt_iconst hC ki_0 dX11_where_37 ?_
        refine zt_istore (lv' := [(7, .int (0 : Int32)), (6, .int (0 : Int32)), (5, .ref v7), (0, .ref x0), (1, .int x1), (2, .int x2), (3, .int x3), (4, .int x4)]) hC (by decide) rfl dX11_where_38 ?_
        refine zt_iconst hC ki_0 dX11_where_40 ?_
        refine zt_istore (lv' := [(8, .int (0 : Int32)), (7, .int (0 : Int32)), (6, .int (0 : Int32)), (5, .ref v7), (0, .ref x0), (1, .int x1), (2, .int x2), (3, .int x3), (4, .int x4)]) hC (by decide) rfl dX11_where_41 ?_
        refine zt_keep [0, 2, 3, 4, 5, 6, 7, 8] rfl ?_
        exact w_X11_where_43 N hC N x0 x2 x3 x4 v7 (0 : Int32) (0 : Int32) (0 : Int32) M8 h
    · refine zt_iconst hC ki_m1 dX11_where_14 ?_
      obtain rfl := Option.some.inj h
      exact zt_iret hC rfl rfl (Nat.le_of_ble_eq_true rfl) (Nat.le_of_ble_eq_true rfl) dX11_where_15
def rm_X11_enough : Room := { frames := 6, cells := 0, slots := 0, locals := 170 }
theorem hd_X11_enough : yX11_enough.cls ≠ "java/lang/invoke/MethodHandle" ∧ yX11_enough.cls ≠ "java/lang/invoke/VarHandle" ∧ (parseMethodDescriptor yX11_enough.desc).map (fun d => d.parameters.length) = some 4 := by decide +kernel
def b_X11_enough_41 (N : Nat) (k41 : Nat → Int32 → Int32 → Int32 → Nat → Int32 → Mm → Option (Int32 × Mm)) (x0 : Nat) (x2 : Int32) (x3 : Int32) (x4 : Int32) (x5 : Nat) (x6 : Int32) (M : Mm) : Option (Int32 × Mm) :=
(if (6 : Int32) < x6 then
some ((-4 : Int32), M)
else
ck 11 M x0 (bnd (f_X11_begin N x0 x5 x2 x4 M) (fun v1 M2 =>
gR 11 M2 x0 3 (fun v4 =>
pI 10 M2 v4 4 x6 (fun M5 =>
gR 11 M5 x0 3 (fun v6 =>
ck 10 M5 v6 (bnd (f_X10_pass N v6 x3 M5) (fun v7 M8 =>
gR 11 M8 x0 3 (fun v10 =>
gI 10 M8 v10 14 (fun v11 =>
(if v11 = 0 then
some (x6, M8)
else
k41 x0 x2 x3 x4 x5 (x6 + (1 : Int32)) M8)))))))))))
def l_X11_enough_41 (N : Nat) : Nat → Nat → Int32 → Int32 → Int32 → Nat → Int32 → Mm → Option (Int32 × Mm)
  | 0 => fun _ _ _ _ _ _ _ => none
  | n + 1 => b_X11_enough_41 N (l_X11_enough_41 N n)
set_option maxRecDepth 100000 in
set_option maxHeartbeats 4000000 in
theorem v_X11_enough_41 {X : Cx} {G : Gl} {r : (Int32 × Mm)} (N : Nat) (hC : CX X G yX11_enough cX11_enough 7 (some .int) rm_X11_enough) (k41 : Nat → Int32 → Int32 → Int32 → Nat → Int32 → Mm → Option (Int32 × Mm)) (hk41 : ∀ (x0 : Nat) (x2 : Int32) (x3 : Int32) (x4 : Int32) (x5 : Nat) (x6 : Int32) (M : Mm), k41 x0 x2 x3 x4 x5 x6 M = some r → TW X G 7 (RQ X G (some (.int r.1)) r.2 rm_X11_enough) 0 0 M 41 [(0, .ref x0), (2, .int x2), (3, .int x3), (4, .int x4), (5, .ref x5), (6, .int x6)] []) (x0 : Nat) (x2 : Int32) (x3 : Int32) (x4 : Int32) (x5 : Nat) (x6 : Int32) (M : Mm) (h : b_X11_enough_41 N k41 x0 x2 x3 x4 x5 x6 M = some r) : TW X G 7 (RQ X G (some (.int r.1)) r.2 rm_X11_enough) 0 0 M 41 [(0, .ref x0), (2, .int x2), (3, .int x3), (4, .int x4), (5, .ref x5), (6, .int x6)] [] := by
  unfold b_X11_enough_41 at h
  refine zt_iload hC rfl dX11_enough_41 ?_
  refine zt_bipush hC kb_6 dX11_enough_43 ?_
  refine zt_icmp_gt (tgt := 93) hC h (by decide) dX11_enough_45 (fun h => ?_) (fun h => ?_)
  · refine zt_bipush hC kb_m4 dX11_enough_93 ?_
    obtain rfl := Option.some.inj h
    exact zt_iret hC rfl rfl (Nat.le_of_ble_eq_true rfl) (Nat.le_of_ble_eq_true rfl) dX11_enough_95
  · refine zt_aload_n hC rfl dX11_enough_48 ?_
    refine zt_aload hC rfl dX11_enough_49 ?_
    refine zt_iload_n hC rfl dX11_enough_51 ?_
    refine zt_iload hC rfl dX11_enough_52 ?_
    obtain ⟨hk, h⟩ := ck_some h
    obtain ⟨v1, M2, h3, h⟩ := bnd_some h
    refine zt_callV (z := yX11_begin) (As := [.ref x5, .int x2, .int x4]) (rest := []) (st1 := []) hC 3 hk cl11 (fun l hl => c_X11_begin N x0 x5 x2 x4 M (v1, M2) h3 l hl) rfl wd_589 wd_586 wd_588 ws_14 wd_1 hd_X11_begin rfl ⟨⟨(Nat.le_of_ble_eq_true rfl), (Nat.le_of_ble_eq_true rfl)⟩, (Nat.le_of_ble_eq_true rfl), (Nat.le_of_ble_eq_true rfl)⟩ rfl (Nat.le_of_ble_eq_true rfl) rfl dX11_enough_54 ?_
    refine zt_aload_n hC rfl dX11_enough_57 ?_
    refine zt_gR hC h cl11 (k := 3) (by decide) rfl wd_230 (Or.inl rfl) dX11_enough_58 (fun v4 h => ?_)
    refine zt_iload hC rfl dX11_enough_61 ?_
    refine zt_pI hC h cl10 (k := 4) (by decide) rfl wd_115 (Or.inl rfl) (Or.inl rfl) dX11_enough_63 (fun M5 h => ?_)
    refine zt_aload_n hC rfl dX11_enough_66 ?_
    refine zt_gR hC h cl11 (k := 3) (by decide) rfl wd_230 (Or.inl rfl) dX11_enough_67 (fun v6 h => ?_)
    refine zt_iload_n hC rfl dX11_enough_70 ?_
    obtain ⟨hk, h⟩ := ck_some h
    obtain ⟨v7, M8, h9, h⟩ := bnd_some h
    refine zt_callV (z := yX10_pass) (As := [.int x3]) (rest := []) (st1 := []) hC 1 hk cl10 (fun l hl => c_X10_pass N v6 x3 M5 (v7, M8) h9 l hl) rfl wd_441 wd_438 wd_439 wd_440 wd_2 hd_X10_pass rfl ⟨⟨(Nat.le_of_ble_eq_true rfl), (Nat.le_of_ble_eq_true rfl)⟩, (Nat.le_of_ble_eq_true rfl), (Nat.le_of_ble_eq_true rfl)⟩ rfl (Nat.le_of_ble_eq_true rfl) rfl dX11_enough_71 ?_
    refine zt_aload_n hC rfl dX11_enough_74 ?_
    refine zt_gR hC h cl11 (k := 3) (by decide) rfl wd_230 (Or.inl rfl) dX11_enough_75 (fun v10 h => ?_)
    refine zt_gI hC h cl10 (k := 14) (by decide) rfl wd_133 (Or.inl rfl) dX11_enough_78 (fun v11 h => ?_)
    refine zt_if_ne (tgt := 87) hC h (by decide) dX11_enough_81 (fun h => ?_) (fun h => ?_)
    · refine zt_iinc (v := (x6 + (1 : Int32))) (lv' := [(6, .int (x6 + (1 : Int32))), (0, .ref x0), (2, .int x2), (3, .int x3), (4, .int x4), (5, .ref x5)]) hC rfl (by rw [ki_1]) (by decide) rfl dX11_enough_87 ?_
      refine zt_goto (tgt := 41) hC (by decide) dX11_enough_90 ?_
      refine zt_keep [0, 2, 3, 4, 5, 6] rfl ?_
      exact hk41 x0 x2 x3 x4 x5 (x6 + (1 : Int32)) M8 h
    · refine zt_iload hC rfl dX11_enough_84 ?_
      obtain rfl := Option.some.inj h
      exact zt_iret hC rfl rfl (Nat.le_of_ble_eq_true rfl) (Nat.le_of_ble_eq_true rfl) dX11_enough_86
theorem w_X11_enough_41 {X : Cx} {G : Gl} {r : (Int32 × Mm)} (N : Nat) (hC : CX X G yX11_enough cX11_enough 7 (some .int) rm_X11_enough) (n : Nat) : ∀ (x0 : Nat) (x2 : Int32) (x3 : Int32) (x4 : Int32) (x5 : Nat) (x6 : Int32) (M : Mm), l_X11_enough_41 N n x0 x2 x3 x4 x5 x6 M = some r → TW X G 7 (RQ X G (some (.int r.1)) r.2 rm_X11_enough) 0 0 M 41 [(0, .ref x0), (2, .int x2), (3, .int x3), (4, .int x4), (5, .ref x5), (6, .int x6)] [] := by
  induction n with
  | zero => intro  x0 x2 x3 x4 x5 x6 M h; cases (show none = some r from h)
  | succ n ih => intro  x0 x2 x3 x4 x5 x6 M h; exact v_X11_enough_41 N hC (l_X11_enough_41 N n) ih x0 x2 x3 x4 x5 x6 M h
def f_X11_enough (N : Nat) (x0 : Nat) (x1 : Int32) (x2 : Int32) (x3 : Int32) (x4 : Int32) (M : Mm) : Option (Int32 × Mm) :=
gR 11 M x0 0 (fun v1 =>
ck 10 M v1 (bnd (f_X10_hasLanding N v1 x2 M) (fun v2 M3 =>
(if v2 = 0 then
some ((-1 : Int32), M3)
else
bnd (f_X11_isNoSpan N x3 M3) (fun v5 M6 =>
(if v5 = 0 then
ck 11 M6 x0 (bnd (f_X11_ruleAt N x0 x1 M6) (fun v8 M9 =>
(onn v8
(ck 11 M9 x0 (bnd (f_X11_refuseRule N x0 x1 M9) (fun v11 M12 =>
some (v11, M12))))
(fun v8 =>
l_X11_enough_41 N N x0 x2 x3 x4 v8 (1 : Int32) M9))))
else
some ((-1 : Int32), M6)))))))
set_option maxRecDepth 100000 in
set_option maxHeartbeats 4000000 in
theorem c_X11_enough (N : Nat) (x0 : Nat) (x1 : Int32) (x2 : Int32) (x3 : Int32) (x4 : Int32) (M : Mm) (r : (Int32 × Mm)) (h : f_X11_enough N x0 x1 x2 x3 x4 M = some r) (l : Launch) (hfl : l.flags = flags0) {G : Gl} : MT l G yX11_enough cX11_enough 7 (some .int) rm_X11_enough [.ref x0, .int x1, .int x2, .int x3, .int x4] M (some (.int r.1)) r.2 := by
  unfold f_X11_enough at h
  refine zt_start hfl (lv := [(0, .ref x0), (1, .int x1), (2, .int x2), (3, .int x3), (4, .int x4)]) (by decide) (Nat.le_of_ble_eq_true rfl) rfl wd_687 (fun X hC _ => ?_)
  refine zt_aload_n hC rfl dX11_enough_0 ?_
  refine zt_gR hC h cl11 (k := 0) (by decide) rfl wd_227 (Or.inl rfl) dX11_enough_1 (fun v1 h => ?_)
  refine zt_iload_n hC rfl dX11_enough_4 ?_
  obtain ⟨hk, h⟩ := ck_some h
  obtain ⟨v2, M3, h4, h⟩ := bnd_some h
  refine zt_callV (z := yX10_hasLanding) (As := [.int x2]) (rest := []) (st1 := (.int v2 :: [])) hC 1 hk cl10 (fun l hl => c_X10_hasLanding N v1 x2 M (v2, M3) h4 l hl) rfl wd_358 wd_372 wd_356 wd_357 wd_2 hd_X10_hasLanding rfl ⟨⟨(Nat.le_of_ble_eq_true rfl), (Nat.le_of_ble_eq_true rfl)⟩, (Nat.le_of_ble_eq_true rfl), (Nat.le_of_ble_eq_true rfl)⟩ rfl (Nat.le_of_ble_eq_true rfl) rfl dX11_enough_5 ?_
  refine zt_if_eq (tgt := 18) hC h (by decide) dX11_enough_8 (fun h => ?_) (fun h => ?_)
  · refine zt_iconst hC ki_m1 dX11_enough_18 ?_
    obtain rfl := Option.some.inj h
    exact zt_iret hC rfl rfl (Nat.le_of_ble_eq_true rfl) (Nat.le_of_ble_eq_true rfl) dX11_enough_19
  · refine zt_iload_n hC rfl dX11_enough_11 ?_
    obtain ⟨v5, M6, h7, h⟩ := bnd_some h
    refine zt_callS (z := yX11_isNoSpan) (As := [.int x3]) (rest := []) (st1 := (.int v5 :: [])) hC 1 (fun l hl => c_X11_isNoSpan N x3 M3 (v5, M6) h7 l hl) rfl wd_585 wd_583 wd_584 wd_1 hd_X11_isNoSpan rfl ⟨⟨(Nat.le_of_ble_eq_true rfl), (Nat.le_of_ble_eq_true rfl)⟩, (Nat.le_of_ble_eq_true rfl), (Nat.le_of_ble_eq_true rfl)⟩ rfl (Nat.le_of_ble_eq_true rfl) rfl dX11_enough_12 ?_
    refine zt_if_eq (tgt := 20) hC h (by decide) dX11_enough_15 (fun h => ?_) (fun h => ?_)
    · refine zt_aload_n hC rfl dX11_enough_20 ?_
      refine zt_iload_n hC rfl dX11_enough_21 ?_
      obtain ⟨hk, h⟩ := ck_some h
      obtain ⟨v8, M9, h10, h⟩ := bnd_some h
      refine zt_callV (z := yX11_ruleAt) (As := [.int x1]) (rest := []) (st1 := (va_rf v8 :: [])) hC 1 hk cl11 (fun l hl => c_X11_ruleAt N x0 x1 M6 (v8, M9) h10 l hl) rfl wd_406 wd_403 wd_405 ws_8 wd_1 hd_X11_ruleAt rfl ⟨⟨(Nat.le_of_ble_eq_true rfl), (Nat.le_of_ble_eq_true rfl)⟩, (Nat.le_of_ble_eq_true rfl), (Nat.le_of_ble_eq_true rfl)⟩ rfl (Nat.le_of_ble_eq_true rfl) rfl dX11_enough_22 ?_
      rcases onn_some h with ⟨ew, hw⟩ | ⟨qq, ew, hw⟩
      · clear h
        subst ew
        have h := hw
        clear hw
        refine zt_astoreN (lv' := [(5, .null), (0, .ref x0), (1, .int x1), (2, .int x2), (3, .int x3), (4, .int x4)]) hC (by decide) rfl dX11_enough_25 ?_
        refine zt_aloadN hC rfl dX11_enough_27 ?_
        refine zt_ifnonnullN hC dX11_enough_29 ?_
        refine zt_aload_n hC rfl dX11_enough_32 ?_
        refine zt_iload_n hC rfl dX11_enough_33 ?_
        obtain ⟨hk, h⟩ := ck_some h
        obtain ⟨v11, M12, h13, h⟩ := bnd_some h
        refine zt_callV (z := yX11_refuseRule) (As := [.int x1]) (rest := []) (st1 := (.int v11 :: [])) hC 1 hk cl11 (fun l hl => c_X11_refuseRule N x0 x1 M9 (v11, M12) h13 l hl) rfl wd_410 wd_407 wd_409 ws_9 wd_1 hd_X11_refuseRule rfl ⟨⟨(Nat.le_of_ble_eq_true rfl), (Nat.le_of_ble_eq_true rfl)⟩, (Nat.le_of_ble_eq_true rfl), (Nat.le_of_ble_eq_true rfl)⟩ rfl (Nat.le_of_ble_eq_true rfl) rfl dX11_enough_34 ?_
        obtain rfl := Option.some.inj h
        exact zt_iret hC rfl rfl (Nat.le_of_ble_eq_true rfl) (Nat.le_of_ble_eq_true rfl) dX11_enough_37
      · clear h
        subst ew
        have h := hw
        clear hw
        obtain ⟨v8, ev⟩ : ∃ q, q = qq := ⟨_, rfl⟩
        subst ev
        refine zt_astore (lv' := [(5, .ref v8), (0, .ref x0), (1, .int x1), (2, .int x2), (3, .int x3), (4, .int x4)]) hC (by decide) rfl dX11_enough_25 ?_
        refine zt_aload hC rfl dX11_enough_27 ?_
        refine zt_ifnonnull (tgt := 38) hC (by decide) dX11_enough_29 ?_
        refine zt_iconst hC ki_1 dX11_enough_38 ?_
        refine zt_istore (lv' := [(6, .int (1 : Int32)), (5, .ref v8), (0, .ref x0), (1, .int x1), (2, .int x2), (3, .int x3), (4, .int x4)]) hC (by decide) rfl dX11_enough_39 ?_
        refine zt_keep [0, 2, 3, 4, 5, 6] rfl ?_
        exact w_X11_enough_41 N hC N x0 x2 x3 x4 v8 (1 : Int32) M9 h
    · refine zt_iconst hC ki_m1 dX11_enough_18 ?_
      obtain rfl := Option.some.inj h
      exact zt_iret hC rfl rfl (Nat.le_of_ble_eq_true rfl) (Nat.le_of_ble_eq_true rfl) dX11_enough_19
def rm_X11_lantern : Room := { frames := 6, cells := 0, slots := 0, locals := 170 }
theorem hd_X11_lantern : yX11_lantern.cls ≠ "java/lang/invoke/MethodHandle" ∧ yX11_lantern.cls ≠ "java/lang/invoke/VarHandle" ∧ (parseMethodDescriptor yX11_lantern.desc).map (fun d => d.parameters.length) = some 5 := by decide +kernel
def b_X11_lantern_92 (N : Nat) (k92 : Nat → Int32 → Int32 → Int32 → Int32 → Mm → Option (Int32 × Mm)) (x0 : Nat) (x3 : Int32) (x5 : Int32) (x7 : Int32) (x8 : Int32) (M : Mm) : Option (Int32 × Mm) :=
gR 11 M x0 3 (fun v1 =>
gI 10 M v1 2 (fun v2 =>
(if v2 ≤ x8 then
gR 11 M x0 3 (fun v3 =>
ck 10 M v3 (bnd (f_X10_pass N v3 x3 M) (fun v4 M5 =>
gR 11 M5 x0 3 (fun v7 =>
gI 10 M5 v7 14 (fun v8 =>
some ((x7 - v8), M5))))))
else
gR 11 M x0 3 (fun v9 =>
ck 10 M v9 (bnd (f_X10_ofSort N v9 x8 (3 : Int32) M) (fun v10 M11 =>
gR 11 M11 x0 3 (fun v13 =>
ck 10 M11 v13 (bnd (f_X10_changeSort N v13 x8 (3 : Int32) (if (20 : Int32) < (v10 + x5) then (20 : Int32) else (v10 + x5)) M11) (fun v14 M15 =>
k92 x0 x3 x5 x7 (x8 + (1 : Int32)) M15)))))))))
def l_X11_lantern_92 (N : Nat) : Nat → Nat → Int32 → Int32 → Int32 → Int32 → Mm → Option (Int32 × Mm)
  | 0 => fun _ _ _ _ _ _ => none
  | n + 1 => b_X11_lantern_92 N (l_X11_lantern_92 N n)
set_option maxRecDepth 100000 in
set_option maxHeartbeats 4000000 in
theorem v_X11_lantern_92 {X : Cx} {G : Gl} {r : (Int32 × Mm)} (N : Nat) (hC : CX X G yX11_lantern cX11_lantern 10 (some .int) rm_X11_lantern) (k92 : Nat → Int32 → Int32 → Int32 → Int32 → Mm → Option (Int32 × Mm)) (hk92 : ∀ (x0 : Nat) (x3 : Int32) (x5 : Int32) (x7 : Int32) (x8 : Int32) (M : Mm), k92 x0 x3 x5 x7 x8 M = some r → TW X G 10 (RQ X G (some (.int r.1)) r.2 rm_X11_lantern) 0 0 M 92 [(0, .ref x0), (3, .int x3), (5, .int x5), (7, .int x7), (8, .int x8)] []) (x0 : Nat) (x3 : Int32) (x5 : Int32) (x7 : Int32) (x8 : Int32) (M : Mm) (h : b_X11_lantern_92 N k92 x0 x3 x5 x7 x8 M = some r) : TW X G 10 (RQ X G (some (.int r.1)) r.2 rm_X11_lantern) 0 0 M 92 [(0, .ref x0), (3, .int x3), (5, .int x5), (7, .int x7), (8, .int x8)] [] := by
  unfold b_X11_lantern_92 at h
  refine zt_iload hC rfl dX11_lantern_92 ?_
  refine zt_aload_n hC rfl dX11_lantern_94 ?_
  refine zt_gR hC h cl11 (k := 3) (by decide) rfl wd_230 (Or.inl rfl) dX11_lantern_95 (fun v1 h => ?_)
  refine zt_gI hC h cl10 (k := 2) (by decide) rfl wd_111 (Or.inl rfl) dX11_lantern_98 (fun v2 h => ?_)
  refine zt_icmp_ge (tgt := 142) hC h (by decide) dX11_lantern_101 (fun h => ?_) (fun h => ?_)
  · refine zt_aload_n hC rfl dX11_lantern_142 ?_
    refine zt_gR hC h cl11 (k := 3) (by decide) rfl wd_230 (Or.inl rfl) dX11_lantern_143 (fun v3 h => ?_)
    refine zt_iload_n hC rfl dX11_lantern_146 ?_
    obtain ⟨hk, h⟩ := ck_some h
    obtain ⟨v4, M5, h6, h⟩ := bnd_some h
    refine zt_callV (z := yX10_pass) (As := [.int x3]) (rest := []) (st1 := []) hC 1 hk cl10 (fun l hl => c_X10_pass N v3 x3 M (v4, M5) h6 l hl) rfl wd_441 wd_438 wd_439 wd_440 wd_2 hd_X10_pass rfl ⟨⟨(Nat.le_of_ble_eq_true rfl), (Nat.le_of_ble_eq_true rfl)⟩, (Nat.le_of_ble_eq_true rfl), (Nat.le_of_ble_eq_true rfl)⟩ rfl (Nat.le_of_ble_eq_true rfl) rfl dX11_lantern_147 ?_
    refine zt_iload hC rfl dX11_lantern_150 ?_
    refine zt_aload_n hC rfl dX11_lantern_152 ?_
    refine zt_gR hC h cl11 (k := 3) (by decide) rfl wd_230 (Or.inl rfl) dX11_lantern_153 (fun v7 h => ?_)
    refine zt_gI hC h cl10 (k := 14) (by decide) rfl wd_133 (Or.inl rfl) dX11_lantern_156 (fun v8 h => ?_)
    refine zt_isub hC dX11_lantern_159 ?_
    obtain rfl := Option.some.inj h
    exact zt_iret hC rfl rfl (Nat.le_of_ble_eq_true rfl) (Nat.le_of_ble_eq_true rfl) dX11_lantern_160
  · refine zt_aload_n hC rfl dX11_lantern_104 ?_
    refine zt_gR hC h cl11 (k := 3) (by decide) rfl wd_230 (Or.inl rfl) dX11_lantern_105 (fun v9 h => ?_)
    refine zt_iload hC rfl dX11_lantern_108 ?_
    refine zt_iconst hC ki_3 dX11_lantern_110 ?_
    obtain ⟨hk, h⟩ := ck_some h
    obtain ⟨v10, M11, h12, h⟩ := bnd_some h
    refine zt_callV (z := yX10_ofSort) (As := [.int x8, .int (3 : Int32)]) (rest := []) (st1 := (.int v10 :: [])) hC 2 hk cl10 (fun l hl => c_X10_ofSort N v9 x8 (3 : Int32) M (v10, M11) h12 l hl) rfl wd_346 wd_388 wd_344 wd_345 wd_2 hd_X10_ofSort rfl ⟨⟨(Nat.le_of_ble_eq_true rfl), (Nat.le_of_ble_eq_true rfl)⟩, (Nat.le_of_ble_eq_true rfl), (Nat.le_of_ble_eq_true rfl)⟩ rfl (Nat.le_of_ble_eq_true rfl) rfl dX11_lantern_111 ?_
    refine zt_iload hC rfl dX11_lantern_114 ?_
    refine zt_iadd hC dX11_lantern_116 ?_
    refine zt_istore (lv' := [(9, .int (v10 + x5)), (0, .ref x0), (3, .int x3), (5, .int x5), (7, .int x7), (8, .int x8)]) hC (by decide) rfl dX11_lantern_117 ?_
    refine zt_aload_n hC rfl dX11_lantern_119 ?_
    refine zt_gR hC h cl11 (k := 3) (by decide) rfl wd_230 (Or.inl rfl) dX11_lantern_120 (fun v13 h => ?_)
    refine zt_iload hC rfl dX11_lantern_123 ?_
    refine zt_iconst hC ki_3 dX11_lantern_125 ?_
    refine zt_iload hC rfl dX11_lantern_126 ?_
    refine zt_bipush hC kb_20 dX11_lantern_128 ?_
    refine zt_mmin hC wd_319 wd_320 wd_8 wd_321 (Nat.le_of_ble_eq_true rfl) (Nat.le_of_ble_eq_true rfl) (Nat.le_of_ble_eq_true rfl) (Nat.le_of_ble_eq_true rfl) dX11_lantern_130 ?_
    obtain ⟨hk, h⟩ := ck_some h
    obtain ⟨v14, M15, h16, h⟩ := bnd_some h
    refine zt_callV (z := yX10_changeSort) (As := [.int x8, .int (3 : Int32), .int (if (20 : Int32) < (v10 + x5) then (20 : Int32) else (v10 + x5))]) (rest := []) (st1 := []) hC 3 hk cl10 (fun l hl => c_X10_changeSort N v13 x8 (3 : Int32) (if (20 : Int32) < (v10 + x5) then (20 : Int32) else (v10 + x5)) M11 (v14, M15) h16 l hl) rfl wd_367 wd_393 wd_365 wd_366 wd_2 hd_X10_changeSort rfl ⟨⟨(Nat.le_of_ble_eq_true rfl), (Nat.le_of_ble_eq_true rfl)⟩, (Nat.le_of_ble_eq_true rfl), (Nat.le_of_ble_eq_true rfl)⟩ rfl (Nat.le_of_ble_eq_true rfl) rfl dX11_lantern_133 ?_
    refine zt_iinc (v := (x8 + (1 : Int32))) (lv' := [(8, .int (x8 + (1 : Int32))), (9, .int (v10 + x5)), (0, .ref x0), (3, .int x3), (5, .int x5), (7, .int x7)]) hC rfl (by rw [ki_1]) (by decide) rfl dX11_lantern_136 ?_
    refine zt_goto (tgt := 92) hC (by decide) dX11_lantern_139 ?_
    refine zt_keep [0, 3, 5, 7, 8] rfl ?_
    exact hk92 x0 x3 x5 x7 (x8 + (1 : Int32)) M15 h
theorem w_X11_lantern_92 {X : Cx} {G : Gl} {r : (Int32 × Mm)} (N : Nat) (hC : CX X G yX11_lantern cX11_lantern 10 (some .int) rm_X11_lantern) (n : Nat) : ∀ (x0 : Nat) (x3 : Int32) (x5 : Int32) (x7 : Int32) (x8 : Int32) (M : Mm), l_X11_lantern_92 N n x0 x3 x5 x7 x8 M = some r → TW X G 10 (RQ X G (some (.int r.1)) r.2 rm_X11_lantern) 0 0 M 92 [(0, .ref x0), (3, .int x3), (5, .int x5), (7, .int x7), (8, .int x8)] [] := by
  induction n with
  | zero => intro  x0 x3 x5 x7 x8 M h; cases (show none = some r from h)
  | succ n ih => intro  x0 x3 x5 x7 x8 M h; exact v_X11_lantern_92 N hC (l_X11_lantern_92 N n) ih x0 x3 x5 x7 x8 M h
def f_X11_lantern (N : Nat) (x0 : Nat) (x1 : Int32) (x2 : Int32) (x3 : Int32) (x4 : Int32) (x5 : Int32) (M : Mm) : Option (Int32 × Mm) :=
gR 11 M x0 0 (fun v1 =>
ck 10 M v1 (bnd (f_X10_hasLanding N v1 x2 M) (fun v2 M3 =>
(if v2 = 0 then
some ((-1000000001 : Int32), M3)
else
bnd (f_X11_isNoSpan N x3 M3) (fun v5 M6 =>
(if v5 = 0 then
(if x5 < 0 then
some ((-1000000001 : Int32), M6)
else
(if x5 ≤ (20 : Int32) then
ck 11 M6 x0 (bnd (f_X11_ruleAt N x0 x1 M6) (fun v8 M9 =>
(onn v8
(ck 11 M9 x0 (bnd (f_X11_refuseRule N x0 x1 M9) (fun v11 M12 =>
some (((-1000000000 : Int32) + v11), M12))))
(fun v8 =>
ck 11 M9 x0 (bnd (f_X11_begin N x0 v8 x2 x4 M9) (fun v14 M15 =>
gR 11 M15 x0 3 (fun v17 =>
ck 10 M15 v17 (bnd (f_X10_pass N v17 x3 M15) (fun v18 M19 =>
gR 11 M19 x0 3 (fun v21 =>
gI 10 M19 v21 14 (fun v22 =>
ck 11 M19 x0 (bnd (f_X11_begin N x0 v8 x2 x4 M19) (fun v23 M24 =>
l_X11_lantern_92 N N x0 x3 x5 v22 (0 : Int32) M24)))))))))))))
else
some ((-1000000001 : Int32), M6)))
else
some ((-1000000001 : Int32), M6)))))))
set_option maxRecDepth 100000 in
set_option maxHeartbeats 4000000 in
theorem c_X11_lantern (N : Nat) (x0 : Nat) (x1 : Int32) (x2 : Int32) (x3 : Int32) (x4 : Int32) (x5 : Int32) (M : Mm) (r : (Int32 × Mm)) (h : f_X11_lantern N x0 x1 x2 x3 x4 x5 M = some r) (l : Launch) (hfl : l.flags = flags0) {G : Gl} : MT l G yX11_lantern cX11_lantern 10 (some .int) rm_X11_lantern [.ref x0, .int x1, .int x2, .int x3, .int x4, .int x5] M (some (.int r.1)) r.2 := by
  unfold f_X11_lantern at h
  refine zt_start hfl (lv := [(0, .ref x0), (1, .int x1), (2, .int x2), (3, .int x3), (4, .int x4), (5, .int x5)]) (by decide) (Nat.le_of_ble_eq_true rfl) rfl wd_691 (fun X hC _ => ?_)
  refine zt_aload_n hC rfl dX11_lantern_0 ?_
  refine zt_gR hC h cl11 (k := 0) (by decide) rfl wd_227 (Or.inl rfl) dX11_lantern_1 (fun v1 h => ?_)
  refine zt_iload_n hC rfl dX11_lantern_4 ?_
  obtain ⟨hk, h⟩ := ck_some h
  obtain ⟨v2, M3, h4, h⟩ := bnd_some h
  refine zt_callV (z := yX10_hasLanding) (As := [.int x2]) (rest := []) (st1 := (.int v2 :: [])) hC 1 hk cl10 (fun l hl => c_X10_hasLanding N v1 x2 M (v2, M3) h4 l hl) rfl wd_358 wd_372 wd_356 wd_357 wd_2 hd_X10_hasLanding rfl ⟨⟨(Nat.le_of_ble_eq_true rfl), (Nat.le_of_ble_eq_true rfl)⟩, (Nat.le_of_ble_eq_true rfl), (Nat.le_of_ble_eq_true rfl)⟩ rfl (Nat.le_of_ble_eq_true rfl) rfl dX11_lantern_5 ?_
  refine zt_if_eq (tgt := 30) hC h (by decide) dX11_lantern_8 (fun h => ?_) (fun h => ?_)
  · refine zt_ldc hC wd_605 dX11_lantern_30 ?_
    obtain rfl := Option.some.inj h
    exact zt_iret hC rfl rfl (Nat.le_of_ble_eq_true rfl) (Nat.le_of_ble_eq_true rfl) dX11_lantern_32
  · refine zt_iload_n hC rfl dX11_lantern_11 ?_
    obtain ⟨v5, M6, h7, h⟩ := bnd_some h
    refine zt_callS (z := yX11_isNoSpan) (As := [.int x3]) (rest := []) (st1 := (.int v5 :: [])) hC 1 (fun l hl => c_X11_isNoSpan N x3 M3 (v5, M6) h7 l hl) rfl wd_585 wd_583 wd_584 wd_1 hd_X11_isNoSpan rfl ⟨⟨(Nat.le_of_ble_eq_true rfl), (Nat.le_of_ble_eq_true rfl)⟩, (Nat.le_of_ble_eq_true rfl), (Nat.le_of_ble_eq_true rfl)⟩ rfl (Nat.le_of_ble_eq_true rfl) rfl dX11_lantern_12 ?_
    refine zt_if_ne (tgt := 30) hC h (by decide) dX11_lantern_15 (fun h => ?_) (fun h => ?_)
    · refine zt_ldc hC wd_605 dX11_lantern_30 ?_
      obtain rfl := Option.some.inj h
      exact zt_iret hC rfl rfl (Nat.le_of_ble_eq_true rfl) (Nat.le_of_ble_eq_true rfl) dX11_lantern_32
    · refine zt_iload hC rfl dX11_lantern_18 ?_
      refine zt_if_lt (tgt := 30) hC h (by decide) dX11_lantern_20 (fun h => ?_) (fun h => ?_)
      · refine zt_ldc hC wd_605 dX11_lantern_30 ?_
        obtain rfl := Option.some.inj h
        exact zt_iret hC rfl rfl (Nat.le_of_ble_eq_true rfl) (Nat.le_of_ble_eq_true rfl) dX11_lantern_32
      · refine zt_iload hC rfl dX11_lantern_23 ?_
        refine zt_bipush hC kb_20 dX11_lantern_25 ?_
        refine zt_icmp_le (tgt := 33) hC h (by decide) dX11_lantern_27 (fun h => ?_) (fun h => ?_)
        · refine zt_aload_n hC rfl dX11_lantern_33 ?_
          refine zt_iload_n hC rfl dX11_lantern_34 ?_
          obtain ⟨hk, h⟩ := ck_some h
          obtain ⟨v8, M9, h10, h⟩ := bnd_some h
          refine zt_callV (z := yX11_ruleAt) (As := [.int x1]) (rest := []) (st1 := (va_rf v8 :: [])) hC 1 hk cl11 (fun l hl => c_X11_ruleAt N x0 x1 M6 (v8, M9) h10 l hl) rfl wd_406 wd_403 wd_405 ws_8 wd_1 hd_X11_ruleAt rfl ⟨⟨(Nat.le_of_ble_eq_true rfl), (Nat.le_of_ble_eq_true rfl)⟩, (Nat.le_of_ble_eq_true rfl), (Nat.le_of_ble_eq_true rfl)⟩ rfl (Nat.le_of_ble_eq_true rfl) rfl dX11_lantern_35 ?_
          rcases onn_some h with ⟨ew, hw⟩ | ⟨qq, ew, hw⟩
          · clear h
            subst ew
            have h := hw
            clear hw
            refine zt_astoreN (lv' := [(6, .null), (0, .ref x0), (1, .int x1), (2, .int x2), (3, .int x3), (4, .int x4), (5, .int x5)]) hC (by decide) rfl dX11_lantern_38 ?_
            refine zt_aloadN hC rfl dX11_lantern_40 ?_
            refine zt_ifnonnullN hC dX11_lantern_42 ?_
            refine zt_ldc hC wd_606 dX11_lantern_45 ?_
            refine zt_aload_n hC rfl dX11_lantern_47 ?_
            refine zt_iload_n hC rfl dX11_lantern_48 ?_
            obtain ⟨hk, h⟩ := ck_some h
            obtain ⟨v11, M12, h13, h⟩ := bnd_some h
            refine zt_callV (z := yX11_refuseRule) (As := [.int x1]) (rest := [.int (-1000000000 : Int32)]) (st1 := (.int v11 :: [.int (-1000000000 : Int32)])) hC 1 hk cl11 (fun l hl => c_X11_refuseRule N x0 x1 M9 (v11, M12) h13 l hl) rfl wd_410 wd_407 wd_409 ws_9 wd_1 hd_X11_refuseRule rfl ⟨⟨(Nat.le_of_ble_eq_true rfl), (Nat.le_of_ble_eq_true rfl)⟩, (Nat.le_of_ble_eq_true rfl), (Nat.le_of_ble_eq_true rfl)⟩ rfl (Nat.le_of_ble_eq_true rfl) rfl dX11_lantern_49 ?_
            refine zt_iadd hC dX11_lantern_52 ?_
            obtain rfl := Option.some.inj h
            exact zt_iret hC rfl rfl (Nat.le_of_ble_eq_true rfl) (Nat.le_of_ble_eq_true rfl) dX11_lantern_53
          · clear h
            subst ew
            have h := hw
            clear hw
            obtain ⟨v8, ev⟩ : ∃ q, q = qq := ⟨_, rfl⟩
            subst ev
            refine zt_astore (lv' := [(6, .ref v8), (0, .ref x0), (1, .int x1), (2, .int x2), (3, .int x3), (4, .int x4), (5, .int x5)]) hC (by decide) rfl dX11_lantern_38 ?_
            refine zt_aload hC rfl dX11_lantern_40 ?_
            refine zt_ifnonnull (tgt := 54) hC (by decide) dX11_lantern_42 ?_
            refine zt_aload_n hC rfl dX11_lantern_54 ?_
            refine zt_aload hC rfl dX11_lantern_55 ?_
            refine zt_iload_n hC rfl dX11_lantern_57 ?_
            refine zt_iload hC rfl dX11_lantern_58 ?_
            obtain ⟨hk, h⟩ := ck_some h
            obtain ⟨v14, M15, h16, h⟩ := bnd_some h
            refine zt_callV (z := yX11_begin) (As := [.ref v8, .int x2, .int x4]) (rest := []) (st1 := []) hC 3 hk cl11 (fun l hl => c_X11_begin N x0 v8 x2 x4 M9 (v14, M15) h16 l hl) rfl wd_589 wd_586 wd_588 ws_14 wd_1 hd_X11_begin rfl ⟨⟨(Nat.le_of_ble_eq_true rfl), (Nat.le_of_ble_eq_true rfl)⟩, (Nat.le_of_ble_eq_true rfl), (Nat.le_of_ble_eq_true rfl)⟩ rfl (Nat.le_of_ble_eq_true rfl) rfl dX11_lantern_60 ?_
            refine zt_aload_n hC rfl dX11_lantern_63 ?_
            refine zt_gR hC h cl11 (k := 3) (by decide) rfl wd_230 (Or.inl rfl) dX11_lantern_64 (fun v17 h => ?_)
            refine zt_iload_n hC rfl dX11_lantern_67 ?_
            obtain ⟨hk, h⟩ := ck_some h
            obtain ⟨v18, M19, h20, h⟩ := bnd_some h
            refine zt_callV (z := yX10_pass) (As := [.int x3]) (rest := []) (st1 := []) hC 1 hk cl10 (fun l hl => c_X10_pass N v17 x3 M15 (v18, M19) h20 l hl) rfl wd_441 wd_438 wd_439 wd_440 wd_2 hd_X10_pass rfl ⟨⟨(Nat.le_of_ble_eq_true rfl), (Nat.le_of_ble_eq_true rfl)⟩, (Nat.le_of_ble_eq_true rfl), (Nat.le_of_ble_eq_true rfl)⟩ rfl (Nat.le_of_ble_eq_true rfl) rfl dX11_lantern_68 ?_
            refine zt_aload_n hC rfl dX11_lantern_71 ?_
            refine zt_gR hC h cl11 (k := 3) (by decide) rfl wd_230 (Or.inl rfl) dX11_lantern_72 (fun v21 h => ?_)
            refine zt_gI hC h cl10 (k := 14) (by decide) rfl wd_133 (Or.inl rfl) dX11_lantern_75 (fun v22 h => ?_)
            refine zt_istore (lv' := [(7, .int v22), (6, .ref v8), (0, .ref x0), (1, .int x1), (2, .int x2), (3, .int x3), (4, .int x4), (5, .int x5)]) hC (by decide) rfl dX11_lantern_78 ?_
            refine zt_aload_n hC rfl dX11_lantern_80 ?_
            refine zt_aload hC rfl dX11_lantern_81 ?_
            refine zt_iload_n hC rfl dX11_lantern_83 ?_
            refine zt_iload hC rfl dX11_lantern_84 ?_
            obtain ⟨hk, h⟩ := ck_some h
            obtain ⟨v23, M24, h25, h⟩ := bnd_some h
            refine zt_callV (z := yX11_begin) (As := [.ref v8, .int x2, .int x4]) (rest := []) (st1 := []) hC 3 hk cl11 (fun l hl => c_X11_begin N x0 v8 x2 x4 M19 (v23, M24) h25 l hl) rfl wd_589 wd_586 wd_588 ws_14 wd_1 hd_X11_begin rfl ⟨⟨(Nat.le_of_ble_eq_true rfl), (Nat.le_of_ble_eq_true rfl)⟩, (Nat.le_of_ble_eq_true rfl), (Nat.le_of_ble_eq_true rfl)⟩ rfl (Nat.le_of_ble_eq_true rfl) rfl dX11_lantern_86 ?_
            refine zt_iconst hC ki_0 dX11_lantern_89 ?_
            refine zt_istore (lv' := [(8, .int (0 : Int32)), (7, .int v22), (6, .ref v8), (0, .ref x0), (1, .int x1), (2, .int x2), (3, .int x3), (4, .int x4), (5, .int x5)]) hC (by decide) rfl dX11_lantern_90 ?_
            refine zt_keep [0, 3, 5, 7, 8] rfl ?_
            exact w_X11_lantern_92 N hC N x0 x3 x5 v22 (0 : Int32) M24 h
        · refine zt_ldc hC wd_605 dX11_lantern_30 ?_
          obtain rfl := Option.some.inj h
          exact zt_iret hC rfl rfl (Nat.le_of_ble_eq_true rfl) (Nat.le_of_ble_eq_true rfl) dX11_lantern_32
def rm_X11_price : Room := { frames := 6, cells := 0, slots := 0, locals := 170 }
theorem hd_X11_price : yX11_price.cls ≠ "java/lang/invoke/MethodHandle" ∧ yX11_price.cls ≠ "java/lang/invoke/VarHandle" ∧ (parseMethodDescriptor yX11_price.desc).map (fun d => d.parameters.length) = some 5 := by decide +kernel
def f_X11_price (N : Nat) (x0 : Nat) (x1 : Int32) (x2 : Int32) (x3 : Int32) (x4 : Int32) (x5 : Int32) (M : Mm) : Option (Int32 × Mm) :=
gR 11 M x0 0 (fun v1 =>
ck 10 M v1 (bnd (f_X10_hasSort N v1 x2 M) (fun v2 M3 =>
(if v2 = 0 then
some ((-1000000001 : Int32), M3)
else
bnd (f_X11_isNoSpan N x3 M3) (fun v5 M6 =>
(if v5 = 0 then
(if x5 < 0 then
some ((-1000000001 : Int32), M6)
else
(if x5 ≤ (99 : Int32) then
ck 11 M6 x0 (bnd (f_X11_ruleAt N x0 x1 M6) (fun v8 M9 =>
(onn v8
(ck 11 M9 x0 (bnd (f_X11_refuseRule N x0 x1 M9) (fun v11 M12 =>
some (((-1000000000 : Int32) + v11), M12))))
(fun v8 =>
ck 11 M9 x0 (bnd (f_X11_begin N x0 v8 (0 : Int32) x4 M9) (fun v14 M15 =>
gR 11 M15 x0 3 (fun v17 =>
ck 10 M15 v17 (bnd (f_X10_pass N v17 x3 M15) (fun v18 M19 =>
gR 11 M19 x0 3 (fun v21 =>
gI 10 M19 v21 15 (fun v22 =>
ck 11 M19 x0 (bnd (f_X11_begin N x0 v8 (0 : Int32) x4 M19) (fun v23 M24 =>
gR 11 M24 x0 3 (fun v26 =>
ck 10 M24 v26 (bnd (f_X10_ofSort N v26 x2 (4 : Int32) M24) (fun v27 M28 =>
gR 11 M28 x0 3 (fun v30 =>
ck 10 M28 v30 (bnd (f_X10_changeSort N v30 x2 (4 : Int32) (if (99 : Int32) < (v27 + x5) then (99 : Int32) else (v27 + x5)) M28) (fun v31 M32 =>
gR 11 M32 x0 3 (fun v34 =>
ck 10 M32 v34 (bnd (f_X10_ofSort N v34 x2 (3 : Int32) M32) (fun v35 M36 =>
gR 11 M36 x0 3 (fun v38 =>
ck 10 M36 v38 (bnd (f_X10_changeSort N v38 x2 (3 : Int32) (if (v35 - (x5 / (10 : Int32))) < (1 : Int32) then (1 : Int32) else (v35 - (x5 / (10 : Int32)))) M36) (fun v39 M40 =>
gR 11 M40 x0 3 (fun v42 =>
ck 10 M40 v42 (bnd (f_X10_pass N v42 x3 M40) (fun v43 M44 =>
gR 11 M44 x0 3 (fun v46 =>
gI 10 M44 v46 15 (fun v47 =>
some ((v47 - v22), M44)))))))))))))))))))))))))))))))
else
some ((-1000000001 : Int32), M6)))
else
some ((-1000000001 : Int32), M6)))))))
set_option maxRecDepth 100000 in
set_option maxHeartbeats 4000000 in
theorem c_X11_price (N : Nat) (x0 : Nat) (x1 : Int32) (x2 : Int32) (x3 : Int32) (x4 : Int32) (x5 : Int32) (M : Mm) (r : (Int32 × Mm)) (h : f_X11_price N x0 x1 x2 x3 x4 x5 M = some r) (l : Launch) (hfl : l.flags = flags0) {G : Gl} : MT l G yX11_price cX11_price 10 (some .int) rm_X11_price [.ref x0, .int x1, .int x2, .int x3, .int x4, .int x5] M (some (.int r.1)) r.2 := by
  unfold f_X11_price at h
  refine zt_start hfl (lv := [(0, .ref x0), (1, .int x1), (2, .int x2), (3, .int x3), (4, .int x4), (5, .int x5)]) (by decide) (Nat.le_of_ble_eq_true rfl) rfl wd_695 (fun X hC _ => ?_)
  refine zt_aload_n hC rfl dX11_price_0 ?_
  refine zt_gR hC h cl11 (k := 0) (by decide) rfl wd_227 (Or.inl rfl) dX11_price_1 (fun v1 h => ?_)
  refine zt_iload_n hC rfl dX11_price_4 ?_
  obtain ⟨hk, h⟩ := ck_some h
  obtain ⟨v2, M3, h4, h⟩ := bnd_some h
  refine zt_callV (z := yX10_hasSort) (As := [.int x2]) (rest := []) (st1 := (.int v2 :: [])) hC 1 hk cl10 (fun l hl => c_X10_hasSort N v1 x2 M (v2, M3) h4 l hl) rfl wd_387 wd_384 wd_385 wd_386 wd_2 hd_X10_hasSort rfl ⟨⟨(Nat.le_of_ble_eq_true rfl), (Nat.le_of_ble_eq_true rfl)⟩, (Nat.le_of_ble_eq_true rfl), (Nat.le_of_ble_eq_true rfl)⟩ rfl (Nat.le_of_ble_eq_true rfl) rfl dX11_price_5 ?_
  refine zt_if_eq (tgt := 30) hC h (by decide) dX11_price_8 (fun h => ?_) (fun h => ?_)
  · refine zt_ldc hC wd_605 dX11_price_30 ?_
    obtain rfl := Option.some.inj h
    exact zt_iret hC rfl rfl (Nat.le_of_ble_eq_true rfl) (Nat.le_of_ble_eq_true rfl) dX11_price_32
  · refine zt_iload_n hC rfl dX11_price_11 ?_
    obtain ⟨v5, M6, h7, h⟩ := bnd_some h
    refine zt_callS (z := yX11_isNoSpan) (As := [.int x3]) (rest := []) (st1 := (.int v5 :: [])) hC 1 (fun l hl => c_X11_isNoSpan N x3 M3 (v5, M6) h7 l hl) rfl wd_585 wd_583 wd_584 wd_1 hd_X11_isNoSpan rfl ⟨⟨(Nat.le_of_ble_eq_true rfl), (Nat.le_of_ble_eq_true rfl)⟩, (Nat.le_of_ble_eq_true rfl), (Nat.le_of_ble_eq_true rfl)⟩ rfl (Nat.le_of_ble_eq_true rfl) rfl dX11_price_12 ?_
    refine zt_if_ne (tgt := 30) hC h (by decide) dX11_price_15 (fun h => ?_) (fun h => ?_)
    · refine zt_ldc hC wd_605 dX11_price_30 ?_
      obtain rfl := Option.some.inj h
      exact zt_iret hC rfl rfl (Nat.le_of_ble_eq_true rfl) (Nat.le_of_ble_eq_true rfl) dX11_price_32
    · refine zt_iload hC rfl dX11_price_18 ?_
      refine zt_if_lt (tgt := 30) hC h (by decide) dX11_price_20 (fun h => ?_) (fun h => ?_)
      · refine zt_ldc hC wd_605 dX11_price_30 ?_
        obtain rfl := Option.some.inj h
        exact zt_iret hC rfl rfl (Nat.le_of_ble_eq_true rfl) (Nat.le_of_ble_eq_true rfl) dX11_price_32
      · refine zt_iload hC rfl dX11_price_23 ?_
        refine zt_bipush hC kb_99 dX11_price_25 ?_
        refine zt_icmp_le (tgt := 33) hC h (by decide) dX11_price_27 (fun h => ?_) (fun h => ?_)
        · refine zt_aload_n hC rfl dX11_price_33 ?_
          refine zt_iload_n hC rfl dX11_price_34 ?_
          obtain ⟨hk, h⟩ := ck_some h
          obtain ⟨v8, M9, h10, h⟩ := bnd_some h
          refine zt_callV (z := yX11_ruleAt) (As := [.int x1]) (rest := []) (st1 := (va_rf v8 :: [])) hC 1 hk cl11 (fun l hl => c_X11_ruleAt N x0 x1 M6 (v8, M9) h10 l hl) rfl wd_406 wd_403 wd_405 ws_8 wd_1 hd_X11_ruleAt rfl ⟨⟨(Nat.le_of_ble_eq_true rfl), (Nat.le_of_ble_eq_true rfl)⟩, (Nat.le_of_ble_eq_true rfl), (Nat.le_of_ble_eq_true rfl)⟩ rfl (Nat.le_of_ble_eq_true rfl) rfl dX11_price_35 ?_
          rcases onn_some h with ⟨ew, hw⟩ | ⟨qq, ew, hw⟩
          · clear h
            subst ew
            have h := hw
            clear hw
            refine zt_astoreN (lv' := [(6, .null), (0, .ref x0), (1, .int x1), (2, .int x2), (3, .int x3), (4, .int x4), (5, .int x5)]) hC (by decide) rfl dX11_price_38 ?_
            refine zt_aloadN hC rfl dX11_price_40 ?_
            refine zt_ifnonnullN hC dX11_price_42 ?_
            refine zt_ldc hC wd_606 dX11_price_45 ?_
            refine zt_aload_n hC rfl dX11_price_47 ?_
            refine zt_iload_n hC rfl dX11_price_48 ?_
            obtain ⟨hk, h⟩ := ck_some h
            obtain ⟨v11, M12, h13, h⟩ := bnd_some h
            refine zt_callV (z := yX11_refuseRule) (As := [.int x1]) (rest := [.int (-1000000000 : Int32)]) (st1 := (.int v11 :: [.int (-1000000000 : Int32)])) hC 1 hk cl11 (fun l hl => c_X11_refuseRule N x0 x1 M9 (v11, M12) h13 l hl) rfl wd_410 wd_407 wd_409 ws_9 wd_1 hd_X11_refuseRule rfl ⟨⟨(Nat.le_of_ble_eq_true rfl), (Nat.le_of_ble_eq_true rfl)⟩, (Nat.le_of_ble_eq_true rfl), (Nat.le_of_ble_eq_true rfl)⟩ rfl (Nat.le_of_ble_eq_true rfl) rfl dX11_price_49 ?_
            refine zt_iadd hC dX11_price_52 ?_
            obtain rfl := Option.some.inj h
            exact zt_iret hC rfl rfl (Nat.le_of_ble_eq_true rfl) (Nat.le_of_ble_eq_true rfl) dX11_price_53
          · clear h
            subst ew
            have h := hw
            clear hw
            obtain ⟨v8, ev⟩ : ∃ q, q = qq := ⟨_, rfl⟩
            subst ev
            refine zt_astore (lv' := [(6, .ref v8), (0, .ref x0), (1, .int x1), (2, .int x2), (3, .int x3), (4, .int x4), (5, .int x5)]) hC (by decide) rfl dX11_price_38 ?_
            refine zt_aload hC rfl dX11_price_40 ?_
            refine zt_ifnonnull (tgt := 54) hC (by decide) dX11_price_42 ?_
            refine zt_aload_n hC rfl dX11_price_54 ?_
            refine zt_aload hC rfl dX11_price_55 ?_
            refine zt_iconst hC ki_0 dX11_price_57 ?_
            refine zt_iload hC rfl dX11_price_58 ?_
            obtain ⟨hk, h⟩ := ck_some h
            obtain ⟨v14, M15, h16, h⟩ := bnd_some h
            refine zt_callV (z := yX11_begin) (As := [.ref v8, .int (0 : Int32), .int x4]) (rest := []) (st1 := []) hC 3 hk cl11 (fun l hl => c_X11_begin N x0 v8 (0 : Int32) x4 M9 (v14, M15) h16 l hl) rfl wd_589 wd_586 wd_588 ws_14 wd_1 hd_X11_begin rfl ⟨⟨(Nat.le_of_ble_eq_true rfl), (Nat.le_of_ble_eq_true rfl)⟩, (Nat.le_of_ble_eq_true rfl), (Nat.le_of_ble_eq_true rfl)⟩ rfl (Nat.le_of_ble_eq_true rfl) rfl dX11_price_60 ?_
            refine zt_aload_n hC rfl dX11_price_63 ?_
            refine zt_gR hC h cl11 (k := 3) (by decide) rfl wd_230 (Or.inl rfl) dX11_price_64 (fun v17 h => ?_)
            refine zt_iload_n hC rfl dX11_price_67 ?_
            obtain ⟨hk, h⟩ := ck_some h
            obtain ⟨v18, M19, h20, h⟩ := bnd_some h
            refine zt_callV (z := yX10_pass) (As := [.int x3]) (rest := []) (st1 := []) hC 1 hk cl10 (fun l hl => c_X10_pass N v17 x3 M15 (v18, M19) h20 l hl) rfl wd_441 wd_438 wd_439 wd_440 wd_2 hd_X10_pass rfl ⟨⟨(Nat.le_of_ble_eq_true rfl), (Nat.le_of_ble_eq_true rfl)⟩, (Nat.le_of_ble_eq_true rfl), (Nat.le_of_ble_eq_true rfl)⟩ rfl (Nat.le_of_ble_eq_true rfl) rfl dX11_price_68 ?_
            refine zt_aload_n hC rfl dX11_price_71 ?_
            refine zt_gR hC h cl11 (k := 3) (by decide) rfl wd_230 (Or.inl rfl) dX11_price_72 (fun v21 h => ?_)
            refine zt_gI hC h cl10 (k := 15) (by decide) rfl wd_135 (Or.inl rfl) dX11_price_75 (fun v22 h => ?_)
            refine zt_istore (lv' := [(7, .int v22), (6, .ref v8), (0, .ref x0), (1, .int x1), (2, .int x2), (3, .int x3), (4, .int x4), (5, .int x5)]) hC (by decide) rfl dX11_price_78 ?_
            refine zt_aload_n hC rfl dX11_price_80 ?_
            refine zt_aload hC rfl dX11_price_81 ?_
            refine zt_iconst hC ki_0 dX11_price_83 ?_
            refine zt_iload hC rfl dX11_price_84 ?_
            obtain ⟨hk, h⟩ := ck_some h
            obtain ⟨v23, M24, h25, h⟩ := bnd_some h
            refine zt_callV (z := yX11_begin) (As := [.ref v8, .int (0 : Int32), .int x4]) (rest := []) (st1 := []) hC 3 hk cl11 (fun l hl => c_X11_begin N x0 v8 (0 : Int32) x4 M19 (v23, M24) h25 l hl) rfl wd_589 wd_586 wd_588 ws_14 wd_1 hd_X11_begin rfl ⟨⟨(Nat.le_of_ble_eq_true rfl), (Nat.le_of_ble_eq_true rfl)⟩, (Nat.le_of_ble_eq_true rfl), (Nat.le_of_ble_eq_true rfl)⟩ rfl (Nat.le_of_ble_eq_true rfl) rfl dX11_price_86 ?_
            refine zt_aload_n hC rfl dX11_price_89 ?_
            refine zt_gR hC h cl11 (k := 3) (by decide) rfl wd_230 (Or.inl rfl) dX11_price_90 (fun v26 h => ?_)
            refine zt_iload_n hC rfl dX11_price_93 ?_
            refine zt_iconst hC ki_4 dX11_price_94 ?_
            obtain ⟨hk, h⟩ := ck_some h
            obtain ⟨v27, M28, h29, h⟩ := bnd_some h
            refine zt_callV (z := yX10_ofSort) (As := [.int x2, .int (4 : Int32)]) (rest := []) (st1 := (.int v27 :: [])) hC 2 hk cl10 (fun l hl => c_X10_ofSort N v26 x2 (4 : Int32) M24 (v27, M28) h29 l hl) rfl wd_346 wd_388 wd_344 wd_345 wd_2 hd_X10_ofSort rfl ⟨⟨(Nat.le_of_ble_eq_true rfl), (Nat.le_of_ble_eq_true rfl)⟩, (Nat.le_of_ble_eq_true rfl), (Nat.le_of_ble_eq_true rfl)⟩ rfl (Nat.le_of_ble_eq_true rfl) rfl dX11_price_95 ?_
            refine zt_iload hC rfl dX11_price_98 ?_
            refine zt_iadd hC dX11_price_100 ?_
            refine zt_istore (lv' := [(8, .int (v27 + x5)), (7, .int v22), (6, .ref v8), (0, .ref x0), (1, .int x1), (2, .int x2), (3, .int x3), (4, .int x4), (5, .int x5)]) hC (by decide) rfl dX11_price_101 ?_
            refine zt_aload_n hC rfl dX11_price_103 ?_
            refine zt_gR hC h cl11 (k := 3) (by decide) rfl wd_230 (Or.inl rfl) dX11_price_104 (fun v30 h => ?_)
            refine zt_iload_n hC rfl dX11_price_107 ?_
            refine zt_iconst hC ki_4 dX11_price_108 ?_
            refine zt_iload hC rfl dX11_price_109 ?_
            refine zt_bipush hC kb_99 dX11_price_111 ?_
            refine zt_mmin hC wd_319 wd_320 wd_8 wd_321 (Nat.le_of_ble_eq_true rfl) (Nat.le_of_ble_eq_true rfl) (Nat.le_of_ble_eq_true rfl) (Nat.le_of_ble_eq_true rfl) dX11_price_113 ?_
            obtain ⟨hk, h⟩ := ck_some h
            obtain ⟨v31, M32, h33, h⟩ := bnd_some h
            refine zt_callV (z := yX10_changeSort) (As := [.int x2, .int (4 : Int32), .int (if (99 : Int32) < (v27 + x5) then (99 : Int32) else (v27 + x5))]) (rest := []) (st1 := []) hC 3 hk cl10 (fun l hl => c_X10_changeSort N v30 x2 (4 : Int32) (if (99 : Int32) < (v27 + x5) then (99 : Int32) else (v27 + x5)) M28 (v31, M32) h33 l hl) rfl wd_367 wd_393 wd_365 wd_366 wd_2 hd_X10_changeSort rfl ⟨⟨(Nat.le_of_ble_eq_true rfl), (Nat.le_of_ble_eq_true rfl)⟩, (Nat.le_of_ble_eq_true rfl), (Nat.le_of_ble_eq_true rfl)⟩ rfl (Nat.le_of_ble_eq_true rfl) rfl dX11_price_116 ?_
            refine zt_aload_n hC rfl dX11_price_119 ?_
            refine zt_gR hC h cl11 (k := 3) (by decide) rfl wd_230 (Or.inl rfl) dX11_price_120 (fun v34 h => ?_)
            refine zt_iload_n hC rfl dX11_price_123 ?_
            refine zt_iconst hC ki_3 dX11_price_124 ?_
            obtain ⟨hk, h⟩ := ck_some h
            obtain ⟨v35, M36, h37, h⟩ := bnd_some h
            refine zt_callV (z := yX10_ofSort) (As := [.int x2, .int (3 : Int32)]) (rest := []) (st1 := (.int v35 :: [])) hC 2 hk cl10 (fun l hl => c_X10_ofSort N v34 x2 (3 : Int32) M32 (v35, M36) h37 l hl) rfl wd_346 wd_388 wd_344 wd_345 wd_2 hd_X10_ofSort rfl ⟨⟨(Nat.le_of_ble_eq_true rfl), (Nat.le_of_ble_eq_true rfl)⟩, (Nat.le_of_ble_eq_true rfl), (Nat.le_of_ble_eq_true rfl)⟩ rfl (Nat.le_of_ble_eq_true rfl) rfl dX11_price_125 ?_
            refine zt_iload hC rfl dX11_price_128 ?_
            refine zt_bipush hC kb_10 dX11_price_130 ?_
            refine zt_idivc hC (by decide) dX11_price_132 ?_
            refine zt_isub hC dX11_price_133 ?_
            refine zt_istore (lv' := [(9, .int (v35 - (x5 / (10 : Int32)))), (8, .int (v27 + x5)), (7, .int v22), (6, .ref v8), (0, .ref x0), (1, .int x1), (2, .int x2), (3, .int x3), (4, .int x4), (5, .int x5)]) hC (by decide) rfl dX11_price_134 ?_
            refine zt_aload_n hC rfl dX11_price_136 ?_
            refine zt_gR hC h cl11 (k := 3) (by decide) rfl wd_230 (Or.inl rfl) dX11_price_137 (fun v38 h => ?_)
            refine zt_iload_n hC rfl dX11_price_140 ?_
            refine zt_iconst hC ki_3 dX11_price_141 ?_
            refine zt_iload hC rfl dX11_price_142 ?_
            refine zt_iconst hC ki_1 dX11_price_144 ?_
            refine zt_mmax hC wd_696 wd_467 wd_8 wd_468 (Nat.le_of_ble_eq_true rfl) (Nat.le_of_ble_eq_true rfl) (Nat.le_of_ble_eq_true rfl) (Nat.le_of_ble_eq_true rfl) dX11_price_145 ?_
            obtain ⟨hk, h⟩ := ck_some h
            obtain ⟨v39, M40, h41, h⟩ := bnd_some h
            refine zt_callV (z := yX10_changeSort) (As := [.int x2, .int (3 : Int32), .int (if (v35 - (x5 / (10 : Int32))) < (1 : Int32) then (1 : Int32) else (v35 - (x5 / (10 : Int32))))]) (rest := []) (st1 := []) hC 3 hk cl10 (fun l hl => c_X10_changeSort N v38 x2 (3 : Int32) (if (v35 - (x5 / (10 : Int32))) < (1 : Int32) then (1 : Int32) else (v35 - (x5 / (10 : Int32)))) M36 (v39, M40) h41 l hl) rfl wd_367 wd_393 wd_365 wd_366 wd_2 hd_X10_changeSort rfl ⟨⟨(Nat.le_of_ble_eq_true rfl), (Nat.le_of_ble_eq_true rfl)⟩, (Nat.le_of_ble_eq_true rfl), (Nat.le_of_ble_eq_true rfl)⟩ rfl (Nat.le_of_ble_eq_true rfl) rfl dX11_price_148 ?_
            refine zt_aload_n hC rfl dX11_price_151 ?_
            refine zt_gR hC h cl11 (k := 3) (by decide) rfl wd_230 (Or.inl rfl) dX11_price_152 (fun v42 h => ?_)
            refine zt_iload_n hC rfl dX11_price_155 ?_
            obtain ⟨hk, h⟩ := ck_some h
            obtain ⟨v43, M44, h45, h⟩ := bnd_some h
            refine zt_callV (z := yX10_pass) (As := [.int x3]) (rest := []) (st1 := []) hC 1 hk cl10 (fun l hl => c_X10_pass N v42 x3 M40 (v43, M44) h45 l hl) rfl wd_441 wd_438 wd_439 wd_440 wd_2 hd_X10_pass rfl ⟨⟨(Nat.le_of_ble_eq_true rfl), (Nat.le_of_ble_eq_true rfl)⟩, (Nat.le_of_ble_eq_true rfl), (Nat.le_of_ble_eq_true rfl)⟩ rfl (Nat.le_of_ble_eq_true rfl) rfl dX11_price_156 ?_
            refine zt_aload_n hC rfl dX11_price_159 ?_
            refine zt_gR hC h cl11 (k := 3) (by decide) rfl wd_230 (Or.inl rfl) dX11_price_160 (fun v46 h => ?_)
            refine zt_gI hC h cl10 (k := 15) (by decide) rfl wd_135 (Or.inl rfl) dX11_price_163 (fun v47 h => ?_)
            refine zt_iload hC rfl dX11_price_166 ?_
            refine zt_isub hC dX11_price_168 ?_
            obtain rfl := Option.some.inj h
            exact zt_iret hC rfl rfl (Nat.le_of_ble_eq_true rfl) (Nat.le_of_ble_eq_true rfl) dX11_price_169
        · refine zt_ldc hC wd_605 dX11_price_30 ?_
          obtain rfl := Option.some.inj h
          exact zt_iret hC rfl rfl (Nat.le_of_ble_eq_true rfl) (Nat.le_of_ble_eq_true rfl) dX11_price_32
def rm_X11_son : Room := { frames := 6, cells := 0, slots := 0, locals := 170 }
theorem hd_X11_son : yX11_son.cls ≠ "java/lang/invoke/MethodHandle" ∧ yX11_son.cls ≠ "java/lang/invoke/VarHandle" ∧ (parseMethodDescriptor yX11_son.desc).map (fun d => d.parameters.length) = some 5 := by decide +kernel
def f_X11_son (N : Nat) (x0 : Nat) (x1 : Int32) (x2 : Int32) (x3 : Int32) (x4 : Int32) (x5 : Int32) (M : Mm) : Option (Int32 × Mm) :=
gR 11 M x0 0 (fun v1 =>
ck 10 M v1 (bnd (f_X10_hasLanding N v1 x2 M) (fun v2 M3 =>
(if v2 = 0 then
some ((-1000000001 : Int32), M3)
else
gR 11 M3 x0 0 (fun v5 =>
ck 10 M3 v5 (bnd (f_X10_hasLanding N v5 x3 M3) (fun v6 M7 =>
(if v6 = 0 then
some ((-1000000001 : Int32), M7)
else
(if x2 = x3 then
some ((-1000000001 : Int32), M7)
else
bnd (f_X11_isNoSpan N x4 M7) (fun v9 M10 =>
(if v9 = 0 then
ck 11 M10 x0 (bnd (f_X11_ruleAt N x0 x1 M10) (fun v12 M13 =>
(onn v12
(ck 11 M13 x0 (bnd (f_X11_refuseRule N x0 x1 M13) (fun v15 M16 =>
some (((-1000000000 : Int32) + v15), M16))))
(fun v12 =>
ck 11 M13 x0 (bnd (f_X11_begin N x0 v12 x2 x5 M13) (fun v18 M19 =>
gR 11 M19 x0 3 (fun v21 =>
ck 10 M19 v21 (bnd (f_X10_pass N v21 x4 M19) (fun v22 M23 =>
gR 11 M23 x0 3 (fun v25 =>
gI 10 M23 v25 13 (fun v26 =>
ck 11 M23 x0 (bnd (f_X11_begin N x0 v12 x2 x5 M23) (fun v27 M28 =>
gR 11 M28 x0 3 (fun v30 =>
pZ 10 M28 v30 9 (1 : Int32) (fun M31 =>
gR 11 M31 x0 3 (fun v32 =>
gR 10 M31 v32 8 (fun v33 =>
ck 1 M31 v33 (bnd (f_X1_begin N v33 v12 x3 M31) (fun v34 M35 =>
gR 11 M35 x0 3 (fun v37 =>
ck 10 M35 v37 (bnd (f_X10_pass N v37 x4 M35) (fun v38 M39 =>
gR 11 M39 x0 3 (fun v41 =>
gI 10 M39 v41 13 (fun v42 =>
some ((v26 - v42), M39)))))))))))))))))))))))))
else
some ((-1000000001 : Int32), M10))))))))))))
set_option maxRecDepth 100000 in
set_option maxHeartbeats 4000000 in
theorem c_X11_son (N : Nat) (x0 : Nat) (x1 : Int32) (x2 : Int32) (x3 : Int32) (x4 : Int32) (x5 : Int32) (M : Mm) (r : (Int32 × Mm)) (h : f_X11_son N x0 x1 x2 x3 x4 x5 M = some r) (l : Launch) (hfl : l.flags = flags0) {G : Gl} : MT l G yX11_son cX11_son 8 (some .int) rm_X11_son [.ref x0, .int x1, .int x2, .int x3, .int x4, .int x5] M (some (.int r.1)) r.2 := by
  unfold f_X11_son at h
  refine zt_start hfl (lv := [(0, .ref x0), (1, .int x1), (2, .int x2), (3, .int x3), (4, .int x4), (5, .int x5)]) (by decide) (Nat.le_of_ble_eq_true rfl) rfl wd_700 (fun X hC _ => ?_)
  refine zt_aload_n hC rfl dX11_son_0 ?_
  refine zt_gR hC h cl11 (k := 0) (by decide) rfl wd_227 (Or.inl rfl) dX11_son_1 (fun v1 h => ?_)
  refine zt_iload_n hC rfl dX11_son_4 ?_
  obtain ⟨hk, h⟩ := ck_some h
  obtain ⟨v2, M3, h4, h⟩ := bnd_some h
  refine zt_callV (z := yX10_hasLanding) (As := [.int x2]) (rest := []) (st1 := (.int v2 :: [])) hC 1 hk cl10 (fun l hl => c_X10_hasLanding N v1 x2 M (v2, M3) h4 l hl) rfl wd_358 wd_372 wd_356 wd_357 wd_2 hd_X10_hasLanding rfl ⟨⟨(Nat.le_of_ble_eq_true rfl), (Nat.le_of_ble_eq_true rfl)⟩, (Nat.le_of_ble_eq_true rfl), (Nat.le_of_ble_eq_true rfl)⟩ rfl (Nat.le_of_ble_eq_true rfl) rfl dX11_son_5 ?_
  refine zt_if_eq (tgt := 35) hC h (by decide) dX11_son_8 (fun h => ?_) (fun h => ?_)
  · refine zt_ldc hC wd_605 dX11_son_35 ?_
    obtain rfl := Option.some.inj h
    exact zt_iret hC rfl rfl (Nat.le_of_ble_eq_true rfl) (Nat.le_of_ble_eq_true rfl) dX11_son_37
  · refine zt_aload_n hC rfl dX11_son_11 ?_
    refine zt_gR hC h cl11 (k := 0) (by decide) rfl wd_227 (Or.inl rfl) dX11_son_12 (fun v5 h => ?_)
    refine zt_iload_n hC rfl dX11_son_15 ?_
    obtain ⟨hk, h⟩ := ck_some h
    obtain ⟨v6, M7, h8, h⟩ := bnd_some h
    refine zt_callV (z := yX10_hasLanding) (As := [.int x3]) (rest := []) (st1 := (.int v6 :: [])) hC 1 hk cl10 (fun l hl => c_X10_hasLanding N v5 x3 M3 (v6, M7) h8 l hl) rfl wd_358 wd_372 wd_356 wd_357 wd_2 hd_X10_hasLanding rfl ⟨⟨(Nat.le_of_ble_eq_true rfl), (Nat.le_of_ble_eq_true rfl)⟩, (Nat.le_of_ble_eq_true rfl), (Nat.le_of_ble_eq_true rfl)⟩ rfl (Nat.le_of_ble_eq_true rfl) rfl dX11_son_16 ?_
    refine zt_if_eq (tgt := 35) hC h (by decide) dX11_son_19 (fun h => ?_) (fun h => ?_)
    · refine zt_ldc hC wd_605 dX11_son_35 ?_
      obtain rfl := Option.some.inj h
      exact zt_iret hC rfl rfl (Nat.le_of_ble_eq_true rfl) (Nat.le_of_ble_eq_true rfl) dX11_son_37
    · refine zt_iload_n hC rfl dX11_son_22 ?_
      refine zt_iload_n hC rfl dX11_son_23 ?_
      refine zt_icmp_eq (tgt := 35) hC h (by decide) dX11_son_24 (fun h => ?_) (fun h => ?_)
      · refine zt_ldc hC wd_605 dX11_son_35 ?_
        obtain rfl := Option.some.inj h
        exact zt_iret hC rfl rfl (Nat.le_of_ble_eq_true rfl) (Nat.le_of_ble_eq_true rfl) dX11_son_37
      · refine zt_iload hC rfl dX11_son_27 ?_
        obtain ⟨v9, M10, h11, h⟩ := bnd_some h
        refine zt_callS (z := yX11_isNoSpan) (As := [.int x4]) (rest := []) (st1 := (.int v9 :: [])) hC 1 (fun l hl => c_X11_isNoSpan N x4 M7 (v9, M10) h11 l hl) rfl wd_585 wd_583 wd_584 wd_1 hd_X11_isNoSpan rfl ⟨⟨(Nat.le_of_ble_eq_true rfl), (Nat.le_of_ble_eq_true rfl)⟩, (Nat.le_of_ble_eq_true rfl), (Nat.le_of_ble_eq_true rfl)⟩ rfl (Nat.le_of_ble_eq_true rfl) rfl dX11_son_29 ?_
        refine zt_if_eq (tgt := 38) hC h (by decide) dX11_son_32 (fun h => ?_) (fun h => ?_)
        · refine zt_aload_n hC rfl dX11_son_38 ?_
          refine zt_iload_n hC rfl dX11_son_39 ?_
          obtain ⟨hk, h⟩ := ck_some h
          obtain ⟨v12, M13, h14, h⟩ := bnd_some h
          refine zt_callV (z := yX11_ruleAt) (As := [.int x1]) (rest := []) (st1 := (va_rf v12 :: [])) hC 1 hk cl11 (fun l hl => c_X11_ruleAt N x0 x1 M10 (v12, M13) h14 l hl) rfl wd_406 wd_403 wd_405 ws_8 wd_1 hd_X11_ruleAt rfl ⟨⟨(Nat.le_of_ble_eq_true rfl), (Nat.le_of_ble_eq_true rfl)⟩, (Nat.le_of_ble_eq_true rfl), (Nat.le_of_ble_eq_true rfl)⟩ rfl (Nat.le_of_ble_eq_true rfl) rfl dX11_son_40 ?_
          rcases onn_some h with ⟨ew, hw⟩ | ⟨qq, ew, hw⟩
          · clear h
            subst ew
            have h := hw
            clear hw
            refine zt_astoreN (lv' := [(6, .null), (0, .ref x0), (1, .int x1), (2, .int x2), (3, .int x3), (4, .int x4), (5, .int x5)]) hC (by decide) rfl dX11_son_43 ?_
            refine zt_aloadN hC rfl dX11_son_45 ?_
            refine zt_ifnonnullN hC dX11_son_47 ?_
            refine zt_ldc hC wd_606 dX11_son_50 ?_
            refine zt_aload_n hC rfl dX11_son_52 ?_
            refine zt_iload_n hC rfl dX11_son_53 ?_
            obtain ⟨hk, h⟩ := ck_some h
            obtain ⟨v15, M16, h17, h⟩ := bnd_some h
            refine zt_callV (z := yX11_refuseRule) (As := [.int x1]) (rest := [.int (-1000000000 : Int32)]) (st1 := (.int v15 :: [.int (-1000000000 : Int32)])) hC 1 hk cl11 (fun l hl => c_X11_refuseRule N x0 x1 M13 (v15, M16) h17 l hl) rfl wd_410 wd_407 wd_409 ws_9 wd_1 hd_X11_refuseRule rfl ⟨⟨(Nat.le_of_ble_eq_true rfl), (Nat.le_of_ble_eq_true rfl)⟩, (Nat.le_of_ble_eq_true rfl), (Nat.le_of_ble_eq_true rfl)⟩ rfl (Nat.le_of_ble_eq_true rfl) rfl dX11_son_54 ?_
            refine zt_iadd hC dX11_son_57 ?_
            obtain rfl := Option.some.inj h
            exact zt_iret hC rfl rfl (Nat.le_of_ble_eq_true rfl) (Nat.le_of_ble_eq_true rfl) dX11_son_58
          · clear h
            subst ew
            have h := hw
            clear hw
            obtain ⟨v12, ev⟩ : ∃ q, q = qq := ⟨_, rfl⟩
            subst ev
            refine zt_astore (lv' := [(6, .ref v12), (0, .ref x0), (1, .int x1), (2, .int x2), (3, .int x3), (4, .int x4), (5, .int x5)]) hC (by decide) rfl dX11_son_43 ?_
            refine zt_aload hC rfl dX11_son_45 ?_
            refine zt_ifnonnull (tgt := 59) hC (by decide) dX11_son_47 ?_
            refine zt_aload_n hC rfl dX11_son_59 ?_
            refine zt_aload hC rfl dX11_son_60 ?_
            refine zt_iload_n hC rfl dX11_son_62 ?_
            refine zt_iload hC rfl dX11_son_63 ?_
            obtain ⟨hk, h⟩ := ck_some h
            obtain ⟨v18, M19, h20, h⟩ := bnd_some h
            refine zt_callV (z := yX11_begin) (As := [.ref v12, .int x2, .int x5]) (rest := []) (st1 := []) hC 3 hk cl11 (fun l hl => c_X11_begin N x0 v12 x2 x5 M13 (v18, M19) h20 l hl) rfl wd_589 wd_586 wd_588 ws_14 wd_1 hd_X11_begin rfl ⟨⟨(Nat.le_of_ble_eq_true rfl), (Nat.le_of_ble_eq_true rfl)⟩, (Nat.le_of_ble_eq_true rfl), (Nat.le_of_ble_eq_true rfl)⟩ rfl (Nat.le_of_ble_eq_true rfl) rfl dX11_son_65 ?_
            refine zt_aload_n hC rfl dX11_son_68 ?_
            refine zt_gR hC h cl11 (k := 3) (by decide) rfl wd_230 (Or.inl rfl) dX11_son_69 (fun v21 h => ?_)
            refine zt_iload hC rfl dX11_son_72 ?_
            obtain ⟨hk, h⟩ := ck_some h
            obtain ⟨v22, M23, h24, h⟩ := bnd_some h
            refine zt_callV (z := yX10_pass) (As := [.int x4]) (rest := []) (st1 := []) hC 1 hk cl10 (fun l hl => c_X10_pass N v21 x4 M19 (v22, M23) h24 l hl) rfl wd_441 wd_438 wd_439 wd_440 wd_2 hd_X10_pass rfl ⟨⟨(Nat.le_of_ble_eq_true rfl), (Nat.le_of_ble_eq_true rfl)⟩, (Nat.le_of_ble_eq_true rfl), (Nat.le_of_ble_eq_true rfl)⟩ rfl (Nat.le_of_ble_eq_true rfl) rfl dX11_son_74 ?_
            refine zt_aload_n hC rfl dX11_son_77 ?_
            refine zt_gR hC h cl11 (k := 3) (by decide) rfl wd_230 (Or.inl rfl) dX11_son_78 (fun v25 h => ?_)
            refine zt_gI hC h cl10 (k := 13) (by decide) rfl wd_131 (Or.inl rfl) dX11_son_81 (fun v26 h => ?_)
            refine zt_istore (lv' := [(7, .int v26), (6, .ref v12), (0, .ref x0), (1, .int x1), (2, .int x2), (3, .int x3), (4, .int x4), (5, .int x5)]) hC (by decide) rfl dX11_son_84 ?_
            refine zt_aload_n hC rfl dX11_son_86 ?_
            refine zt_aload hC rfl dX11_son_87 ?_
            refine zt_iload_n hC rfl dX11_son_89 ?_
            refine zt_iload hC rfl dX11_son_90 ?_
            obtain ⟨hk, h⟩ := ck_some h
            obtain ⟨v27, M28, h29, h⟩ := bnd_some h
            refine zt_callV (z := yX11_begin) (As := [.ref v12, .int x2, .int x5]) (rest := []) (st1 := []) hC 3 hk cl11 (fun l hl => c_X11_begin N x0 v12 x2 x5 M23 (v27, M28) h29 l hl) rfl wd_589 wd_586 wd_588 ws_14 wd_1 hd_X11_begin rfl ⟨⟨(Nat.le_of_ble_eq_true rfl), (Nat.le_of_ble_eq_true rfl)⟩, (Nat.le_of_ble_eq_true rfl), (Nat.le_of_ble_eq_true rfl)⟩ rfl (Nat.le_of_ble_eq_true rfl) rfl dX11_son_92 ?_
            refine zt_aload_n hC rfl dX11_son_95 ?_
            refine zt_gR hC h cl11 (k := 3) (by decide) rfl wd_230 (Or.inl rfl) dX11_son_96 (fun v30 h => ?_)
            refine zt_iconst hC ki_1 dX11_son_99 ?_
            refine zt_pZ hC h cl10 (k := 9) (by decide) rfl wd_126 (Or.inl rfl) (Or.inl rfl) dX11_son_100 (fun M31 h => ?_)
            refine zt_aload_n hC rfl dX11_son_103 ?_
            refine zt_gR hC h cl11 (k := 3) (by decide) rfl wd_230 (Or.inl rfl) dX11_son_104 (fun v32 h => ?_)
            refine zt_gR hC h cl10 (k := 8) (by decide) rfl wd_124 (Or.inl rfl) dX11_son_107 (fun v33 h => ?_)
            refine zt_aload hC rfl dX11_son_110 ?_
            refine zt_iload_n hC rfl dX11_son_112 ?_
            obtain ⟨hk, h⟩ := ck_some h
            obtain ⟨v34, M35, h36, h⟩ := bnd_some h
            refine zt_callV (z := yX1_begin) (As := [.ref v12, .int x3]) (rest := []) (st1 := []) hC 2 hk cl1 (fun l hl => c_X1_begin N v33 v12 x3 M31 (v34, M35) h36 l hl) rfl wd_597 wd_701 wd_595 wd_596 wd_3 hd_X1_begin rfl ⟨⟨(Nat.le_of_ble_eq_true rfl), (Nat.le_of_ble_eq_true rfl)⟩, (Nat.le_of_ble_eq_true rfl), (Nat.le_of_ble_eq_true rfl)⟩ rfl (Nat.le_of_ble_eq_true rfl) rfl dX11_son_113 ?_
            refine zt_aload_n hC rfl dX11_son_116 ?_
            refine zt_gR hC h cl11 (k := 3) (by decide) rfl wd_230 (Or.inl rfl) dX11_son_117 (fun v37 h => ?_)
            refine zt_iload hC rfl dX11_son_120 ?_
            obtain ⟨hk, h⟩ := ck_some h
            obtain ⟨v38, M39, h40, h⟩ := bnd_some h
            refine zt_callV (z := yX10_pass) (As := [.int x4]) (rest := []) (st1 := []) hC 1 hk cl10 (fun l hl => c_X10_pass N v37 x4 M35 (v38, M39) h40 l hl) rfl wd_441 wd_438 wd_439 wd_440 wd_2 hd_X10_pass rfl ⟨⟨(Nat.le_of_ble_eq_true rfl), (Nat.le_of_ble_eq_true rfl)⟩, (Nat.le_of_ble_eq_true rfl), (Nat.le_of_ble_eq_true rfl)⟩ rfl (Nat.le_of_ble_eq_true rfl) rfl dX11_son_122 ?_
            refine zt_iload hC rfl dX11_son_125 ?_
            refine zt_aload_n hC rfl dX11_son_127 ?_
            refine zt_gR hC h cl11 (k := 3) (by decide) rfl wd_230 (Or.inl rfl) dX11_son_128 (fun v41 h => ?_)
            refine zt_gI hC h cl10 (k := 13) (by decide) rfl wd_131 (Or.inl rfl) dX11_son_131 (fun v42 h => ?_)
            refine zt_isub hC dX11_son_134 ?_
            obtain rfl := Option.some.inj h
            exact zt_iret hC rfl rfl (Nat.le_of_ble_eq_true rfl) (Nat.le_of_ble_eq_true rfl) dX11_son_135
        · refine zt_ldc hC wd_605 dX11_son_35 ?_
          obtain rfl := Option.some.inj h
          exact zt_iret hC rfl rfl (Nat.le_of_ble_eq_true rfl) (Nat.le_of_ble_eq_true rfl) dX11_son_37
def rm_X11_goings : Room := { frames := 5, cells := 0, slots := 0, locals := 143 }
theorem hd_X11_goings : yX11_goings.cls ≠ "java/lang/invoke/MethodHandle" ∧ yX11_goings.cls ≠ "java/lang/invoke/VarHandle" ∧ (parseMethodDescriptor yX11_goings.desc).map (fun d => d.parameters.length) = some 2 := by decide +kernel
def j_X11_goings_120 (N : Nat) (k40 : Nat → Int32 → Int32 → Int32 → Int32 → Mm → Option (Int32 × Mm)) (x0 : Nat) (x2 : Int32) (x3 : Int32) (x4 : Int32) (x5 : Int32) (M : Mm) : Option (Int32 × Mm) :=
gR 11 M x0 3 (fun v1 =>
ck 10 M v1 (bnd (f_X10_close N v1 M) (fun v2 M3 =>
k40 x0 x2 x3 x4 (x5 + (1 : Int32)) M3)))
set_option maxRecDepth 100000 in
set_option maxHeartbeats 4000000 in
theorem w_X11_goings_120 {X : Cx} {G : Gl} {r : (Int32 × Mm)} (N : Nat) (hC : CX X G yX11_goings cX11_goings 6 (some .int) rm_X11_goings) (k40 : Nat → Int32 → Int32 → Int32 → Int32 → Mm → Option (Int32 × Mm)) (hk40 : ∀ (x0 : Nat) (x2 : Int32) (x3 : Int32) (x4 : Int32) (x5 : Int32) (M : Mm), k40 x0 x2 x3 x4 x5 M = some r → TW X G 6 (RQ X G (some (.int r.1)) r.2 rm_X11_goings) 0 0 M 40 [(0, .ref x0), (2, .int x2), (3, .int x3), (4, .int x4), (5, .int x5)] []) (x0 : Nat) (x2 : Int32) (x3 : Int32) (x4 : Int32) (x5 : Int32) (M : Mm) (h : j_X11_goings_120 N k40 x0 x2 x3 x4 x5 M = some r) : TW X G 6 (RQ X G (some (.int r.1)) r.2 rm_X11_goings) 0 0 M 120 [(0, .ref x0), (2, .int x2), (3, .int x3), (4, .int x4), (5, .int x5)] [] := by
  unfold j_X11_goings_120 at h
  refine zt_aload_n hC rfl dX11_goings_120 ?_
  refine zt_gR hC h cl11 (k := 3) (by decide) rfl wd_230 (Or.inl rfl) dX11_goings_121 (fun v1 h => ?_)
  obtain ⟨hk, h⟩ := ck_some h
  obtain ⟨v2, M3, h4, h⟩ := bnd_some h
  refine zt_callV (z := yX10_close) (As := []) (rest := []) (st1 := []) hC 0 hk cl10 (fun l hl => c_X10_close N v1 M (v2, M3) h4 l hl) rfl wd_542 wd_708 wd_540 wd_541 wd_2 hd_X10_close rfl ⟨⟨(Nat.le_of_ble_eq_true rfl), (Nat.le_of_ble_eq_true rfl)⟩, (Nat.le_of_ble_eq_true rfl), (Nat.le_of_ble_eq_true rfl)⟩ rfl (Nat.le_of_ble_eq_true rfl) rfl dX11_goings_124 ?_
  refine zt_iinc (v := (x5 + (1 : Int32))) (lv' := [(5, .int (x5 + (1 : Int32))), (0, .ref x0), (2, .int x2), (3, .int x3), (4, .int x4)]) hC rfl (by rw [ki_1]) (by decide) rfl dX11_goings_127 ?_
  refine zt_goto (tgt := 40) hC (by decide) dX11_goings_130 ?_
  refine zt_keep [0, 2, 3, 4, 5] rfl ?_
  exact hk40 x0 x2 x3 x4 (x5 + (1 : Int32)) M3 h
def j_X11_goings_106 (N : Nat) (k40 : Nat → Int32 → Int32 → Int32 → Int32 → Mm → Option (Int32 × Mm)) (x0 : Nat) (x2 : Int32) (x3 : Int32) (x4 : Int32) (x5 : Int32) (M : Mm) : Option (Int32 × Mm) :=
gR 11 M x0 3 (fun v1 =>
gR 11 M x0 3 (fun v2 =>
gR 10 M v2 7 (fun v3 =>
ck 10 M v1 (bnd (f_X10_ask N v1 v3 M) (fun v4 M5 =>
j_X11_goings_120 N k40 x0 x2 x3 x4 x5 M5)))))
set_option maxRecDepth 100000 in
set_option maxHeartbeats 4000000 in
theorem w_X11_goings_106 {X : Cx} {G : Gl} {r : (Int32 × Mm)} (N : Nat) (hC : CX X G yX11_goings cX11_goings 6 (some .int) rm_X11_goings) (k40 : Nat → Int32 → Int32 → Int32 → Int32 → Mm → Option (Int32 × Mm)) (hk40 : ∀ (x0 : Nat) (x2 : Int32) (x3 : Int32) (x4 : Int32) (x5 : Int32) (M : Mm), k40 x0 x2 x3 x4 x5 M = some r → TW X G 6 (RQ X G (some (.int r.1)) r.2 rm_X11_goings) 0 0 M 40 [(0, .ref x0), (2, .int x2), (3, .int x3), (4, .int x4), (5, .int x5)] []) (x0 : Nat) (x2 : Int32) (x3 : Int32) (x4 : Int32) (x5 : Int32) (M : Mm) (h : j_X11_goings_106 N k40 x0 x2 x3 x4 x5 M = some r) : TW X G 6 (RQ X G (some (.int r.1)) r.2 rm_X11_goings) 0 0 M 106 [(0, .ref x0), (2, .int x2), (3, .int x3), (4, .int x4), (5, .int x5)] [] := by
  unfold j_X11_goings_106 at h
  refine zt_aload_n hC rfl dX11_goings_106 ?_
  refine zt_gR hC h cl11 (k := 3) (by decide) rfl wd_230 (Or.inl rfl) dX11_goings_107 (fun v1 h => ?_)
  refine zt_aload_n hC rfl dX11_goings_110 ?_
  refine zt_gR hC h cl11 (k := 3) (by decide) rfl wd_230 (Or.inl rfl) dX11_goings_111 (fun v2 h => ?_)
  refine zt_gR hC h cl10 (k := 7) (by decide) rfl wd_122 (Or.inl rfl) dX11_goings_114 (fun v3 h => ?_)
  obtain ⟨hk, h⟩ := ck_some h
  obtain ⟨v4, M5, h6, h⟩ := bnd_some h
  refine zt_callV (z := yX10_ask) (As := [.ref v3]) (rest := []) (st1 := []) hC 1 hk cl10 (fun l hl => c_X10_ask N v1 v3 M (v4, M5) h6 l hl) rfl wd_472 wd_707 wd_470 wd_471 wd_2 hd_X10_ask rfl ⟨⟨(Nat.le_of_ble_eq_true rfl), (Nat.le_of_ble_eq_true rfl)⟩, (Nat.le_of_ble_eq_true rfl), (Nat.le_of_ble_eq_true rfl)⟩ rfl (Nat.le_of_ble_eq_true rfl) rfl dX11_goings_117 ?_
  refine zt_keep [0, 2, 3, 4, 5] rfl ?_
  exact w_X11_goings_120 N hC k40 hk40 x0 x2 x3 x4 x5 M5 h
def b_X11_goings_40 (N : Nat) (k40 : Nat → Int32 → Int32 → Int32 → Int32 → Mm → Option (Int32 × Mm)) (x0 : Nat) (x2 : Int32) (x3 : Int32) (x4 : Int32) (x5 : Int32) (M : Mm) : Option (Int32 × Mm) :=
(if x2 ≤ x5 then
gR 11 M x0 3 (fun v1 =>
ck 10 M v1 (bnd (f_X10_gain N v1 M) (fun v2 M3 =>
gR 11 M3 x0 0 (fun v5 =>
ck 10 M3 v5 (bnd (f_X10_gain N v5 M3) (fun v6 M7 =>
some ((v2 - v6), M7)))))))
else
gR 11 M x0 3 (fun v9 =>
ck 10 M v9 (bnd (f_X10_bring N v9 M) (fun v10 M11 =>
gR 11 M11 x0 3 (fun v13 =>
gR 10 M11 v13 7 (fun v14 =>
gI 1 M11 v14 1 (fun v15 =>
(if v15 = 0 then
(if (625 : Int32) ≤ x4 then
j_X11_goings_106 N k40 x0 x2 x3 x4 x5 M11
else
gR 11 M11 x0 3 (fun v16 =>
gR 11 M11 x0 3 (fun v17 =>
gR 10 M11 v17 7 (fun v18 =>
ck 10 M11 v16 (bnd (f_X10_send N v16 v18 ((x3 - x3 / (5 : Int32) * (5 : Int32)) - (1 : Int32)) M11) (fun v19 M20 =>
j_X11_goings_120 N k40 x0 x2 (x3 / (5 : Int32)) (x4 * (5 : Int32)) x5 M20))))))
else
j_X11_goings_106 N k40 x0 x2 x3 x4 x5 M11))))))))
def l_X11_goings_40 (N : Nat) : Nat → Nat → Int32 → Int32 → Int32 → Int32 → Mm → Option (Int32 × Mm)
  | 0 => fun _ _ _ _ _ _ => none
  | n + 1 => b_X11_goings_40 N (l_X11_goings_40 N n)
set_option maxRecDepth 100000 in
set_option maxHeartbeats 4000000 in
theorem v_X11_goings_40 {X : Cx} {G : Gl} {r : (Int32 × Mm)} (N : Nat) (hC : CX X G yX11_goings cX11_goings 6 (some .int) rm_X11_goings) (k40 : Nat → Int32 → Int32 → Int32 → Int32 → Mm → Option (Int32 × Mm)) (hk40 : ∀ (x0 : Nat) (x2 : Int32) (x3 : Int32) (x4 : Int32) (x5 : Int32) (M : Mm), k40 x0 x2 x3 x4 x5 M = some r → TW X G 6 (RQ X G (some (.int r.1)) r.2 rm_X11_goings) 0 0 M 40 [(0, .ref x0), (2, .int x2), (3, .int x3), (4, .int x4), (5, .int x5)] []) (x0 : Nat) (x2 : Int32) (x3 : Int32) (x4 : Int32) (x5 : Int32) (M : Mm) (h : b_X11_goings_40 N k40 x0 x2 x3 x4 x5 M = some r) : TW X G 6 (RQ X G (some (.int r.1)) r.2 rm_X11_goings) 0 0 M 40 [(0, .ref x0), (2, .int x2), (3, .int x3), (4, .int x4), (5, .int x5)] [] := by
  unfold b_X11_goings_40 at h
  refine zt_iload hC rfl dX11_goings_40 ?_
  refine zt_iload_n hC rfl dX11_goings_42 ?_
  refine zt_icmp_ge (tgt := 133) hC h (by decide) dX11_goings_43 (fun h => ?_) (fun h => ?_)
  · refine zt_aload_n hC rfl dX11_goings_133 ?_
    refine zt_gR hC h cl11 (k := 3) (by decide) rfl wd_230 (Or.inl rfl) dX11_goings_134 (fun v1 h => ?_)
    obtain ⟨hk, h⟩ := ck_some h
    obtain ⟨v2, M3, h4, h⟩ := bnd_some h
    refine zt_callV (z := yX10_gain) (As := []) (rest := []) (st1 := (.int v2 :: [])) hC 0 hk cl10 (fun l hl => c_X10_gain N v1 M (v2, M3) h4 l hl) rfl wd_614 wd_611 wd_612 wd_613 wd_2 hd_X10_gain rfl ⟨⟨(Nat.le_of_ble_eq_true rfl), (Nat.le_of_ble_eq_true rfl)⟩, (Nat.le_of_ble_eq_true rfl), (Nat.le_of_ble_eq_true rfl)⟩ rfl (Nat.le_of_ble_eq_true rfl) rfl dX11_goings_137 ?_
    refine zt_aload_n hC rfl dX11_goings_140 ?_
    refine zt_gR hC h cl11 (k := 0) (by decide) rfl wd_227 (Or.inl rfl) dX11_goings_141 (fun v5 h => ?_)
    obtain ⟨hk, h⟩ := ck_some h
    obtain ⟨v6, M7, h8, h⟩ := bnd_some h
    refine zt_callV (z := yX10_gain) (As := []) (rest := [.int v2]) (st1 := (.int v6 :: [.int v2])) hC 0 hk cl10 (fun l hl => c_X10_gain N v5 M3 (v6, M7) h8 l hl) rfl wd_614 wd_611 wd_612 wd_613 wd_2 hd_X10_gain rfl ⟨⟨(Nat.le_of_ble_eq_true rfl), (Nat.le_of_ble_eq_true rfl)⟩, (Nat.le_of_ble_eq_true rfl), (Nat.le_of_ble_eq_true rfl)⟩ rfl (Nat.le_of_ble_eq_true rfl) rfl dX11_goings_144 ?_
    refine zt_isub hC dX11_goings_147 ?_
    obtain rfl := Option.some.inj h
    exact zt_iret hC rfl rfl (Nat.le_of_ble_eq_true rfl) (Nat.le_of_ble_eq_true rfl) dX11_goings_148
  · refine zt_aload_n hC rfl dX11_goings_46 ?_
    refine zt_gR hC h cl11 (k := 3) (by decide) rfl wd_230 (Or.inl rfl) dX11_goings_47 (fun v9 h => ?_)
    obtain ⟨hk, h⟩ := ck_some h
    obtain ⟨v10, M11, h12, h⟩ := bnd_some h
    refine zt_callV (z := yX10_bring) (As := []) (rest := []) (st1 := []) hC 0 hk cl10 (fun l hl => c_X10_bring N v9 M (v10, M11) h12 l hl) rfl wd_445 wd_706 wd_443 wd_444 wd_2 hd_X10_bring rfl ⟨⟨(Nat.le_of_ble_eq_true rfl), (Nat.le_of_ble_eq_true rfl)⟩, (Nat.le_of_ble_eq_true rfl), (Nat.le_of_ble_eq_true rfl)⟩ rfl (Nat.le_of_ble_eq_true rfl) rfl dX11_goings_50 ?_
    refine zt_aload_n hC rfl dX11_goings_53 ?_
    refine zt_gR hC h cl11 (k := 3) (by decide) rfl wd_230 (Or.inl rfl) dX11_goings_54 (fun v13 h => ?_)
    refine zt_gR hC h cl10 (k := 7) (by decide) rfl wd_122 (Or.inl rfl) dX11_goings_57 (fun v14 h => ?_)
    refine zt_gI hC h cl1 (k := 1) (by decide) rfl wd_74 (Or.inl rfl) dX11_goings_60 (fun v15 h => ?_)
    refine zt_if_ne (tgt := 106) hC h (by decide) dX11_goings_63 (fun h => ?_) (fun h => ?_)
    · refine zt_keep [0, 2, 3, 4, 5] rfl ?_
      exact w_X11_goings_106 N hC k40 hk40 x0 x2 x3 x4 x5 M11 h
    · refine zt_iload hC rfl dX11_goings_66 ?_
      refine zt_sipush hC ks_625 dX11_goings_68 ?_
      refine zt_icmp_ge (tgt := 106) hC h (by decide) dX11_goings_71 (fun h => ?_) (fun h => ?_)
      · refine zt_keep [0, 2, 3, 4, 5] rfl ?_
        exact w_X11_goings_106 N hC k40 hk40 x0 x2 x3 x4 x5 M11 h
      · refine zt_aload_n hC rfl dX11_goings_74 ?_
        refine zt_gR hC h cl11 (k := 3) (by decide) rfl wd_230 (Or.inl rfl) dX11_goings_75 (fun v16 h => ?_)
        refine zt_aload_n hC rfl dX11_goings_78 ?_
        refine zt_gR hC h cl11 (k := 3) (by decide) rfl wd_230 (Or.inl rfl) dX11_goings_79 (fun v17 h => ?_)
        refine zt_gR hC h cl10 (k := 7) (by decide) rfl wd_122 (Or.inl rfl) dX11_goings_82 (fun v18 h => ?_)
        refine zt_iload_n hC rfl dX11_goings_85 ?_
        refine zt_iconst hC ki_5 dX11_goings_86 ?_
        refine zt_iremc hC (by decide) dX11_goings_87 ?_
        refine zt_iconst hC ki_1 dX11_goings_88 ?_
        refine zt_isub hC dX11_goings_89 ?_
        obtain ⟨hk, h⟩ := ck_some h
        obtain ⟨v19, M20, h21, h⟩ := bnd_some h
        refine zt_callV (z := yX10_send) (As := [.ref v18, .int ((x3 - x3 / (5 : Int32) * (5 : Int32)) - (1 : Int32))]) (rest := []) (st1 := []) hC 2 hk cl10 (fun l hl => c_X10_send N v16 v18 ((x3 - x3 / (5 : Int32) * (5 : Int32)) - (1 : Int32)) M11 (v19, M20) h21 l hl) rfl wd_537 wd_551 wd_535 wd_536 wd_2 hd_X10_send rfl ⟨⟨(Nat.le_of_ble_eq_true rfl), (Nat.le_of_ble_eq_true rfl)⟩, (Nat.le_of_ble_eq_true rfl), (Nat.le_of_ble_eq_true rfl)⟩ rfl (Nat.le_of_ble_eq_true rfl) rfl dX11_goings_90 ?_
        refine zt_iload_n hC rfl dX11_goings_93 ?_
        refine zt_iconst hC ki_5 dX11_goings_94 ?_
        refine zt_idivc hC (by decide) dX11_goings_95 ?_
        refine zt_istore_n (lv' := [(3, .int (x3 / (5 : Int32))), (0, .ref x0), (2, .int x2), (4, .int x4), (5, .int x5)]) hC (by decide) rfl dX11_goings_96 ?_
        refine zt_iload hC rfl dX11_goings_97 ?_
        refine zt_iconst hC ki_5 dX11_goings_99 ?_
        refine zt_imul hC dX11_goings_100 ?_
        refine zt_istore (lv' := [(4, .int (x4 * (5 : Int32))), (3, .int (x3 / (5 : Int32))), (0, .ref x0), (2, .int x2), (5, .int x5)]) hC (by decide) rfl dX11_goings_101 ?_
        refine zt_goto (tgt := 120) hC (by decide) dX11_goings_103 ?_
        refine zt_keep [0, 2, 3, 4, 5] rfl ?_
        exact w_X11_goings_120 N hC k40 hk40 x0 x2 (x3 / (5 : Int32)) (x4 * (5 : Int32)) x5 M20 h
theorem w_X11_goings_40 {X : Cx} {G : Gl} {r : (Int32 × Mm)} (N : Nat) (hC : CX X G yX11_goings cX11_goings 6 (some .int) rm_X11_goings) (n : Nat) : ∀ (x0 : Nat) (x2 : Int32) (x3 : Int32) (x4 : Int32) (x5 : Int32) (M : Mm), l_X11_goings_40 N n x0 x2 x3 x4 x5 M = some r → TW X G 6 (RQ X G (some (.int r.1)) r.2 rm_X11_goings) 0 0 M 40 [(0, .ref x0), (2, .int x2), (3, .int x3), (4, .int x4), (5, .int x5)] [] := by
  induction n with
  | zero => intro  x0 x2 x3 x4 x5 M h; cases (show none = some r from h)
  | succ n ih => intro  x0 x2 x3 x4 x5 M h; exact v_X11_goings_40 N hC (l_X11_goings_40 N n) ih x0 x2 x3 x4 x5 M h
def f_X11_goings (N : Nat) (x0 : Nat) (x1 : Int32) (x2 : Int32) (M : Mm) : Option (Int32 × Mm) :=
(if x1 < 0 then
some ((-1000000001 : Int32), M)
else
(if (625 : Int32) ≤ x1 then
some ((-1000000001 : Int32), M)
else
bnd (f_X11_isNoSpan N x2 M) (fun v1 M2 =>
(if v1 = 0 then
gR 11 M2 x0 3 (fun v4 =>
gR 11 M2 x0 0 (fun v5 =>
ck 10 M2 v4 (bnd (f_X10_become N v4 v5 M2) (fun v6 M7 =>
l_X11_goings_40 N N x0 x2 x1 (1 : Int32) (0 : Int32) M7))))
else
some ((-1000000001 : Int32), M2)))))
set_option maxRecDepth 100000 in
set_option maxHeartbeats 4000000 in
theorem c_X11_goings (N : Nat) (x0 : Nat) (x1 : Int32) (x2 : Int32) (M : Mm) (r : (Int32 × Mm)) (h : f_X11_goings N x0 x1 x2 M = some r) (l : Launch) (hfl : l.flags = flags0) {G : Gl} : MT l G yX11_goings cX11_goings 6 (some .int) rm_X11_goings [.ref x0, .int x1, .int x2] M (some (.int r.1)) r.2 := by
  unfold f_X11_goings at h
  refine zt_start hfl (lv := [(0, .ref x0), (1, .int x1), (2, .int x2)]) (by decide) (Nat.le_of_ble_eq_true rfl) rfl wd_705 (fun X hC _ => ?_)
  refine zt_iload_n hC rfl dX11_goings_0 ?_
  refine zt_if_lt (tgt := 18) hC h (by decide) dX11_goings_1 (fun h => ?_) (fun h => ?_)
  · refine zt_ldc hC wd_605 dX11_goings_18 ?_
    obtain rfl := Option.some.inj h
    exact zt_iret hC rfl rfl (Nat.le_of_ble_eq_true rfl) (Nat.le_of_ble_eq_true rfl) dX11_goings_20
  · refine zt_iload_n hC rfl dX11_goings_4 ?_
    refine zt_sipush hC ks_625 dX11_goings_5 ?_
    refine zt_icmp_ge (tgt := 18) hC h (by decide) dX11_goings_8 (fun h => ?_) (fun h => ?_)
    · refine zt_ldc hC wd_605 dX11_goings_18 ?_
      obtain rfl := Option.some.inj h
      exact zt_iret hC rfl rfl (Nat.le_of_ble_eq_true rfl) (Nat.le_of_ble_eq_true rfl) dX11_goings_20
    · refine zt_iload_n hC rfl dX11_goings_11 ?_
      obtain ⟨v1, M2, h3, h⟩ := bnd_some h
      refine zt_callS (z := yX11_isNoSpan) (As := [.int x2]) (rest := []) (st1 := (.int v1 :: [])) hC 1 (fun l hl => c_X11_isNoSpan N x2 M (v1, M2) h3 l hl) rfl wd_585 wd_583 wd_584 wd_1 hd_X11_isNoSpan rfl ⟨⟨(Nat.le_of_ble_eq_true rfl), (Nat.le_of_ble_eq_true rfl)⟩, (Nat.le_of_ble_eq_true rfl), (Nat.le_of_ble_eq_true rfl)⟩ rfl (Nat.le_of_ble_eq_true rfl) rfl dX11_goings_12 ?_
      refine zt_if_eq (tgt := 21) hC h (by decide) dX11_goings_15 (fun h => ?_) (fun h => ?_)
      · refine zt_aload_n hC rfl dX11_goings_21 ?_
        refine zt_gR hC h cl11 (k := 3) (by decide) rfl wd_230 (Or.inl rfl) dX11_goings_22 (fun v4 h => ?_)
        refine zt_aload_n hC rfl dX11_goings_25 ?_
        refine zt_gR hC h cl11 (k := 0) (by decide) rfl wd_227 (Or.inl rfl) dX11_goings_26 (fun v5 h => ?_)
        obtain ⟨hk, h⟩ := ck_some h
        obtain ⟨v6, M7, h8, h⟩ := bnd_some h
        refine zt_callV (z := yX10_become) (As := [.ref v5]) (rest := []) (st1 := []) hC 1 hk cl10 (fun l hl => c_X10_become N v4 v5 M2 (v6, M7) h8 l hl) rfl wd_311 wd_308 wd_309 wd_310 wd_2 hd_X10_become rfl ⟨⟨(Nat.le_of_ble_eq_true rfl), (Nat.le_of_ble_eq_true rfl)⟩, (Nat.le_of_ble_eq_true rfl), (Nat.le_of_ble_eq_true rfl)⟩ rfl (Nat.le_of_ble_eq_true rfl) rfl dX11_goings_29 ?_
        refine zt_iload_n hC rfl dX11_goings_32 ?_
        refine zt_istore_n (lv' := [(3, .int x1), (0, .ref x0), (1, .int x1), (2, .int x2)]) hC (by decide) rfl dX11_goings_33 ?_
        refine zt_iconst hC ki_1 dX11_goings_34 ?_
        refine zt_istore (lv' := [(4, .int (1 : Int32)), (3, .int x1), (0, .ref x0), (1, .int x1), (2, .int x2)]) hC (by decide) rfl dX11_goings_35 ?_
        refine zt_iconst hC ki_0 dX11_goings_37 ?_
        refine zt_istore (lv' := [(5, .int (0 : Int32)), (4, .int (1 : Int32)), (3, .int x1), (0, .ref x0), (1, .int x1), (2, .int x2)]) hC (by decide) rfl dX11_goings_38 ?_
        refine zt_keep [0, 2, 3, 4, 5] rfl ?_
        exact w_X11_goings_40 N hC N x0 x2 x1 (1 : Int32) (0 : Int32) M7 h
      · refine zt_ldc hC wd_605 dX11_goings_18 ?_
        obtain rfl := Option.some.inj h
        exact zt_iret hC rfl rfl (Nat.le_of_ble_eq_true rfl) (Nat.le_of_ble_eq_true rfl) dX11_goings_20
