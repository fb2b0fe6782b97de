def rm_X12_son : Room := { frames := 7, cells := 0, slots := 0, locals := 168 }
theorem hd_X12_son : yX12_son.cls ≠ "java/lang/invoke/MethodHandle" ∧ yX12_son.cls ≠ "java/lang/invoke/VarHandle" ∧ (parseMethodDescriptor yX12_son.desc).map (fun d => d.parameters.length) = some 5 := by decide +kernel
def f_X12_son (N : Nat) (x0 : Nat) (x1 : Int32) (x2 : Int32) (x3 : Int32) (x4 : Int32) (x5 : Int32) (M : Mm) : Option (Int32 × Mm) :=
ck 12 M x0 (bnd (f_X12_isLanding N x0 x3 M) (fun v1 M2 =>
(if v1 = 0 then
some ((-1000000001 : Int32), M2)
else
(if x3 = x2 then
some ((-1000000001 : Int32), M2)
else
ck 12 M2 x0 (bnd (f_X12_wrongDay N x0 x1 x2 x4 M2) (fun v4 M5 =>
(if v4 = 0 then
ck 12 M5 x0 (bnd (f_X12_dayOf N x0 x1 x2 x4 x5 (0 : Int32) M5) (fun v7 M8 =>
gR 12 M8 x0 8 (fun v10 =>
ald M8 v10 x1 (fun v11 =>
gR 12 M8 x0 9 (fun v12 =>
ald M8 v12 x1 (fun v13 =>
ck 12 M8 x0 (bnd (f_X12_begins N x0 x5 x2 v11 v13 M8) (fun v14 M15 =>
gR 12 M15 x0 2 (fun v17 =>
gR 12 M15 x0 8 (fun v18 =>
ald M15 v18 x1 (fun v19 =>
gR 12 M15 x0 9 (fun v20 =>
ald M15 v20 x1 (fun v21 =>
bnd (f_X12_puts N v17 (1 : Int32) x3 v19 v21 M15) (fun v22 M23 =>
ck 12 M23 x0 (bnd (f_X12_goesBy N x0 x4 (2 : Int32) (0 : Int32) M23) (fun v25 M26 =>
some ((v7 - v25), M26)))))))))))))))))
else
some (((-1000000000 : Int32) + v4), M5))))))))
set_option maxRecDepth 100000 in
set_option maxHeartbeats 4000000 in
theorem c_X12_son (N : Nat) (x0 : Nat) (x1 : Int32) (x2 : Int32) (x3 : Int32) (x4 : Int32) (x5 : Int32) (M : Mm) (r : (Int32 × Mm)) (h : f_X12_son N x0 x1 x2 x3 x4 x5 M = some r) (l : Launch) (hfl : l.flags = flags0) {G : Gl} : MT l G yX12_son cX12_son 8 (some .int) rm_X12_son [.ref x0, .int x1, .int x2, .int x3, .int x4, .int x5] M (some (.int r.1)) r.2 := by
  unfold f_X12_son at h
  refine zt_start hfl (lv := [(0, .ref x0), (1, .int x1), (2, .int x2), (3, .int x3), (4, .int x4), (5, .int x5)]) (by decide) (Nat.le_of_ble_eq_true rfl) rfl wd_1296 (fun X hC _ => ?_)
  refine zt_aload_n hC rfl dX12_son_0 ?_
  refine zt_iload_n hC rfl dX12_son_1 ?_
  obtain ⟨hk, h⟩ := ck_some h
  obtain ⟨v1, M2, h3, h⟩ := bnd_some h
  refine zt_callV (z := yX12_isLanding) (As := [.int x3]) (rest := []) (st1 := (.int v1 :: [])) hC 1 hk cl12 (fun l hl => c_X12_isLanding N x0 x3 M (v1, M2) h3 l hl) rfl wd_1122 wd_1119 wd_1121 ws_29 wd_7 hd_X12_isLanding rfl ⟨⟨(Nat.le_of_ble_eq_true rfl), (Nat.le_of_ble_eq_true rfl)⟩, (Nat.le_of_ble_eq_true rfl), (Nat.le_of_ble_eq_true rfl)⟩ rfl (Nat.le_of_ble_eq_true rfl) rfl dX12_son_2 ?_
  refine zt_if_eq (tgt := 13) hC h (by decide) dX12_son_5 (fun h => ?_) (fun h => ?_)
  · refine zt_ldc hC wd_1261 dX12_son_13 ?_
    obtain rfl := Option.some.inj h
    exact zt_iret hC rfl rfl (Nat.le_of_ble_eq_true rfl) (Nat.le_of_ble_eq_true rfl) dX12_son_15
  · refine zt_iload_n hC rfl dX12_son_8 ?_
    refine zt_iload_n hC rfl dX12_son_9 ?_
    refine zt_icmp_ne (tgt := 16) hC h (by decide) dX12_son_10 (fun h => ?_) (fun h => ?_)
    · refine zt_aload_n hC rfl dX12_son_16 ?_
      refine zt_iload_n hC rfl dX12_son_17 ?_
      refine zt_iload_n hC rfl dX12_son_18 ?_
      refine zt_iload hC rfl dX12_son_19 ?_
      obtain ⟨hk, h⟩ := ck_some h
      obtain ⟨v4, M5, h6, h⟩ := bnd_some h
      refine zt_callV (z := yX12_wrongDay) (As := [.int x1, .int x2, .int x4]) (rest := []) (st1 := (.int v4 :: [])) hC 3 hk cl12 (fun l hl => c_X12_wrongDay N x0 x1 x2 x4 M2 (v4, M5) h6 l hl) rfl wd_1283 wd_1280 wd_1282 ws_44 wd_7 hd_X12_wrongDay rfl ⟨⟨(Nat.le_of_ble_eq_true rfl), (Nat.le_of_ble_eq_true rfl)⟩, (Nat.le_of_ble_eq_true rfl), (Nat.le_of_ble_eq_true rfl)⟩ rfl (Nat.le_of_ble_eq_true rfl) rfl dX12_son_21 ?_
      refine zt_istore (lv' := [(6, .int v4), (0, .ref x0), (1, .int x1), (2, .int x2), (3, .int x3), (4, .int x4), (5, .int x5)]) hC (by decide) rfl dX12_son_24 ?_
      refine zt_iload hC rfl dX12_son_26 ?_
      refine zt_if_eq (tgt := 37) hC h (by decide) dX12_son_28 (fun h => ?_) (fun h => ?_)
      · refine zt_aload_n hC rfl dX12_son_37 ?_
        refine zt_iload_n hC rfl dX12_son_38 ?_
        refine zt_iload_n hC rfl dX12_son_39 ?_
        refine zt_iload hC rfl dX12_son_40 ?_
        refine zt_iload hC rfl dX12_son_42 ?_
        refine zt_iconst hC ki_0 dX12_son_44 ?_
        obtain ⟨hk, h⟩ := ck_some h
        obtain ⟨v7, M8, h9, h⟩ := bnd_some h
        refine zt_callV (z := yX12_dayOf) (As := [.int x1, .int x2, .int x4, .int x5, .int (0 : Int32)]) (rest := []) (st1 := (.int v7 :: [])) hC 5 hk cl12 (fun l hl => c_X12_dayOf N x0 x1 x2 x4 x5 (0 : Int32) M5 (v7, M8) h9 l hl) rfl wd_1247 wd_1244 wd_1246 ws_40 wd_7 hd_X12_dayOf rfl ⟨⟨(Nat.le_of_ble_eq_true rfl), (Nat.le_of_ble_eq_true rfl)⟩, (Nat.le_of_ble_eq_true rfl), (Nat.le_of_ble_eq_true rfl)⟩ rfl (Nat.le_of_ble_eq_true rfl) rfl dX12_son_45 ?_
        refine zt_istore (lv' := [(7, .int v7), (6, .int v4), (0, .ref x0), (1, .int x1), (2, .int x2), (3, .int x3), (4, .int x4), (5, .int x5)]) hC (by decide) rfl dX12_son_48 ?_
        refine zt_aload_n hC rfl dX12_son_50 ?_
        refine zt_iload hC rfl dX12_son_51 ?_
        refine zt_iload_n hC rfl dX12_son_53 ?_
        refine zt_aload_n hC rfl dX12_son_54 ?_
        refine zt_gR hC h cl12 (k := 8) (by decide) rfl wd_999 (Or.inl rfl) dX12_son_55 (fun v10 h => ?_)
        refine zt_iload_n hC rfl dX12_son_58 ?_
        refine zt_ald hC h dX12_son_59 (fun v11 h => ?_)
        refine zt_aload_n hC rfl dX12_son_60 ?_
        refine zt_gR hC h cl12 (k := 9) (by decide) rfl wd_1000 (Or.inl rfl) dX12_son_61 (fun v12 h => ?_)
        refine zt_iload_n hC rfl dX12_son_64 ?_
        refine zt_ald hC h dX12_son_65 (fun v13 h => ?_)
        obtain ⟨hk, h⟩ := ck_some h
        obtain ⟨v14, M15, h16, h⟩ := bnd_some h
        refine zt_callV (z := yX12_begins) (As := [.int x5, .int x2, .int v11, .int v13]) (rest := []) (st1 := []) hC 4 hk cl12 (fun l hl => c_X12_begins N x0 x5 x2 v11 v13 M8 (v14, M15) h16 l hl) rfl wd_1251 wd_1248 wd_1250 ws_41 wd_7 hd_X12_begins rfl ⟨⟨(Nat.le_of_ble_eq_true rfl), (Nat.le_of_ble_eq_true rfl)⟩, (Nat.le_of_ble_eq_true rfl), (Nat.le_of_ble_eq_true rfl)⟩ rfl (Nat.le_of_ble_eq_true rfl) rfl dX12_son_66 ?_
        refine zt_aload_n hC rfl dX12_son_69 ?_
        refine zt_gR hC h cl12 (k := 2) (by decide) rfl wd_993 (Or.inl rfl) dX12_son_70 (fun v17 h => ?_)
        refine zt_iconst hC ki_1 dX12_son_73 ?_
        refine zt_iload_n hC rfl dX12_son_74 ?_
        refine zt_aload_n hC rfl dX12_son_75 ?_
        refine zt_gR hC h cl12 (k := 8) (by decide) rfl wd_999 (Or.inl rfl) dX12_son_76 (fun v18 h => ?_)
        refine zt_iload_n hC rfl dX12_son_79 ?_
        refine zt_ald hC h dX12_son_80 (fun v19 h => ?_)
        refine zt_aload_n hC rfl dX12_son_81 ?_
        refine zt_gR hC h cl12 (k := 9) (by decide) rfl wd_1000 (Or.inl rfl) dX12_son_82 (fun v20 h => ?_)
        refine zt_iload_n hC rfl dX12_son_85 ?_
        refine zt_ald hC h dX12_son_86 (fun v21 h => ?_)
        obtain ⟨v22, M23, h24, h⟩ := bnd_some h
        refine zt_callS (z := yX12_puts) (As := [.ref v17, .int (1 : Int32), .int x3, .int v19, .int v21]) (rest := []) (st1 := []) hC 5 (fun l hl => c_X12_puts N v17 (1 : Int32) x3 v19 v21 M15 (v22, M23) h24 l hl) rfl wd_987 wd_985 wd_986 wd_7 hd_X12_puts rfl ⟨⟨(Nat.le_of_ble_eq_true rfl), (Nat.le_of_ble_eq_true rfl)⟩, (Nat.le_of_ble_eq_true rfl), (Nat.le_of_ble_eq_true rfl)⟩ rfl (Nat.le_of_ble_eq_true rfl) rfl dX12_son_87 ?_
        refine zt_iload hC rfl dX12_son_90 ?_
        refine zt_aload_n hC rfl dX12_son_92 ?_
        refine zt_iload hC rfl dX12_son_93 ?_
        refine zt_iconst hC ki_2 dX12_son_95 ?_
        refine zt_iconst hC ki_0 dX12_son_96 ?_
        obtain ⟨hk, h⟩ := ck_some h
        obtain ⟨v25, M26, h27, h⟩ := bnd_some h
        refine zt_callV (z := yX12_goesBy) (As := [.int x4, .int (2 : Int32), .int (0 : Int32)]) (rest := [.int v7]) (st1 := (.int v25 :: [.int v7])) hC 3 hk cl12 (fun l hl => c_X12_goesBy N x0 x4 (2 : Int32) (0 : Int32) M23 (v25, M26) h27 l hl) rfl wd_1255 wd_1252 wd_1254 ws_42 wd_7 hd_X12_goesBy rfl ⟨⟨(Nat.le_of_ble_eq_true rfl), (Nat.le_of_ble_eq_true rfl)⟩, (Nat.le_of_ble_eq_true rfl), (Nat.le_of_ble_eq_true rfl)⟩ rfl (Nat.le_of_ble_eq_true rfl) rfl dX12_son_97 ?_
        refine zt_isub hC dX12_son_100 ?_
        obtain rfl := Option.some.inj h
        exact zt_iret hC rfl rfl (Nat.le_of_ble_eq_true rfl) (Nat.le_of_ble_eq_true rfl) dX12_son_101
      · refine zt_ldc hC wd_1262 dX12_son_31 ?_
        refine zt_iload hC rfl dX12_son_33 ?_
        refine zt_iadd hC dX12_son_35 ?_
        obtain rfl := Option.some.inj h
        exact zt_iret hC rfl rfl (Nat.le_of_ble_eq_true rfl) (Nat.le_of_ble_eq_true rfl) dX12_son_36
    · refine zt_ldc hC wd_1261 dX12_son_13 ?_
      obtain rfl := Option.some.inj h
      exact zt_iret hC rfl rfl (Nat.le_of_ble_eq_true rfl) (Nat.le_of_ble_eq_true rfl) dX12_son_15
def rm_X12_goingsOf : Room := { frames := 6, cells := 0, slots := 0, locals := 143 }
theorem hd_X12_goingsOf : yX12_goingsOf.cls ≠ "java/lang/invoke/MethodHandle" ∧ yX12_goingsOf.cls ≠ "java/lang/invoke/VarHandle" ∧ (parseMethodDescriptor yX12_goingsOf.desc).map (fun d => d.parameters.length) = some 2 := by decide +kernel
def b_X12_goingsOf_2 (N : Nat) (k2 : Nat → Int32 → Int32 → Int32 → Mm → Option (Int32 × Mm)) (x0 : Nat) (x1 : Int32) (x2 : Int32) (x3 : Int32) (M : Mm) : Option (Int32 × Mm) :=
(if (174 : Int32) ≤ x3 then
pI 12 M x0 17 x1 (fun M1 =>
pI 12 M1 x0 18 (4 : Int32) (fun M2 =>
ck 12 M2 x0 (bnd (f_X12_goesBy N x0 x2 (1 : Int32) (0 : Int32) M2) (fun v3 M4 =>
gR 12 M4 x0 0 (fun v6 =>
ald M4 v6 (5 : Int32) (fun v7 =>
pI 12 M4 x0 18 (0 : Int32) (fun M8 =>
gR 12 M8 x0 2 (fun v9 =>
ald M8 v9 (7 : Int32) (fun v10 =>
gR 12 M8 x0 0 (fun v11 =>
ald M8 v11 (7 : Int32) (fun v12 =>
some (((v10 - v12) - (v3 - v7)), M8))))))))))))
else
gR 12 M x0 2 (fun v13 =>
gR 12 M x0 0 (fun v14 =>
ald M v14 x3 (fun v15 =>
ast M v13 x3 v15 (fun M16 =>
k2 x0 x1 x2 (x3 + (1 : Int32)) M16)))))
def l_X12_goingsOf_2 (N : Nat) : Nat → Nat → Int32 → Int32 → Int32 → Mm → Option (Int32 × Mm)
  | 0 => fun _ _ _ _ _ => none
  | n + 1 => b_X12_goingsOf_2 N (l_X12_goingsOf_2 N n)
set_option maxRecDepth 100000 in
set_option maxHeartbeats 4000000 in
theorem v_X12_goingsOf_2 {X : Cx} {G : Gl} {r : (Int32 × Mm)} (N : Nat) (hC : CX X G yX12_goingsOf cX12_goingsOf 4 (some .int) rm_X12_goingsOf) (k2 : Nat → Int32 → Int32 → Int32 → Mm → Option (Int32 × Mm)) (hk2 : ∀ (x0 : Nat) (x1 : Int32) (x2 : Int32) (x3 : Int32) (M : Mm), k2 x0 x1 x2 x3 M = some r → TW X G 4 (RQ X G (some (.int r.1)) r.2 rm_X12_goingsOf) 0 0 M 2 [(0, .ref x0), (1, .int x1), (2, .int x2), (3, .int x3)] []) (x0 : Nat) (x1 : Int32) (x2 : Int32) (x3 : Int32) (M : Mm) (h : b_X12_goingsOf_2 N k2 x0 x1 x2 x3 M = some r) : TW X G 4 (RQ X G (some (.int r.1)) r.2 rm_X12_goingsOf) 0 0 M 2 [(0, .ref x0), (1, .int x1), (2, .int x2), (3, .int x3)] [] := by
  unfold b_X12_goingsOf_2 at h
  refine zt_iload_n hC rfl dX12_goingsOf_2 ?_
  refine zt_sipush hC ks_174 dX12_goingsOf_3 ?_
  refine zt_icmp_ge (tgt := 27) hC h (by decide) dX12_goingsOf_6 (fun h => ?_) (fun h => ?_)
  · refine zt_aload_n hC rfl dX12_goingsOf_27 ?_
    refine zt_iload_n hC rfl dX12_goingsOf_28 ?_
    refine zt_pI hC h cl12 (k := 17) (by decide) rfl wd_1008 (Or.inl rfl) (Or.inl rfl) dX12_goingsOf_29 (fun M1 h => ?_)
    refine zt_aload_n hC rfl dX12_goingsOf_32 ?_
    refine zt_iconst hC ki_4 dX12_goingsOf_33 ?_
    refine zt_pI hC h cl12 (k := 18) (by decide) rfl wd_1009 (Or.inl rfl) (Or.inl rfl) dX12_goingsOf_34 (fun M2 h => ?_)
    refine zt_aload_n hC rfl dX12_goingsOf_37 ?_
    refine zt_iload_n hC rfl dX12_goingsOf_38 ?_
    refine zt_iconst hC ki_1 dX12_goingsOf_39 ?_
    refine zt_iconst hC ki_0 dX12_goingsOf_40 ?_
    obtain ⟨hk, h⟩ := ck_some h
    obtain ⟨v3, M4, h5, h⟩ := bnd_some h
    refine zt_callV (z := yX12_goesBy) (As := [.int x2, .int (1 : Int32), .int (0 : Int32)]) (rest := []) (st1 := (.int v3 :: [])) hC 3 hk cl12 (fun l hl => c_X12_goesBy N x0 x2 (1 : Int32) (0 : Int32) M2 (v3, M4) h5 l hl) rfl wd_1255 wd_1252 wd_1254 ws_42 wd_7 hd_X12_goesBy rfl ⟨⟨(Nat.le_of_ble_eq_true rfl), (Nat.le_of_ble_eq_true rfl)⟩, (Nat.le_of_ble_eq_true rfl), (Nat.le_of_ble_eq_true rfl)⟩ rfl (Nat.le_of_ble_eq_true rfl) rfl dX12_goingsOf_41 ?_
    refine zt_aload_n hC rfl dX12_goingsOf_44 ?_
    refine zt_gR hC h cl12 (k := 0) (by decide) rfl wd_991 (Or.inl rfl) dX12_goingsOf_45 (fun v6 h => ?_)
    refine zt_iconst hC ki_5 dX12_goingsOf_48 ?_
    refine zt_ald hC h dX12_goingsOf_49 (fun v7 h => ?_)
    refine zt_isub hC dX12_goingsOf_50 ?_
    refine zt_istore_n (lv' := [(3, .int (v3 - v7)), (0, .ref x0), (1, .int x1), (2, .int x2)]) hC (by decide) rfl dX12_goingsOf_51 ?_
    refine zt_aload_n hC rfl dX12_goingsOf_52 ?_
    refine zt_iconst hC ki_0 dX12_goingsOf_53 ?_
    refine zt_pI hC h cl12 (k := 18) (by decide) rfl wd_1009 (Or.inl rfl) (Or.inl rfl) dX12_goingsOf_54 (fun M8 h => ?_)
    refine zt_aload_n hC rfl dX12_goingsOf_57 ?_
    refine zt_gR hC h cl12 (k := 2) (by decide) rfl wd_993 (Or.inl rfl) dX12_goingsOf_58 (fun v9 h => ?_)
    refine zt_bipush hC kb_7 dX12_goingsOf_61 ?_
    refine zt_ald hC h dX12_goingsOf_63 (fun v10 h => ?_)
    refine zt_aload_n hC rfl dX12_goingsOf_64 ?_
    refine zt_gR hC h cl12 (k := 0) (by decide) rfl wd_991 (Or.inl rfl) dX12_goingsOf_65 (fun v11 h => ?_)
    refine zt_bipush hC kb_7 dX12_goingsOf_68 ?_
    refine zt_ald hC h dX12_goingsOf_70 (fun v12 h => ?_)
    refine zt_isub hC dX12_goingsOf_71 ?_
    refine zt_iload_n hC rfl dX12_goingsOf_72 ?_
    refine zt_isub hC dX12_goingsOf_73 ?_
    obtain rfl := Option.some.inj h
    exact zt_iret hC rfl rfl (Nat.le_of_ble_eq_true rfl) (Nat.le_of_ble_eq_true rfl) dX12_goingsOf_74
  · refine zt_aload_n hC rfl dX12_goingsOf_9 ?_
    refine zt_gR hC h cl12 (k := 2) (by decide) rfl wd_993 (Or.inl rfl) dX12_goingsOf_10 (fun v13 h => ?_)
    refine zt_iload_n hC rfl dX12_goingsOf_13 ?_
    refine zt_aload_n hC rfl dX12_goingsOf_14 ?_
    refine zt_gR hC h cl12 (k := 0) (by decide) rfl wd_991 (Or.inl rfl) dX12_goingsOf_15 (fun v14 h => ?_)
    refine zt_iload_n hC rfl dX12_goingsOf_18 ?_
    refine zt_ald hC h dX12_goingsOf_19 (fun v15 h => ?_)
    refine zt_ast hC h dX12_goingsOf_20 (fun M16 h => ?_)
    refine zt_iinc (v := (x3 + (1 : Int32))) (lv' := [(3, .int (x3 + (1 : Int32))), (0, .ref x0), (1, .int x1), (2, .int x2)]) hC rfl (by rw [ki_1]) (by decide) rfl dX12_goingsOf_21 ?_
    refine zt_goto (tgt := 2) hC (by decide) dX12_goingsOf_24 ?_
    refine zt_keep [0, 1, 2, 3] rfl ?_
    exact hk2 x0 x1 x2 (x3 + (1 : Int32)) M16 h
theorem w_X12_goingsOf_2 {X : Cx} {G : Gl} {r : (Int32 × Mm)} (N : Nat) (hC : CX X G yX12_goingsOf cX12_goingsOf 4 (some .int) rm_X12_goingsOf) (n : Nat) : ∀ (x0 : Nat) (x1 : Int32) (x2 : Int32) (x3 : Int32) (M : Mm), l_X12_goingsOf_2 N n x0 x1 x2 x3 M = some r → TW X G 4 (RQ X G (some (.int r.1)) r.2 rm_X12_goingsOf) 0 0 M 2 [(0, .ref x0), (1, .int x1), (2, .int x2), (3, .int x3)] [] := by
  induction n with
  | zero => intro  x0 x1 x2 x3 M h; cases (show none = some r from h)
  | succ n ih => intro  x0 x1 x2 x3 M h; exact v_X12_goingsOf_2 N hC (l_X12_goingsOf_2 N n) ih x0 x1 x2 x3 M h
def f_X12_goingsOf (N : Nat) (x0 : Nat) (x1 : Int32) (x2 : Int32) (M : Mm) : Option (Int32 × Mm) :=
l_X12_goingsOf_2 N N x0 x1 x2 (0 : Int32) M
set_option maxRecDepth 100000 in
set_option maxHeartbeats 4000000 in
theorem c_X12_goingsOf (N : Nat) (x0 : Nat) (x1 : Int32) (x2 : Int32) (M : Mm) (r : (Int32 × Mm)) (h : f_X12_goingsOf N x0 x1 x2 M = some r) (l : Launch) (hfl : l.flags = flags0) {G : Gl} : MT l G yX12_goingsOf cX12_goingsOf 4 (some .int) rm_X12_goingsOf [.ref x0, .int x1, .int x2] M (some (.int r.1)) r.2 := by
  unfold f_X12_goingsOf at h
  refine zt_start hfl (lv := [(0, .ref x0), (1, .int x1), (2, .int x2)]) (by decide) (Nat.le_of_ble_eq_true rfl) rfl wd_1305 (fun X hC _ => ?_)
  refine zt_iconst hC ki_0 dX12_goingsOf_0 ?_
  refine zt_istore_n (lv' := [(3, .int (0 : Int32)), (0, .ref x0), (1, .int x1), (2, .int x2)]) hC (by decide) rfl dX12_goingsOf_1 ?_
  refine zt_keep [0, 1, 2, 3] rfl ?_
  exact w_X12_goingsOf_2 N hC N x0 x1 x2 (0 : Int32) M h
def rm_X12_goings : Room := { frames := 7, cells := 0, slots := 0, locals := 166 }
theorem hd_X12_goings : yX12_goings.cls ≠ "java/lang/invoke/MethodHandle" ∧ yX12_goings.cls ≠ "java/lang/invoke/VarHandle" ∧ (parseMethodDescriptor yX12_goings.desc).map (fun d => d.parameters.length) = some 2 := by decide +kernel
def f_X12_goings (N : Nat) (x0 : Nat) (x1 : Int32) (x2 : Int32) (M : Mm) : Option (Int32 × Mm) :=
bnd (f_X12_isIn N (Int32.toInt64 x1) (0 : Int64) (624 : Int64) M) (fun v1 M2 =>
(if v1 = 0 then
some ((-1000000001 : Int32), M2)
else
bnd (f_X12_isDay N x2 M2) (fun v4 M5 =>
(if v4 = 0 then
some ((-1000000001 : Int32), M5)
else
ck 12 M5 x0 (bnd (f_X12_goingsOf N x0 x1 x2 M5) (fun v7 M8 =>
some (v7, M8)))))))
set_option maxRecDepth 100000 in
set_option maxHeartbeats 4000000 in
theorem c_X12_goings (N : Nat) (x0 : Nat) (x1 : Int32) (x2 : Int32) (M : Mm) (r : (Int32 × Mm)) (h : f_X12_goings N x0 x1 x2 M = some r) (l : Launch) (hfl : l.flags = flags0) {G : Gl} : MT l G yX12_goings cX12_goings 3 (some .int) rm_X12_goings [.ref x0, .int x1, .int x2] M (some (.int r.1)) r.2 := by
  unfold f_X12_goings at h
  refine zt_start hfl (lv := [(0, .ref x0), (1, .int x1), (2, .int x2)]) (by decide) (Nat.le_of_ble_eq_true rfl) rfl wd_1300 (fun X hC _ => ?_)
  refine zt_iload_n hC rfl dX12_goings_0 ?_
  refine zt_i2l hC dX12_goings_1 ?_
  refine zt_lconst hC kl_0 dX12_goings_2 ?_
  refine zt_ldc2 hC wd_1301 dX12_goings_3 ?_
  obtain ⟨v1, M2, h3, h⟩ := bnd_some h
  refine zt_callS (z := yX12_isIn) (As := [.long (Int32.toInt64 x1), .long (0 : Int64), .long (624 : Int64)]) (rest := []) (st1 := (.int v1 :: [])) hC 3 (fun l hl => c_X12_isIn N (Int32.toInt64 x1) (0 : Int64) (624 : Int64) M (v1, M2) h3 l hl) rfl wd_1067 wd_1065 wd_1066 wd_7 hd_X12_isIn rfl ⟨⟨(Nat.le_of_ble_eq_true rfl), (Nat.le_of_ble_eq_true rfl)⟩, (Nat.le_of_ble_eq_true rfl), (Nat.le_of_ble_eq_true rfl)⟩ rfl (Nat.le_of_ble_eq_true rfl) rfl dX12_goings_6 ?_
  refine zt_if_eq (tgt := 28) hC h (by decide) dX12_goings_9 (fun h => ?_) (fun h => ?_)
  · refine zt_ldc hC wd_1261 dX12_goings_28 ?_
    obtain rfl := Option.some.inj h
    exact zt_iret hC rfl rfl (Nat.le_of_ble_eq_true rfl) (Nat.le_of_ble_eq_true rfl) dX12_goings_30
  · refine zt_iload_n hC rfl dX12_goings_12 ?_
    obtain ⟨v4, M5, h6, h⟩ := bnd_some h
    refine zt_callS (z := yX12_isDay) (As := [.int x2]) (rest := []) (st1 := (.int v4 :: [])) hC 1 (fun l hl => c_X12_isDay N x2 M2 (v4, M5) h6 l hl) rfl wd_1242 wd_1240 wd_1241 wd_7 hd_X12_isDay rfl ⟨⟨(Nat.le_of_ble_eq_true rfl), (Nat.le_of_ble_eq_true rfl)⟩, (Nat.le_of_ble_eq_true rfl), (Nat.le_of_ble_eq_true rfl)⟩ rfl (Nat.le_of_ble_eq_true rfl) rfl dX12_goings_13 ?_
    refine zt_if_eq (tgt := 28) hC h (by decide) dX12_goings_16 (fun h => ?_) (fun h => ?_)
    · refine zt_ldc hC wd_1261 dX12_goings_28 ?_
      obtain rfl := Option.some.inj h
      exact zt_iret hC rfl rfl (Nat.le_of_ble_eq_true rfl) (Nat.le_of_ble_eq_true rfl) dX12_goings_30
    · refine zt_aload_n hC rfl dX12_goings_19 ?_
      refine zt_iload_n hC rfl dX12_goings_20 ?_
      refine zt_iload_n hC rfl dX12_goings_21 ?_
      obtain ⟨hk, h⟩ := ck_some h
      obtain ⟨v7, M8, h9, h⟩ := bnd_some h
      refine zt_callV (z := yX12_goingsOf) (As := [.int x1, .int x2]) (rest := []) (st1 := (.int v7 :: [])) hC 2 hk cl12 (fun l hl => c_X12_goingsOf N x0 x1 x2 M5 (v7, M8) h9 l hl) rfl wd_1305 wd_1302 wd_1304 ws_45 wd_7 hd_X12_goingsOf rfl ⟨⟨(Nat.le_of_ble_eq_true rfl), (Nat.le_of_ble_eq_true rfl)⟩, (Nat.le_of_ble_eq_true rfl), (Nat.le_of_ble_eq_true rfl)⟩ rfl (Nat.le_of_ble_eq_true rfl) rfl dX12_goings_22 ?_
      refine zt_goto (tgt := 30) hC (by decide) dX12_goings_25 ?_
      obtain rfl := Option.some.inj h
      exact zt_iret hC rfl rfl (Nat.le_of_ble_eq_true rfl) (Nat.le_of_ble_eq_true rfl) dX12_goings_30
def rm_X12_bestGoings : Room := { frames := 7, cells := 0, slots := 0, locals := 166 }
theorem hd_X12_bestGoings : yX12_bestGoings.cls ≠ "java/lang/invoke/MethodHandle" ∧ yX12_bestGoings.cls ≠ "java/lang/invoke/VarHandle" ∧ (parseMethodDescriptor yX12_bestGoings.desc).map (fun d => d.parameters.length) = some 1 := by decide +kernel
def b_X12_bestGoings_21 (N : Nat) (k21 : Nat → Int32 → Int32 → Int32 → Int32 → Mm → Option (Int32 × Mm)) (x0 : Nat) (x1 : Int32) (x2 : Int32) (x3 : Int32) (x4 : Int32) (M : Mm) : Option (Int32 × Mm) :=
(if (625 : Int32) ≤ x4 then
some (x2, M)
else
ck 12 M x0 (bnd (f_X12_goingsOf N x0 x4 x1 M) (fun v1 M2 =>
(if x3 < v1 then
k21 x0 x1 x4 v1 (x4 + (1 : Int32)) M2
else
k21 x0 x1 x2 x3 (x4 + (1 : Int32)) M2))))
def l_X12_bestGoings_21 (N : Nat) : Nat → Nat → Int32 → Int32 → Int32 → Int32 → Mm → Option (Int32 × Mm)
  | 0 => fun _ _ _ _ _ _ => none
  | n + 1 => b_X12_bestGoings_21 N (l_X12_bestGoings_21 N n)
set_option maxRecDepth 100000 in
set_option maxHeartbeats 4000000 in
theorem v_X12_bestGoings_21 {X : Cx} {G : Gl} {r : (Int32 × Mm)} (N : Nat) (hC : CX X G yX12_bestGoings cX12_bestGoings 6 (some .int) rm_X12_bestGoings) (k21 : Nat → Int32 → Int32 → Int32 → Int32 → Mm → Option (Int32 × Mm)) (hk21 : ∀ (x0 : Nat) (x1 : Int32) (x2 : Int32) (x3 : Int32) (x4 : Int32) (M : Mm), k21 x0 x1 x2 x3 x4 M = some r → TW X G 6 (RQ X G (some (.int r.1)) r.2 rm_X12_bestGoings) 0 0 M 21 [(0, .ref x0), (1, .int x1), (2, .int x2), (3, .int x3), (4, .int x4)] []) (x0 : Nat) (x1 : Int32) (x2 : Int32) (x3 : Int32) (x4 : Int32) (M : Mm) (h : b_X12_bestGoings_21 N k21 x0 x1 x2 x3 x4 M = some r) : TW X G 6 (RQ X G (some (.int r.1)) r.2 rm_X12_bestGoings) 0 0 M 21 [(0, .ref x0), (1, .int x1), (2, .int x2), (3, .int x3), (4, .int x4)] [] := by
  unfold b_X12_bestGoings_21 at h
  refine zt_iload hC rfl dX12_bestGoings_21 ?_
  refine zt_sipush hC ks_625 dX12_bestGoings_23 ?_
  refine zt_icmp_ge (tgt := 59) hC h (by decide) dX12_bestGoings_26 (fun h => ?_) (fun h => ?_)
  · refine zt_iload_n hC rfl dX12_bestGoings_59 ?_
    obtain rfl := Option.some.inj h
    exact zt_iret hC rfl rfl (Nat.le_of_ble_eq_true rfl) (Nat.le_of_ble_eq_true rfl) dX12_bestGoings_60
  · refine zt_aload_n hC rfl dX12_bestGoings_29 ?_
    refine zt_iload hC rfl dX12_bestGoings_30 ?_
    refine zt_iload_n hC rfl dX12_bestGoings_32 ?_
    obtain ⟨hk, h⟩ := ck_some h
    obtain ⟨v1, M2, h3, h⟩ := bnd_some h
    refine zt_callV (z := yX12_goingsOf) (As := [.int x4, .int x1]) (rest := []) (st1 := (.int v1 :: [])) hC 2 hk cl12 (fun l hl => c_X12_goingsOf N x0 x4 x1 M (v1, M2) h3 l hl) rfl wd_1305 wd_1302 wd_1304 ws_45 wd_7 hd_X12_goingsOf rfl ⟨⟨(Nat.le_of_ble_eq_true rfl), (Nat.le_of_ble_eq_true rfl)⟩, (Nat.le_of_ble_eq_true rfl), (Nat.le_of_ble_eq_true rfl)⟩ rfl (Nat.le_of_ble_eq_true rfl) rfl dX12_bestGoings_33 ?_
    refine zt_istore (lv' := [(5, .int v1), (0, .ref x0), (1, .int x1), (2, .int x2), (3, .int x3), (4, .int x4)]) hC (by decide) rfl dX12_bestGoings_36 ?_
    refine zt_iload hC rfl dX12_bestGoings_38 ?_
    refine zt_iload_n hC rfl dX12_bestGoings_40 ?_
    refine zt_icmp_gt (tgt := 47) hC h (by decide) dX12_bestGoings_41 (fun h => ?_) (fun h => ?_)
    · refine zt_iload hC rfl dX12_bestGoings_47 ?_
      refine zt_istore_n (lv' := [(2, .int x4), (5, .int v1), (0, .ref x0), (1, .int x1), (3, .int x3), (4, .int x4)]) hC (by decide) rfl dX12_bestGoings_49 ?_
      refine zt_iload hC rfl dX12_bestGoings_50 ?_
      refine zt_istore_n (lv' := [(3, .int v1), (2, .int x4), (5, .int v1), (0, .ref x0), (1, .int x1), (4, .int x4)]) hC (by decide) rfl dX12_bestGoings_52 ?_
      refine zt_iinc (v := (x4 + (1 : Int32))) (lv' := [(4, .int (x4 + (1 : Int32))), (3, .int v1), (2, .int x4), (5, .int v1), (0, .ref x0), (1, .int x1)]) hC rfl (by rw [ki_1]) (by decide) rfl dX12_bestGoings_53 ?_
      refine zt_goto (tgt := 21) hC (by decide) dX12_bestGoings_56 ?_
      refine zt_keep [0, 1, 2, 3, 4] rfl ?_
      exact hk21 x0 x1 x4 v1 (x4 + (1 : Int32)) M2 h
    · refine zt_goto (tgt := 53) hC (by decide) dX12_bestGoings_44 ?_
      refine zt_iinc (v := (x4 + (1 : Int32))) (lv' := [(4, .int (x4 + (1 : Int32))), (5, .int v1), (0, .ref x0), (1, .int x1), (2, .int x2), (3, .int x3)]) hC rfl (by rw [ki_1]) (by decide) rfl dX12_bestGoings_53 ?_
      refine zt_goto (tgt := 21) hC (by decide) dX12_bestGoings_56 ?_
      refine zt_keep [0, 1, 2, 3, 4] rfl ?_
      exact hk21 x0 x1 x2 x3 (x4 + (1 : Int32)) M2 h
theorem w_X12_bestGoings_21 {X : Cx} {G : Gl} {r : (Int32 × Mm)} (N : Nat) (hC : CX X G yX12_bestGoings cX12_bestGoings 6 (some .int) rm_X12_bestGoings) (n : Nat) : ∀ (x0 : Nat) (x1 : Int32) (x2 : Int32) (x3 : Int32) (x4 : Int32) (M : Mm), l_X12_bestGoings_21 N n x0 x1 x2 x3 x4 M = some r → TW X G 6 (RQ X G (some (.int r.1)) r.2 rm_X12_bestGoings) 0 0 M 21 [(0, .ref x0), (1, .int x1), (2, .int x2), (3, .int x3), (4, .int x4)] [] := by
  induction n with
  | zero => intro  x0 x1 x2 x3 x4 M h; cases (show none = some r from h)
  | succ n ih => intro  x0 x1 x2 x3 x4 M h; exact v_X12_bestGoings_21 N hC (l_X12_bestGoings_21 N n) ih x0 x1 x2 x3 x4 M h
def f_X12_bestGoings (N : Nat) (x0 : Nat) (x1 : Int32) (M : Mm) : Option (Int32 × Mm) :=
bnd (f_X12_isDay N x1 M) (fun v1 M2 =>
(if v1 = 0 then
some ((-1 : Int32), M2)
else
ck 12 M2 x0 (bnd (f_X12_goingsOf N x0 (0 : Int32) x1 M2) (fun v4 M5 =>
l_X12_bestGoings_21 N N x0 x1 (0 : Int32) v4 (1 : Int32) M5))))
set_option maxRecDepth 100000 in
set_option maxHeartbeats 4000000 in
theorem c_X12_bestGoings (N : Nat) (x0 : Nat) (x1 : Int32) (M : Mm) (r : (Int32 × Mm)) (h : f_X12_bestGoings N x0 x1 M = some r) (l : Launch) (hfl : l.flags = flags0) {G : Gl} : MT l G yX12_bestGoings cX12_bestGoings 6 (some .int) rm_X12_bestGoings [.ref x0, .int x1] M (some (.int r.1)) r.2 := by
  unfold f_X12_bestGoings at h
  refine zt_start hfl (lv := [(0, .ref x0), (1, .int x1)]) (by decide) (Nat.le_of_ble_eq_true rfl) rfl wd_1309 (fun X hC _ => ?_)
  refine zt_iload_n hC rfl dX12_bestGoings_0 ?_
  obtain ⟨v1, M2, h3, h⟩ := bnd_some h
  refine zt_callS (z := yX12_isDay) (As := [.int x1]) (rest := []) (st1 := (.int v1 :: [])) hC 1 (fun l hl => c_X12_isDay N x1 M (v1, M2) h3 l hl) rfl wd_1242 wd_1240 wd_1241 wd_7 hd_X12_isDay rfl ⟨⟨(Nat.le_of_ble_eq_true rfl), (Nat.le_of_ble_eq_true rfl)⟩, (Nat.le_of_ble_eq_true rfl), (Nat.le_of_ble_eq_true rfl)⟩ rfl (Nat.le_of_ble_eq_true rfl) rfl dX12_bestGoings_1 ?_
  refine zt_if_ne (tgt := 9) hC h (by decide) dX12_bestGoings_4 (fun h => ?_) (fun h => ?_)
  · refine zt_iconst hC ki_0 dX12_bestGoings_9 ?_
    refine zt_istore_n (lv' := [(2, .int (0 : Int32)), (0, .ref x0), (1, .int x1)]) hC (by decide) rfl dX12_bestGoings_10 ?_
    refine zt_aload_n hC rfl dX12_bestGoings_11 ?_
    refine zt_iconst hC ki_0 dX12_bestGoings_12 ?_
    refine zt_iload_n hC rfl dX12_bestGoings_13 ?_
    obtain ⟨hk, h⟩ := ck_some h
    obtain ⟨v4, M5, h6, h⟩ := bnd_some h
    refine zt_callV (z := yX12_goingsOf) (As := [.int (0 : Int32), .int x1]) (rest := []) (st1 := (.int v4 :: [])) hC 2 hk cl12 (fun l hl => c_X12_goingsOf N x0 (0 : Int32) x1 M2 (v4, M5) h6 l hl) rfl wd_1305 wd_1302 wd_1304 ws_45 wd_7 hd_X12_goingsOf rfl ⟨⟨(Nat.le_of_ble_eq_true rfl), (Nat.le_of_ble_eq_true rfl)⟩, (Nat.le_of_ble_eq_true rfl), (Nat.le_of_ble_eq_true rfl)⟩ rfl (Nat.le_of_ble_eq_true rfl) rfl dX12_bestGoings_14 ?_
    refine zt_istore_n (lv' := [(3, .int v4), (2, .int (0 : Int32)), (0, .ref x0), (1, .int x1)]) hC (by decide) rfl dX12_bestGoings_17 ?_
    refine zt_iconst hC ki_1 dX12_bestGoings_18 ?_
    refine zt_istore (lv' := [(4, .int (1 : Int32)), (3, .int v4), (2, .int (0 : Int32)), (0, .ref x0), (1, .int x1)]) hC (by decide) rfl dX12_bestGoings_19 ?_
    refine zt_keep [0, 1, 2, 3, 4] rfl ?_
    exact w_X12_bestGoings_21 N hC N x0 x1 (0 : Int32) v4 (1 : Int32) M5 h
  · refine zt_iconst hC ki_m1 dX12_bestGoings_7 ?_
    obtain rfl := Option.some.inj h
    exact zt_iret hC rfl rfl (Nat.le_of_ble_eq_true rfl) (Nat.le_of_ble_eq_true rfl) dX12_bestGoings_8
def rm_X12_common : Room := { frames := 0, cells := 0, slots := 0, locals := 0 }
theorem hd_X12_common : yX12_common.cls ≠ "java/lang/invoke/MethodHandle" ∧ yX12_common.cls ≠ "java/lang/invoke/VarHandle" ∧ (parseMethodDescriptor yX12_common.desc).map (fun d => d.parameters.length) = some 2 := by decide +kernel
def b_X12_common_6 (N : Nat) (k6 : Int64 → Int64 → Mm → Option (Int64 × Mm)) (x4 : Int64) (x6 : Int64) (M : Mm) : Option (Int64 × Mm) :=
(if (lg_cmp x6 (0 : Int64)) = 0 then
some (x4, M)
else
lrm x4 x6 (fun v1 =>
k6 x6 v1 M))
def l_X12_common_6 (N : Nat) : Nat → Int64 → Int64 → Mm → Option (Int64 × Mm)
  | 0 => fun _ _ _ => none
  | n + 1 => b_X12_common_6 N (l_X12_common_6 N n)
set_option maxRecDepth 100000 in
set_option maxHeartbeats 4000000 in
theorem v_X12_common_6 {X : Cx} {G : Gl} {r : (Int64 × Mm)} (N : Nat) (hC : CX X G yX12_common cX12_common 10 (some .long) rm_X12_common) (k6 : Int64 → Int64 → Mm → Option (Int64 × Mm)) (hk6 : ∀ (x4 : Int64) (x6 : Int64) (M : Mm), k6 x4 x6 M = some r → TW X G 10 (RQ X G (some (.long r.1)) r.2 rm_X12_common) 0 0 M 6 [(4, .long x4), (6, .long x6)] []) (x4 : Int64) (x6 : Int64) (M : Mm) (h : b_X12_common_6 N k6 x4 x6 M = some r) : TW X G 10 (RQ X G (some (.long r.1)) r.2 rm_X12_common) 0 0 M 6 [(4, .long x4), (6, .long x6)] [] := by
  unfold b_X12_common_6 at h
  refine zt_lload hC rfl dX12_common_6 ?_
  refine zt_lconst hC kl_0 dX12_common_8 ?_
  refine zt_lcmp hC dX12_common_9 ?_
  refine zt_if_eq (tgt := 31) hC h (by decide) dX12_common_10 (fun h => ?_) (fun h => ?_)
  · refine zt_lload hC rfl dX12_common_31 ?_
    obtain rfl := Option.some.inj h
    exact zt_lret hC rfl rfl (Nat.le_of_ble_eq_true rfl) (Nat.le_of_ble_eq_true rfl) dX12_common_33
  · refine zt_lload hC rfl dX12_common_13 ?_
    refine zt_lload hC rfl dX12_common_15 ?_
    refine zt_lrem hC h dX12_common_17 (fun v1 h => ?_)
    refine zt_lstore (lv' := [(8, .long v1), (4, .long x4), (6, .long x6)]) hC (by decide) rfl dX12_common_18 ?_
    refine zt_lload hC rfl dX12_common_20 ?_
    refine zt_lstore (lv' := [(4, .long x6), (8, .long v1), (6, .long x6)]) hC (by decide) rfl dX12_common_22 ?_
    refine zt_lload hC rfl dX12_common_24 ?_
    refine zt_lstore (lv' := [(6, .long v1), (4, .long x6), (8, .long v1)]) hC (by decide) rfl dX12_common_26 ?_
    refine zt_goto (tgt := 6) hC (by decide) dX12_common_28 ?_
    refine zt_keep [4, 6] rfl ?_
    exact hk6 x6 v1 M h
theorem w_X12_common_6 {X : Cx} {G : Gl} {r : (Int64 × Mm)} (N : Nat) (hC : CX X G yX12_common cX12_common 10 (some .long) rm_X12_common) (n : Nat) : ∀ (x4 : Int64) (x6 : Int64) (M : Mm), l_X12_common_6 N n x4 x6 M = some r → TW X G 10 (RQ X G (some (.long r.1)) r.2 rm_X12_common) 0 0 M 6 [(4, .long x4), (6, .long x6)] [] := by
  induction n with
  | zero => intro  x4 x6 M h; cases (show none = some r from h)
  | succ n ih => intro  x4 x6 M h; exact v_X12_common_6 N hC (l_X12_common_6 N n) ih x4 x6 M h
def f_X12_common (N : Nat) (x0 : Int64) (x2 : Int64) (M : Mm) : Option (Int64 × Mm) :=
l_X12_common_6 N N x0 x2 M
set_option maxRecDepth 100000 in
set_option maxHeartbeats 4000000 in
theorem c_X12_common (N : Nat) (x0 : Int64) (x2 : Int64) (M : Mm) (r : (Int64 × Mm)) (h : f_X12_common N x0 x2 M = some r) (l : Launch) (hfl : l.flags = flags0) {G : Gl} : MT l G yX12_common cX12_common 10 (some .long) rm_X12_common [.long x0, .long x2] M (some (.long r.1)) r.2 := by
  unfold f_X12_common at h
  refine zt_start hfl (lv := [(0, .long x0), (2, .long x2)]) (by decide) (Nat.le_of_ble_eq_true rfl) rfl wd_1318 (fun X hC _ => ?_)
  refine zt_lload_n hC rfl dX12_common_0 ?_
  refine zt_lstore (lv' := [(4, .long x0), (0, .long x0), (2, .long x2)]) hC (by decide) rfl dX12_common_1 ?_
  refine zt_lload_n hC rfl dX12_common_3 ?_
  refine zt_lstore (lv' := [(6, .long x2), (4, .long x0), (0, .long x0), (2, .long x2)]) hC (by decide) rfl dX12_common_4 ?_
  refine zt_keep [4, 6] rfl ?_
  exact w_X12_common_6 N hC N x0 x2 M h
def rm_X12_nobody : Room := { frames := 2, cells := 0, slots := 0, locals := 46 }
theorem hd_X12_nobody : yX12_nobody.cls ≠ "java/lang/invoke/MethodHandle" ∧ yX12_nobody.cls ≠ "java/lang/invoke/VarHandle" ∧ (parseMethodDescriptor yX12_nobody.desc).map (fun d => d.parameters.length) = some 3 := by decide +kernel
def b_X12_nobody_134 (N : Nat) (k103 : Nat → Int32 → Int32 → Int32 → Int64 → Int64 → Int32 → Mm → Option (Int64 × Mm)) (k134 : Nat → Int32 → Int32 → Int32 → Int64 → Int64 → Int32 → Int32 → Mm → Option (Int64 × Mm)) (x0 : Nat) (x1 : Int32) (x2 : Int32) (x3 : Int32) (x5 : Int64) (x7 : Int64) (x9 : Int32) (x10 : Int32) (M : Mm) : Option (Int64 × Mm) :=
(if x2 ≤ x10 then
k103 x0 x1 x2 x3 x5 x7 (x9 + (1 : Int32)) M
else
gR 12 M x0 0 (fun v1 =>
bnd (f_X12_get N v1 x9 (2 : Int32) M) (fun v2 M3 =>
k134 x0 x1 x2 x3 (x5 * (Int32.toInt64 ((100 : Int32) - v2))) (x7 * (100 : Int64)) x9 (x10 + (1 : Int32)) M3)))
def l_X12_nobody_134 (N : Nat) (k103 : Nat → Int32 → Int32 → Int32 → Int64 → Int64 → Int32 → Mm → Option (Int64 × Mm)) : Nat → Nat → Int32 → Int32 → Int32 → Int64 → Int64 → Int32 → Int32 → Mm → Option (Int64 × Mm)
  | 0 => fun _ _ _ _ _ _ _ _ _ => none
  | n + 1 => b_X12_nobody_134 N k103 (l_X12_nobody_134 N k103 n)
set_option maxRecDepth 100000 in
set_option maxHeartbeats 4000000 in
theorem v_X12_nobody_134 {X : Cx} {G : Gl} {r : (Int64 × Mm)} (N : Nat) (hC : CX X G yX12_nobody cX12_nobody 11 (some .long) rm_X12_nobody) (k103 : Nat → Int32 → Int32 → Int32 → Int64 → Int64 → Int32 → Mm → Option (Int64 × Mm)) (hk103 : ∀ (x0 : Nat) (x1 : Int32) (x2 : Int32) (x3 : Int32) (x5 : Int64) (x7 : Int64) (x9 : Int32) (M : Mm), k103 x0 x1 x2 x3 x5 x7 x9 M = some r → TW X G 11 (RQ X G (some (.long r.1)) r.2 rm_X12_nobody) 0 0 M 103 [(0, .ref x0), (1, .int x1), (2, .int x2), (3, .int x3), (5, .long x5), (7, .long x7), (9, .int x9)] []) (k134 : Nat → Int32 → Int32 → Int32 → Int64 → Int64 → Int32 → Int32 → Mm → Option (Int64 × Mm)) (hk134 : ∀ (x0 : Nat) (x1 : Int32) (x2 : Int32) (x3 : Int32) (x5 : Int64) (x7 : Int64) (x9 : Int32) (x10 : Int32) (M : Mm), k134 x0 x1 x2 x3 x5 x7 x9 x10 M = some r → TW X G 11 (RQ X G (some (.long r.1)) r.2 rm_X12_nobody) 0 0 M 134 [(0, .ref x0), (1, .int x1), (2, .int x2), (3, .int x3), (5, .long x5), (7, .long x7), (9, .int x9), (10, .int x10)] []) (x0 : Nat) (x1 : Int32) (x2 : Int32) (x3 : Int32) (x5 : Int64) (x7 : Int64) (x9 : Int32) (x10 : Int32) (M : Mm) (h : b_X12_nobody_134 N k103 k134 x0 x1 x2 x3 x5 x7 x9 x10 M = some r) : TW X G 11 (RQ X G (some (.long r.1)) r.2 rm_X12_nobody) 0 0 M 134 [(0, .ref x0), (1, .int x1), (2, .int x2), (3, .int x3), (5, .long x5), (7, .long x7), (9, .int x9), (10, .int x10)] [] := by
  unfold b_X12_nobody_134 at h
  refine zt_iload hC rfl dX12_nobody_134 ?_
  refine zt_iload_n hC rfl dX12_nobody_136 ?_
  refine zt_icmp_ge (tgt := 173) hC h (by decide) dX12_nobody_137 (fun h => ?_) (fun h => ?_)
  · refine zt_iinc (v := (x9 + (1 : Int32))) (lv' := [(9, .int (x9 + (1 : Int32))), (0, .ref x0), (1, .int x1), (2, .int x2), (3, .int x3), (5, .long x5), (7, .long x7), (10, .int x10)]) hC rfl (by rw [ki_1]) (by decide) rfl dX12_nobody_173 ?_
    refine zt_goto (tgt := 103) hC (by decide) dX12_nobody_176 ?_
    refine zt_keep [0, 1, 2, 3, 5, 7, 9] rfl ?_
    exact hk103 x0 x1 x2 x3 x5 x7 (x9 + (1 : Int32)) M h
  · refine zt_lload hC rfl dX12_nobody_140 ?_
    refine zt_bipush hC kb_100 dX12_nobody_142 ?_
    refine zt_aload_n hC rfl dX12_nobody_144 ?_
    refine zt_gR hC h cl12 (k := 0) (by decide) rfl wd_991 (Or.inl rfl) dX12_nobody_145 (fun v1 h => ?_)
    refine zt_iload hC rfl dX12_nobody_148 ?_
    refine zt_iconst hC ki_2 dX12_nobody_150 ?_
    obtain ⟨v2, M3, h4, h⟩ := bnd_some h
    refine zt_callS (z := yX12_get) (As := [.ref v1, .int x9, .int (2 : Int32)]) (rest := [.int (100 : Int32), .long x5]) (st1 := (.int v2 :: [.int (100 : Int32), .long x5])) hC 3 (fun l hl => c_X12_get N v1 x9 (2 : Int32) M (v2, M3) h4 l hl) rfl wd_1112 wd_1110 wd_1111 wd_7 hd_X12_get rfl ⟨⟨(Nat.le_of_ble_eq_true rfl), (Nat.le_of_ble_eq_true rfl)⟩, (Nat.le_of_ble_eq_true rfl), (Nat.le_of_ble_eq_true rfl)⟩ rfl (Nat.le_of_ble_eq_true rfl) rfl dX12_nobody_151 ?_
    refine zt_isub hC dX12_nobody_154 ?_
    refine zt_i2l hC dX12_nobody_155 ?_
    refine zt_lmul hC dX12_nobody_156 ?_
    refine zt_lstore (lv' := [(5, .long (x5 * (Int32.toInt64 ((100 : Int32) - v2)))), (0, .ref x0), (1, .int x1), (2, .int x2), (3, .int x3), (7, .long x7), (9, .int x9), (10, .int x10)]) hC (by decide) rfl dX12_nobody_157 ?_
    refine zt_lload hC rfl dX12_nobody_159 ?_
    refine zt_ldc2 hC wd_1135 dX12_nobody_161 ?_
    refine zt_lmul hC dX12_nobody_164 ?_
    refine zt_lstore (lv' := [(7, .long (x7 * (100 : Int64))), (5, .long (x5 * (Int32.toInt64 ((100 : Int32) - v2)))), (0, .ref x0), (1, .int x1), (2, .int x2), (3, .int x3), (9, .int x9), (10, .int x10)]) hC (by decide) rfl dX12_nobody_165 ?_
    refine zt_iinc (v := (x10 + (1 : Int32))) (lv' := [(10, .int (x10 + (1 : Int32))), (7, .long (x7 * (100 : Int64))), (5, .long (x5 * (Int32.toInt64 ((100 : Int32) - v2)))), (0, .ref x0), (1, .int x1), (2, .int x2), (3, .int x3), (9, .int x9)]) hC rfl (by rw [ki_1]) (by decide) rfl dX12_nobody_167 ?_
    refine zt_goto (tgt := 134) hC (by decide) dX12_nobody_170 ?_
    refine zt_keep [0, 1, 2, 3, 5, 7, 9, 10] rfl ?_
    exact hk134 x0 x1 x2 x3 (x5 * (Int32.toInt64 ((100 : Int32) - v2))) (x7 * (100 : Int64)) x9 (x10 + (1 : Int32)) M3 h
theorem w_X12_nobody_134 {X : Cx} {G : Gl} {r : (Int64 × Mm)} (N : Nat) (hC : CX X G yX12_nobody cX12_nobody 11 (some .long) rm_X12_nobody) (k103 : Nat → Int32 → Int32 → Int32 → Int64 → Int64 → Int32 → Mm → Option (Int64 × Mm)) (hk103 : ∀ (x0 : Nat) (x1 : Int32) (x2 : Int32) (x3 : Int32) (x5 : Int64) (x7 : Int64) (x9 : Int32) (M : Mm), k103 x0 x1 x2 x3 x5 x7 x9 M = some r → TW X G 11 (RQ X G (some (.long r.1)) r.2 rm_X12_nobody) 0 0 M 103 [(0, .ref x0), (1, .int x1), (2, .int x2), (3, .int x3), (5, .long x5), (7, .long x7), (9, .int x9)] []) (n : Nat) : ∀ (x0 : Nat) (x1 : Int32) (x2 : Int32) (x3 : Int32) (x5 : Int64) (x7 : Int64) (x9 : Int32) (x10 : Int32) (M : Mm), l_X12_nobody_134 N k103 n x0 x1 x2 x3 x5 x7 x9 x10 M = some r → TW X G 11 (RQ X G (some (.long r.1)) r.2 rm_X12_nobody) 0 0 M 134 [(0, .ref x0), (1, .int x1), (2, .int x2), (3, .int x3), (5, .long x5), (7, .long x7), (9, .int x9), (10, .int x10)] [] := by
  induction n with
  | zero => intro  x0 x1 x2 x3 x5 x7 x9 x10 M h; cases (show none = some r from h)
  | succ n ih => intro  x0 x1 x2 x3 x5 x7 x9 x10 M h; exact v_X12_nobody_134 N hC k103 hk103 (l_X12_nobody_134 N k103 n) ih x0 x1 x2 x3 x5 x7 x9 x10 M h
def b_X12_nobody_103 (N : Nat) (k103 : Nat → Int32 → Int32 → Int32 → Int64 → Int64 → Int32 → Mm → Option (Int64 × Mm)) (x0 : Nat) (x1 : Int32) (x2 : Int32) (x3 : Int32) (x5 : Int64) (x7 : Int64) (x9 : Int32) (M : Mm) : Option (Int64 × Mm) :=
gR 12 M x0 0 (fun v1 =>
ald M v1 (1 : Int32) (fun v2 =>
(if v2 ≤ x9 then
bnd (f_X12_common N x5 x7 M) (fun v3 M4 =>
(if x3 = 0 then
ldv x5 v3 (fun v7 =>
some (v7, M4))
else
ldv x7 v3 (fun v6 =>
some (v6, M4))))
else
gR 12 M x0 0 (fun v8 =>
bnd (f_X12_get N v8 x9 (0 : Int32) M) (fun v9 M10 =>
(if v9 = x1 then
l_X12_nobody_134 N k103 N x0 x1 x2 x3 x5 x7 x9 (0 : Int32) M10
else
k103 x0 x1 x2 x3 x5 x7 (x9 + (1 : Int32)) M10))))))
def l_X12_nobody_103 (N : Nat) : Nat → Nat → Int32 → Int32 → Int32 → Int64 → Int64 → Int32 → Mm → Option (Int64 × Mm)
  | 0 => fun _ _ _ _ _ _ _ _ => none
  | n + 1 => b_X12_nobody_103 N (l_X12_nobody_103 N n)
set_option maxRecDepth 100000 in
set_option maxHeartbeats 4000000 in
theorem v_X12_nobody_103 {X : Cx} {G : Gl} {r : (Int64 × Mm)} (N : Nat) (hC : CX X G yX12_nobody cX12_nobody 11 (some .long) rm_X12_nobody) (k103 : Nat → Int32 → Int32 → Int32 → Int64 → Int64 → Int32 → Mm → Option (Int64 × Mm)) (hk103 : ∀ (x0 : Nat) (x1 : Int32) (x2 : Int32) (x3 : Int32) (x5 : Int64) (x7 : Int64) (x9 : Int32) (M : Mm), k103 x0 x1 x2 x3 x5 x7 x9 M = some r → TW X G 11 (RQ X G (some (.long r.1)) r.2 rm_X12_nobody) 0 0 M 103 [(0, .ref x0), (1, .int x1), (2, .int x2), (3, .int x3), (5, .long x5), (7, .long x7), (9, .int x9)] []) (x0 : Nat) (x1 : Int32) (x2 : Int32) (x3 : Int32) (x5 : Int64) (x7 : Int64) (x9 : Int32) (M : Mm) (h : b_X12_nobody_103 N k103 x0 x1 x2 x3 x5 x7 x9 M = some r) : TW X G 11 (RQ X G (some (.long r.1)) r.2 rm_X12_nobody) 0 0 M 103 [(0, .ref x0), (1, .int x1), (2, .int x2), (3, .int x3), (5, .long x5), (7, .long x7), (9, .int x9)] [] := by
  unfold b_X12_nobody_103 at h
  refine zt_iload hC rfl dX12_nobody_103 ?_
  refine zt_aload_n hC rfl dX12_nobody_105 ?_
  refine zt_gR hC h cl12 (k := 0) (by decide) rfl wd_991 (Or.inl rfl) dX12_nobody_106 (fun v1 h => ?_)
  refine zt_iconst hC ki_1 dX12_nobody_109 ?_
  refine zt_ald hC h dX12_nobody_110 (fun v2 h => ?_)
  refine zt_icmp_ge (tgt := 179) hC h (by decide) dX12_nobody_111 (fun h => ?_) (fun h => ?_)
  · refine zt_lload hC rfl dX12_nobody_179 ?_
    refine zt_lload hC rfl dX12_nobody_181 ?_
    obtain ⟨v3, M4, h5, h⟩ := bnd_some h
    refine zt_callS (z := yX12_common) (As := [.long x5, .long x7]) (rest := []) (st1 := (.long v3 :: [])) hC 2 (fun l hl => c_X12_common N x5 x7 M (v3, M4) h5 l hl) rfl wd_1318 wd_1316 wd_1317 wd_7 hd_X12_common rfl ⟨⟨(Nat.le_of_ble_eq_true rfl), (Nat.le_of_ble_eq_true rfl)⟩, (Nat.le_of_ble_eq_true rfl), (Nat.le_of_ble_eq_true rfl)⟩ rfl (Nat.le_of_ble_eq_true rfl) rfl dX12_nobody_183 ?_
    refine zt_lstore (lv' := [(9, .long v3), (0, .ref x0), (1, .int x1), (2, .int x2), (3, .int x3), (5, .long x5), (7, .long x7)]) hC (by decide) rfl dX12_nobody_186 ?_
    refine zt_iload_n hC rfl dX12_nobody_188 ?_
    refine zt_if_ne (tgt := 200) hC h (by decide) dX12_nobody_189 (fun h => ?_) (fun h => ?_)
    · refine zt_lload hC rfl dX12_nobody_200 ?_
      refine zt_lload hC rfl dX12_nobody_202 ?_
      refine zt_ldiv hC h dX12_nobody_204 (fun v6 h => ?_)
      obtain rfl := Option.some.inj h
      exact zt_lret hC rfl rfl (Nat.le_of_ble_eq_true rfl) (Nat.le_of_ble_eq_true rfl) dX12_nobody_205
    · refine zt_lload hC rfl dX12_nobody_192 ?_
      refine zt_lload hC rfl dX12_nobody_194 ?_
      refine zt_ldiv hC h dX12_nobody_196 (fun v7 h => ?_)
      refine zt_goto (tgt := 205) hC (by decide) dX12_nobody_197 ?_
      obtain rfl := Option.some.inj h
      exact zt_lret hC rfl rfl (Nat.le_of_ble_eq_true rfl) (Nat.le_of_ble_eq_true rfl) dX12_nobody_205
  · refine zt_aload_n hC rfl dX12_nobody_114 ?_
    refine zt_gR hC h cl12 (k := 0) (by decide) rfl wd_991 (Or.inl rfl) dX12_nobody_115 (fun v8 h => ?_)
    refine zt_iload hC rfl dX12_nobody_118 ?_
    refine zt_iconst hC ki_0 dX12_nobody_120 ?_
    obtain ⟨v9, M10, h11, h⟩ := bnd_some h
    refine zt_callS (z := yX12_get) (As := [.ref v8, .int x9, .int (0 : Int32)]) (rest := []) (st1 := (.int v9 :: [])) hC 3 (fun l hl => c_X12_get N v8 x9 (0 : Int32) M (v9, M10) h11 l hl) rfl wd_1112 wd_1110 wd_1111 wd_7 hd_X12_get rfl ⟨⟨(Nat.le_of_ble_eq_true rfl), (Nat.le_of_ble_eq_true rfl)⟩, (Nat.le_of_ble_eq_true rfl), (Nat.le_of_ble_eq_true rfl)⟩ rfl (Nat.le_of_ble_eq_true rfl) rfl dX12_nobody_121 ?_
    refine zt_iload_n hC rfl dX12_nobody_124 ?_
    refine zt_icmp_eq (tgt := 131) hC h (by decide) dX12_nobody_125 (fun h => ?_) (fun h => ?_)
    · refine zt_iconst hC ki_0 dX12_nobody_131 ?_
      refine zt_istore (lv' := [(10, .int (0 : Int32)), (0, .ref x0), (1, .int x1), (2, .int x2), (3, .int x3), (5, .long x5), (7, .long x7), (9, .int x9)]) hC (by decide) rfl dX12_nobody_132 ?_
      refine zt_keep [0, 1, 2, 3, 5, 7, 9, 10] rfl ?_
      exact w_X12_nobody_134 N hC k103 hk103 N x0 x1 x2 x3 x5 x7 x9 (0 : Int32) M10 h
    · refine zt_goto (tgt := 173) hC (by decide) dX12_nobody_128 ?_
      refine zt_iinc (v := (x9 + (1 : Int32))) (lv' := [(9, .int (x9 + (1 : Int32))), (0, .ref x0), (1, .int x1), (2, .int x2), (3, .int x3), (5, .long x5), (7, .long x7)]) hC rfl (by rw [ki_1]) (by decide) rfl dX12_nobody_173 ?_
      refine zt_goto (tgt := 103) hC (by decide) dX12_nobody_176 ?_
      refine zt_keep [0, 1, 2, 3, 5, 7, 9] rfl ?_
      exact hk103 x0 x1 x2 x3 x5 x7 (x9 + (1 : Int32)) M10 h
theorem w_X12_nobody_103 {X : Cx} {G : Gl} {r : (Int64 × Mm)} (N : Nat) (hC : CX X G yX12_nobody cX12_nobody 11 (some .long) rm_X12_nobody) (n : Nat) : ∀ (x0 : Nat) (x1 : Int32) (x2 : Int32) (x3 : Int32) (x5 : Int64) (x7 : Int64) (x9 : Int32) (M : Mm), l_X12_nobody_103 N n x0 x1 x2 x3 x5 x7 x9 M = some r → TW X G 11 (RQ X G (some (.long r.1)) r.2 rm_X12_nobody) 0 0 M 103 [(0, .ref x0), (1, .int x1), (2, .int x2), (3, .int x3), (5, .long x5), (7, .long x7), (9, .int x9)] [] := by
  induction n with
  | zero => intro  x0 x1 x2 x3 x5 x7 x9 M h; cases (show none = some r from h)
  | succ n ih => intro  x0 x1 x2 x3 x5 x7 x9 M h; exact v_X12_nobody_103 N hC (l_X12_nobody_103 N n) ih x0 x1 x2 x3 x5 x7 x9 M h
def j_X12_nobody_72 (N : Nat) (k40 : Nat → Int32 → Int32 → Int32 → Int32 → Int32 → Mm → Option (Int64 × Mm)) (x0 : Nat) (x1 : Int32) (x2 : Int32) (x3 : Int32) (x5 : Int32) (s0 : Int32) (s1 : Int32) (M : Mm) : Option (Int64 × Mm) :=
k40 x0 x1 x2 x3 (s1 + s0) (x5 + (1 : Int32)) M
set_option maxRecDepth 100000 in
set_option maxHeartbeats 4000000 in
theorem w_X12_nobody_72 {X : Cx} {G : Gl} {r : (Int64 × Mm)} (N : Nat) (hC : CX X G yX12_nobody cX12_nobody 11 (some .long) rm_X12_nobody) (k40 : Nat → Int32 → Int32 → Int32 → Int32 → Int32 → Mm → Option (Int64 × Mm)) (hk40 : ∀ (x0 : Nat) (x1 : Int32) (x2 : Int32) (x3 : Int32) (x4 : Int32) (x5 : Int32) (M : Mm), k40 x0 x1 x2 x3 x4 x5 M = some r → TW X G 11 (RQ X G (some (.long r.1)) r.2 rm_X12_nobody) 0 0 M 40 [(0, .ref x0), (1, .int x1), (2, .int x2), (3, .int x3), (4, .int x4), (5, .int x5)] []) (x0 : Nat) (x1 : Int32) (x2 : Int32) (x3 : Int32) (x5 : Int32) (s0 : Int32) (s1 : Int32) (M : Mm) (h : j_X12_nobody_72 N k40 x0 x1 x2 x3 x5 s0 s1 M = some r) : TW X G 11 (RQ X G (some (.long r.1)) r.2 rm_X12_nobody) 0 0 M 72 [(0, .ref x0), (1, .int x1), (2, .int x2), (3, .int x3), (5, .int x5)] [.int s0, .int s1] := by
  unfold j_X12_nobody_72 at h
  refine zt_iadd hC dX12_nobody_72 ?_
  refine zt_istore (lv' := [(4, .int (s1 + s0)), (0, .ref x0), (1, .int x1), (2, .int x2), (3, .int x3), (5, .int x5)]) hC (by decide) rfl dX12_nobody_73 ?_
  refine zt_iinc (v := (x5 + (1 : Int32))) (lv' := [(5, .int (x5 + (1 : Int32))), (4, .int (s1 + s0)), (0, .ref x0), (1, .int x1), (2, .int x2), (3, .int x3)]) hC rfl (by rw [ki_1]) (by decide) rfl dX12_nobody_75 ?_
  refine zt_goto (tgt := 40) hC (by decide) dX12_nobody_78 ?_
  refine zt_keep [0, 1, 2, 3, 4, 5] rfl ?_
  exact hk40 x0 x1 x2 x3 (s1 + s0) (x5 + (1 : Int32)) M h
def b_X12_nobody_40 (N : Nat) (k40 : Nat → Int32 → Int32 → Int32 → Int32 → Int32 → Mm → Option (Int64 × Mm)) (x0 : Nat) (x1 : Int32) (x2 : Int32) (x3 : Int32) (x4 : Int32) (x5 : Int32) (M : Mm) : Option (Int64 × Mm) :=
gR 12 M x0 0 (fun v1 =>
ald M v1 (1 : Int32) (fun v2 =>
(if v2 ≤ x5 then
(if (x2 * x4) ≤ (8 : Int32) then
l_X12_nobody_103 N N x0 x1 x2 x3 (1 : Int64) (1 : Int64) (0 : Int32) M
else
some ((-4000000000000000003 : Int64), M))
else
gR 12 M x0 0 (fun v3 =>
bnd (f_X12_get N v3 x5 (0 : Int32) M) (fun v4 M5 =>
(if v4 = x1 then
j_X12_nobody_72 N k40 x0 x1 x2 x3 x5 (1 : Int32) x4 M5
else
j_X12_nobody_72 N k40 x0 x1 x2 x3 x5 (0 : Int32) x4 M5))))))
def l_X12_nobody_40 (N : Nat) : Nat → Nat → Int32 → Int32 → Int32 → Int32 → Int32 → Mm → Option (Int64 × Mm)
  | 0 => fun _ _ _ _ _ _ _ => none
  | n + 1 => b_X12_nobody_40 N (l_X12_nobody_40 N n)
set_option maxRecDepth 100000 in
set_option maxHeartbeats 4000000 in
theorem v_X12_nobody_40 {X : Cx} {G : Gl} {r : (Int64 × Mm)} (N : Nat) (hC : CX X G yX12_nobody cX12_nobody 11 (some .long) rm_X12_nobody) (k40 : Nat → Int32 → Int32 → Int32 → Int32 → Int32 → Mm → Option (Int64 × Mm)) (hk40 : ∀ (x0 : Nat) (x1 : Int32) (x2 : Int32) (x3 : Int32) (x4 : Int32) (x5 : Int32) (M : Mm), k40 x0 x1 x2 x3 x4 x5 M = some r → TW X G 11 (RQ X G (some (.long r.1)) r.2 rm_X12_nobody) 0 0 M 40 [(0, .ref x0), (1, .int x1), (2, .int x2), (3, .int x3), (4, .int x4), (5, .int x5)] []) (x0 : Nat) (x1 : Int32) (x2 : Int32) (x3 : Int32) (x4 : Int32) (x5 : Int32) (M : Mm) (h : b_X12_nobody_40 N k40 x0 x1 x2 x3 x4 x5 M = some r) : TW X G 11 (RQ X G (some (.long r.1)) r.2 rm_X12_nobody) 0 0 M 40 [(0, .ref x0), (1, .int x1), (2, .int x2), (3, .int x3), (4, .int x4), (5, .int x5)] [] := by
  unfold b_X12_nobody_40 at h
  refine zt_iload hC rfl dX12_nobody_40 ?_
  refine zt_aload_n hC rfl dX12_nobody_42 ?_
  refine zt_gR hC h cl12 (k := 0) (by decide) rfl wd_991 (Or.inl rfl) dX12_nobody_43 (fun v1 h => ?_)
  refine zt_iconst hC ki_1 dX12_nobody_46 ?_
  refine zt_ald hC h dX12_nobody_47 (fun v2 h => ?_)
  refine zt_icmp_ge (tgt := 81) hC h (by decide) dX12_nobody_48 (fun h => ?_) (fun h => ?_)
  · refine zt_iload_n hC rfl dX12_nobody_81 ?_
    refine zt_iload hC rfl dX12_nobody_82 ?_
    refine zt_imul hC dX12_nobody_84 ?_
    refine zt_bipush hC kb_8 dX12_nobody_85 ?_
    refine zt_icmp_le (tgt := 94) hC h (by decide) dX12_nobody_87 (fun h => ?_) (fun h => ?_)
    · refine zt_lconst hC kl_1 dX12_nobody_94 ?_
      refine zt_lstore (lv' := [(5, .long (1 : Int64)), (0, .ref x0), (1, .int x1), (2, .int x2), (3, .int x3), (4, .int x4)]) hC (by decide) rfl dX12_nobody_95 ?_
      refine zt_lconst hC kl_1 dX12_nobody_97 ?_
      refine zt_lstore (lv' := [(7, .long (1 : Int64)), (5, .long (1 : Int64)), (0, .ref x0), (1, .int x1), (2, .int x2), (3, .int x3), (4, .int x4)]) hC (by decide) rfl dX12_nobody_98 ?_
      refine zt_iconst hC ki_0 dX12_nobody_100 ?_
      refine zt_istore (lv' := [(9, .int (0 : Int32)), (7, .long (1 : Int64)), (5, .long (1 : Int64)), (0, .ref x0), (1, .int x1), (2, .int x2), (3, .int x3), (4, .int x4)]) hC (by decide) rfl dX12_nobody_101 ?_
      refine zt_keep [0, 1, 2, 3, 5, 7, 9] rfl ?_
      exact w_X12_nobody_103 N hC N x0 x1 x2 x3 (1 : Int64) (1 : Int64) (0 : Int32) M h
    · refine zt_ldc2 hC wd_1315 dX12_nobody_90 ?_
      obtain rfl := Option.some.inj h
      exact zt_lret hC rfl rfl (Nat.le_of_ble_eq_true rfl) (Nat.le_of_ble_eq_true rfl) dX12_nobody_93
  · refine zt_iload hC rfl dX12_nobody_51 ?_
    refine zt_aload_n hC rfl dX12_nobody_53 ?_
    refine zt_gR hC h cl12 (k := 0) (by decide) rfl wd_991 (Or.inl rfl) dX12_nobody_54 (fun v3 h => ?_)
    refine zt_iload hC rfl dX12_nobody_57 ?_
    refine zt_iconst hC ki_0 dX12_nobody_59 ?_
    obtain ⟨v4, M5, h6, h⟩ := bnd_some h
    refine zt_callS (z := yX12_get) (As := [.ref v3, .int x5, .int (0 : Int32)]) (rest := [.int x4]) (st1 := (.int v4 :: [.int x4])) hC 3 (fun l hl => c_X12_get N v3 x5 (0 : Int32) M (v4, M5) h6 l hl) rfl wd_1112 wd_1110 wd_1111 wd_7 hd_X12_get rfl ⟨⟨(Nat.le_of_ble_eq_true rfl), (Nat.le_of_ble_eq_true rfl)⟩, (Nat.le_of_ble_eq_true rfl), (Nat.le_of_ble_eq_true rfl)⟩ rfl (Nat.le_of_ble_eq_true rfl) rfl dX12_nobody_60 ?_
    refine zt_iload_n hC rfl dX12_nobody_63 ?_
    refine zt_icmp_ne (tgt := 71) hC h (by decide) dX12_nobody_64 (fun h => ?_) (fun h => ?_)
    · refine zt_iconst hC ki_0 dX12_nobody_71 ?_
      refine zt_keep [0, 1, 2, 3, 5] rfl ?_
      exact w_X12_nobody_72 N hC k40 hk40 x0 x1 x2 x3 x5 (0 : Int32) x4 M5 h
    · refine zt_iconst hC ki_1 dX12_nobody_67 ?_
      refine zt_goto (tgt := 72) hC (by decide) dX12_nobody_68 ?_
      refine zt_keep [0, 1, 2, 3, 5] rfl ?_
      exact w_X12_nobody_72 N hC k40 hk40 x0 x1 x2 x3 x5 (1 : Int32) x4 M5 h
theorem w_X12_nobody_40 {X : Cx} {G : Gl} {r : (Int64 × Mm)} (N : Nat) (hC : CX X G yX12_nobody cX12_nobody 11 (some .long) rm_X12_nobody) (n : Nat) : ∀ (x0 : Nat) (x1 : Int32) (x2 : Int32) (x3 : Int32) (x4 : Int32) (x5 : Int32) (M : Mm), l_X12_nobody_40 N n x0 x1 x2 x3 x4 x5 M = some r → TW X G 11 (RQ X G (some (.long r.1)) r.2 rm_X12_nobody) 0 0 M 40 [(0, .ref x0), (1, .int x1), (2, .int x2), (3, .int x3), (4, .int x4), (5, .int x5)] [] := by
  induction n with
  | zero => intro  x0 x1 x2 x3 x4 x5 M h; cases (show none = some r from h)
  | succ n ih => intro  x0 x1 x2 x3 x4 x5 M h; exact v_X12_nobody_40 N hC (l_X12_nobody_40 N n) ih x0 x1 x2 x3 x4 x5 M h
def f_X12_nobody (N : Nat) (x0 : Nat) (x1 : Int32) (x2 : Int32) (x3 : Int32) (M : Mm) : Option (Int64 × Mm) :=
ck 12 M x0 (bnd (f_X12_isLanding N x0 x1 M) (fun v1 M2 =>
(if v1 = 0 then
some ((-4000000000000000001 : Int64), M2)
else
bnd (f_X12_isIn N (Int32.toInt64 x2) (0 : Int64) (4 : Int64) M2) (fun v4 M5 =>
(if v4 = 0 then
some ((-4000000000000000001 : Int64), M5)
else
bnd (f_X12_isIn N (Int32.toInt64 x3) (0 : Int64) (1 : Int64) M5) (fun v7 M8 =>
(if v7 = 0 then
some ((-4000000000000000001 : Int64), M8)
else
l_X12_nobody_40 N N x0 x1 x2 x3 (0 : Int32) (0 : Int32) M8)))))))
set_option maxRecDepth 100000 in
set_option maxHeartbeats 4000000 in
theorem c_X12_nobody (N : Nat) (x0 : Nat) (x1 : Int32) (x2 : Int32) (x3 : Int32) (M : Mm) (r : (Int64 × Mm)) (h : f_X12_nobody N x0 x1 x2 x3 M = some r) (l : Launch) (hfl : l.flags = flags0) {G : Gl} : MT l G yX12_nobody cX12_nobody 11 (some .long) rm_X12_nobody [.ref x0, .int x1, .int x2, .int x3] M (some (.long r.1)) r.2 := by
  unfold f_X12_nobody at h
  refine zt_start hfl (lv := [(0, .ref x0), (1, .int x1), (2, .int x2), (3, .int x3)]) (by decide) (Nat.le_of_ble_eq_true rfl) rfl wd_1313 (fun X hC _ => ?_)
  refine zt_aload_n hC rfl dX12_nobody_0 ?_
  refine zt_iload_n hC rfl dX12_nobody_1 ?_
  obtain ⟨hk, h⟩ := ck_some h
  obtain ⟨v1, M2, h3, h⟩ := bnd_some h
  refine zt_callV (z := yX12_isLanding) (As := [.int x1]) (rest := []) (st1 := (.int v1 :: [])) hC 1 hk cl12 (fun l hl => c_X12_isLanding N x0 x1 M (v1, M2) h3 l hl) rfl wd_1122 wd_1119 wd_1121 ws_29 wd_7 hd_X12_isLanding rfl ⟨⟨(Nat.le_of_ble_eq_true rfl), (Nat.le_of_ble_eq_true rfl)⟩, (Nat.le_of_ble_eq_true rfl), (Nat.le_of_ble_eq_true rfl)⟩ rfl (Nat.le_of_ble_eq_true rfl) rfl dX12_nobody_2 ?_
  refine zt_if_eq (tgt := 30) hC h (by decide) dX12_nobody_5 (fun h => ?_) (fun h => ?_)
  · refine zt_ldc2 hC wd_1314 dX12_nobody_30 ?_
    obtain rfl := Option.some.inj h
    exact zt_lret hC rfl rfl (Nat.le_of_ble_eq_true rfl) (Nat.le_of_ble_eq_true rfl) dX12_nobody_33
  · refine zt_iload_n hC rfl dX12_nobody_8 ?_
    refine zt_i2l hC dX12_nobody_9 ?_
    refine zt_lconst hC kl_0 dX12_nobody_10 ?_
    refine zt_ldc2 hC wd_1103 dX12_nobody_11 ?_
    obtain ⟨v4, M5, h6, h⟩ := bnd_some h
    refine zt_callS (z := yX12_isIn) (As := [.long (Int32.toInt64 x2), .long (0 : Int64), .long (4 : Int64)]) (rest := []) (st1 := (.int v4 :: [])) hC 3 (fun l hl => c_X12_isIn N (Int32.toInt64 x2) (0 : Int64) (4 : Int64) M2 (v4, M5) h6 l hl) rfl wd_1067 wd_1065 wd_1066 wd_7 hd_X12_isIn rfl ⟨⟨(Nat.le_of_ble_eq_true rfl), (Nat.le_of_ble_eq_true rfl)⟩, (Nat.le_of_ble_eq_true rfl), (Nat.le_of_ble_eq_true rfl)⟩ rfl (Nat.le_of_ble_eq_true rfl) rfl dX12_nobody_14 ?_
    refine zt_if_eq (tgt := 30) hC h (by decide) dX12_nobody_17 (fun h => ?_) (fun h => ?_)
    · refine zt_ldc2 hC wd_1314 dX12_nobody_30 ?_
      obtain rfl := Option.some.inj h
      exact zt_lret hC rfl rfl (Nat.le_of_ble_eq_true rfl) (Nat.le_of_ble_eq_true rfl) dX12_nobody_33
    · refine zt_iload_n hC rfl dX12_nobody_20 ?_
      refine zt_i2l hC dX12_nobody_21 ?_
      refine zt_lconst hC kl_0 dX12_nobody_22 ?_
      refine zt_lconst hC kl_1 dX12_nobody_23 ?_
      obtain ⟨v7, M8, h9, h⟩ := bnd_some h
      refine zt_callS (z := yX12_isIn) (As := [.long (Int32.toInt64 x3), .long (0 : Int64), .long (1 : Int64)]) (rest := []) (st1 := (.int v7 :: [])) hC 3 (fun l hl => c_X12_isIn N (Int32.toInt64 x3) (0 : Int64) (1 : Int64) M5 (v7, M8) h9 l hl) rfl wd_1067 wd_1065 wd_1066 wd_7 hd_X12_isIn rfl ⟨⟨(Nat.le_of_ble_eq_true rfl), (Nat.le_of_ble_eq_true rfl)⟩, (Nat.le_of_ble_eq_true rfl), (Nat.le_of_ble_eq_true rfl)⟩ rfl (Nat.le_of_ble_eq_true rfl) rfl dX12_nobody_24 ?_
      refine zt_if_ne (tgt := 34) hC h (by decide) dX12_nobody_27 (fun h => ?_) (fun h => ?_)
      · refine zt_iconst hC ki_0 dX12_nobody_34 ?_
        refine zt_istore (lv' := [(4, .int (0 : Int32)), (0, .ref x0), (1, .int x1), (2, .int x2), (3, .int x3)]) hC (by decide) rfl dX12_nobody_35 ?_
        refine zt_iconst hC ki_0 dX12_nobody_37 ?_
        refine zt_istore (lv' := [(5, .int (0 : Int32)), (4, .int (0 : Int32)), (0, .ref x0), (1, .int x1), (2, .int x2), (3, .int x3)]) hC (by decide) rfl dX12_nobody_38 ?_
        refine zt_keep [0, 1, 2, 3, 4, 5] rfl ?_
        exact w_X12_nobody_40 N hC N x0 x1 x2 x3 (0 : Int32) (0 : Int32) M8 h
      · refine zt_ldc2 hC wd_1314 dX12_nobody_30 ?_
        obtain rfl := Option.some.inj h
        exact zt_lret hC rfl rfl (Nat.le_of_ble_eq_true rfl) (Nat.le_of_ble_eq_true rfl) dX12_nobody_33
def rm_X12_leastOf : Room := { frames := 0, cells := 0, slots := 0, locals := 0 }
theorem hd_X12_leastOf : yX12_leastOf.cls ≠ "java/lang/invoke/MethodHandle" ∧ yX12_leastOf.cls ≠ "java/lang/invoke/VarHandle" ∧ (parseMethodDescriptor yX12_leastOf.desc).map (fun d => d.parameters.length) = some 1 := by decide +kernel
def f_X12_leastOf (N : Nat) (x0 : Nat) (x1 : Int32) (M : Mm) : Option (Int32 × Mm) :=
gR 12 M x0 5 (fun v1 =>
ald M v1 x1 (fun v2 =>
(if v2 = 0 then
some ((-128 : Int32), M)
else
gR 12 M x0 5 (fun v3 =>
ald M v3 x1 (fun v4 =>
(if v4 = (1 : Int32) then
some ((-32768 : Int32), M)
else
some ((-2147483648 : Int32), M)))))))
set_option maxRecDepth 100000 in
set_option maxHeartbeats 4000000 in
theorem c_X12_leastOf (N : Nat) (x0 : Nat) (x1 : Int32) (M : Mm) (r : (Int32 × Mm)) (h : f_X12_leastOf N x0 x1 M = some r) (l : Launch) (hfl : l.flags = flags0) {G : Gl} : MT l G yX12_leastOf cX12_leastOf 2 (some .int) rm_X12_leastOf [.ref x0, .int x1] M (some (.int r.1)) r.2 := by
  unfold f_X12_leastOf at h
  refine zt_start hfl (lv := [(0, .ref x0), (1, .int x1)]) (by decide) (Nat.le_of_ble_eq_true rfl) rfl wd_1326 (fun X hC _ => ?_)
  refine zt_aload_n hC rfl dX12_leastOf_0 ?_
  refine zt_gR hC h cl12 (k := 5) (by decide) rfl wd_996 (Or.inl rfl) dX12_leastOf_1 (fun v1 h => ?_)
  refine zt_iload_n hC rfl dX12_leastOf_4 ?_
  refine zt_ald hC h dX12_leastOf_5 (fun v2 h => ?_)
  refine zt_if_ne (tgt := 14) hC h (by decide) dX12_leastOf_6 (fun h => ?_) (fun h => ?_)
  · refine zt_aload_n hC rfl dX12_leastOf_14 ?_
    refine zt_gR hC h cl12 (k := 5) (by decide) rfl wd_996 (Or.inl rfl) dX12_leastOf_15 (fun v3 h => ?_)
    refine zt_iload_n hC rfl dX12_leastOf_18 ?_
    refine zt_ald hC h dX12_leastOf_19 (fun v4 h => ?_)
    refine zt_iconst hC ki_1 dX12_leastOf_20 ?_
    refine zt_icmp_ne (tgt := 30) hC h (by decide) dX12_leastOf_21 (fun h => ?_) (fun h => ?_)
    · refine zt_ldc hC wd_1327 dX12_leastOf_30 ?_
      obtain rfl := Option.some.inj h
      exact zt_iret hC rfl rfl (Nat.le_of_ble_eq_true rfl) (Nat.le_of_ble_eq_true rfl) dX12_leastOf_32
    · refine zt_sipush hC ks_m32768 dX12_leastOf_24 ?_
      refine zt_goto (tgt := 32) hC (by decide) dX12_leastOf_27 ?_
      obtain rfl := Option.some.inj h
      exact zt_iret hC rfl rfl (Nat.le_of_ble_eq_true rfl) (Nat.le_of_ble_eq_true rfl) dX12_leastOf_32
  · refine zt_bipush hC kb_m128 dX12_leastOf_9 ?_
    refine zt_goto (tgt := 32) hC (by decide) dX12_leastOf_11 ?_
    obtain rfl := Option.some.inj h
    exact zt_iret hC rfl rfl (Nat.le_of_ble_eq_true rfl) (Nat.le_of_ble_eq_true rfl) dX12_leastOf_32
def rm_X12_judge : Room := { frames := 5, cells := 0, slots := 0, locals := 119 }
theorem hd_X12_judge : yX12_judge.cls ≠ "java/lang/invoke/MethodHandle" ∧ yX12_judge.cls ≠ "java/lang/invoke/VarHandle" ∧ (parseMethodDescriptor yX12_judge.desc).map (fun d => d.parameters.length) = some 2 := by decide +kernel
def b_X12_judge_69 (N : Nat) (k69 : Nat → Int32 → Int32 → Int32 → Mm → Option (Int32 × Mm)) (x0 : Nat) (x1 : Int32) (x2 : Int32) (x4 : Int32) (M : Mm) : Option (Int32 × Mm) :=
gR 12 M x0 6 (fun v1 =>
ald M v1 x2 (fun v2 =>
(if v2 ≤ x4 then
some ((-4 : Int32), M)
else
gR 12 M x0 2 (fun v3 =>
ck 12 M x0 (bnd (f_X12_minute N x0 v3 (1 : Int32) M) (fun v4 M5 =>
gR 12 M5 x0 7 (fun v7 =>
ald M5 v7 (((100 : Int32) * x2) + x4) (fun v8 =>
ck 12 M5 x0 (bnd (f_X12_leastOf N x0 x2 M5) (fun v9 M10 =>
(if v8 = v9 then
k69 x0 x1 x2 (x4 + (1 : Int32)) M10
else
gR 12 M10 x0 2 (fun v12 =>
bnd (f_X12_standing N v12 x1 M10) (fun v13 M14 =>
(if v8 = v13 then
k69 x0 x1 x2 (x4 + (1 : Int32)) M14
else
some (x4, M14)))))))))))))))
def l_X12_judge_69 (N : Nat) : Nat → Nat → Int32 → Int32 → Int32 → Mm → Option (Int32 × Mm)
  | 0 => fun _ _ _ _ _ => none
  | n + 1 => b_X12_judge_69 N (l_X12_judge_69 N n)
set_option maxRecDepth 100000 in
set_option maxHeartbeats 4000000 in
theorem v_X12_judge_69 {X : Cx} {G : Gl} {r : (Int32 × Mm)} (N : Nat) (hC : CX X G yX12_judge cX12_judge 6 (some .int) rm_X12_judge) (k69 : Nat → Int32 → Int32 → Int32 → Mm → Option (Int32 × Mm)) (hk69 : ∀ (x0 : Nat) (x1 : Int32) (x2 : Int32) (x4 : Int32) (M : Mm), k69 x0 x1 x2 x4 M = some r → TW X G 6 (RQ X G (some (.int r.1)) r.2 rm_X12_judge) 0 0 M 69 [(0, .ref x0), (1, .int x1), (2, .int x2), (4, .int x4)] []) (x0 : Nat) (x1 : Int32) (x2 : Int32) (x4 : Int32) (M : Mm) (h : b_X12_judge_69 N k69 x0 x1 x2 x4 M = some r) : TW X G 6 (RQ X G (some (.int r.1)) r.2 rm_X12_judge) 0 0 M 69 [(0, .ref x0), (1, .int x1), (2, .int x2), (4, .int x4)] [] := by
  unfold b_X12_judge_69 at h
  refine zt_iload hC rfl dX12_judge_69 ?_
  refine zt_aload_n hC rfl dX12_judge_71 ?_
  refine zt_gR hC h cl12 (k := 6) (by decide) rfl wd_997 (Or.inl rfl) dX12_judge_72 (fun v1 h => ?_)
  refine zt_iload_n hC rfl dX12_judge_75 ?_
  refine zt_ald hC h dX12_judge_76 (fun v2 h => ?_)
  refine zt_icmp_ge (tgt := 135) hC h (by decide) dX12_judge_77 (fun h => ?_) (fun h => ?_)
  · refine zt_bipush hC kb_m4 dX12_judge_135 ?_
    obtain rfl := Option.some.inj h
    exact zt_iret hC rfl rfl (Nat.le_of_ble_eq_true rfl) (Nat.le_of_ble_eq_true rfl) dX12_judge_137
  · refine zt_aload_n hC rfl dX12_judge_80 ?_
    refine zt_aload_n hC rfl dX12_judge_81 ?_
    refine zt_gR hC h cl12 (k := 2) (by decide) rfl wd_993 (Or.inl rfl) dX12_judge_82 (fun v3 h => ?_)
    refine zt_iconst hC ki_1 dX12_judge_85 ?_
    obtain ⟨hk, h⟩ := ck_some h
    obtain ⟨v4, M5, h6, h⟩ := bnd_some h
    refine zt_callV (z := yX12_minute) (As := [.ref v3, .int (1 : Int32)]) (rest := []) (st1 := []) hC 2 hk cl12 (fun l hl => c_X12_minute N x0 v3 (1 : Int32) M (v4, M5) h6 l hl) rfl wd_1160 wd_1157 wd_1159 ws_33 wd_7 hd_X12_minute rfl ⟨⟨(Nat.le_of_ble_eq_true rfl), (Nat.le_of_ble_eq_true rfl)⟩, (Nat.le_of_ble_eq_true rfl), (Nat.le_of_ble_eq_true rfl)⟩ rfl (Nat.le_of_ble_eq_true rfl) rfl dX12_judge_86 ?_
    refine zt_aload_n hC rfl dX12_judge_89 ?_
    refine zt_gR hC h cl12 (k := 7) (by decide) rfl wd_998 (Or.inl rfl) dX12_judge_90 (fun v7 h => ?_)
    refine zt_bipush hC kb_100 dX12_judge_93 ?_
    refine zt_iload_n hC rfl dX12_judge_95 ?_
    refine zt_imul hC dX12_judge_96 ?_
    refine zt_iload hC rfl dX12_judge_97 ?_
    refine zt_iadd hC dX12_judge_99 ?_
    refine zt_ald hC h dX12_judge_100 (fun v8 h => ?_)
    refine zt_istore (lv' := [(5, .int v8), (0, .ref x0), (1, .int x1), (2, .int x2), (4, .int x4)]) hC (by decide) rfl dX12_judge_101 ?_
    refine zt_iload hC rfl dX12_judge_103 ?_
    refine zt_aload_n hC rfl dX12_judge_105 ?_
    refine zt_iload_n hC rfl dX12_judge_106 ?_
    obtain ⟨hk, h⟩ := ck_some h
    obtain ⟨v9, M10, h11, h⟩ := bnd_some h
    refine zt_callV (z := yX12_leastOf) (As := [.int x2]) (rest := [.int v8]) (st1 := (.int v9 :: [.int v8])) hC 1 hk cl12 (fun l hl => c_X12_leastOf N x0 x2 M5 (v9, M10) h11 l hl) rfl wd_1326 wd_1323 wd_1325 ws_46 wd_7 hd_X12_leastOf rfl ⟨⟨(Nat.le_of_ble_eq_true rfl), (Nat.le_of_ble_eq_true rfl)⟩, (Nat.le_of_ble_eq_true rfl), (Nat.le_of_ble_eq_true rfl)⟩ rfl (Nat.le_of_ble_eq_true rfl) rfl dX12_judge_107 ?_
    refine zt_icmp_eq (tgt := 129) hC h (by decide) dX12_judge_110 (fun h => ?_) (fun h => ?_)
    · refine zt_iinc (v := (x4 + (1 : Int32))) (lv' := [(4, .int (x4 + (1 : Int32))), (5, .int v8), (0, .ref x0), (1, .int x1), (2, .int x2)]) hC rfl (by rw [ki_1]) (by decide) rfl dX12_judge_129 ?_
      refine zt_goto (tgt := 69) hC (by decide) dX12_judge_132 ?_
      refine zt_keep [0, 1, 2, 4] rfl ?_
      exact hk69 x0 x1 x2 (x4 + (1 : Int32)) M10 h
    · refine zt_iload hC rfl dX12_judge_113 ?_
      refine zt_aload_n hC rfl dX12_judge_115 ?_
      refine zt_gR hC h cl12 (k := 2) (by decide) rfl wd_993 (Or.inl rfl) dX12_judge_116 (fun v12 h => ?_)
      refine zt_iload_n hC rfl dX12_judge_119 ?_
      obtain ⟨v13, M14, h15, h⟩ := bnd_some h
      refine zt_callS (z := yX12_standing) (As := [.ref v12, .int x1]) (rest := [.int v8]) (st1 := (.int v13 :: [.int v8])) hC 2 (fun l hl => c_X12_standing N v12 x1 M10 (v13, M14) h15 l hl) rfl wd_1106 wd_1104 wd_1105 wd_7 hd_X12_standing rfl ⟨⟨(Nat.le_of_ble_eq_true rfl), (Nat.le_of_ble_eq_true rfl)⟩, (Nat.le_of_ble_eq_true rfl), (Nat.le_of_ble_eq_true rfl)⟩ rfl (Nat.le_of_ble_eq_true rfl) rfl dX12_judge_120 ?_
      refine zt_icmp_eq (tgt := 129) hC h (by decide) dX12_judge_123 (fun h => ?_) (fun h => ?_)
      · refine zt_iinc (v := (x4 + (1 : Int32))) (lv' := [(4, .int (x4 + (1 : Int32))), (5, .int v8), (0, .ref x0), (1, .int x1), (2, .int x2)]) hC rfl (by rw [ki_1]) (by decide) rfl dX12_judge_129 ?_
        refine zt_goto (tgt := 69) hC (by decide) dX12_judge_132 ?_
        refine zt_keep [0, 1, 2, 4] rfl ?_
        exact hk69 x0 x1 x2 (x4 + (1 : Int32)) M14 h
      · refine zt_iload hC rfl dX12_judge_126 ?_
        obtain rfl := Option.some.inj h
        exact zt_iret hC rfl rfl (Nat.le_of_ble_eq_true rfl) (Nat.le_of_ble_eq_true rfl) dX12_judge_128
theorem w_X12_judge_69 {X : Cx} {G : Gl} {r : (Int32 × Mm)} (N : Nat) (hC : CX X G yX12_judge cX12_judge 6 (some .int) rm_X12_judge) (n : Nat) : ∀ (x0 : Nat) (x1 : Int32) (x2 : Int32) (x4 : Int32) (M : Mm), l_X12_judge_69 N n x0 x1 x2 x4 M = some r → TW X G 6 (RQ X G (some (.int r.1)) r.2 rm_X12_judge) 0 0 M 69 [(0, .ref x0), (1, .int x1), (2, .int x2), (4, .int x4)] [] := by
  induction n with
  | zero => intro  x0 x1 x2 x4 M h; cases (show none = some r from h)
  | succ n ih => intro  x0 x1 x2 x4 M h; exact v_X12_judge_69 N hC (l_X12_judge_69 N n) ih x0 x1 x2 x4 M h
def b_X12_judge_33 (N : Nat) (k33 : Nat → Int32 → Int32 → Int32 → Mm → Option (Int32 × Mm)) (x0 : Nat) (x1 : Int32) (x2 : Int32) (x4 : Int32) (M : Mm) : Option (Int32 × Mm) :=
(if (174 : Int32) ≤ x4 then
pI 12 M x0 18 (0 : Int32) (fun M1 =>
l_X12_judge_69 N N x0 x1 x2 (0 : Int32) M1)
else
gR 12 M x0 2 (fun v2 =>
gR 12 M x0 0 (fun v3 =>
ald M v3 x4 (fun v4 =>
ast M v2 x4 v4 (fun M5 =>
k33 x0 x1 x2 (x4 + (1 : Int32)) M5)))))
def l_X12_judge_33 (N : Nat) : Nat → Nat → Int32 → Int32 → Int32 → Mm → Option (Int32 × Mm)
  | 0 => fun _ _ _ _ _ => none
  | n + 1 => b_X12_judge_33 N (l_X12_judge_33 N n)
set_option maxRecDepth 100000 in
set_option maxHeartbeats 4000000 in
theorem v_X12_judge_33 {X : Cx} {G : Gl} {r : (Int32 × Mm)} (N : Nat) (hC : CX X G yX12_judge cX12_judge 6 (some .int) rm_X12_judge) (k33 : Nat → Int32 → Int32 → Int32 → Mm → Option (Int32 × Mm)) (hk33 : ∀ (x0 : Nat) (x1 : Int32) (x2 : Int32) (x4 : Int32) (M : Mm), k33 x0 x1 x2 x4 M = some r → TW X G 6 (RQ X G (some (.int r.1)) r.2 rm_X12_judge) 0 0 M 33 [(0, .ref x0), (1, .int x1), (2, .int x2), (4, .int x4)] []) (x0 : Nat) (x1 : Int32) (x2 : Int32) (x4 : Int32) (M : Mm) (h : b_X12_judge_33 N k33 x0 x1 x2 x4 M = some r) : TW X G 6 (RQ X G (some (.int r.1)) r.2 rm_X12_judge) 0 0 M 33 [(0, .ref x0), (1, .int x1), (2, .int x2), (4, .int x4)] [] := by
  unfold b_X12_judge_33 at h
  refine zt_iload hC rfl dX12_judge_33 ?_
  refine zt_sipush hC ks_174 dX12_judge_35 ?_
  refine zt_icmp_ge (tgt := 61) hC h (by decide) dX12_judge_38 (fun h => ?_) (fun h => ?_)
  · refine zt_aload_n hC rfl dX12_judge_61 ?_
    refine zt_iconst hC ki_0 dX12_judge_62 ?_
    refine zt_pI hC h cl12 (k := 18) (by decide) rfl wd_1009 (Or.inl rfl) (Or.inl rfl) dX12_judge_63 (fun M1 h => ?_)
    refine zt_iconst hC ki_0 dX12_judge_66 ?_
    refine zt_istore (lv' := [(4, .int (0 : Int32)), (0, .ref x0), (1, .int x1), (2, .int x2)]) hC (by decide) rfl dX12_judge_67 ?_
    refine zt_keep [0, 1, 2, 4] rfl ?_
    exact w_X12_judge_69 N hC N x0 x1 x2 (0 : Int32) M1 h
  · refine zt_aload_n hC rfl dX12_judge_41 ?_
    refine zt_gR hC h cl12 (k := 2) (by decide) rfl wd_993 (Or.inl rfl) dX12_judge_42 (fun v2 h => ?_)
    refine zt_iload hC rfl dX12_judge_45 ?_
    refine zt_aload_n hC rfl dX12_judge_47 ?_
    refine zt_gR hC h cl12 (k := 0) (by decide) rfl wd_991 (Or.inl rfl) dX12_judge_48 (fun v3 h => ?_)
    refine zt_iload hC rfl dX12_judge_51 ?_
    refine zt_ald hC h dX12_judge_53 (fun v4 h => ?_)
    refine zt_ast hC h dX12_judge_54 (fun M5 h => ?_)
    refine zt_iinc (v := (x4 + (1 : Int32))) (lv' := [(4, .int (x4 + (1 : Int32))), (0, .ref x0), (1, .int x1), (2, .int x2)]) hC rfl (by rw [ki_1]) (by decide) rfl dX12_judge_55 ?_
    refine zt_goto (tgt := 33) hC (by decide) dX12_judge_58 ?_
    refine zt_keep [0, 1, 2, 4] rfl ?_
    exact hk33 x0 x1 x2 (x4 + (1 : Int32)) M5 h
theorem w_X12_judge_33 {X : Cx} {G : Gl} {r : (Int32 × Mm)} (N : Nat) (hC : CX X G yX12_judge cX12_judge 6 (some .int) rm_X12_judge) (n : Nat) : ∀ (x0 : Nat) (x1 : Int32) (x2 : Int32) (x4 : Int32) (M : Mm), l_X12_judge_33 N n x0 x1 x2 x4 M = some r → TW X G 6 (RQ X G (some (.int r.1)) r.2 rm_X12_judge) 0 0 M 33 [(0, .ref x0), (1, .int x1), (2, .int x2), (4, .int x4)] [] := by
  induction n with
  | zero => intro  x0 x1 x2 x4 M h; cases (show none = some r from h)
  | succ n ih => intro  x0 x1 x2 x4 M h; exact v_X12_judge_33 N hC (l_X12_judge_33 N n) ih x0 x1 x2 x4 M h
def f_X12_judge (N : Nat) (x0 : Nat) (x1 : Int32) (x2 : Int32) (M : Mm) : Option (Int32 × Mm) :=
ck 12 M x0 (bnd (f_X12_isLanding N x0 x1 M) (fun v1 M2 =>
(if v1 = 0 then
some ((-1 : Int32), M2)
else
bnd (f_X12_isShelf N x2 M2) (fun v4 M5 =>
(if v4 = 0 then
some ((-1 : Int32), M5)
else
ck 12 M5 x0 (bnd (f_X12_wrongRow N x0 x2 (-1 : Int32) M5) (fun v7 M8 =>
(if v7 = 0 then
l_X12_judge_33 N N x0 x1 x2 (0 : Int32) M8
else
some (v7, M8)))))))))
set_option maxRecDepth 100000 in
set_option maxHeartbeats 4000000 in
theorem c_X12_judge (N : Nat) (x0 : Nat) (x1 : Int32) (x2 : Int32) (M : Mm) (r : (Int32 × Mm)) (h : f_X12_judge N x0 x1 x2 M = some r) (l : Launch) (hfl : l.flags = flags0) {G : Gl} : MT l G yX12_judge cX12_judge 6 (some .int) rm_X12_judge [.ref x0, .int x1, .int x2] M (some (.int r.1)) r.2 := by
  unfold f_X12_judge at h
  refine zt_start hfl (lv := [(0, .ref x0), (1, .int x1), (2, .int x2)]) (by decide) (Nat.le_of_ble_eq_true rfl) rfl wd_1322 (fun X hC _ => ?_)
  refine zt_aload_n hC rfl dX12_judge_0 ?_
  refine zt_iload_n hC rfl dX12_judge_1 ?_
  obtain ⟨hk, h⟩ := ck_some h
  obtain ⟨v1, M2, h3, h⟩ := bnd_some h
  refine zt_callV (z := yX12_isLanding) (As := [.int x1]) (rest := []) (st1 := (.int v1 :: [])) hC 1 hk cl12 (fun l hl => c_X12_isLanding N x0 x1 M (v1, M2) h3 l hl) rfl wd_1122 wd_1119 wd_1121 ws_29 wd_7 hd_X12_isLanding rfl ⟨⟨(Nat.le_of_ble_eq_true rfl), (Nat.le_of_ble_eq_true rfl)⟩, (Nat.le_of_ble_eq_true rfl), (Nat.le_of_ble_eq_true rfl)⟩ rfl (Nat.le_of_ble_eq_true rfl) rfl dX12_judge_2 ?_
  refine zt_if_eq (tgt := 15) hC h (by decide) dX12_judge_5 (fun h => ?_) (fun h => ?_)
  · refine zt_iconst hC ki_m1 dX12_judge_15 ?_
    obtain rfl := Option.some.inj h
    exact zt_iret hC rfl rfl (Nat.le_of_ble_eq_true rfl) (Nat.le_of_ble_eq_true rfl) dX12_judge_16
  · refine zt_iload_n hC rfl dX12_judge_8 ?_
    obtain ⟨v4, M5, h6, h⟩ := bnd_some h
    refine zt_callS (z := yX12_isShelf) (As := [.int x2]) (rest := []) (st1 := (.int v4 :: [])) hC 1 (fun l hl => c_X12_isShelf N x2 M2 (v4, M5) h6 l hl) rfl wd_1063 wd_1061 wd_1062 wd_7 hd_X12_isShelf rfl ⟨⟨(Nat.le_of_ble_eq_true rfl), (Nat.le_of_ble_eq_true rfl)⟩, (Nat.le_of_ble_eq_true rfl), (Nat.le_of_ble_eq_true rfl)⟩ rfl (Nat.le_of_ble_eq_true rfl) rfl dX12_judge_9 ?_
    refine zt_if_ne (tgt := 17) hC h (by decide) dX12_judge_12 (fun h => ?_) (fun h => ?_)
    · refine zt_aload_n hC rfl dX12_judge_17 ?_
      refine zt_iload_n hC rfl dX12_judge_18 ?_
      refine zt_iconst hC ki_m1 dX12_judge_19 ?_
      obtain ⟨hk, h⟩ := ck_some h
      obtain ⟨v7, M8, h9, h⟩ := bnd_some h
      refine zt_callV (z := yX12_wrongRow) (As := [.int x2, .int (-1 : Int32)]) (rest := []) (st1 := (.int v7 :: [])) hC 2 hk cl12 (fun l hl => c_X12_wrongRow N x0 x2 (-1 : Int32) M5 (v7, M8) h9 l hl) rfl wd_1060 wd_1057 wd_1059 ws_20 wd_7 hd_X12_wrongRow rfl ⟨⟨(Nat.le_of_ble_eq_true rfl), (Nat.le_of_ble_eq_true rfl)⟩, (Nat.le_of_ble_eq_true rfl), (Nat.le_of_ble_eq_true rfl)⟩ rfl (Nat.le_of_ble_eq_true rfl) rfl dX12_judge_20 ?_
      refine zt_istore_n (lv' := [(3, .int v7), (0, .ref x0), (1, .int x1), (2, .int x2)]) hC (by decide) rfl dX12_judge_23 ?_
      refine zt_iload_n hC rfl dX12_judge_24 ?_
      refine zt_if_eq (tgt := 30) hC h (by decide) dX12_judge_25 (fun h => ?_) (fun h => ?_)
      · refine zt_iconst hC ki_0 dX12_judge_30 ?_
        refine zt_istore (lv' := [(4, .int (0 : Int32)), (3, .int v7), (0, .ref x0), (1, .int x1), (2, .int x2)]) hC (by decide) rfl dX12_judge_31 ?_
        refine zt_keep [0, 1, 2, 4] rfl ?_
        exact w_X12_judge_33 N hC N x0 x1 x2 (0 : Int32) M8 h
      · refine zt_iload_n hC rfl dX12_judge_28 ?_
        obtain rfl := Option.some.inj h
        exact zt_iret hC rfl rfl (Nat.le_of_ble_eq_true rfl) (Nat.le_of_ble_eq_true rfl) dX12_judge_29
    · refine zt_iconst hC ki_m1 dX12_judge_15 ?_
      obtain rfl := Option.some.inj h
      exact zt_iret hC rfl rfl (Nat.le_of_ble_eq_true rfl) (Nat.le_of_ble_eq_true rfl) dX12_judge_16
def rm_X12_image : Room := { frames := 0, cells := 0, slots := 0, locals := 0 }
theorem hd_X12_image : yX12_image.cls ≠ "java/lang/invoke/MethodHandle" ∧ yX12_image.cls ≠ "java/lang/invoke/VarHandle" ∧ (parseMethodDescriptor yX12_image.desc).map (fun d => d.parameters.length) = some 0 := by decide +kernel
def b_X12_image_2 (N : Nat) (k2 : Nat → Int32 → Mm → Option (Int32 × Mm)) (x0 : Nat) (x1 : Int32) (M : Mm) : Option (Int32 × Mm) :=
(if (174 : Int32) ≤ x1 then
pZ 12 M x0 10 (1 : Int32) (fun M1 =>
gR 12 M1 x0 0 (fun v2 =>
ald M1 v2 (3 : Int32) (fun v3 =>
some (v3, M1))))
else
gR 12 M x0 1 (fun v4 =>
gR 12 M x0 0 (fun v5 =>
ald M v5 x1 (fun v6 =>
ast M v4 x1 v6 (fun M7 =>
k2 x0 (x1 + (1 : Int32)) M7)))))
def l_X12_image_2 (N : Nat) : Nat → Nat → Int32 → Mm → Option (Int32 × Mm)
  | 0 => fun _ _ _ => none
  | n + 1 => b_X12_image_2 N (l_X12_image_2 N n)
set_option maxRecDepth 100000 in
set_option maxHeartbeats 4000000 in
theorem v_X12_image_2 {X : Cx} {G : Gl} {r : (Int32 × Mm)} (N : Nat) (hC : CX X G yX12_image cX12_image 2 (some .int) rm_X12_image) (k2 : Nat → Int32 → Mm → Option (Int32 × Mm)) (hk2 : ∀ (x0 : Nat) (x1 : Int32) (M : Mm), k2 x0 x1 M = some r → TW X G 2 (RQ X G (some (.int r.1)) r.2 rm_X12_image) 0 0 M 2 [(0, .ref x0), (1, .int x1)] []) (x0 : Nat) (x1 : Int32) (M : Mm) (h : b_X12_image_2 N k2 x0 x1 M = some r) : TW X G 2 (RQ X G (some (.int r.1)) r.2 rm_X12_image) 0 0 M 2 [(0, .ref x0), (1, .int x1)] [] := by
  unfold b_X12_image_2 at h
  refine zt_iload_n hC rfl dX12_image_2 ?_
  refine zt_sipush hC ks_174 dX12_image_3 ?_
  refine zt_icmp_ge (tgt := 27) hC h (by decide) dX12_image_6 (fun h => ?_) (fun h => ?_)
  · refine zt_aload_n hC rfl dX12_image_27 ?_
    refine zt_iconst hC ki_1 dX12_image_28 ?_
    refine zt_pZ hC h cl12 (k := 10) (by decide) rfl wd_1001 (Or.inl rfl) (Or.inl rfl) dX12_image_29 (fun M1 h => ?_)
    refine zt_aload_n hC rfl dX12_image_32 ?_
    refine zt_gR hC h cl12 (k := 0) (by decide) rfl wd_991 (Or.inl rfl) dX12_image_33 (fun v2 h => ?_)
    refine zt_iconst hC ki_3 dX12_image_36 ?_
    refine zt_ald hC h dX12_image_37 (fun v3 h => ?_)
    obtain rfl := Option.some.inj h
    exact zt_iret hC rfl rfl (Nat.le_of_ble_eq_true rfl) (Nat.le_of_ble_eq_true rfl) dX12_image_38
  · refine zt_aload_n hC rfl dX12_image_9 ?_
    refine zt_gR hC h cl12 (k := 1) (by decide) rfl wd_992 (Or.inl rfl) dX12_image_10 (fun v4 h => ?_)
    refine zt_iload_n hC rfl dX12_image_13 ?_
    refine zt_aload_n hC rfl dX12_image_14 ?_
    refine zt_gR hC h cl12 (k := 0) (by decide) rfl wd_991 (Or.inl rfl) dX12_image_15 (fun v5 h => ?_)
    refine zt_iload_n hC rfl dX12_image_18 ?_
    refine zt_ald hC h dX12_image_19 (fun v6 h => ?_)
    refine zt_ast hC h dX12_image_20 (fun M7 h => ?_)
    refine zt_iinc (v := (x1 + (1 : Int32))) (lv' := [(1, .int (x1 + (1 : Int32))), (0, .ref x0)]) hC rfl (by rw [ki_1]) (by decide) rfl dX12_image_21 ?_
    refine zt_goto (tgt := 2) hC (by decide) dX12_image_24 ?_
    refine zt_keep [0, 1] rfl ?_
    exact hk2 x0 (x1 + (1 : Int32)) M7 h
theorem w_X12_image_2 {X : Cx} {G : Gl} {r : (Int32 × Mm)} (N : Nat) (hC : CX X G yX12_image cX12_image 2 (some .int) rm_X12_image) (n : Nat) : ∀ (x0 : Nat) (x1 : Int32) (M : Mm), l_X12_image_2 N n x0 x1 M = some r → TW X G 2 (RQ X G (some (.int r.1)) r.2 rm_X12_image) 0 0 M 2 [(0, .ref x0), (1, .int x1)] [] := by
  induction n with
  | zero => intro  x0 x1 M h; cases (show none = some r from h)
  | succ n ih => intro  x0 x1 M h; exact v_X12_image_2 N hC (l_X12_image_2 N n) ih x0 x1 M h
def f_X12_image (N : Nat) (x0 : Nat) (M : Mm) : Option (Int32 × Mm) :=
l_X12_image_2 N N x0 (0 : Int32) M
set_option maxRecDepth 100000 in
set_option maxHeartbeats 4000000 in
theorem c_X12_image (N : Nat) (x0 : Nat) (M : Mm) (r : (Int32 × Mm)) (h : f_X12_image N x0 M = some r) (l : Launch) (hfl : l.flags = flags0) {G : Gl} : MT l G yX12_image cX12_image 2 (some .int) rm_X12_image [.ref x0] M (some (.int r.1)) r.2 := by
  unfold f_X12_image at h
  refine zt_start hfl (lv := [(0, .ref x0)]) (by decide) (Nat.le_of_ble_eq_true rfl) rfl wd_1331 (fun X hC _ => ?_)
  refine zt_iconst hC ki_0 dX12_image_0 ?_
  refine zt_istore_n (lv' := [(1, .int (0 : Int32)), (0, .ref x0)]) hC (by decide) rfl dX12_image_1 ?_
  refine zt_keep [0, 1] rfl ?_
  exact w_X12_image_2 N hC N x0 (0 : Int32) M h
def rm_X12_restore : Room := { frames := 0, cells := 0, slots := 0, locals := 0 }
theorem hd_X12_restore : yX12_restore.cls ≠ "java/lang/invoke/MethodHandle" ∧ yX12_restore.cls ≠ "java/lang/invoke/VarHandle" ∧ (parseMethodDescriptor yX12_restore.desc).map (fun d => d.parameters.length) = some 0 := by decide +kernel
def b_X12_restore_12 (N : Nat) (k12 : Nat → Int32 → Mm → Option (Int32 × Mm)) (x0 : Nat) (x1 : Int32) (M : Mm) : Option (Int32 × Mm) :=
(if (174 : Int32) ≤ x1 then
gR 12 M x0 0 (fun v1 =>
ald M v1 (3 : Int32) (fun v2 =>
some (v2, M)))
else
gR 12 M x0 0 (fun v3 =>
gR 12 M x0 1 (fun v4 =>
ald M v4 x1 (fun v5 =>
ast M v3 x1 v5 (fun M6 =>
k12 x0 (x1 + (1 : Int32)) M6)))))
def l_X12_restore_12 (N : Nat) : Nat → Nat → Int32 → Mm → Option (Int32 × Mm)
  | 0 => fun _ _ _ => none
  | n + 1 => b_X12_restore_12 N (l_X12_restore_12 N n)
set_option maxRecDepth 100000 in
set_option maxHeartbeats 4000000 in
theorem v_X12_restore_12 {X : Cx} {G : Gl} {r : (Int32 × Mm)} (N : Nat) (hC : CX X G yX12_restore cX12_restore 2 (some .int) rm_X12_restore) (k12 : Nat → Int32 → Mm → Option (Int32 × Mm)) (hk12 : ∀ (x0 : Nat) (x1 : Int32) (M : Mm), k12 x0 x1 M = some r → TW X G 2 (RQ X G (some (.int r.1)) r.2 rm_X12_restore) 0 0 M 12 [(0, .ref x0), (1, .int x1)] []) (x0 : Nat) (x1 : Int32) (M : Mm) (h : b_X12_restore_12 N k12 x0 x1 M = some r) : TW X G 2 (RQ X G (some (.int r.1)) r.2 rm_X12_restore) 0 0 M 12 [(0, .ref x0), (1, .int x1)] [] := by
  unfold b_X12_restore_12 at h
  refine zt_iload_n hC rfl dX12_restore_12 ?_
  refine zt_sipush hC ks_174 dX12_restore_13 ?_
  refine zt_icmp_ge (tgt := 37) hC h (by decide) dX12_restore_16 (fun h => ?_) (fun h => ?_)
  · refine zt_aload_n hC rfl dX12_restore_37 ?_
    refine zt_gR hC h cl12 (k := 0) (by decide) rfl wd_991 (Or.inl rfl) dX12_restore_38 (fun v1 h => ?_)
    refine zt_iconst hC ki_3 dX12_restore_41 ?_
    refine zt_ald hC h dX12_restore_42 (fun v2 h => ?_)
    obtain rfl := Option.some.inj h
    exact zt_iret hC rfl rfl (Nat.le_of_ble_eq_true rfl) (Nat.le_of_ble_eq_true rfl) dX12_restore_43
  · refine zt_aload_n hC rfl dX12_restore_19 ?_
    refine zt_gR hC h cl12 (k := 0) (by decide) rfl wd_991 (Or.inl rfl) dX12_restore_20 (fun v3 h => ?_)
    refine zt_iload_n hC rfl dX12_restore_23 ?_
    refine zt_aload_n hC rfl dX12_restore_24 ?_
    refine zt_gR hC h cl12 (k := 1) (by decide) rfl wd_992 (Or.inl rfl) dX12_restore_25 (fun v4 h => ?_)
    refine zt_iload_n hC rfl dX12_restore_28 ?_
    refine zt_ald hC h dX12_restore_29 (fun v5 h => ?_)
    refine zt_ast hC h dX12_restore_30 (fun M6 h => ?_)
    refine zt_iinc (v := (x1 + (1 : Int32))) (lv' := [(1, .int (x1 + (1 : Int32))), (0, .ref x0)]) hC rfl (by rw [ki_1]) (by decide) rfl dX12_restore_31 ?_
    refine zt_goto (tgt := 12) hC (by decide) dX12_restore_34 ?_
    refine zt_keep [0, 1] rfl ?_
    exact hk12 x0 (x1 + (1 : Int32)) M6 h
theorem w_X12_restore_12 {X : Cx} {G : Gl} {r : (Int32 × Mm)} (N : Nat) (hC : CX X G yX12_restore cX12_restore 2 (some .int) rm_X12_restore) (n : Nat) : ∀ (x0 : Nat) (x1 : Int32) (M : Mm), l_X12_restore_12 N n x0 x1 M = some r → TW X G 2 (RQ X G (some (.int r.1)) r.2 rm_X12_restore) 0 0 M 12 [(0, .ref x0), (1, .int x1)] [] := by
  induction n with
  | zero => intro  x0 x1 M h; cases (show none = some r from h)
  | succ n ih => intro  x0 x1 M h; exact v_X12_restore_12 N hC (l_X12_restore_12 N n) ih x0 x1 M h
def f_X12_restore (N : Nat) (x0 : Nat) (M : Mm) : Option (Int32 × Mm) :=
gI 12 M x0 10 (fun v1 =>
(if v1 = 0 then
some ((-3 : Int32), M)
else
l_X12_restore_12 N N x0 (0 : Int32) M))
set_option maxRecDepth 100000 in
set_option maxHeartbeats 4000000 in
theorem c_X12_restore (N : Nat) (x0 : Nat) (M : Mm) (r : (Int32 × Mm)) (h : f_X12_restore N x0 M = some r) (l : Launch) (hfl : l.flags = flags0) {G : Gl} : MT l G yX12_restore cX12_restore 2 (some .int) rm_X12_restore [.ref x0] M (some (.int r.1)) r.2 := by
  unfold f_X12_restore at h
  refine zt_start hfl (lv := [(0, .ref x0)]) (by decide) (Nat.le_of_ble_eq_true rfl) rfl wd_1335 (fun X hC _ => ?_)
  refine zt_aload_n hC rfl dX12_restore_0 ?_
  refine zt_gI hC h cl12 (k := 10) (by decide) rfl wd_1001 (Or.inl rfl) dX12_restore_1 (fun v1 h => ?_)
  refine zt_if_ne (tgt := 10) hC h (by decide) dX12_restore_4 (fun h => ?_) (fun h => ?_)
  · refine zt_iconst hC ki_0 dX12_restore_10 ?_
    refine zt_istore_n (lv' := [(1, .int (0 : Int32)), (0, .ref x0)]) hC (by decide) rfl dX12_restore_11 ?_
    refine zt_keep [0, 1] rfl ?_
    exact w_X12_restore_12 N hC N x0 (0 : Int32) M h
  · refine zt_bipush hC kb_m3 dX12_restore_7 ?_
    obtain rfl := Option.some.inj h
    exact zt_iret hC rfl rfl (Nat.le_of_ble_eq_true rfl) (Nat.le_of_ble_eq_true rfl) dX12_restore_9
def rm_X12_count : Room := { frames := 1, cells := 0, slots := 0, locals := 22 }
theorem hd_X12_count : yX12_count.cls ≠ "java/lang/invoke/MethodHandle" ∧ yX12_count.cls ≠ "java/lang/invoke/VarHandle" ∧ (parseMethodDescriptor yX12_count.desc).map (fun d => d.parameters.length) = some 1 := by decide +kernel
def b_X12_count_49 (N : Nat) (k49 : Nat → Int32 → Int32 → Mm → Option (Int32 × Mm)) (x0 : Nat) (x2 : Int32) (x3 : Int32) (M : Mm) : Option (Int32 × Mm) :=
gR 12 M x0 0 (fun v1 =>
ald M v1 (0 : Int32) (fun v2 =>
(if v2 ≤ x3 then
some (x2, M)
else
gR 12 M x0 0 (fun v3 =>
bnd (f_X12_standing N v3 x3 M) (fun v4 M5 =>
k49 x0 (x2 + v4) (x3 + (1 : Int32)) M5)))))
def l_X12_count_49 (N : Nat) : Nat → Nat → Int32 → Int32 → Mm → Option (Int32 × Mm)
  | 0 => fun _ _ _ _ => none
  | n + 1 => b_X12_count_49 N (l_X12_count_49 N n)
set_option maxRecDepth 100000 in
set_option maxHeartbeats 4000000 in
theorem v_X12_count_49 {X : Cx} {G : Gl} {r : (Int32 × Mm)} (N : Nat) (hC : CX X G yX12_count cX12_count 4 (some .int) rm_X12_count) (k49 : Nat → Int32 → Int32 → Mm → Option (Int32 × Mm)) (hk49 : ∀ (x0 : Nat) (x2 : Int32) (x3 : Int32) (M : Mm), k49 x0 x2 x3 M = some r → TW X G 4 (RQ X G (some (.int r.1)) r.2 rm_X12_count) 0 0 M 49 [(0, .ref x0), (2, .int x2), (3, .int x3)] []) (x0 : Nat) (x2 : Int32) (x3 : Int32) (M : Mm) (h : b_X12_count_49 N k49 x0 x2 x3 M = some r) : TW X G 4 (RQ X G (some (.int r.1)) r.2 rm_X12_count) 0 0 M 49 [(0, .ref x0), (2, .int x2), (3, .int x3)] [] := by
  unfold b_X12_count_49 at h
  refine zt_iload_n hC rfl dX12_count_49 ?_
  refine zt_aload_n hC rfl dX12_count_50 ?_
  refine zt_gR hC h cl12 (k := 0) (by decide) rfl wd_991 (Or.inl rfl) dX12_count_51 (fun v1 h => ?_)
  refine zt_iconst hC ki_0 dX12_count_54 ?_
  refine zt_ald hC h dX12_count_55 (fun v2 h => ?_)
  refine zt_icmp_ge (tgt := 76) hC h (by decide) dX12_count_56 (fun h => ?_) (fun h => ?_)
  · refine zt_iload_n hC rfl dX12_count_76 ?_
    obtain rfl := Option.some.inj h
    exact zt_iret hC rfl rfl (Nat.le_of_ble_eq_true rfl) (Nat.le_of_ble_eq_true rfl) dX12_count_77
  · refine zt_iload_n hC rfl dX12_count_59 ?_
    refine zt_aload_n hC rfl dX12_count_60 ?_
    refine zt_gR hC h cl12 (k := 0) (by decide) rfl wd_991 (Or.inl rfl) dX12_count_61 (fun v3 h => ?_)
    refine zt_iload_n hC rfl dX12_count_64 ?_
    obtain ⟨v4, M5, h6, h⟩ := bnd_some h
    refine zt_callS (z := yX12_standing) (As := [.ref v3, .int x3]) (rest := [.int x2]) (st1 := (.int v4 :: [.int x2])) hC 2 (fun l hl => c_X12_standing N v3 x3 M (v4, M5) h6 l hl) rfl wd_1106 wd_1104 wd_1105 wd_7 hd_X12_standing rfl ⟨⟨(Nat.le_of_ble_eq_true rfl), (Nat.le_of_ble_eq_true rfl)⟩, (Nat.le_of_ble_eq_true rfl), (Nat.le_of_ble_eq_true rfl)⟩ rfl (Nat.le_of_ble_eq_true rfl) rfl dX12_count_65 ?_
    refine zt_iadd hC dX12_count_68 ?_
    refine zt_istore_n (lv' := [(2, .int (x2 + v4)), (0, .ref x0), (3, .int x3)]) hC (by decide) rfl dX12_count_69 ?_
    refine zt_iinc (v := (x3 + (1 : Int32))) (lv' := [(3, .int (x3 + (1 : Int32))), (2, .int (x2 + v4)), (0, .ref x0)]) hC rfl (by rw [ki_1]) (by decide) rfl dX12_count_70 ?_
    refine zt_goto (tgt := 49) hC (by decide) dX12_count_73 ?_
    refine zt_keep [0, 2, 3] rfl ?_
    exact hk49 x0 (x2 + v4) (x3 + (1 : Int32)) M5 h
theorem w_X12_count_49 {X : Cx} {G : Gl} {r : (Int32 × Mm)} (N : Nat) (hC : CX X G yX12_count cX12_count 4 (some .int) rm_X12_count) (n : Nat) : ∀ (x0 : Nat) (x2 : Int32) (x3 : Int32) (M : Mm), l_X12_count_49 N n x0 x2 x3 M = some r → TW X G 4 (RQ X G (some (.int r.1)) r.2 rm_X12_count) 0 0 M 49 [(0, .ref x0), (2, .int x2), (3, .int x3)] [] := by
  induction n with
  | zero => intro  x0 x2 x3 M h; cases (show none = some r from h)
  | succ n ih => intro  x0 x2 x3 M h; exact v_X12_count_49 N hC (l_X12_count_49 N n) ih x0 x2 x3 M h
def b_X12_count_80 (N : Nat) (k80 : Nat → Int32 → Int32 → Mm → Option (Int32 × Mm)) (x0 : Nat) (x2 : Int32) (x3 : Int32) (M : Mm) : Option (Int32 × Mm) :=
gR 12 M x0 0 (fun v1 =>
ald M v1 (1 : Int32) (fun v2 =>
(if v2 ≤ x3 then
some (x2, M)
else
gR 12 M x0 0 (fun v3 =>
bnd (f_X12_get N v3 x3 (2 : Int32) M) (fun v4 M5 =>
k80 x0 (x2 + v4) (x3 + (1 : Int32)) M5)))))
def l_X12_count_80 (N : Nat) : Nat → Nat → Int32 → Int32 → Mm → Option (Int32 × Mm)
  | 0 => fun _ _ _ _ => none
  | n + 1 => b_X12_count_80 N (l_X12_count_80 N n)
set_option maxRecDepth 100000 in
set_option maxHeartbeats 4000000 in
theorem v_X12_count_80 {X : Cx} {G : Gl} {r : (Int32 × Mm)} (N : Nat) (hC : CX X G yX12_count cX12_count 4 (some .int) rm_X12_count) (k80 : Nat → Int32 → Int32 → Mm → Option (Int32 × Mm)) (hk80 : ∀ (x0 : Nat) (x2 : Int32) (x3 : Int32) (M : Mm), k80 x0 x2 x3 M = some r → TW X G 4 (RQ X G (some (.int r.1)) r.2 rm_X12_count) 0 0 M 80 [(0, .ref x0), (2, .int x2), (3, .int x3)] []) (x0 : Nat) (x2 : Int32) (x3 : Int32) (M : Mm) (h : b_X12_count_80 N k80 x0 x2 x3 M = some r) : TW X G 4 (RQ X G (some (.int r.1)) r.2 rm_X12_count) 0 0 M 80 [(0, .ref x0), (2, .int x2), (3, .int x3)] [] := by
  unfold b_X12_count_80 at h
  refine zt_iload_n hC rfl dX12_count_80 ?_
  refine zt_aload_n hC rfl dX12_count_81 ?_
  refine zt_gR hC h cl12 (k := 0) (by decide) rfl wd_991 (Or.inl rfl) dX12_count_82 (fun v1 h => ?_)
  refine zt_iconst hC ki_1 dX12_count_85 ?_
  refine zt_ald hC h dX12_count_86 (fun v2 h => ?_)
  refine zt_icmp_ge (tgt := 108) hC h (by decide) dX12_count_87 (fun h => ?_) (fun h => ?_)
  · refine zt_iload_n hC rfl dX12_count_108 ?_
    obtain rfl := Option.some.inj h
    exact zt_iret hC rfl rfl (Nat.le_of_ble_eq_true rfl) (Nat.le_of_ble_eq_true rfl) dX12_count_109
  · refine zt_iload_n hC rfl dX12_count_90 ?_
    refine zt_aload_n hC rfl dX12_count_91 ?_
    refine zt_gR hC h cl12 (k := 0) (by decide) rfl wd_991 (Or.inl rfl) dX12_count_92 (fun v3 h => ?_)
    refine zt_iload_n hC rfl dX12_count_95 ?_
    refine zt_iconst hC ki_2 dX12_count_96 ?_
    obtain ⟨v4, M5, h6, h⟩ := bnd_some h
    refine zt_callS (z := yX12_get) (As := [.ref v3, .int x3, .int (2 : Int32)]) (rest := [.int x2]) (st1 := (.int v4 :: [.int x2])) hC 3 (fun l hl => c_X12_get N v3 x3 (2 : Int32) M (v4, M5) h6 l hl) rfl wd_1112 wd_1110 wd_1111 wd_7 hd_X12_get rfl ⟨⟨(Nat.le_of_ble_eq_true rfl), (Nat.le_of_ble_eq_true rfl)⟩, (Nat.le_of_ble_eq_true rfl), (Nat.le_of_ble_eq_true rfl)⟩ rfl (Nat.le_of_ble_eq_true rfl) rfl dX12_count_97 ?_
    refine zt_iadd hC dX12_count_100 ?_
    refine zt_istore_n (lv' := [(2, .int (x2 + v4)), (0, .ref x0), (3, .int x3)]) hC (by decide) rfl dX12_count_101 ?_
    refine zt_iinc (v := (x3 + (1 : Int32))) (lv' := [(3, .int (x3 + (1 : Int32))), (2, .int (x2 + v4)), (0, .ref x0)]) hC rfl (by rw [ki_1]) (by decide) rfl dX12_count_102 ?_
    refine zt_goto (tgt := 80) hC (by decide) dX12_count_105 ?_
    refine zt_keep [0, 2, 3] rfl ?_
    exact hk80 x0 (x2 + v4) (x3 + (1 : Int32)) M5 h
theorem w_X12_count_80 {X : Cx} {G : Gl} {r : (Int32 × Mm)} (N : Nat) (hC : CX X G yX12_count cX12_count 4 (some .int) rm_X12_count) (n : Nat) : ∀ (x0 : Nat) (x2 : Int32) (x3 : Int32) (M : Mm), l_X12_count_80 N n x0 x2 x3 M = some r → TW X G 4 (RQ X G (some (.int r.1)) r.2 rm_X12_count) 0 0 M 80 [(0, .ref x0), (2, .int x2), (3, .int x3)] [] := by
  induction n with
  | zero => intro  x0 x2 x3 M h; cases (show none = some r from h)
  | succ n ih => intro  x0 x2 x3 M h; exact v_X12_count_80 N hC (l_X12_count_80 N n) ih x0 x2 x3 M h
def f_X12_count (N : Nat) (x0 : Nat) (x1 : Int32) (M : Mm) : Option (Int32 × Mm) :=
(if x1 = (0 : Int32) then
gR 12 M x0 0 (fun v1 =>
ald M v1 x1 (fun v2 =>
some (v2, M)))
else
(if x1 = (1 : Int32) then
gR 12 M x0 0 (fun v3 =>
ald M v3 x1 (fun v4 =>
some (v4, M)))
else
(if x1 = (2 : Int32) then
gR 12 M x0 0 (fun v5 =>
ald M v5 x1 (fun v6 =>
some (v6, M)))
else
(if x1 = (3 : Int32) then
gR 12 M x0 0 (fun v7 =>
ald M v7 x1 (fun v8 =>
some (v8, M)))
else
(if x1 = (4 : Int32) then
l_X12_count_49 N N x0 (0 : Int32) (0 : Int32) M
else
(if x1 = (5 : Int32) then
l_X12_count_80 N N x0 (0 : Int32) (0 : Int32) M
else
some ((-1 : Int32), M)))))))
set_option maxRecDepth 100000 in
set_option maxHeartbeats 4000000 in
theorem c_X12_count (N : Nat) (x0 : Nat) (x1 : Int32) (M : Mm) (r : (Int32 × Mm)) (h : f_X12_count N x0 x1 M = some r) (l : Launch) (hfl : l.flags = flags0) {G : Gl} : MT l G yX12_count cX12_count 4 (some .int) rm_X12_count [.ref x0, .int x1] M (some (.int r.1)) r.2 := by
  unfold f_X12_count at h
  refine zt_start hfl (lv := [(0, .ref x0), (1, .int x1)]) (by decide) (Nat.le_of_ble_eq_true rfl) rfl wd_1339 (fun X hC _ => ?_)
  refine zt_iconst hC ki_0 dX12_count_0 ?_
  refine zt_istore_n (lv' := [(2, .int (0 : Int32)), (0, .ref x0), (1, .int x1)]) hC (by decide) rfl dX12_count_1 ?_
  refine zt_iload_n hC rfl dX12_count_2 ?_
  rcases ite_or h with ⟨c0, h⟩ | ⟨c0, h⟩
  · refine zt_tsIn (tgt := 40) hC c0 (by decide) (by decide) rfl (by decide) dX12_count_3 ?_
    refine zt_aload_n hC rfl dX12_count_40 ?_
    refine zt_gR hC h cl12 (k := 0) (by decide) rfl wd_991 (Or.inl rfl) dX12_count_41 (fun v1 h => ?_)
    refine zt_iload_n hC rfl dX12_count_44 ?_
    refine zt_ald hC h dX12_count_45 (fun v2 h => ?_)
    obtain rfl := Option.some.inj h
    exact zt_iret hC rfl rfl (Nat.le_of_ble_eq_true rfl) (Nat.le_of_ble_eq_true rfl) dX12_count_46
  · rcases ite_or h with ⟨c1, h⟩ | ⟨c1, h⟩
    · refine zt_tsIn (tgt := 40) hC c1 (by decide) (by decide) rfl (by decide) dX12_count_3 ?_
      refine zt_aload_n hC rfl dX12_count_40 ?_
      refine zt_gR hC h cl12 (k := 0) (by decide) rfl wd_991 (Or.inl rfl) dX12_count_41 (fun v3 h => ?_)
      refine zt_iload_n hC rfl dX12_count_44 ?_
      refine zt_ald hC h dX12_count_45 (fun v4 h => ?_)
      obtain rfl := Option.some.inj h
      exact zt_iret hC rfl rfl (Nat.le_of_ble_eq_true rfl) (Nat.le_of_ble_eq_true rfl) dX12_count_46
    · rcases ite_or h with ⟨c2, h⟩ | ⟨c2, h⟩
      · refine zt_tsIn (tgt := 40) hC c2 (by decide) (by decide) rfl (by decide) dX12_count_3 ?_
        refine zt_aload_n hC rfl dX12_count_40 ?_
        refine zt_gR hC h cl12 (k := 0) (by decide) rfl wd_991 (Or.inl rfl) dX12_count_41 (fun v5 h => ?_)
        refine zt_iload_n hC rfl dX12_count_44 ?_
        refine zt_ald hC h dX12_count_45 (fun v6 h => ?_)
        obtain rfl := Option.some.inj h
        exact zt_iret hC rfl rfl (Nat.le_of_ble_eq_true rfl) (Nat.le_of_ble_eq_true rfl) dX12_count_46
      · rcases ite_or h with ⟨c3, h⟩ | ⟨c3, h⟩
        · refine zt_tsIn (tgt := 40) hC c3 (by decide) (by decide) rfl (by decide) dX12_count_3 ?_
          refine zt_aload_n hC rfl dX12_count_40 ?_
          refine zt_gR hC h cl12 (k := 0) (by decide) rfl wd_991 (Or.inl rfl) dX12_count_41 (fun v7 h => ?_)
          refine zt_iload_n hC rfl dX12_count_44 ?_
          refine zt_ald hC h dX12_count_45 (fun v8 h => ?_)
          obtain rfl := Option.some.inj h
          exact zt_iret hC rfl rfl (Nat.le_of_ble_eq_true rfl) (Nat.le_of_ble_eq_true rfl) dX12_count_46
        · rcases ite_or h with ⟨c4, h⟩ | ⟨c4, h⟩
          · refine zt_tsIn (tgt := 47) hC c4 (by decide) (by decide) rfl (by decide) dX12_count_3 ?_
            refine zt_iconst hC ki_0 dX12_count_47 ?_
            refine zt_istore_n (lv' := [(3, .int (0 : Int32)), (2, .int (0 : Int32)), (0, .ref x0), (1, .int x1)]) hC (by decide) rfl dX12_count_48 ?_
            refine zt_keep [0, 2, 3] rfl ?_
            exact w_X12_count_49 N hC N x0 (0 : Int32) (0 : Int32) M h
          · rcases ite_or h with ⟨c5, h⟩ | ⟨c5, h⟩
            · refine zt_tsIn (tgt := 78) hC c5 (by decide) (by decide) rfl (by decide) dX12_count_3 ?_
              refine zt_iconst hC ki_0 dX12_count_78 ?_
              refine zt_istore_n (lv' := [(3, .int (0 : Int32)), (2, .int (0 : Int32)), (0, .ref x0), (1, .int x1)]) hC (by decide) rfl dX12_count_79 ?_
              refine zt_keep [0, 2, 3] rfl ?_
              exact w_X12_count_80 N hC N x0 (0 : Int32) (0 : Int32) M h
            · refine zt_tsOut (tgt := 110) hC (by have e0 := sw_ne c0 (j := 0) (by decide); have e1 := sw_ne c1 (j := 1) (by decide); have e2 := sw_ne c2 (j := 2) (by decide); have e3 := sw_ne c3 (j := 3) (by decide); have e4 := sw_ne c4 (j := 4) (by decide); have e5 := sw_ne c5 (j := 5) (by decide); omega) (by decide) dX12_count_3 ?_
              refine zt_iconst hC ki_m1 dX12_count_110 ?_
              obtain rfl := Option.some.inj h
              exact zt_iret hC rfl rfl (Nat.le_of_ble_eq_true rfl) (Nat.le_of_ble_eq_true rfl) dX12_count_111
def rm_X12_keep : Room := { frames := 2, cells := 0, slots := 0, locals := 45 }
theorem hd_X12_keep : yX12_keep.cls ≠ "java/lang/invoke/MethodHandle" ∧ yX12_keep.cls ≠ "java/lang/invoke/VarHandle" ∧ (parseMethodDescriptor yX12_keep.desc).map (fun d => d.parameters.length) = some 4 := by decide +kernel
def j_X12_keep_49 (N : Nat) (x0 : Nat) (x1 : Int32) (x2 : Int32) (x3 : Int32) (x4 : Int32) (M : Mm) : Option (Int32 × Mm) :=
gR 12 M x0 4 (fun v1 =>
ast M v1 x1 x2 (fun M2 =>
gR 12 M2 x0 8 (fun v3 =>
ast M2 v3 x1 x3 (fun M4 =>
gR 12 M4 x0 9 (fun v5 =>
ast M4 v5 x1 x4 (fun M6 =>
some ((0 : Int32), M6)))))))
set_option maxRecDepth 100000 in
set_option maxHeartbeats 4000000 in
theorem w_X12_keep_49 {X : Cx} {G : Gl} {r : (Int32 × Mm)} (N : Nat) (hC : CX X G yX12_keep cX12_keep 5 (some .int) rm_X12_keep) (x0 : Nat) (x1 : Int32) (x2 : Int32) (x3 : Int32) (x4 : Int32) (M : Mm) (h : j_X12_keep_49 N x0 x1 x2 x3 x4 M = some r) : TW X G 5 (RQ X G (some (.int r.1)) r.2 rm_X12_keep) 0 0 M 49 [(0, .ref x0), (1, .int x1), (2, .int x2), (3, .int x3), (4, .int x4)] [] := by
  unfold j_X12_keep_49 at h
  refine zt_aload_n hC rfl dX12_keep_49 ?_
  refine zt_gR hC h cl12 (k := 4) (by decide) rfl wd_995 (Or.inl rfl) dX12_keep_50 (fun v1 h => ?_)
  refine zt_iload_n hC rfl dX12_keep_53 ?_
  refine zt_iload_n hC rfl dX12_keep_54 ?_
  refine zt_ast hC h dX12_keep_55 (fun M2 h => ?_)
  refine zt_aload_n hC rfl dX12_keep_56 ?_
  refine zt_gR hC h cl12 (k := 8) (by decide) rfl wd_999 (Or.inl rfl) dX12_keep_57 (fun v3 h => ?_)
  refine zt_iload_n hC rfl dX12_keep_60 ?_
  refine zt_iload_n hC rfl dX12_keep_61 ?_
  refine zt_ast hC h dX12_keep_62 (fun M4 h => ?_)
  refine zt_aload_n hC rfl dX12_keep_63 ?_
  refine zt_gR hC h cl12 (k := 9) (by decide) rfl wd_1000 (Or.inl rfl) dX12_keep_64 (fun v5 h => ?_)
  refine zt_iload_n hC rfl dX12_keep_67 ?_
  refine zt_iload hC rfl dX12_keep_68 ?_
  refine zt_ast hC h dX12_keep_70 (fun M6 h => ?_)
  refine zt_iconst hC ki_0 dX12_keep_71 ?_
  obtain rfl := Option.some.inj h
  exact zt_iret hC rfl rfl (Nat.le_of_ble_eq_true rfl) (Nat.le_of_ble_eq_true rfl) dX12_keep_72
def f_X12_keep (N : Nat) (x0 : Nat) (x1 : Int32) (x2 : Int32) (x3 : Int32) (x4 : Int32) (M : Mm) : Option (Int32 × Mm) :=
bnd (f_X12_isShelf N x1 M) (fun v1 M2 =>
(if v1 = 0 then
some ((-1 : Int32), M2)
else
bnd (f_X12_isIn N (Int32.toInt64 x2) (0 : Int64) (1 : Int64) M2) (fun v4 M5 =>
(if v4 = 0 then
some ((-1 : Int32), M5)
else
(if x2 = (1 : Int32) then
bnd (f_X12_isIn N (Int32.toInt64 x3) (0 : Int64) (6 : Int64) M5) (fun v7 M8 =>
(if v7 = 0 then
some ((-1 : Int32), M8)
else
bnd (f_X12_isIn N (Int32.toInt64 x4) (0 : Int64) (9 : Int64) M8) (fun v10 M11 =>
(if v10 = 0 then
some ((-1 : Int32), M11)
else
j_X12_keep_49 N x0 x1 x2 x3 x4 M11))))
else
j_X12_keep_49 N x0 x1 x2 x3 x4 M5)))))
set_option maxRecDepth 100000 in
set_option maxHeartbeats 4000000 in
theorem c_X12_keep (N : Nat) (x0 : Nat) (x1 : Int32) (x2 : Int32) (x3 : Int32) (x4 : Int32) (M : Mm) (r : (Int32 × Mm)) (h : f_X12_keep N x0 x1 x2 x3 x4 M = some r) (l : Launch) (hfl : l.flags = flags0) {G : Gl} : MT l G yX12_keep cX12_keep 5 (some .int) rm_X12_keep [.ref x0, .int x1, .int x2, .int x3, .int x4] M (some (.int r.1)) r.2 := by
  unfold f_X12_keep at h
  refine zt_start hfl (lv := [(0, .ref x0), (1, .int x1), (2, .int x2), (3, .int x3), (4, .int x4)]) (by decide) (Nat.le_of_ble_eq_true rfl) rfl wd_1343 (fun X hC _ => ?_)
  refine zt_iload_n hC rfl dX12_keep_0 ?_
  obtain ⟨v1, M2, h3, h⟩ := bnd_some h
  refine zt_callS (z := yX12_isShelf) (As := [.int x1]) (rest := []) (st1 := (.int v1 :: [])) hC 1 (fun l hl => c_X12_isShelf N x1 M (v1, M2) h3 l hl) rfl wd_1063 wd_1061 wd_1062 wd_7 hd_X12_isShelf rfl ⟨⟨(Nat.le_of_ble_eq_true rfl), (Nat.le_of_ble_eq_true rfl)⟩, (Nat.le_of_ble_eq_true rfl), (Nat.le_of_ble_eq_true rfl)⟩ rfl (Nat.le_of_ble_eq_true rfl) rfl dX12_keep_1 ?_
  refine zt_if_eq (tgt := 47) hC h (by decide) dX12_keep_4 (fun h => ?_) (fun h => ?_)
  · refine zt_iconst hC ki_m1 dX12_keep_47 ?_
    obtain rfl := Option.some.inj h
    exact zt_iret hC rfl rfl (Nat.le_of_ble_eq_true rfl) (Nat.le_of_ble_eq_true rfl) dX12_keep_48
  · refine zt_iload_n hC rfl dX12_keep_7 ?_
    refine zt_i2l hC dX12_keep_8 ?_
    refine zt_lconst hC kl_0 dX12_keep_9 ?_
    refine zt_lconst hC kl_1 dX12_keep_10 ?_
    obtain ⟨v4, M5, h6, h⟩ := bnd_some h
    refine zt_callS (z := yX12_isIn) (As := [.long (Int32.toInt64 x2), .long (0 : Int64), .long (1 : Int64)]) (rest := []) (st1 := (.int v4 :: [])) hC 3 (fun l hl => c_X12_isIn N (Int32.toInt64 x2) (0 : Int64) (1 : Int64) M2 (v4, M5) h6 l hl) rfl wd_1067 wd_1065 wd_1066 wd_7 hd_X12_isIn rfl ⟨⟨(Nat.le_of_ble_eq_true rfl), (Nat.le_of_ble_eq_true rfl)⟩, (Nat.le_of_ble_eq_true rfl), (Nat.le_of_ble_eq_true rfl)⟩ rfl (Nat.le_of_ble_eq_true rfl) rfl dX12_keep_11 ?_
    refine zt_if_eq (tgt := 47) hC h (by decide) dX12_keep_14 (fun h => ?_) (fun h => ?_)
    · refine zt_iconst hC ki_m1 dX12_keep_47 ?_
      obtain rfl := Option.some.inj h
      exact zt_iret hC rfl rfl (Nat.le_of_ble_eq_true rfl) (Nat.le_of_ble_eq_true rfl) dX12_keep_48
    · refine zt_iload_n hC rfl dX12_keep_17 ?_
      refine zt_iconst hC ki_1 dX12_keep_18 ?_
      refine zt_icmp_ne (tgt := 49) hC h (by decide) dX12_keep_19 (fun h => ?_) (fun h => ?_)
      · refine zt_keep [0, 1, 2, 3, 4] rfl ?_
        exact w_X12_keep_49 N hC x0 x1 x2 x3 x4 M5 h
      · refine zt_iload_n hC rfl dX12_keep_22 ?_
        refine zt_i2l hC dX12_keep_23 ?_
        refine zt_lconst hC kl_0 dX12_keep_24 ?_
        refine zt_ldc2 hC wd_1113 dX12_keep_25 ?_
        obtain ⟨v7, M8, h9, h⟩ := bnd_some h
        refine zt_callS (z := yX12_isIn) (As := [.long (Int32.toInt64 x3), .long (0 : Int64), .long (6 : Int64)]) (rest := []) (st1 := (.int v7 :: [])) hC 3 (fun l hl => c_X12_isIn N (Int32.toInt64 x3) (0 : Int64) (6 : Int64) M5 (v7, M8) h9 l hl) rfl wd_1067 wd_1065 wd_1066 wd_7 hd_X12_isIn rfl ⟨⟨(Nat.le_of_ble_eq_true rfl), (Nat.le_of_ble_eq_true rfl)⟩, (Nat.le_of_ble_eq_true rfl), (Nat.le_of_ble_eq_true rfl)⟩ rfl (Nat.le_of_ble_eq_true rfl) rfl dX12_keep_28 ?_
        refine zt_if_eq (tgt := 47) hC h (by decide) dX12_keep_31 (fun h => ?_) (fun h => ?_)
        · refine zt_iconst hC ki_m1 dX12_keep_47 ?_
          obtain rfl := Option.some.inj h
          exact zt_iret hC rfl rfl (Nat.le_of_ble_eq_true rfl) (Nat.le_of_ble_eq_true rfl) dX12_keep_48
        · refine zt_iload hC rfl dX12_keep_34 ?_
          refine zt_i2l hC dX12_keep_36 ?_
          refine zt_lconst hC kl_0 dX12_keep_37 ?_
          refine zt_ldc2 hC wd_1271 dX12_keep_38 ?_
          obtain ⟨v10, M11, h12, h⟩ := bnd_some h
          refine zt_callS (z := yX12_isIn) (As := [.long (Int32.toInt64 x4), .long (0 : Int64), .long (9 : Int64)]) (rest := []) (st1 := (.int v10 :: [])) hC 3 (fun l hl => c_X12_isIn N (Int32.toInt64 x4) (0 : Int64) (9 : Int64) M8 (v10, M11) h12 l hl) rfl wd_1067 wd_1065 wd_1066 wd_7 hd_X12_isIn rfl ⟨⟨(Nat.le_of_ble_eq_true rfl), (Nat.le_of_ble_eq_true rfl)⟩, (Nat.le_of_ble_eq_true rfl), (Nat.le_of_ble_eq_true rfl)⟩ rfl (Nat.le_of_ble_eq_true rfl) rfl dX12_keep_41 ?_
          refine zt_if_ne (tgt := 49) hC h (by decide) dX12_keep_44 (fun h => ?_) (fun h => ?_)
          · refine zt_keep [0, 1, 2, 3, 4] rfl ?_
            exact w_X12_keep_49 N hC x0 x1 x2 x3 x4 M11 h
          · refine zt_iconst hC ki_m1 dX12_keep_47 ?_
            obtain rfl := Option.some.inj h
            exact zt_iret hC rfl rfl (Nat.le_of_ble_eq_true rfl) (Nat.le_of_ble_eq_true rfl) dX12_keep_48
def rm_X12_row : Room := { frames := 2, cells := 0, slots := 0, locals := 45 }
theorem hd_X12_row : yX12_row.cls ≠ "java/lang/invoke/MethodHandle" ∧ yX12_row.cls ≠ "java/lang/invoke/VarHandle" ∧ (parseMethodDescriptor yX12_row.desc).map (fun d => d.parameters.length) = some 3 := by decide +kernel
def b_X12_row_58 (N : Nat) (k58 : Nat → Int32 → Int32 → Mm → Option (Int32 × Mm)) (x0 : Nat) (x1 : Int32) (x4 : Int32) (M : Mm) : Option (Int32 × Mm) :=
(if (100 : Int32) ≤ x4 then
some ((0 : Int32), M)
else
gR 12 M x0 7 (fun v1 =>
ast M v1 (((100 : Int32) * x1) + x4) (0 : Int32) (fun M2 =>
k58 x0 x1 (x4 + (1 : Int32)) M2)))
def l_X12_row_58 (N : Nat) : Nat → Nat → Int32 → Int32 → Mm → Option (Int32 × Mm)
  | 0 => fun _ _ _ _ => none
  | n + 1 => b_X12_row_58 N (l_X12_row_58 N n)
set_option maxRecDepth 100000 in
set_option maxHeartbeats 4000000 in
theorem v_X12_row_58 {X : Cx} {G : Gl} {r : (Int32 × Mm)} (N : Nat) (hC : CX X G yX12_row cX12_row 5 (some .int) rm_X12_row) (k58 : Nat → Int32 → Int32 → Mm → Option (Int32 × Mm)) (hk58 : ∀ (x0 : Nat) (x1 : Int32) (x4 : Int32) (M : Mm), k58 x0 x1 x4 M = some r → TW X G 5 (RQ X G (some (.int r.1)) r.2 rm_X12_row) 0 0 M 58 [(0, .ref x0), (1, .int x1), (4, .int x4)] []) (x0 : Nat) (x1 : Int32) (x4 : Int32) (M : Mm) (h : b_X12_row_58 N k58 x0 x1 x4 M = some r) : TW X G 5 (RQ X G (some (.int r.1)) r.2 rm_X12_row) 0 0 M 58 [(0, .ref x0), (1, .int x1), (4, .int x4)] [] := by
  unfold b_X12_row_58 at h
  refine zt_iload hC rfl dX12_row_58 ?_
  refine zt_bipush hC kb_100 dX12_row_60 ?_
  refine zt_icmp_ge (tgt := 84) hC h (by decide) dX12_row_62 (fun h => ?_) (fun h => ?_)
  · refine zt_iconst hC ki_0 dX12_row_84 ?_
    obtain rfl := Option.some.inj h
    exact zt_iret hC rfl rfl (Nat.le_of_ble_eq_true rfl) (Nat.le_of_ble_eq_true rfl) dX12_row_85
  · refine zt_aload_n hC rfl dX12_row_65 ?_
    refine zt_gR hC h cl12 (k := 7) (by decide) rfl wd_998 (Or.inl rfl) dX12_row_66 (fun v1 h => ?_)
    refine zt_bipush hC kb_100 dX12_row_69 ?_
    refine zt_iload_n hC rfl dX12_row_71 ?_
    refine zt_imul hC dX12_row_72 ?_
    refine zt_iload hC rfl dX12_row_73 ?_
    refine zt_iadd hC dX12_row_75 ?_
    refine zt_iconst hC ki_0 dX12_row_76 ?_
    refine zt_ast hC h dX12_row_77 (fun M2 h => ?_)
    refine zt_iinc (v := (x4 + (1 : Int32))) (lv' := [(4, .int (x4 + (1 : Int32))), (0, .ref x0), (1, .int x1)]) hC rfl (by rw [ki_1]) (by decide) rfl dX12_row_78 ?_
    refine zt_goto (tgt := 58) hC (by decide) dX12_row_81 ?_
    refine zt_keep [0, 1, 4] rfl ?_
    exact hk58 x0 x1 (x4 + (1 : Int32)) M2 h
theorem w_X12_row_58 {X : Cx} {G : Gl} {r : (Int32 × Mm)} (N : Nat) (hC : CX X G yX12_row cX12_row 5 (some .int) rm_X12_row) (n : Nat) : ∀ (x0 : Nat) (x1 : Int32) (x4 : Int32) (M : Mm), l_X12_row_58 N n x0 x1 x4 M = some r → TW X G 5 (RQ X G (some (.int r.1)) r.2 rm_X12_row) 0 0 M 58 [(0, .ref x0), (1, .int x1), (4, .int x4)] [] := by
  induction n with
  | zero => intro  x0 x1 x4 M h; cases (show none = some r from h)
  | succ n ih => intro  x0 x1 x4 M h; exact v_X12_row_58 N hC (l_X12_row_58 N n) ih x0 x1 x4 M h
def f_X12_row (N : Nat) (x0 : Nat) (x1 : Int32) (x2 : Int32) (x3 : Int32) (M : Mm) : Option (Int32 × Mm) :=
bnd (f_X12_isShelf N x1 M) (fun v1 M2 =>
(if v1 = 0 then
some ((-1 : Int32), M2)
else
bnd (f_X12_isIn N (Int32.toInt64 x2) (0 : Int64) (2 : Int64) M2) (fun v4 M5 =>
(if v4 = 0 then
some ((-1 : Int32), M5)
else
(if x3 ≤ (100 : Int32) then
(if 0 ≤ x3 then
gR 12 M5 x0 4 (fun v7 =>
ast M5 v7 x1 (2 : Int32) (fun M8 =>
gR 12 M8 x0 5 (fun v9 =>
ast M8 v9 x1 x2 (fun M10 =>
gR 12 M10 x0 6 (fun v11 =>
ast M10 v11 x1 x3 (fun M12 =>
l_X12_row_58 N N x0 x1 (0 : Int32) M12))))))
else
some ((-14 : Int32), M5))
else
some ((-1 : Int32), M5))))))
set_option maxRecDepth 100000 in
set_option maxHeartbeats 4000000 in
theorem c_X12_row (N : Nat) (x0 : Nat) (x1 : Int32) (x2 : Int32) (x3 : Int32) (M : Mm) (r : (Int32 × Mm)) (h : f_X12_row N x0 x1 x2 x3 M = some r) (l : Launch) (hfl : l.flags = flags0) {G : Gl} : MT l G yX12_row cX12_row 5 (some .int) rm_X12_row [.ref x0, .int x1, .int x2, .int x3] M (some (.int r.1)) r.2 := by
  unfold f_X12_row at h
  refine zt_start hfl (lv := [(0, .ref x0), (1, .int x1), (2, .int x2), (3, .int x3)]) (by decide) (Nat.le_of_ble_eq_true rfl) rfl wd_1347 (fun X hC _ => ?_)
  refine zt_iload_n hC rfl dX12_row_0 ?_
  obtain ⟨v1, M2, h3, h⟩ := bnd_some h
  refine zt_callS (z := yX12_isShelf) (As := [.int x1]) (rest := []) (st1 := (.int v1 :: [])) hC 1 (fun l hl => c_X12_isShelf N x1 M (v1, M2) h3 l hl) rfl wd_1063 wd_1061 wd_1062 wd_7 hd_X12_isShelf rfl ⟨⟨(Nat.le_of_ble_eq_true rfl), (Nat.le_of_ble_eq_true rfl)⟩, (Nat.le_of_ble_eq_true rfl), (Nat.le_of_ble_eq_true rfl)⟩ rfl (Nat.le_of_ble_eq_true rfl) rfl dX12_row_1 ?_
  refine zt_if_eq (tgt := 25) hC h (by decide) dX12_row_4 (fun h => ?_) (fun h => ?_)
  · refine zt_iconst hC ki_m1 dX12_row_25 ?_
    obtain rfl := Option.some.inj h
    exact zt_iret hC rfl rfl (Nat.le_of_ble_eq_true rfl) (Nat.le_of_ble_eq_true rfl) dX12_row_26
  · refine zt_iload_n hC rfl dX12_row_7 ?_
    refine zt_i2l hC dX12_row_8 ?_
    refine zt_lconst hC kl_0 dX12_row_9 ?_
    refine zt_ldc2 hC wd_1102 dX12_row_10 ?_
    obtain ⟨v4, M5, h6, h⟩ := bnd_some h
    refine zt_callS (z := yX12_isIn) (As := [.long (Int32.toInt64 x2), .long (0 : Int64), .long (2 : Int64)]) (rest := []) (st1 := (.int v4 :: [])) hC 3 (fun l hl => c_X12_isIn N (Int32.toInt64 x2) (0 : Int64) (2 : Int64) M2 (v4, M5) h6 l hl) rfl wd_1067 wd_1065 wd_1066 wd_7 hd_X12_isIn rfl ⟨⟨(Nat.le_of_ble_eq_true rfl), (Nat.le_of_ble_eq_true rfl)⟩, (Nat.le_of_ble_eq_true rfl), (Nat.le_of_ble_eq_true rfl)⟩ rfl (Nat.le_of_ble_eq_true rfl) rfl dX12_row_13 ?_
    refine zt_if_eq (tgt := 25) hC h (by decide) dX12_row_16 (fun h => ?_) (fun h => ?_)
    · refine zt_iconst hC ki_m1 dX12_row_25 ?_
      obtain rfl := Option.some.inj h
      exact zt_iret hC rfl rfl (Nat.le_of_ble_eq_true rfl) (Nat.le_of_ble_eq_true rfl) dX12_row_26
    · refine zt_iload_n hC rfl dX12_row_19 ?_
      refine zt_bipush hC kb_100 dX12_row_20 ?_
      refine zt_icmp_le (tgt := 27) hC h (by decide) dX12_row_22 (fun h => ?_) (fun h => ?_)
      · refine zt_iload_n hC rfl dX12_row_27 ?_
        refine zt_if_ge (tgt := 34) hC h (by decide) dX12_row_28 (fun h => ?_) (fun h => ?_)
        · refine zt_aload_n hC rfl dX12_row_34 ?_
          refine zt_gR hC h cl12 (k := 4) (by decide) rfl wd_995 (Or.inl rfl) dX12_row_35 (fun v7 h => ?_)
          refine zt_iload_n hC rfl dX12_row_38 ?_
          refine zt_iconst hC ki_2 dX12_row_39 ?_
          refine zt_ast hC h dX12_row_40 (fun M8 h => ?_)
          refine zt_aload_n hC rfl dX12_row_41 ?_
          refine zt_gR hC h cl12 (k := 5) (by decide) rfl wd_996 (Or.inl rfl) dX12_row_42 (fun v9 h => ?_)
          refine zt_iload_n hC rfl dX12_row_45 ?_
          refine zt_iload_n hC rfl dX12_row_46 ?_
          refine zt_ast hC h dX12_row_47 (fun M10 h => ?_)
          refine zt_aload_n hC rfl dX12_row_48 ?_
          refine zt_gR hC h cl12 (k := 6) (by decide) rfl wd_997 (Or.inl rfl) dX12_row_49 (fun v11 h => ?_)
          refine zt_iload_n hC rfl dX12_row_52 ?_
          refine zt_iload_n hC rfl dX12_row_53 ?_
          refine zt_ast hC h dX12_row_54 (fun M12 h => ?_)
          refine zt_iconst hC ki_0 dX12_row_55 ?_
          refine zt_istore (lv' := [(4, .int (0 : Int32)), (0, .ref x0), (1, .int x1), (2, .int x2), (3, .int x3)]) hC (by decide) rfl dX12_row_56 ?_
          refine zt_keep [0, 1, 4] rfl ?_
          exact w_X12_row_58 N hC N x0 x1 (0 : Int32) M12 h
        · refine zt_bipush hC kb_m14 dX12_row_31 ?_
          obtain rfl := Option.some.inj h
          exact zt_iret hC rfl rfl (Nat.le_of_ble_eq_true rfl) (Nat.le_of_ble_eq_true rfl) dX12_row_33
      · refine zt_iconst hC ki_m1 dX12_row_25 ?_
        obtain rfl := Option.some.inj h
        exact zt_iret hC rfl rfl (Nat.le_of_ble_eq_true rfl) (Nat.le_of_ble_eq_true rfl) dX12_row_26
def rm_X12_put : Room := { frames := 3, cells := 0, slots := 0, locals := 67 }
theorem hd_X12_put : yX12_put.cls ≠ "java/lang/invoke/MethodHandle" ∧ yX12_put.cls ≠ "java/lang/invoke/VarHandle" ∧ (parseMethodDescriptor yX12_put.desc).map (fun d => d.parameters.length) = some 3 := by decide +kernel
def j_X12_put_77 (N : Nat) (s0 : Int32) (s1 : Int32) (s2 : Nat) (M : Mm) : Option (Int32 × Mm) :=
ast M s2 s1 s0 (fun M1 =>
some ((0 : Int32), M1))
set_option maxRecDepth 100000 in
set_option maxHeartbeats 4000000 in
theorem w_X12_put_77 {X : Cx} {G : Gl} {r : (Int32 × Mm)} (N : Nat) (hC : CX X G yX12_put cX12_put 5 (some .int) rm_X12_put) (s0 : Int32) (s1 : Int32) (s2 : Nat) (M : Mm) (h : j_X12_put_77 N s0 s1 s2 M = some r) : TW X G 5 (RQ X G (some (.int r.1)) r.2 rm_X12_put) 0 0 M 77 [] [.int s0, .int s1, .ref s2] := by
  unfold j_X12_put_77 at h
  refine zt_ast hC h dX12_put_77 (fun M1 h => ?_)
  refine zt_iconst hC ki_0 dX12_put_78 ?_
  obtain rfl := Option.some.inj h
  exact zt_iret hC rfl rfl (Nat.le_of_ble_eq_true rfl) (Nat.le_of_ble_eq_true rfl) dX12_put_79
def f_X12_put (N : Nat) (x0 : Nat) (x1 : Int32) (x2 : Int32) (x3 : Int32) (M : Mm) : Option (Int32 × Mm) :=
ck 12 M x0 (bnd (f_X12_wrongRow N x0 x1 (-1 : Int32) M) (fun v1 M2 =>
(if v1 = 0 then
gR 12 M2 x0 6 (fun v4 =>
ald M2 v4 x1 (fun v5 =>
bnd (f_X12_isIn N (Int32.toInt64 x2) (0 : Int64) (Int32.toInt64 (v5 - (1 : Int32))) M2) (fun v6 M7 =>
(if v6 = 0 then
some ((-13 : Int32), M7)
else
gR 12 M7 x0 7 (fun v9 =>
gR 12 M7 x0 5 (fun v10 =>
ald M7 v10 x1 (fun v11 =>
(if v11 = 0 then
j_X12_put_77 N (Int8.toInt32 (Int32.toInt8 x3)) (((100 : Int32) * x1) + x2) v9 M7
else
gR 12 M7 x0 5 (fun v12 =>
ald M7 v12 x1 (fun v13 =>
(if v13 = (1 : Int32) then
j_X12_put_77 N (Int16.toInt32 (Int32.toInt16 x3)) (((100 : Int32) * x1) + x2) v9 M7
else
j_X12_put_77 N x3 (((100 : Int32) * x1) + x2) v9 M7)))))))))))
else
some (v1, M2))))
set_option maxRecDepth 100000 in
set_option maxHeartbeats 4000000 in
theorem c_X12_put (N : Nat) (x0 : Nat) (x1 : Int32) (x2 : Int32) (x3 : Int32) (M : Mm) (r : (Int32 × Mm)) (h : f_X12_put N x0 x1 x2 x3 M = some r) (l : Launch) (hfl : l.flags = flags0) {G : Gl} : MT l G yX12_put cX12_put 5 (some .int) rm_X12_put [.ref x0, .int x1, .int x2, .int x3] M (some (.int r.1)) r.2 := by
  unfold f_X12_put at h
  refine zt_start hfl (lv := [(0, .ref x0), (1, .int x1), (2, .int x2), (3, .int x3)]) (by decide) (Nat.le_of_ble_eq_true rfl) rfl wd_1351 (fun X hC _ => ?_)
  refine zt_aload_n hC rfl dX12_put_0 ?_
  refine zt_iload_n hC rfl dX12_put_1 ?_
  refine zt_iconst hC ki_m1 dX12_put_2 ?_
  obtain ⟨hk, h⟩ := ck_some h
  obtain ⟨v1, M2, h3, h⟩ := bnd_some h
  refine zt_callV (z := yX12_wrongRow) (As := [.int x1, .int (-1 : Int32)]) (rest := []) (st1 := (.int v1 :: [])) hC 2 hk cl12 (fun l hl => c_X12_wrongRow N x0 x1 (-1 : Int32) M (v1, M2) h3 l hl) rfl wd_1060 wd_1057 wd_1059 ws_20 wd_7 hd_X12_wrongRow rfl ⟨⟨(Nat.le_of_ble_eq_true rfl), (Nat.le_of_ble_eq_true rfl)⟩, (Nat.le_of_ble_eq_true rfl), (Nat.le_of_ble_eq_true rfl)⟩ rfl (Nat.le_of_ble_eq_true rfl) rfl dX12_put_3 ?_
  refine zt_istore (lv' := [(4, .int v1), (0, .ref x0), (1, .int x1), (2, .int x2), (3, .int x3)]) hC (by decide) rfl dX12_put_6 ?_
  refine zt_iload hC rfl dX12_put_8 ?_
  refine zt_if_eq (tgt := 16) hC h (by decide) dX12_put_10 (fun h => ?_) (fun h => ?_)
  · refine zt_iload_n hC rfl dX12_put_16 ?_
    refine zt_i2l hC dX12_put_17 ?_
    refine zt_lconst hC kl_0 dX12_put_18 ?_
    refine zt_aload_n hC rfl dX12_put_19 ?_
    refine zt_gR hC h cl12 (k := 6) (by decide) rfl wd_997 (Or.inl rfl) dX12_put_20 (fun v4 h => ?_)
    refine zt_iload_n hC rfl dX12_put_23 ?_
    refine zt_ald hC h dX12_put_24 (fun v5 h => ?_)
    refine zt_iconst hC ki_1 dX12_put_25 ?_
    refine zt_isub hC dX12_put_26 ?_
    refine zt_i2l hC dX12_put_27 ?_
    obtain ⟨v6, M7, h8, h⟩ := bnd_some h
    refine zt_callS (z := yX12_isIn) (As := [.long (Int32.toInt64 x2), .long (0 : Int64), .long (Int32.toInt64 (v5 - (1 : Int32)))]) (rest := []) (st1 := (.int v6 :: [])) hC 3 (fun l hl => c_X12_isIn N (Int32.toInt64 x2) (0 : Int64) (Int32.toInt64 (v5 - (1 : Int32))) M2 (v6, M7) h8 l hl) rfl wd_1067 wd_1065 wd_1066 wd_7 hd_X12_isIn rfl ⟨⟨(Nat.le_of_ble_eq_true rfl), (Nat.le_of_ble_eq_true rfl)⟩, (Nat.le_of_ble_eq_true rfl), (Nat.le_of_ble_eq_true rfl)⟩ rfl (Nat.le_of_ble_eq_true rfl) rfl dX12_put_28 ?_
    refine zt_if_ne (tgt := 37) hC h (by decide) dX12_put_31 (fun h => ?_) (fun h => ?_)
    · refine zt_aload_n hC rfl dX12_put_37 ?_
      refine zt_gR hC h cl12 (k := 7) (by decide) rfl wd_998 (Or.inl rfl) dX12_put_38 (fun v9 h => ?_)
      refine zt_bipush hC kb_100 dX12_put_41 ?_
      refine zt_iload_n hC rfl dX12_put_43 ?_
      refine zt_imul hC dX12_put_44 ?_
      refine zt_iload_n hC rfl dX12_put_45 ?_
      refine zt_iadd hC dX12_put_46 ?_
      refine zt_aload_n hC rfl dX12_put_47 ?_
      refine zt_gR hC h cl12 (k := 5) (by decide) rfl wd_996 (Or.inl rfl) dX12_put_48 (fun v10 h => ?_)
      refine zt_iload_n hC rfl dX12_put_51 ?_
      refine zt_ald hC h dX12_put_52 (fun v11 h => ?_)
      refine zt_if_ne (tgt := 61) hC h (by decide) dX12_put_53 (fun h => ?_) (fun h => ?_)
      · refine zt_aload_n hC rfl dX12_put_61 ?_
        refine zt_gR hC h cl12 (k := 5) (by decide) rfl wd_996 (Or.inl rfl) dX12_put_62 (fun v12 h => ?_)
        refine zt_iload_n hC rfl dX12_put_65 ?_
        refine zt_ald hC h dX12_put_66 (fun v13 h => ?_)
        refine zt_iconst hC ki_1 dX12_put_67 ?_
        refine zt_icmp_ne (tgt := 76) hC h (by decide) dX12_put_68 (fun h => ?_) (fun h => ?_)
        · refine zt_iload_n hC rfl dX12_put_76 ?_
          refine zt_keep [] rfl ?_
          exact w_X12_put_77 N hC x3 (((100 : Int32) * x1) + x2) v9 M7 h
        · refine zt_iload_n hC rfl dX12_put_71 ?_
          refine zt_i2s hC dX12_put_72 ?_
          refine zt_goto (tgt := 77) hC (by decide) dX12_put_73 ?_
          refine zt_keep [] rfl ?_
          exact w_X12_put_77 N hC (Int16.toInt32 (Int32.toInt16 x3)) (((100 : Int32) * x1) + x2) v9 M7 h
      · refine zt_iload_n hC rfl dX12_put_56 ?_
        refine zt_i2b hC dX12_put_57 ?_
        refine zt_goto (tgt := 77) hC (by decide) dX12_put_58 ?_
        refine zt_keep [] rfl ?_
        exact w_X12_put_77 N hC (Int8.toInt32 (Int32.toInt8 x3)) (((100 : Int32) * x1) + x2) v9 M7 h
    · refine zt_bipush hC kb_m13 dX12_put_34 ?_
      obtain rfl := Option.some.inj h
      exact zt_iret hC rfl rfl (Nat.le_of_ble_eq_true rfl) (Nat.le_of_ble_eq_true rfl) dX12_put_36
  · refine zt_iload hC rfl dX12_put_13 ?_
    obtain rfl := Option.some.inj h
    exact zt_iret hC rfl rfl (Nat.le_of_ble_eq_true rfl) (Nat.le_of_ble_eq_true rfl) dX12_put_15
def rm_X12_element : Room := { frames := 2, cells := 0, slots := 0, locals := 45 }
theorem hd_X12_element : yX12_element.cls ≠ "java/lang/invoke/MethodHandle" ∧ yX12_element.cls ≠ "java/lang/invoke/VarHandle" ∧ (parseMethodDescriptor yX12_element.desc).map (fun d => d.parameters.length) = some 2 := by decide +kernel
def j_X12_element_45 (N : Nat) (x0 : Nat) (x1 : Int32) (x2 : Int32) (s0 : Int32) (s1 : Nat) (M : Mm) : Option (Int64 × Mm) :=
pI 12 M s1 11 s0 (fun M1 =>
gI 12 M1 x0 11 (fun v2 =>
(if v2 = 0 then
gR 12 M1 x0 7 (fun v3 =>
ald M1 v3 (((100 : Int32) * x1) + x2) (fun v4 =>
some ((Int32.toInt64 v4), M1)))
else
some ((0 : Int64), M1))))
set_option maxRecDepth 100000 in
set_option maxHeartbeats 4000000 in
theorem w_X12_element_45 {X : Cx} {G : Gl} {r : (Int64 × Mm)} (N : Nat) (hC : CX X G yX12_element cX12_element 3 (some .long) rm_X12_element) (x0 : Nat) (x1 : Int32) (x2 : Int32) (s0 : Int32) (s1 : Nat) (M : Mm) (h : j_X12_element_45 N x0 x1 x2 s0 s1 M = some r) : TW X G 3 (RQ X G (some (.long r.1)) r.2 rm_X12_element) 0 0 M 45 [(0, .ref x0), (1, .int x1), (2, .int x2)] [.int s0, .ref s1] := by
  unfold j_X12_element_45 at h
  refine zt_pI hC h cl12 (k := 11) (by decide) rfl wd_1002 (Or.inl rfl) (Or.inl rfl) dX12_element_45 (fun M1 h => ?_)
  refine zt_aload_n hC rfl dX12_element_48 ?_
  refine zt_gI hC h cl12 (k := 11) (by decide) rfl wd_1002 (Or.inl rfl) dX12_element_49 (fun v2 h => ?_)
  refine zt_if_ne (tgt := 70) hC h (by decide) dX12_element_52 (fun h => ?_) (fun h => ?_)
  · refine zt_lconst hC kl_0 dX12_element_70 ?_
    obtain rfl := Option.some.inj h
    exact zt_lret hC rfl rfl (Nat.le_of_ble_eq_true rfl) (Nat.le_of_ble_eq_true rfl) dX12_element_71
  · refine zt_aload_n hC rfl dX12_element_55 ?_
    refine zt_gR hC h cl12 (k := 7) (by decide) rfl wd_998 (Or.inl rfl) dX12_element_56 (fun v3 h => ?_)
    refine zt_bipush hC kb_100 dX12_element_59 ?_
    refine zt_iload_n hC rfl dX12_element_61 ?_
    refine zt_imul hC dX12_element_62 ?_
    refine zt_iload_n hC rfl dX12_element_63 ?_
    refine zt_iadd hC dX12_element_64 ?_
    refine zt_ald hC h dX12_element_65 (fun v4 h => ?_)
    refine zt_i2l hC dX12_element_66 ?_
    refine zt_goto (tgt := 71) hC (by decide) dX12_element_67 ?_
    obtain rfl := Option.some.inj h
    exact zt_lret hC rfl rfl (Nat.le_of_ble_eq_true rfl) (Nat.le_of_ble_eq_true rfl) dX12_element_71
def j_X12_element_40 (N : Nat) (x0 : Nat) (x1 : Int32) (x2 : Int32) (s0 : Nat) (M : Mm) : Option (Int64 × Mm) :=
j_X12_element_45 N x0 x1 x2 (2 : Int32) s0 M
set_option maxRecDepth 100000 in
set_option maxHeartbeats 4000000 in
theorem w_X12_element_40 {X : Cx} {G : Gl} {r : (Int64 × Mm)} (N : Nat) (hC : CX X G yX12_element cX12_element 3 (some .long) rm_X12_element) (x0 : Nat) (x1 : Int32) (x2 : Int32) (s0 : Nat) (M : Mm) (h : j_X12_element_40 N x0 x1 x2 s0 M = some r) : TW X G 3 (RQ X G (some (.long r.1)) r.2 rm_X12_element) 0 0 M 40 [(0, .ref x0), (1, .int x1), (2, .int x2)] [.ref s0] := by
  unfold j_X12_element_40 at h
  refine zt_iconst hC ki_2 dX12_element_40 ?_
  refine zt_goto (tgt := 45) hC (by decide) dX12_element_41 ?_
  refine zt_keep [0, 1, 2] rfl ?_
  exact w_X12_element_45 N hC x0 x1 x2 (2 : Int32) s0 M h
def f_X12_element (N : Nat) (x0 : Nat) (x1 : Int32) (x2 : Int32) (M : Mm) : Option (Int64 × Mm) :=
bnd (f_X12_isShelf N x1 M) (fun v1 M2 =>
(if v1 = 0 then
j_X12_element_45 N x0 x1 x2 (1 : Int32) x0 M2
else
gR 12 M2 x0 4 (fun v4 =>
ald M2 v4 x1 (fun v5 =>
(if v5 = (2 : Int32) then
gR 12 M2 x0 6 (fun v6 =>
ald M2 v6 x1 (fun v7 =>
bnd (f_X12_isIn N (Int32.toInt64 x2) (0 : Int64) (Int32.toInt64 (v7 - (1 : Int32))) M2) (fun v8 M9 =>
(if v8 = 0 then
j_X12_element_40 N x0 x1 x2 x0 M9
else
j_X12_element_45 N x0 x1 x2 (0 : Int32) x0 M9))))
else
j_X12_element_40 N x0 x1 x2 x0 M2)))))
set_option maxRecDepth 100000 in
set_option maxHeartbeats 4000000 in
theorem c_X12_element (N : Nat) (x0 : Nat) (x1 : Int32) (x2 : Int32) (M : Mm) (r : (Int64 × Mm)) (h : f_X12_element N x0 x1 x2 M = some r) (l : Launch) (hfl : l.flags = flags0) {G : Gl} : MT l G yX12_element cX12_element 3 (some .long) rm_X12_element [.ref x0, .int x1, .int x2] M (some (.long r.1)) r.2 := by
  unfold f_X12_element at h
  refine zt_start hfl (lv := [(0, .ref x0), (1, .int x1), (2, .int x2)]) (by decide) (Nat.le_of_ble_eq_true rfl) rfl wd_1355 (fun X hC _ => ?_)
  refine zt_aload_n hC rfl dX12_element_0 ?_
  refine zt_iload_n hC rfl dX12_element_1 ?_
  obtain ⟨v1, M2, h3, h⟩ := bnd_some h
  refine zt_callS (z := yX12_isShelf) (As := [.int x1]) (rest := [.ref x0]) (st1 := (.int v1 :: [.ref x0])) hC 1 (fun l hl => c_X12_isShelf N x1 M (v1, M2) h3 l hl) rfl wd_1063 wd_1061 wd_1062 wd_7 hd_X12_isShelf rfl ⟨⟨(Nat.le_of_ble_eq_true rfl), (Nat.le_of_ble_eq_true rfl)⟩, (Nat.le_of_ble_eq_true rfl), (Nat.le_of_ble_eq_true rfl)⟩ rfl (Nat.le_of_ble_eq_true rfl) rfl dX12_element_2 ?_
  refine zt_if_ne (tgt := 12) hC h (by decide) dX12_element_5 (fun h => ?_) (fun h => ?_)
  · refine zt_aload_n hC rfl dX12_element_12 ?_
    refine zt_gR hC h cl12 (k := 4) (by decide) rfl wd_995 (Or.inl rfl) dX12_element_13 (fun v4 h => ?_)
    refine zt_iload_n hC rfl dX12_element_16 ?_
    refine zt_ald hC h dX12_element_17 (fun v5 h => ?_)
    refine zt_iconst hC ki_2 dX12_element_18 ?_
    refine zt_icmp_ne (tgt := 40) hC h (by decide) dX12_element_19 (fun h => ?_) (fun h => ?_)
    · refine zt_keep [0, 1, 2] rfl ?_
      exact w_X12_element_40 N hC x0 x1 x2 x0 M2 h
    · refine zt_iload_n hC rfl dX12_element_22 ?_
      refine zt_i2l hC dX12_element_23 ?_
      refine zt_lconst hC kl_0 dX12_element_24 ?_
      refine zt_aload_n hC rfl dX12_element_25 ?_
      refine zt_gR hC h cl12 (k := 6) (by decide) rfl wd_997 (Or.inl rfl) dX12_element_26 (fun v6 h => ?_)
      refine zt_iload_n hC rfl dX12_element_29 ?_
      refine zt_ald hC h dX12_element_30 (fun v7 h => ?_)
      refine zt_iconst hC ki_1 dX12_element_31 ?_
      refine zt_isub hC dX12_element_32 ?_
      refine zt_i2l hC dX12_element_33 ?_
      obtain ⟨v8, M9, h10, h⟩ := bnd_some h
      refine zt_callS (z := yX12_isIn) (As := [.long (Int32.toInt64 x2), .long (0 : Int64), .long (Int32.toInt64 (v7 - (1 : Int32)))]) (rest := [.ref x0]) (st1 := (.int v8 :: [.ref x0])) hC 3 (fun l hl => c_X12_isIn N (Int32.toInt64 x2) (0 : Int64) (Int32.toInt64 (v7 - (1 : Int32))) M2 (v8, M9) h10 l hl) rfl wd_1067 wd_1065 wd_1066 wd_7 hd_X12_isIn rfl ⟨⟨(Nat.le_of_ble_eq_true rfl), (Nat.le_of_ble_eq_true rfl)⟩, (Nat.le_of_ble_eq_true rfl), (Nat.le_of_ble_eq_true rfl)⟩ rfl (Nat.le_of_ble_eq_true rfl) rfl dX12_element_34 ?_
      refine zt_if_ne (tgt := 44) hC h (by decide) dX12_element_37 (fun h => ?_) (fun h => ?_)
      · refine zt_iconst hC ki_0 dX12_element_44 ?_
        refine zt_keep [0, 1, 2] rfl ?_
        exact w_X12_element_45 N hC x0 x1 x2 (0 : Int32) x0 M9 h
      · refine zt_keep [0, 1, 2] rfl ?_
        exact w_X12_element_40 N hC x0 x1 x2 x0 M9 h
  · refine zt_iconst hC ki_1 dX12_element_8 ?_
    refine zt_goto (tgt := 45) hC (by decide) dX12_element_9 ?_
    refine zt_keep [0, 1, 2] rfl ?_
    exact w_X12_element_45 N hC x0 x1 x2 (1 : Int32) x0 M2 h
def rm_X12_copy : Room := { frames := 2, cells := 0, slots := 0, locals := 45 }
theorem hd_X12_copy : yX12_copy.cls ≠ "java/lang/invoke/MethodHandle" ∧ yX12_copy.cls ≠ "java/lang/invoke/VarHandle" ∧ (parseMethodDescriptor yX12_copy.desc).map (fun d => d.parameters.length) = some 5 := by decide +kernel
def j_X12_copy_147 (N : Nat) (k122 : Nat → Int32 → Int32 → Int32 → Int32 → Int32 → Int32 → Mm → Option (Int32 × Mm)) (x0 : Nat) (x1 : Int32) (x2 : Int32) (x3 : Int32) (x4 : Int32) (x5 : Int32) (x6 : Int32) (s0 : Int32) (M : Mm) : Option (Int32 × Mm) :=
gR 12 M x0 7 (fun v1 =>
gR 12 M x0 7 (fun v2 =>
ald M v2 ((((100 : Int32) * x1) + x2) + s0) (fun v3 =>
ast M v1 ((((100 : Int32) * x3) + x4) + s0) v3 (fun M4 =>
k122 x0 x1 x2 x3 x4 x5 (x6 + (1 : Int32)) M4))))
set_option maxRecDepth 100000 in
set_option maxHeartbeats 4000000 in
theorem w_X12_copy_147 {X : Cx} {G : Gl} {r : (Int32 × Mm)} (N : Nat) (hC : CX X G yX12_copy cX12_copy 8 (some .int) rm_X12_copy) (k122 : Nat → Int32 → Int32 → Int32 → Int32 → Int32 → Int32 → Mm → Option (Int32 × Mm)) (hk122 : ∀ (x0 : Nat) (x1 : Int32) (x2 : Int32) (x3 : Int32) (x4 : Int32) (x5 : Int32) (x6 : Int32) (M : Mm), k122 x0 x1 x2 x3 x4 x5 x6 M = some r → TW X G 8 (RQ X G (some (.int r.1)) r.2 rm_X12_copy) 0 0 M 122 [(0, .ref x0), (1, .int x1), (2, .int x2), (3, .int x3), (4, .int x4), (5, .int x5), (6, .int x6)] []) (x0 : Nat) (x1 : Int32) (x2 : Int32) (x3 : Int32) (x4 : Int32) (x5 : Int32) (x6 : Int32) (s0 : Int32) (M : Mm) (h : j_X12_copy_147 N k122 x0 x1 x2 x3 x4 x5 x6 s0 M = some r) : TW X G 8 (RQ X G (some (.int r.1)) r.2 rm_X12_copy) 0 0 M 147 [(0, .ref x0), (1, .int x1), (2, .int x2), (3, .int x3), (4, .int x4), (5, .int x5), (6, .int x6)] [.int s0] := by
  unfold j_X12_copy_147 at h
  refine zt_istore (lv' := [(7, .int s0), (0, .ref x0), (1, .int x1), (2, .int x2), (3, .int x3), (4, .int x4), (5, .int x5), (6, .int x6)]) hC (by decide) rfl dX12_copy_147 ?_
  refine zt_aload_n hC rfl dX12_copy_149 ?_
  refine zt_gR hC h cl12 (k := 7) (by decide) rfl wd_998 (Or.inl rfl) dX12_copy_150 (fun v1 h => ?_)
  refine zt_bipush hC kb_100 dX12_copy_153 ?_
  refine zt_iload_n hC rfl dX12_copy_155 ?_
  refine zt_imul hC dX12_copy_156 ?_
  refine zt_iload hC rfl dX12_copy_157 ?_
  refine zt_iadd hC dX12_copy_159 ?_
  refine zt_iload hC rfl dX12_copy_160 ?_
  refine zt_iadd hC dX12_copy_162 ?_
  refine zt_aload_n hC rfl dX12_copy_163 ?_
  refine zt_gR hC h cl12 (k := 7) (by decide) rfl wd_998 (Or.inl rfl) dX12_copy_164 (fun v2 h => ?_)
  refine zt_bipush hC kb_100 dX12_copy_167 ?_
  refine zt_iload_n hC rfl dX12_copy_169 ?_
  refine zt_imul hC dX12_copy_170 ?_
  refine zt_iload_n hC rfl dX12_copy_171 ?_
  refine zt_iadd hC dX12_copy_172 ?_
  refine zt_iload hC rfl dX12_copy_173 ?_
  refine zt_iadd hC dX12_copy_175 ?_
  refine zt_ald hC h dX12_copy_176 (fun v3 h => ?_)
  refine zt_ast hC h dX12_copy_177 (fun M4 h => ?_)
  refine zt_iinc (v := (x6 + (1 : Int32))) (lv' := [(6, .int (x6 + (1 : Int32))), (7, .int s0), (0, .ref x0), (1, .int x1), (2, .int x2), (3, .int x3), (4, .int x4), (5, .int x5)]) hC rfl (by rw [ki_1]) (by decide) rfl dX12_copy_178 ?_
  refine zt_goto (tgt := 122) hC (by decide) dX12_copy_181 ?_
  refine zt_keep [0, 1, 2, 3, 4, 5, 6] rfl ?_
  exact hk122 x0 x1 x2 x3 x4 x5 (x6 + (1 : Int32)) M4 h
def b_X12_copy_122 (N : Nat) (k122 : Nat → Int32 → Int32 → Int32 → Int32 → Int32 → Int32 → Mm → Option (Int32 × Mm)) (x0 : Nat) (x1 : Int32) (x2 : Int32) (x3 : Int32) (x4 : Int32) (x5 : Int32) (x6 : Int32) (M : Mm) : Option (Int32 × Mm) :=
(if x5 ≤ x6 then
some (x5, M)
else
(if x2 ≤ x4 then
j_X12_copy_147 N k122 x0 x1 x2 x3 x4 x5 x6 ((x5 - (1 : Int32)) - x6) M
else
j_X12_copy_147 N k122 x0 x1 x2 x3 x4 x5 x6 x6 M))
def l_X12_copy_122 (N : Nat) : Nat → Nat → Int32 → Int32 → Int32 → Int32 → Int32 → Int32 → Mm → Option (Int32 × Mm)
  | 0 => fun _ _ _ _ _ _ _ _ => none
  | n + 1 => b_X12_copy_122 N (l_X12_copy_122 N n)
set_option maxRecDepth 100000 in
set_option maxHeartbeats 4000000 in
theorem v_X12_copy_122 {X : Cx} {G : Gl} {r : (Int32 × Mm)} (N : Nat) (hC : CX X G yX12_copy cX12_copy 8 (some .int) rm_X12_copy) (k122 : Nat → Int32 → Int32 → Int32 → Int32 → Int32 → Int32 → Mm → Option (Int32 × Mm)) (hk122 : ∀ (x0 : Nat) (x1 : Int32) (x2 : Int32) (x3 : Int32) (x4 : Int32) (x5 : Int32) (x6 : Int32) (M : Mm), k122 x0 x1 x2 x3 x4 x5 x6 M = some r → TW X G 8 (RQ X G (some (.int r.1)) r.2 rm_X12_copy) 0 0 M 122 [(0, .ref x0), (1, .int x1), (2, .int x2), (3, .int x3), (4, .int x4), (5, .int x5), (6, .int x6)] []) (x0 : Nat) (x1 : Int32) (x2 : Int32) (x3 : Int32) (x4 : Int32) (x5 : Int32) (x6 : Int32) (M : Mm) (h : b_X12_copy_122 N k122 x0 x1 x2 x3 x4 x5 x6 M = some r) : TW X G 8 (RQ X G (some (.int r.1)) r.2 rm_X12_copy) 0 0 M 122 [(0, .ref x0), (1, .int x1), (2, .int x2), (3, .int x3), (4, .int x4), (5, .int x5), (6, .int x6)] [] := by
  unfold b_X12_copy_122 at h
  refine zt_iload hC rfl dX12_copy_122 ?_
  refine zt_iload hC rfl dX12_copy_124 ?_
  refine zt_icmp_ge (tgt := 184) hC h (by decide) dX12_copy_126 (fun h => ?_) (fun h => ?_)
  · refine zt_iload hC rfl dX12_copy_184 ?_
    obtain rfl := Option.some.inj h
    exact zt_iret hC rfl rfl (Nat.le_of_ble_eq_true rfl) (Nat.le_of_ble_eq_true rfl) dX12_copy_186
  · refine zt_iload_n hC rfl dX12_copy_129 ?_
    refine zt_iload hC rfl dX12_copy_130 ?_
    refine zt_icmp_le (tgt := 140) hC h (by decide) dX12_copy_132 (fun h => ?_) (fun h => ?_)
    · refine zt_iload hC rfl dX12_copy_140 ?_
      refine zt_iconst hC ki_1 dX12_copy_142 ?_
      refine zt_isub hC dX12_copy_143 ?_
      refine zt_iload hC rfl dX12_copy_144 ?_
      refine zt_isub hC dX12_copy_146 ?_
      refine zt_keep [0, 1, 2, 3, 4, 5, 6] rfl ?_
      exact w_X12_copy_147 N hC k122 hk122 x0 x1 x2 x3 x4 x5 x6 ((x5 - (1 : Int32)) - x6) M h
    · refine zt_iload hC rfl dX12_copy_135 ?_
      refine zt_goto (tgt := 147) hC (by decide) dX12_copy_137 ?_
      refine zt_keep [0, 1, 2, 3, 4, 5, 6] rfl ?_
      exact w_X12_copy_147 N hC k122 hk122 x0 x1 x2 x3 x4 x5 x6 x6 M h
theorem w_X12_copy_122 {X : Cx} {G : Gl} {r : (Int32 × Mm)} (N : Nat) (hC : CX X G yX12_copy cX12_copy 8 (some .int) rm_X12_copy) (n : Nat) : ∀ (x0 : Nat) (x1 : Int32) (x2 : Int32) (x3 : Int32) (x4 : Int32) (x5 : Int32) (x6 : Int32) (M : Mm), l_X12_copy_122 N n x0 x1 x2 x3 x4 x5 x6 M = some r → TW X G 8 (RQ X G (some (.int r.1)) r.2 rm_X12_copy) 0 0 M 122 [(0, .ref x0), (1, .int x1), (2, .int x2), (3, .int x3), (4, .int x4), (5, .int x5), (6, .int x6)] [] := by
  induction n with
  | zero => intro  x0 x1 x2 x3 x4 x5 x6 M h; cases (show none = some r from h)
  | succ n ih => intro  x0 x1 x2 x3 x4 x5 x6 M h; exact v_X12_copy_122 N hC (l_X12_copy_122 N n) ih x0 x1 x2 x3 x4 x5 x6 M h
def f_X12_copy (N : Nat) (x0 : Nat) (x1 : Int32) (x2 : Int32) (x3 : Int32) (x4 : Int32) (x5 : Int32) (M : Mm) : Option (Int32 × Mm) :=
bnd (f_X12_isShelf N x1 M) (fun v1 M2 =>
(if v1 = 0 then
some ((-1 : Int32), M2)
else
bnd (f_X12_isShelf N x3 M2) (fun v4 M5 =>
(if v4 = 0 then
some ((-1 : Int32), M5)
else
gR 12 M5 x0 4 (fun v7 =>
ald M5 v7 x1 (fun v8 =>
(if v8 = 0 then
some ((-11 : Int32), M5)
else
gR 12 M5 x0 4 (fun v9 =>
ald M5 v9 x3 (fun v10 =>
(if v10 = 0 then
some ((-11 : Int32), M5)
else
gR 12 M5 x0 4 (fun v11 =>
ald M5 v11 x1 (fun v12 =>
(if v12 = (2 : Int32) then
gR 12 M5 x0 4 (fun v13 =>
ald M5 v13 x3 (fun v14 =>
(if v14 = (2 : Int32) then
gR 12 M5 x0 5 (fun v15 =>
ald M5 v15 x1 (fun v16 =>
gR 12 M5 x0 5 (fun v17 =>
ald M5 v17 x3 (fun v18 =>
(if v16 = v18 then
(if x5 < 0 then
some ((-13 : Int32), M5)
else
(if x2 < 0 then
some ((-13 : Int32), M5)
else
(if x4 < 0 then
some ((-13 : Int32), M5)
else
gR 12 M5 x0 6 (fun v19 =>
ald M5 v19 x1 (fun v20 =>
(if (v20 - x2) < x5 then
some ((-13 : Int32), M5)
else
gR 12 M5 x0 6 (fun v21 =>
ald M5 v21 x3 (fun v22 =>
(if x5 ≤ (v22 - x4) then
l_X12_copy_122 N N x0 x1 x2 x3 x4 x5 (0 : Int32) M5
else
some ((-13 : Int32), M5))))))))))
else
some ((-12 : Int32), M5))))))
else
some ((-12 : Int32), M5))))
else
some ((-12 : Int32), M5))))))))))))))
set_option maxRecDepth 100000 in
set_option maxHeartbeats 4000000 in
theorem c_X12_copy (N : Nat) (x0 : Nat) (x1 : Int32) (x2 : Int32) (x3 : Int32) (x4 : Int32) (x5 : Int32) (M : Mm) (r : (Int32 × Mm)) (h : f_X12_copy N x0 x1 x2 x3 x4 x5 M = some r) (l : Launch) (hfl : l.flags = flags0) {G : Gl} : MT l G yX12_copy cX12_copy 8 (some .int) rm_X12_copy [.ref x0, .int x1, .int x2, .int x3, .int x4, .int x5] M (some (.int r.1)) r.2 := by
  unfold f_X12_copy at h
  refine zt_start hfl (lv := [(0, .ref x0), (1, .int x1), (2, .int x2), (3, .int x3), (4, .int x4), (5, .int x5)]) (by decide) (Nat.le_of_ble_eq_true rfl) rfl wd_1359 (fun X hC _ => ?_)
  refine zt_iload_n hC rfl dX12_copy_0 ?_
  obtain ⟨v1, M2, h3, h⟩ := bnd_some h
  refine zt_callS (z := yX12_isShelf) (As := [.int x1]) (rest := []) (st1 := (.int v1 :: [])) hC 1 (fun l hl => c_X12_isShelf N x1 M (v1, M2) h3 l hl) rfl wd_1063 wd_1061 wd_1062 wd_7 hd_X12_isShelf rfl ⟨⟨(Nat.le_of_ble_eq_true rfl), (Nat.le_of_ble_eq_true rfl)⟩, (Nat.le_of_ble_eq_true rfl), (Nat.le_of_ble_eq_true rfl)⟩ rfl (Nat.le_of_ble_eq_true rfl) rfl dX12_copy_1 ?_
  refine zt_if_eq (tgt := 14) hC h (by decide) dX12_copy_4 (fun h => ?_) (fun h => ?_)
  · refine zt_iconst hC ki_m1 dX12_copy_14 ?_
    obtain rfl := Option.some.inj h
    exact zt_iret hC rfl rfl (Nat.le_of_ble_eq_true rfl) (Nat.le_of_ble_eq_true rfl) dX12_copy_15
  · refine zt_iload_n hC rfl dX12_copy_7 ?_
    obtain ⟨v4, M5, h6, h⟩ := bnd_some h
    refine zt_callS (z := yX12_isShelf) (As := [.int x3]) (rest := []) (st1 := (.int v4 :: [])) hC 1 (fun l hl => c_X12_isShelf N x3 M2 (v4, M5) h6 l hl) rfl wd_1063 wd_1061 wd_1062 wd_7 hd_X12_isShelf rfl ⟨⟨(Nat.le_of_ble_eq_true rfl), (Nat.le_of_ble_eq_true rfl)⟩, (Nat.le_of_ble_eq_true rfl), (Nat.le_of_ble_eq_true rfl)⟩ rfl (Nat.le_of_ble_eq_true rfl) rfl dX12_copy_8 ?_
    refine zt_if_ne (tgt := 16) hC h (by decide) dX12_copy_11 (fun h => ?_) (fun h => ?_)
    · refine zt_aload_n hC rfl dX12_copy_16 ?_
      refine zt_gR hC h cl12 (k := 4) (by decide) rfl wd_995 (Or.inl rfl) dX12_copy_17 (fun v7 h => ?_)
      refine zt_iload_n hC rfl dX12_copy_20 ?_
      refine zt_ald hC h dX12_copy_21 (fun v8 h => ?_)
      refine zt_if_eq (tgt := 34) hC h (by decide) dX12_copy_22 (fun h => ?_) (fun h => ?_)
      · refine zt_bipush hC kb_m11 dX12_copy_34 ?_
        obtain rfl := Option.some.inj h
        exact zt_iret hC rfl rfl (Nat.le_of_ble_eq_true rfl) (Nat.le_of_ble_eq_true rfl) dX12_copy_36
      · refine zt_aload_n hC rfl dX12_copy_25 ?_
        refine zt_gR hC h cl12 (k := 4) (by decide) rfl wd_995 (Or.inl rfl) dX12_copy_26 (fun v9 h => ?_)
        refine zt_iload_n hC rfl dX12_copy_29 ?_
        refine zt_ald hC h dX12_copy_30 (fun v10 h => ?_)
        refine zt_if_ne (tgt := 37) hC h (by decide) dX12_copy_31 (fun h => ?_) (fun h => ?_)
        · refine zt_aload_n hC rfl dX12_copy_37 ?_
          refine zt_gR hC h cl12 (k := 4) (by decide) rfl wd_995 (Or.inl rfl) dX12_copy_38 (fun v11 h => ?_)
          refine zt_iload_n hC rfl dX12_copy_41 ?_
          refine zt_ald hC h dX12_copy_42 (fun v12 h => ?_)
          refine zt_iconst hC ki_2 dX12_copy_43 ?_
          refine zt_icmp_ne (tgt := 72) hC h (by decide) dX12_copy_44 (fun h => ?_) (fun h => ?_)
          · refine zt_bipush hC kb_m12 dX12_copy_72 ?_
            obtain rfl := Option.some.inj h
            exact zt_iret hC rfl rfl (Nat.le_of_ble_eq_true rfl) (Nat.le_of_ble_eq_true rfl) dX12_copy_74
          · refine zt_aload_n hC rfl dX12_copy_47 ?_
            refine zt_gR hC h cl12 (k := 4) (by decide) rfl wd_995 (Or.inl rfl) dX12_copy_48 (fun v13 h => ?_)
            refine zt_iload_n hC rfl dX12_copy_51 ?_
            refine zt_ald hC h dX12_copy_52 (fun v14 h => ?_)
            refine zt_iconst hC ki_2 dX12_copy_53 ?_
            refine zt_icmp_ne (tgt := 72) hC h (by decide) dX12_copy_54 (fun h => ?_) (fun h => ?_)
            · refine zt_bipush hC kb_m12 dX12_copy_72 ?_
              obtain rfl := Option.some.inj h
              exact zt_iret hC rfl rfl (Nat.le_of_ble_eq_true rfl) (Nat.le_of_ble_eq_true rfl) dX12_copy_74
            · refine zt_aload_n hC rfl dX12_copy_57 ?_
              refine zt_gR hC h cl12 (k := 5) (by decide) rfl wd_996 (Or.inl rfl) dX12_copy_58 (fun v15 h => ?_)
              refine zt_iload_n hC rfl dX12_copy_61 ?_
              refine zt_ald hC h dX12_copy_62 (fun v16 h => ?_)
              refine zt_aload_n hC rfl dX12_copy_63 ?_
              refine zt_gR hC h cl12 (k := 5) (by decide) rfl wd_996 (Or.inl rfl) dX12_copy_64 (fun v17 h => ?_)
              refine zt_iload_n hC rfl dX12_copy_67 ?_
              refine zt_ald hC h dX12_copy_68 (fun v18 h => ?_)
              refine zt_icmp_eq (tgt := 75) hC h (by decide) dX12_copy_69 (fun h => ?_) (fun h => ?_)
              · refine zt_iload hC rfl dX12_copy_75 ?_
                refine zt_if_lt (tgt := 116) hC h (by decide) dX12_copy_77 (fun h => ?_) (fun h => ?_)
                · refine zt_bipush hC kb_m13 dX12_copy_116 ?_
                  obtain rfl := Option.some.inj h
                  exact zt_iret hC rfl rfl (Nat.le_of_ble_eq_true rfl) (Nat.le_of_ble_eq_true rfl) dX12_copy_118
                · refine zt_iload_n hC rfl dX12_copy_80 ?_
                  refine zt_if_lt (tgt := 116) hC h (by decide) dX12_copy_81 (fun h => ?_) (fun h => ?_)
                  · refine zt_bipush hC kb_m13 dX12_copy_116 ?_
                    obtain rfl := Option.some.inj h
                    exact zt_iret hC rfl rfl (Nat.le_of_ble_eq_true rfl) (Nat.le_of_ble_eq_true rfl) dX12_copy_118
                  · refine zt_iload hC rfl dX12_copy_84 ?_
                    refine zt_if_lt (tgt := 116) hC h (by decide) dX12_copy_86 (fun h => ?_) (fun h => ?_)
                    · refine zt_bipush hC kb_m13 dX12_copy_116 ?_
                      obtain rfl := Option.some.inj h
                      exact zt_iret hC rfl rfl (Nat.le_of_ble_eq_true rfl) (Nat.le_of_ble_eq_true rfl) dX12_copy_118
                    · refine zt_iload hC rfl dX12_copy_89 ?_
                      refine zt_aload_n hC rfl dX12_copy_91 ?_
                      refine zt_gR hC h cl12 (k := 6) (by decide) rfl wd_997 (Or.inl rfl) dX12_copy_92 (fun v19 h => ?_)
                      refine zt_iload_n hC rfl dX12_copy_95 ?_
                      refine zt_ald hC h dX12_copy_96 (fun v20 h => ?_)
                      refine zt_iload_n hC rfl dX12_copy_97 ?_
                      refine zt_isub hC dX12_copy_98 ?_
                      refine zt_icmp_gt (tgt := 116) hC h (by decide) dX12_copy_99 (fun h => ?_) (fun h => ?_)
                      · refine zt_bipush hC kb_m13 dX12_copy_116 ?_
                        obtain rfl := Option.some.inj h
                        exact zt_iret hC rfl rfl (Nat.le_of_ble_eq_true rfl) (Nat.le_of_ble_eq_true rfl) dX12_copy_118
                      · refine zt_iload hC rfl dX12_copy_102 ?_
                        refine zt_aload_n hC rfl dX12_copy_104 ?_
                        refine zt_gR hC h cl12 (k := 6) (by decide) rfl wd_997 (Or.inl rfl) dX12_copy_105 (fun v21 h => ?_)
                        refine zt_iload_n hC rfl dX12_copy_108 ?_
                        refine zt_ald hC h dX12_copy_109 (fun v22 h => ?_)
                        refine zt_iload hC rfl dX12_copy_110 ?_
                        refine zt_isub hC dX12_copy_112 ?_
                        refine zt_icmp_le (tgt := 119) hC h (by decide) dX12_copy_113 (fun h => ?_) (fun h => ?_)
                        · refine zt_iconst hC ki_0 dX12_copy_119 ?_
                          refine zt_istore (lv' := [(6, .int (0 : Int32)), (0, .ref x0), (1, .int x1), (2, .int x2), (3, .int x3), (4, .int x4), (5, .int x5)]) hC (by decide) rfl dX12_copy_120 ?_
                          refine zt_keep [0, 1, 2, 3, 4, 5, 6] rfl ?_
                          exact w_X12_copy_122 N hC N x0 x1 x2 x3 x4 x5 (0 : Int32) M5 h
                        · refine zt_bipush hC kb_m13 dX12_copy_116 ?_
                          obtain rfl := Option.some.inj h
                          exact zt_iret hC rfl rfl (Nat.le_of_ble_eq_true rfl) (Nat.le_of_ble_eq_true rfl) dX12_copy_118
              · refine zt_bipush hC kb_m12 dX12_copy_72 ?_
                obtain rfl := Option.some.inj h
                exact zt_iret hC rfl rfl (Nat.le_of_ble_eq_true rfl) (Nat.le_of_ble_eq_true rfl) dX12_copy_74
        · refine zt_bipush hC kb_m11 dX12_copy_34 ?_
          obtain rfl := Option.some.inj h
          exact zt_iret hC rfl rfl (Nat.le_of_ble_eq_true rfl) (Nat.le_of_ble_eq_true rfl) dX12_copy_36
    · refine zt_iconst hC ki_m1 dX12_copy_14 ?_
      obtain rfl := Option.some.inj h
      exact zt_iret hC rfl rfl (Nat.le_of_ble_eq_true rfl) (Nat.le_of_ble_eq_true rfl) dX12_copy_15
def rm_X12_careOf : Room := { frames := 0, cells := 0, slots := 0, locals := 0 }
theorem hd_X12_careOf : yX12_careOf.cls ≠ "java/lang/invoke/MethodHandle" ∧ yX12_careOf.cls ≠ "java/lang/invoke/VarHandle" ∧ (parseMethodDescriptor yX12_careOf.desc).map (fun d => d.parameters.length) = some 1 := by decide +kernel
def f_X12_careOf (N : Nat) (x0 : Nat) (x1 : Int32) (M : Mm) : Option (Int32 × Mm) :=
gR 12 M x0 9 (fun v1 =>
ald M v1 x1 (fun v2 =>
gR 12 M x0 8 (fun v3 =>
ald M v3 x1 (fun v4 =>
(if v4 = (1 : Int32) then
some (((5 : Int32) + v2), M)
else
(if v4 = (2 : Int32) then
some ((10 : Int32), M)
else
(if v4 = (3 : Int32) then
some ((11 : Int32), M)
else
(if v4 = (4 : Int32) then
some (((5 : Int32) - v2), M)
else
(if v4 = (5 : Int32) then
some (((11 : Int32) + v2), M)
else
(if v4 = (6 : Int32) then
some ((((5 : Int32) + v2) / (2 : Int32)), M)
else
some ((5 : Int32), M)))))))))))
set_option maxRecDepth 100000 in
set_option maxHeartbeats 4000000 in
theorem c_X12_careOf (N : Nat) (x0 : Nat) (x1 : Int32) (M : Mm) (r : (Int32 × Mm)) (h : f_X12_careOf N x0 x1 M = some r) (l : Launch) (hfl : l.flags = flags0) {G : Gl} : MT l G yX12_careOf cX12_careOf 3 (some .int) rm_X12_careOf [.ref x0, .int x1] M (some (.int r.1)) r.2 := by
  unfold f_X12_careOf at h
  refine zt_start hfl (lv := [(0, .ref x0), (1, .int x1)]) (by decide) (Nat.le_of_ble_eq_true rfl) rfl wd_1367 (fun X hC _ => ?_)
  refine zt_aload_n hC rfl dX12_careOf_0 ?_
  refine zt_gR hC h cl12 (k := 9) (by decide) rfl wd_1000 (Or.inl rfl) dX12_careOf_1 (fun v1 h => ?_)
  refine zt_iload_n hC rfl dX12_careOf_4 ?_
  refine zt_ald hC h dX12_careOf_5 (fun v2 h => ?_)
  refine zt_istore_n (lv' := [(2, .int v2), (0, .ref x0), (1, .int x1)]) hC (by decide) rfl dX12_careOf_6 ?_
  refine zt_aload_n hC rfl dX12_careOf_7 ?_
  refine zt_gR hC h cl12 (k := 8) (by decide) rfl wd_999 (Or.inl rfl) dX12_careOf_8 (fun v3 h => ?_)
  refine zt_iload_n hC rfl dX12_careOf_11 ?_
  refine zt_ald hC h dX12_careOf_12 (fun v4 h => ?_)
  rcases ite_or h with ⟨c1, h⟩ | ⟨c1, h⟩
  · refine zt_tsIn (tgt := 52) hC c1 (by decide) (by decide) rfl (by decide) dX12_careOf_13 ?_
    refine zt_iconst hC ki_5 dX12_careOf_52 ?_
    refine zt_iload_n hC rfl dX12_careOf_53 ?_
    refine zt_iadd hC dX12_careOf_54 ?_
    obtain rfl := Option.some.inj h
    exact zt_iret hC rfl rfl (Nat.le_of_ble_eq_true rfl) (Nat.le_of_ble_eq_true rfl) dX12_careOf_55
  · rcases ite_or h with ⟨c2, h⟩ | ⟨c2, h⟩
    · refine zt_tsIn (tgt := 56) hC c2 (by decide) (by decide) rfl (by decide) dX12_careOf_13 ?_
      refine zt_bipush hC kb_10 dX12_careOf_56 ?_
      obtain rfl := Option.some.inj h
      exact zt_iret hC rfl rfl (Nat.le_of_ble_eq_true rfl) (Nat.le_of_ble_eq_true rfl) dX12_careOf_58
    · rcases ite_or h with ⟨c3, h⟩ | ⟨c3, h⟩
      · refine zt_tsIn (tgt := 59) hC c3 (by decide) (by decide) rfl (by decide) dX12_careOf_13 ?_
        refine zt_bipush hC kb_11 dX12_careOf_59 ?_
        obtain rfl := Option.some.inj h
        exact zt_iret hC rfl rfl (Nat.le_of_ble_eq_true rfl) (Nat.le_of_ble_eq_true rfl) dX12_careOf_61
      · rcases ite_or h with ⟨c4, h⟩ | ⟨c4, h⟩
        · refine zt_tsIn (tgt := 62) hC c4 (by decide) (by decide) rfl (by decide) dX12_careOf_13 ?_
          refine zt_iconst hC ki_5 dX12_careOf_62 ?_
          refine zt_iload_n hC rfl dX12_careOf_63 ?_
          refine zt_isub hC dX12_careOf_64 ?_
          obtain rfl := Option.some.inj h
          exact zt_iret hC rfl rfl (Nat.le_of_ble_eq_true rfl) (Nat.le_of_ble_eq_true rfl) dX12_careOf_65
        · rcases ite_or h with ⟨c5, h⟩ | ⟨c5, h⟩
          · refine zt_tsIn (tgt := 66) hC c5 (by decide) (by decide) rfl (by decide) dX12_careOf_13 ?_
            refine zt_bipush hC kb_11 dX12_careOf_66 ?_
            refine zt_iload_n hC rfl dX12_careOf_68 ?_
            refine zt_iadd hC dX12_careOf_69 ?_
            obtain rfl := Option.some.inj h
            exact zt_iret hC rfl rfl (Nat.le_of_ble_eq_true rfl) (Nat.le_of_ble_eq_true rfl) dX12_careOf_70
          · rcases ite_or h with ⟨c6, h⟩ | ⟨c6, h⟩
            · refine zt_tsIn (tgt := 71) hC c6 (by decide) (by decide) rfl (by decide) dX12_careOf_13 ?_
              refine zt_iconst hC ki_5 dX12_careOf_71 ?_
              refine zt_iload_n hC rfl dX12_careOf_72 ?_
              refine zt_iadd hC dX12_careOf_73 ?_
              refine zt_iconst hC ki_2 dX12_careOf_74 ?_
              refine zt_idivc hC (by decide) dX12_careOf_75 ?_
              obtain rfl := Option.some.inj h
              exact zt_iret hC rfl rfl (Nat.le_of_ble_eq_true rfl) (Nat.le_of_ble_eq_true rfl) dX12_careOf_76
            · refine zt_tsOut (tgt := 77) hC (by have e1 := sw_ne c1 (j := 1) (by decide); have e2 := sw_ne c2 (j := 2) (by decide); have e3 := sw_ne c3 (j := 3) (by decide); have e4 := sw_ne c4 (j := 4) (by decide); have e5 := sw_ne c5 (j := 5) (by decide); have e6 := sw_ne c6 (j := 6) (by decide); omega) (by decide) dX12_careOf_13 ?_
              refine zt_iconst hC ki_5 dX12_careOf_77 ?_
              obtain rfl := Option.some.inj h
              exact zt_iret hC rfl rfl (Nat.le_of_ble_eq_true rfl) (Nat.le_of_ble_eq_true rfl) dX12_careOf_78
def rm_X12_care : Room := { frames := 3, cells := 0, slots := 0, locals := 66 }
theorem hd_X12_care : yX12_care.cls ≠ "java/lang/invoke/MethodHandle" ∧ yX12_care.cls ≠ "java/lang/invoke/VarHandle" ∧ (parseMethodDescriptor yX12_care.desc).map (fun d => d.parameters.length) = some 1 := by decide +kernel
def f_X12_care (N : Nat) (x0 : Nat) (x1 : Int32) (M : Mm) : Option (Int32 × Mm) :=
ck 12 M x0 (bnd (f_X12_wrongRule N x0 x1 M) (fun v1 M2 =>
(if v1 = 0 then
ck 12 M2 x0 (bnd (f_X12_careOf N x0 x1 M2) (fun v4 M5 =>
some (v4, M5)))
else
some (((-1000000000 : Int32) + v1), M2))))
set_option maxRecDepth 100000 in
set_option maxHeartbeats 4000000 in
theorem c_X12_care (N : Nat) (x0 : Nat) (x1 : Int32) (M : Mm) (r : (Int32 × Mm)) (h : f_X12_care N x0 x1 M = some r) (l : Launch) (hfl : l.flags = flags0) {G : Gl} : MT l G yX12_care cX12_care 3 (some .int) rm_X12_care [.ref x0, .int x1] M (some (.int r.1)) r.2 := by
  unfold f_X12_care at h
  refine zt_start hfl (lv := [(0, .ref x0), (1, .int x1)]) (by decide) (Nat.le_of_ble_eq_true rfl) rfl wd_1363 (fun X hC _ => ?_)
  refine zt_aload_n hC rfl dX12_care_0 ?_
  refine zt_iload_n hC rfl dX12_care_1 ?_
  obtain ⟨hk, h⟩ := ck_some h
  obtain ⟨v1, M2, h3, h⟩ := bnd_some h
  refine zt_callV (z := yX12_wrongRule) (As := [.int x1]) (rest := []) (st1 := (.int v1 :: [])) hC 1 hk cl12 (fun l hl => c_X12_wrongRule N x0 x1 M (v1, M2) h3 l hl) rfl wd_1151 wd_1148 wd_1150 ws_32 wd_7 hd_X12_wrongRule rfl ⟨⟨(Nat.le_of_ble_eq_true rfl), (Nat.le_of_ble_eq_true rfl)⟩, (Nat.le_of_ble_eq_true rfl), (Nat.le_of_ble_eq_true rfl)⟩ rfl (Nat.le_of_ble_eq_true rfl) rfl dX12_care_2 ?_
  refine zt_istore_n (lv' := [(2, .int v1), (0, .ref x0), (1, .int x1)]) hC (by decide) rfl dX12_care_5 ?_
  refine zt_iload_n hC rfl dX12_care_6 ?_
  refine zt_if_eq (tgt := 17) hC h (by decide) dX12_care_7 (fun h => ?_) (fun h => ?_)
  · refine zt_aload_n hC rfl dX12_care_17 ?_
    refine zt_iload_n hC rfl dX12_care_18 ?_
    obtain ⟨hk, h⟩ := ck_some h
    obtain ⟨v4, M5, h6, h⟩ := bnd_some h
    refine zt_callV (z := yX12_careOf) (As := [.int x1]) (rest := []) (st1 := (.int v4 :: [])) hC 1 hk cl12 (fun l hl => c_X12_careOf N x0 x1 M2 (v4, M5) h6 l hl) rfl wd_1367 wd_1364 wd_1366 ws_47 wd_7 hd_X12_careOf rfl ⟨⟨(Nat.le_of_ble_eq_true rfl), (Nat.le_of_ble_eq_true rfl)⟩, (Nat.le_of_ble_eq_true rfl), (Nat.le_of_ble_eq_true rfl)⟩ rfl (Nat.le_of_ble_eq_true rfl) rfl dX12_care_19 ?_
    obtain rfl := Option.some.inj h
    exact zt_iret hC rfl rfl (Nat.le_of_ble_eq_true rfl) (Nat.le_of_ble_eq_true rfl) dX12_care_22
  · refine zt_ldc hC wd_1262 dX12_care_10 ?_
    refine zt_iload_n hC rfl dX12_care_12 ?_
    refine zt_iadd hC dX12_care_13 ?_
    refine zt_goto (tgt := 22) hC (by decide) dX12_care_14 ?_
    obtain rfl := Option.some.inj h
    exact zt_iret hC rfl rfl (Nat.le_of_ble_eq_true rfl) (Nat.le_of_ble_eq_true rfl) dX12_care_22
def rm_X12_toss : Room := { frames := 3, cells := 0, slots := 0, locals := 66 }
theorem hd_X12_toss : yX12_toss.cls ≠ "java/lang/invoke/MethodHandle" ∧ yX12_toss.cls ≠ "java/lang/invoke/VarHandle" ∧ (parseMethodDescriptor yX12_toss.desc).map (fun d => d.parameters.length) = some 1 := by decide +kernel
def j_X12_toss_37 (N : Nat) (M : Mm) : Option (Int32 × Mm) :=
some ((-15 : Int32), M)
set_option maxRecDepth 100000 in
set_option maxHeartbeats 4000000 in
theorem w_X12_toss_37 {X : Cx} {G : Gl} {r : (Int32 × Mm)} (N : Nat) (hC : CX X G yX12_toss cX12_toss 5 (some .int) rm_X12_toss) (M : Mm) (h : j_X12_toss_37 N M = some r) : TW X G 5 (RQ X G (some (.int r.1)) r.2 rm_X12_toss) 0 0 M 37 [] [] := by
  unfold j_X12_toss_37 at h
  refine zt_bipush hC kb_m15 dX12_toss_37 ?_
  refine zt_goto (tgt := 81) hC (by decide) dX12_toss_39 ?_
  obtain rfl := Option.some.inj h
  exact zt_iret hC rfl rfl (Nat.le_of_ble_eq_true rfl) (Nat.le_of_ble_eq_true rfl) dX12_toss_81
def j_X12_toss_54 (N : Nat) (x3 : Int32) (M : Mm) : Option (Int32 × Mm) :=
some (((100 : Int32) + x3), M)
set_option maxRecDepth 100000 in
set_option maxHeartbeats 4000000 in
theorem w_X12_toss_54 {X : Cx} {G : Gl} {r : (Int32 × Mm)} (N : Nat) (hC : CX X G yX12_toss cX12_toss 5 (some .int) rm_X12_toss) (x3 : Int32) (M : Mm) (h : j_X12_toss_54 N x3 M = some r) : TW X G 5 (RQ X G (some (.int r.1)) r.2 rm_X12_toss) 0 0 M 54 [(3, .int x3)] [] := by
  unfold j_X12_toss_54 at h
  refine zt_bipush hC kb_100 dX12_toss_54 ?_
  refine zt_iload_n hC rfl dX12_toss_56 ?_
  refine zt_iadd hC dX12_toss_57 ?_
  refine zt_goto (tgt := 81) hC (by decide) dX12_toss_58 ?_
  obtain rfl := Option.some.inj h
  exact zt_iret hC rfl rfl (Nat.le_of_ble_eq_true rfl) (Nat.le_of_ble_eq_true rfl) dX12_toss_81
def f_X12_toss (N : Nat) (x0 : Nat) (x1 : Int32) (M : Mm) : Option (Int32 × Mm) :=
ck 12 M x0 (bnd (f_X12_wrongRule N x0 x1 M) (fun v1 M2 =>
(if v1 = 0 then
gR 12 M2 x0 9 (fun v4 =>
ald M2 v4 x1 (fun v5 =>
gR 12 M2 x0 8 (fun v6 =>
ald M2 v6 x1 (fun v7 =>
(if v7 = (4 : Int32) then
j_X12_toss_37 N M2
else
(if v5 = 0 then
j_X12_toss_37 N M2
else
(if v7 = (3 : Int32) then
j_X12_toss_54 N v5 M2
else
(if v7 = (5 : Int32) then
j_X12_toss_54 N v5 M2
else
(if v7 = (6 : Int32) then
ck 12 M2 x0 (bnd (f_X12_careOf N x0 x1 M2) (fun v8 M9 =>
some (((200 : Int32) + v8), M9)))
else
some (v5, M2))))))))))
else
some (v1, M2))))
set_option maxRecDepth 100000 in
set_option maxHeartbeats 4000000 in
theorem c_X12_toss (N : Nat) (x0 : Nat) (x1 : Int32) (M : Mm) (r : (Int32 × Mm)) (h : f_X12_toss N x0 x1 M = some r) (l : Launch) (hfl : l.flags = flags0) {G : Gl} : MT l G yX12_toss cX12_toss 5 (some .int) rm_X12_toss [.ref x0, .int x1] M (some (.int r.1)) r.2 := by
  unfold f_X12_toss at h
  refine zt_start hfl (lv := [(0, .ref x0), (1, .int x1)]) (by decide) (Nat.le_of_ble_eq_true rfl) rfl wd_1371 (fun X hC _ => ?_)
  refine zt_aload_n hC rfl dX12_toss_0 ?_
  refine zt_iload_n hC rfl dX12_toss_1 ?_
  obtain ⟨hk, h⟩ := ck_some h
  obtain ⟨v1, M2, h3, h⟩ := bnd_some h
  refine zt_callV (z := yX12_wrongRule) (As := [.int x1]) (rest := []) (st1 := (.int v1 :: [])) hC 1 hk cl12 (fun l hl => c_X12_wrongRule N x0 x1 M (v1, M2) h3 l hl) rfl wd_1151 wd_1148 wd_1150 ws_32 wd_7 hd_X12_wrongRule rfl ⟨⟨(Nat.le_of_ble_eq_true rfl), (Nat.le_of_ble_eq_true rfl)⟩, (Nat.le_of_ble_eq_true rfl), (Nat.le_of_ble_eq_true rfl)⟩ rfl (Nat.le_of_ble_eq_true rfl) rfl dX12_toss_2 ?_
  refine zt_istore_n (lv' := [(2, .int v1), (0, .ref x0), (1, .int x1)]) hC (by decide) rfl dX12_toss_5 ?_
  refine zt_iload_n hC rfl dX12_toss_6 ?_
  refine zt_if_eq (tgt := 12) hC h (by decide) dX12_toss_7 (fun h => ?_) (fun h => ?_)
  · refine zt_aload_n hC rfl dX12_toss_12 ?_
    refine zt_gR hC h cl12 (k := 9) (by decide) rfl wd_1000 (Or.inl rfl) dX12_toss_13 (fun v4 h => ?_)
    refine zt_iload_n hC rfl dX12_toss_16 ?_
    refine zt_ald hC h dX12_toss_17 (fun v5 h => ?_)
    refine zt_istore_n (lv' := [(3, .int v5), (2, .int v1), (0, .ref x0), (1, .int x1)]) hC (by decide) rfl dX12_toss_18 ?_
    refine zt_aload_n hC rfl dX12_toss_19 ?_
    refine zt_gR hC h cl12 (k := 8) (by decide) rfl wd_999 (Or.inl rfl) dX12_toss_20 (fun v6 h => ?_)
    refine zt_iload_n hC rfl dX12_toss_23 ?_
    refine zt_ald hC h dX12_toss_24 (fun v7 h => ?_)
    refine zt_istore (lv' := [(4, .int v7), (3, .int v5), (2, .int v1), (0, .ref x0), (1, .int x1)]) hC (by decide) rfl dX12_toss_25 ?_
    refine zt_iload hC rfl dX12_toss_27 ?_
    refine zt_iconst hC ki_4 dX12_toss_29 ?_
    refine zt_icmp_eq (tgt := 37) hC h (by decide) dX12_toss_30 (fun h => ?_) (fun h => ?_)
    · refine zt_keep [] rfl ?_
      exact w_X12_toss_37 N hC M2 h
    · refine zt_iload_n hC rfl dX12_toss_33 ?_
      refine zt_if_ne (tgt := 42) hC h (by decide) dX12_toss_34 (fun h => ?_) (fun h => ?_)
      · refine zt_iload hC rfl dX12_toss_42 ?_
        refine zt_iconst hC ki_3 dX12_toss_44 ?_
        refine zt_icmp_eq (tgt := 54) hC h (by decide) dX12_toss_45 (fun h => ?_) (fun h => ?_)
        · refine zt_keep [3] rfl ?_
          exact w_X12_toss_54 N hC v5 M2 h
        · refine zt_iload hC rfl dX12_toss_48 ?_
          refine zt_iconst hC ki_5 dX12_toss_50 ?_
          refine zt_icmp_ne (tgt := 61) hC h (by decide) dX12_toss_51 (fun h => ?_) (fun h => ?_)
          · refine zt_iload hC rfl dX12_toss_61 ?_
            refine zt_bipush hC kb_6 dX12_toss_63 ?_
            refine zt_icmp_ne (tgt := 80) hC h (by decide) dX12_toss_65 (fun h => ?_) (fun h => ?_)
            · refine zt_iload_n hC rfl dX12_toss_80 ?_
              obtain rfl := Option.some.inj h
              exact zt_iret hC rfl rfl (Nat.le_of_ble_eq_true rfl) (Nat.le_of_ble_eq_true rfl) dX12_toss_81
            · refine zt_sipush hC ks_200 dX12_toss_68 ?_
              refine zt_aload_n hC rfl dX12_toss_71 ?_
              refine zt_iload_n hC rfl dX12_toss_72 ?_
              obtain ⟨hk, h⟩ := ck_some h
              obtain ⟨v8, M9, h10, h⟩ := bnd_some h
              refine zt_callV (z := yX12_careOf) (As := [.int x1]) (rest := [.int (200 : Int32)]) (st1 := (.int v8 :: [.int (200 : Int32)])) hC 1 hk cl12 (fun l hl => c_X12_careOf N x0 x1 M2 (v8, M9) h10 l hl) rfl wd_1367 wd_1364 wd_1366 ws_47 wd_7 hd_X12_careOf rfl ⟨⟨(Nat.le_of_ble_eq_true rfl), (Nat.le_of_ble_eq_true rfl)⟩, (Nat.le_of_ble_eq_true rfl), (Nat.le_of_ble_eq_true rfl)⟩ rfl (Nat.le_of_ble_eq_true rfl) rfl dX12_toss_73 ?_
              refine zt_iadd hC dX12_toss_76 ?_
              refine zt_goto (tgt := 81) hC (by decide) dX12_toss_77 ?_
              obtain rfl := Option.some.inj h
              exact zt_iret hC rfl rfl (Nat.le_of_ble_eq_true rfl) (Nat.le_of_ble_eq_true rfl) dX12_toss_81
          · refine zt_keep [3] rfl ?_
            exact w_X12_toss_54 N hC v5 M2 h
      · refine zt_keep [] rfl ?_
        exact w_X12_toss_37 N hC M2 h
  · refine zt_iload_n hC rfl dX12_toss_10 ?_
    obtain rfl := Option.some.inj h
    exact zt_iret hC rfl rfl (Nat.le_of_ble_eq_true rfl) (Nat.le_of_ble_eq_true rfl) dX12_toss_11
