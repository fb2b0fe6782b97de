def rm_X12_minutes : Room := { frames := 2, cells := 0, slots := 0, locals := 46 }
theorem hd_X12_minutes : yX12_minutes.cls ≠ "java/lang/invoke/MethodHandle" ∧ yX12_minutes.cls ≠ "java/lang/invoke/VarHandle" ∧ (parseMethodDescriptor yX12_minutes.desc).map (fun d => d.parameters.length) = some 2 := by decide +kernel
def f_X12_minutes (N : Nat) (x0 : Nat) (x1 : Int32) (x2 : Int32) (M : Mm) : Option (Int32 × Mm) :=
ck 12 M x0 (bnd (f_X12_isLanding N x0 x1 M) (fun v1 M2 =>
(if v1 = 0 then
some ((-1 : Int32), M2)
else
ck 12 M2 x0 (bnd (f_X12_isLanding N x0 x2 M2) (fun v4 M5 =>
(if v4 = 0 then
some ((-1 : Int32), M5)
else
(if x1 = x2 then
some ((-1 : Int32), M5)
else
gR 12 M5 x0 0 (fun v7 =>
ald M5 v7 (((9 : Int32) + ((4 : Int32) * x1)) + x2) (fun v8 =>
some (v8, M5))))))))))
set_option maxRecDepth 100000 in
set_option maxHeartbeats 4000000 in
theorem c_X12_minutes (N : Nat) (x0 : Nat) (x1 : Int32) (x2 : Int32) (M : Mm) (r : (Int32 × Mm)) (h : f_X12_minutes N x0 x1 x2 M = some r) (l : Launch) (hfl : l.flags = flags0) {G : Gl} : MT l G yX12_minutes cX12_minutes 3 (some .int) rm_X12_minutes [.ref x0, .int x1, .int x2] M (some (.int r.1)) r.2 := by
  unfold f_X12_minutes at h
  refine zt_start hfl (lv := [(0, .ref x0), (1, .int x1), (2, .int x2)]) (by decide) (Nat.le_of_ble_eq_true rfl) rfl wd_1118 (fun X hC _ => ?_)
  refine zt_aload_n hC rfl dX12_minutes_0 ?_
  refine zt_iload_n hC rfl dX12_minutes_1 ?_
  obtain ⟨hk, h⟩ := ck_some h
  obtain ⟨v1, M2, h3, h⟩ := bnd_some h
  refine zt_callV (z := yX12_isLanding) (As := [.int x1]) (rest := []) (st1 := (.int v1 :: [])) hC 1 hk cl12 (fun l hl => c_X12_isLanding N x0 x1 M (v1, M2) h3 l hl) rfl wd_1122 wd_1119 wd_1121 ws_29 wd_7 hd_X12_isLanding rfl ⟨⟨(Nat.le_of_ble_eq_true rfl), (Nat.le_of_ble_eq_true rfl)⟩, (Nat.le_of_ble_eq_true rfl), (Nat.le_of_ble_eq_true rfl)⟩ rfl (Nat.le_of_ble_eq_true rfl) rfl dX12_minutes_2 ?_
  refine zt_if_eq (tgt := 37) hC h (by decide) dX12_minutes_5 (fun h => ?_) (fun h => ?_)
  · refine zt_iconst hC ki_m1 dX12_minutes_37 ?_
    obtain rfl := Option.some.inj h
    exact zt_iret hC rfl rfl (Nat.le_of_ble_eq_true rfl) (Nat.le_of_ble_eq_true rfl) dX12_minutes_38
  · refine zt_aload_n hC rfl dX12_minutes_8 ?_
    refine zt_iload_n hC rfl dX12_minutes_9 ?_
    obtain ⟨hk, h⟩ := ck_some h
    obtain ⟨v4, M5, h6, h⟩ := bnd_some h
    refine zt_callV (z := yX12_isLanding) (As := [.int x2]) (rest := []) (st1 := (.int v4 :: [])) hC 1 hk cl12 (fun l hl => c_X12_isLanding N x0 x2 M2 (v4, M5) h6 l hl) rfl wd_1122 wd_1119 wd_1121 ws_29 wd_7 hd_X12_isLanding rfl ⟨⟨(Nat.le_of_ble_eq_true rfl), (Nat.le_of_ble_eq_true rfl)⟩, (Nat.le_of_ble_eq_true rfl), (Nat.le_of_ble_eq_true rfl)⟩ rfl (Nat.le_of_ble_eq_true rfl) rfl dX12_minutes_10 ?_
    refine zt_if_eq (tgt := 37) hC h (by decide) dX12_minutes_13 (fun h => ?_) (fun h => ?_)
    · refine zt_iconst hC ki_m1 dX12_minutes_37 ?_
      obtain rfl := Option.some.inj h
      exact zt_iret hC rfl rfl (Nat.le_of_ble_eq_true rfl) (Nat.le_of_ble_eq_true rfl) dX12_minutes_38
    · refine zt_iload_n hC rfl dX12_minutes_16 ?_
      refine zt_iload_n hC rfl dX12_minutes_17 ?_
      refine zt_icmp_eq (tgt := 37) hC h (by decide) dX12_minutes_18 (fun h => ?_) (fun h => ?_)
      · refine zt_iconst hC ki_m1 dX12_minutes_37 ?_
        obtain rfl := Option.some.inj h
        exact zt_iret hC rfl rfl (Nat.le_of_ble_eq_true rfl) (Nat.le_of_ble_eq_true rfl) dX12_minutes_38
      · refine zt_aload_n hC rfl dX12_minutes_21 ?_
        refine zt_gR hC h cl12 (k := 0) (by decide) rfl wd_991 (Or.inl rfl) dX12_minutes_22 (fun v7 h => ?_)
        refine zt_bipush hC kb_9 dX12_minutes_25 ?_
        refine zt_iconst hC ki_4 dX12_minutes_27 ?_
        refine zt_iload_n hC rfl dX12_minutes_28 ?_
        refine zt_imul hC dX12_minutes_29 ?_
        refine zt_iadd hC dX12_minutes_30 ?_
        refine zt_iload_n hC rfl dX12_minutes_31 ?_
        refine zt_iadd hC dX12_minutes_32 ?_
        refine zt_ald hC h dX12_minutes_33 (fun v8 h => ?_)
        refine zt_goto (tgt := 38) hC (by decide) dX12_minutes_34 ?_
        obtain rfl := Option.some.inj h
        exact zt_iret hC rfl rfl (Nat.le_of_ble_eq_true rfl) (Nat.le_of_ble_eq_true rfl) dX12_minutes_38
def rm_X12_sort : Room := { frames := 2, cells := 0, slots := 0, locals := 46 }
theorem hd_X12_sort : yX12_sort.cls ≠ "java/lang/invoke/MethodHandle" ∧ yX12_sort.cls ≠ "java/lang/invoke/VarHandle" ∧ (parseMethodDescriptor yX12_sort.desc).map (fun d => d.parameters.length) = some 2 := by decide +kernel
def f_X12_sort (N : Nat) (x0 : Nat) (x1 : Int32) (x2 : Int32) (M : Mm) : Option (Int32 × Mm) :=
ck 12 M x0 (bnd (f_X12_isSort N x0 x1 M) (fun v1 M2 =>
(if v1 = 0 then
some ((-1 : Int32), M2)
else
bnd (f_X12_isIn N (Int32.toInt64 x2) (0 : Int64) (4 : Int64) M2) (fun v4 M5 =>
(if v4 = 0 then
some ((-1 : Int32), M5)
else
gR 12 M5 x0 0 (fun v7 =>
bnd (f_X12_get N v7 x1 x2 M5) (fun v8 M9 =>
some (v8, M9))))))))
set_option maxRecDepth 100000 in
set_option maxHeartbeats 4000000 in
theorem c_X12_sort (N : Nat) (x0 : Nat) (x1 : Int32) (x2 : Int32) (M : Mm) (r : (Int32 × Mm)) (h : f_X12_sort N x0 x1 x2 M = some r) (l : Launch) (hfl : l.flags = flags0) {G : Gl} : MT l G yX12_sort cX12_sort 3 (some .int) rm_X12_sort [.ref x0, .int x1, .int x2] M (some (.int r.1)) r.2 := by
  unfold f_X12_sort at h
  refine zt_start hfl (lv := [(0, .ref x0), (1, .int x1), (2, .int x2)]) (by decide) (Nat.le_of_ble_eq_true rfl) rfl wd_1126 (fun X hC _ => ?_)
  refine zt_aload_n hC rfl dX12_sort_0 ?_
  refine zt_iload_n hC rfl dX12_sort_1 ?_
  obtain ⟨hk, h⟩ := ck_some h
  obtain ⟨v1, M2, h3, h⟩ := bnd_some h
  refine zt_callV (z := yX12_isSort) (As := [.int x1]) (rest := []) (st1 := (.int v1 :: [])) hC 1 hk cl12 (fun l hl => c_X12_isSort N x0 x1 M (v1, M2) h3 l hl) rfl wd_1130 wd_1127 wd_1129 ws_30 wd_7 hd_X12_isSort rfl ⟨⟨(Nat.le_of_ble_eq_true rfl), (Nat.le_of_ble_eq_true rfl)⟩, (Nat.le_of_ble_eq_true rfl), (Nat.le_of_ble_eq_true rfl)⟩ rfl (Nat.le_of_ble_eq_true rfl) rfl dX12_sort_2 ?_
  refine zt_if_eq (tgt := 32) hC h (by decide) dX12_sort_5 (fun h => ?_) (fun h => ?_)
  · refine zt_iconst hC ki_m1 dX12_sort_32 ?_
    obtain rfl := Option.some.inj h
    exact zt_iret hC rfl rfl (Nat.le_of_ble_eq_true rfl) (Nat.le_of_ble_eq_true rfl) dX12_sort_33
  · refine zt_iload_n hC rfl dX12_sort_8 ?_
    refine zt_i2l hC dX12_sort_9 ?_
    refine zt_lconst hC kl_0 dX12_sort_10 ?_
    refine zt_ldc2 hC wd_1103 dX12_sort_11 ?_
    obtain ⟨v4, M5, h6, h⟩ := bnd_some h
    refine zt_callS (z := yX12_isIn) (As := [.long (Int32.toInt64 x2), .long (0 : Int64), .long (4 : Int64)]) (rest := []) (st1 := (.int v4 :: [])) hC 3 (fun l hl => c_X12_isIn N (Int32.toInt64 x2) (0 : Int64) (4 : Int64) M2 (v4, M5) h6 l hl) rfl wd_1067 wd_1065 wd_1066 wd_7 hd_X12_isIn rfl ⟨⟨(Nat.le_of_ble_eq_true rfl), (Nat.le_of_ble_eq_true rfl)⟩, (Nat.le_of_ble_eq_true rfl), (Nat.le_of_ble_eq_true rfl)⟩ rfl (Nat.le_of_ble_eq_true rfl) rfl dX12_sort_14 ?_
    refine zt_if_eq (tgt := 32) hC h (by decide) dX12_sort_17 (fun h => ?_) (fun h => ?_)
    · refine zt_iconst hC ki_m1 dX12_sort_32 ?_
      obtain rfl := Option.some.inj h
      exact zt_iret hC rfl rfl (Nat.le_of_ble_eq_true rfl) (Nat.le_of_ble_eq_true rfl) dX12_sort_33
    · refine zt_aload_n hC rfl dX12_sort_20 ?_
      refine zt_gR hC h cl12 (k := 0) (by decide) rfl wd_991 (Or.inl rfl) dX12_sort_21 (fun v7 h => ?_)
      refine zt_iload_n hC rfl dX12_sort_24 ?_
      refine zt_iload_n hC rfl dX12_sort_25 ?_
      obtain ⟨v8, M9, h10, h⟩ := bnd_some h
      refine zt_callS (z := yX12_get) (As := [.ref v7, .int x1, .int x2]) (rest := []) (st1 := (.int v8 :: [])) hC 3 (fun l hl => c_X12_get N v7 x1 x2 M5 (v8, M9) h10 l hl) rfl wd_1112 wd_1110 wd_1111 wd_7 hd_X12_get rfl ⟨⟨(Nat.le_of_ble_eq_true rfl), (Nat.le_of_ble_eq_true rfl)⟩, (Nat.le_of_ble_eq_true rfl), (Nat.le_of_ble_eq_true rfl)⟩ rfl (Nat.le_of_ble_eq_true rfl) rfl dX12_sort_26 ?_
      refine zt_goto (tgt := 33) hC (by decide) dX12_sort_29 ?_
      obtain rfl := Option.some.inj h
      exact zt_iret hC rfl rfl (Nat.le_of_ble_eq_true rfl) (Nat.le_of_ble_eq_true rfl) dX12_sort_33
def rm_X12_comes_ : Room := { frames := 2, cells := 0, slots := 0, locals := 46 }
theorem hd_X12_comes_ : yX12_comes_.cls ≠ "java/lang/invoke/MethodHandle" ∧ yX12_comes_.cls ≠ "java/lang/invoke/VarHandle" ∧ (parseMethodDescriptor yX12_comes_.desc).map (fun d => d.parameters.length) = some 2 := by decide +kernel
def f_X12_comes_ (N : Nat) (x0 : Nat) (x1 : Int32) (x2 : Int32) (M : Mm) : Option (Int32 × Mm) :=
ck 12 M x0 (bnd (f_X12_isSort N x0 x1 M) (fun v1 M2 =>
(if v1 = 0 then
some ((-1 : Int32), M2)
else
bnd (f_X12_isIn N (Int32.toInt64 x2) (0 : Int64) (100 : Int64) M2) (fun v4 M5 =>
(if v4 = 0 then
some ((-1 : Int32), M5)
else
ck 12 M5 x0 (bnd (f_X12_becomes N x0 (((25 : Int32) + ((5 : Int32) * x1)) + (2 : Int32)) x2 M5) (fun v7 M8 =>
some (v7, M8))))))))
set_option maxRecDepth 100000 in
set_option maxHeartbeats 4000000 in
theorem c_X12_comes_ (N : Nat) (x0 : Nat) (x1 : Int32) (x2 : Int32) (M : Mm) (r : (Int32 × Mm)) (h : f_X12_comes_ N x0 x1 x2 M = some r) (l : Launch) (hfl : l.flags = flags0) {G : Gl} : MT l G yX12_comes_ cX12_comes_ 3 (some .int) rm_X12_comes_ [.ref x0, .int x1, .int x2] M (some (.int r.1)) r.2 := by
  unfold f_X12_comes_ at h
  refine zt_start hfl (lv := [(0, .ref x0), (1, .int x1), (2, .int x2)]) (by decide) (Nat.le_of_ble_eq_true rfl) rfl wd_1134 (fun X hC _ => ?_)
  refine zt_aload_n hC rfl dX12_comes__0 ?_
  refine zt_iload_n hC rfl dX12_comes__1 ?_
  obtain ⟨hk, h⟩ := ck_some h
  obtain ⟨v1, M2, h3, h⟩ := bnd_some h
  refine zt_callV (z := yX12_isSort) (As := [.int x1]) (rest := []) (st1 := (.int v1 :: [])) hC 1 hk cl12 (fun l hl => c_X12_isSort N x0 x1 M (v1, M2) h3 l hl) rfl wd_1130 wd_1127 wd_1129 ws_30 wd_7 hd_X12_isSort rfl ⟨⟨(Nat.le_of_ble_eq_true rfl), (Nat.le_of_ble_eq_true rfl)⟩, (Nat.le_of_ble_eq_true rfl), (Nat.le_of_ble_eq_true rfl)⟩ rfl (Nat.le_of_ble_eq_true rfl) rfl dX12_comes__2 ?_
  refine zt_if_eq (tgt := 36) hC h (by decide) dX12_comes__5 (fun h => ?_) (fun h => ?_)
  · refine zt_iconst hC ki_m1 dX12_comes__36 ?_
    obtain rfl := Option.some.inj h
    exact zt_iret hC rfl rfl (Nat.le_of_ble_eq_true rfl) (Nat.le_of_ble_eq_true rfl) dX12_comes__37
  · refine zt_iload_n hC rfl dX12_comes__8 ?_
    refine zt_i2l hC dX12_comes__9 ?_
    refine zt_lconst hC kl_0 dX12_comes__10 ?_
    refine zt_ldc2 hC wd_1135 dX12_comes__11 ?_
    obtain ⟨v4, M5, h6, h⟩ := bnd_some h
    refine zt_callS (z := yX12_isIn) (As := [.long (Int32.toInt64 x2), .long (0 : Int64), .long (100 : Int64)]) (rest := []) (st1 := (.int v4 :: [])) hC 3 (fun l hl => c_X12_isIn N (Int32.toInt64 x2) (0 : Int64) (100 : Int64) M2 (v4, M5) h6 l hl) rfl wd_1067 wd_1065 wd_1066 wd_7 hd_X12_isIn rfl ⟨⟨(Nat.le_of_ble_eq_true rfl), (Nat.le_of_ble_eq_true rfl)⟩, (Nat.le_of_ble_eq_true rfl), (Nat.le_of_ble_eq_true rfl)⟩ rfl (Nat.le_of_ble_eq_true rfl) rfl dX12_comes__14 ?_
    refine zt_if_eq (tgt := 36) hC h (by decide) dX12_comes__17 (fun h => ?_) (fun h => ?_)
    · refine zt_iconst hC ki_m1 dX12_comes__36 ?_
      obtain rfl := Option.some.inj h
      exact zt_iret hC rfl rfl (Nat.le_of_ble_eq_true rfl) (Nat.le_of_ble_eq_true rfl) dX12_comes__37
    · refine zt_aload_n hC rfl dX12_comes__20 ?_
      refine zt_bipush hC kb_25 dX12_comes__21 ?_
      refine zt_iconst hC ki_5 dX12_comes__23 ?_
      refine zt_iload_n hC rfl dX12_comes__24 ?_
      refine zt_imul hC dX12_comes__25 ?_
      refine zt_iadd hC dX12_comes__26 ?_
      refine zt_iconst hC ki_2 dX12_comes__27 ?_
      refine zt_iadd hC dX12_comes__28 ?_
      refine zt_iload_n hC rfl dX12_comes__29 ?_
      obtain ⟨hk, h⟩ := ck_some h
      obtain ⟨v7, M8, h9, h⟩ := bnd_some h
      refine zt_callV (z := yX12_becomes) (As := [.int (((25 : Int32) + ((5 : Int32) * x1)) + (2 : Int32)), .int x2]) (rest := []) (st1 := (.int v7 :: [])) hC 2 hk cl12 (fun l hl => c_X12_becomes N x0 (((25 : Int32) + ((5 : Int32) * x1)) + (2 : Int32)) x2 M5 (v7, M8) h9 l hl) rfl wd_1139 wd_1136 wd_1138 ws_31 wd_7 hd_X12_becomes rfl ⟨⟨(Nat.le_of_ble_eq_true rfl), (Nat.le_of_ble_eq_true rfl)⟩, (Nat.le_of_ble_eq_true rfl), (Nat.le_of_ble_eq_true rfl)⟩ rfl (Nat.le_of_ble_eq_true rfl) rfl dX12_comes__30 ?_
      refine zt_goto (tgt := 37) hC (by decide) dX12_comes__33 ?_
      obtain rfl := Option.some.inj h
      exact zt_iret hC rfl rfl (Nat.le_of_ble_eq_true rfl) (Nat.le_of_ble_eq_true rfl) dX12_comes__37
def rm_X12_set : Room := { frames := 1, cells := 0, slots := 0, locals := 25 }
theorem hd_X12_set : yX12_set.cls ≠ "java/lang/invoke/MethodHandle" ∧ yX12_set.cls ≠ "java/lang/invoke/VarHandle" ∧ (parseMethodDescriptor yX12_set.desc).map (fun d => d.parameters.length) = some 2 := by decide +kernel
def f_X12_set (N : Nat) (x0 : Nat) (x1 : Int32) (x2 : Int32) (M : Mm) : Option (Int32 × Mm) :=
(if x1 = (1 : Int32) then
ck 12 M x0 (bnd (f_X12_becomes N x0 (4 : Int32) x2 M) (fun v11 M12 =>
some (v11, M12)))
else
(if x1 = 0 then
bnd (f_X12_isIn N (Int32.toInt64 x2) (1 : Int64) (6 : Int64) M) (fun v1 M2 =>
(if v1 = 0 then
some ((-1 : Int32), M2)
else
gR 12 M2 x0 0 (fun v4 =>
bnd (f_X12_boatOf N v4 (0 : Int32) (3 : Int32) M2) (fun v5 M6 =>
(if v5 ≤ x2 then
ck 12 M6 x0 (bnd (f_X12_becomes N x0 (2 : Int32) x2 M6) (fun v8 M9 =>
some (v8, M9)))
else
some ((-3 : Int32), M6))))))
else
some ((-1 : Int32), M)))
set_option maxRecDepth 100000 in
set_option maxHeartbeats 4000000 in
theorem c_X12_set (N : Nat) (x0 : Nat) (x1 : Int32) (x2 : Int32) (M : Mm) (r : (Int32 × Mm)) (h : f_X12_set N x0 x1 x2 M = some r) (l : Launch) (hfl : l.flags = flags0) {G : Gl} : MT l G yX12_set cX12_set 3 (some .int) rm_X12_set [.ref x0, .int x1, .int x2] M (some (.int r.1)) r.2 := by
  unfold f_X12_set at h
  refine zt_start hfl (lv := [(0, .ref x0), (1, .int x1), (2, .int x2)]) (by decide) (Nat.le_of_ble_eq_true rfl) rfl wd_1143 (fun X hC _ => ?_)
  refine zt_iload_n hC rfl dX12_set_0 ?_
  refine zt_iconst hC ki_1 dX12_set_1 ?_
  refine zt_icmp_ne (tgt := 12) hC h (by decide) dX12_set_2 (fun h => ?_) (fun h => ?_)
  · refine zt_iload_n hC rfl dX12_set_12 ?_
    refine zt_if_ne (tgt := 28) hC h (by decide) dX12_set_13 (fun h => ?_) (fun h => ?_)
    · refine zt_iconst hC ki_m1 dX12_set_28 ?_
      obtain rfl := Option.some.inj h
      exact zt_iret hC rfl rfl (Nat.le_of_ble_eq_true rfl) (Nat.le_of_ble_eq_true rfl) dX12_set_29
    · refine zt_iload_n hC rfl dX12_set_16 ?_
      refine zt_i2l hC dX12_set_17 ?_
      refine zt_lconst hC kl_1 dX12_set_18 ?_
      refine zt_ldc2 hC wd_1113 dX12_set_19 ?_
      obtain ⟨v1, M2, h3, h⟩ := bnd_some h
      refine zt_callS (z := yX12_isIn) (As := [.long (Int32.toInt64 x2), .long (1 : Int64), .long (6 : Int64)]) (rest := []) (st1 := (.int v1 :: [])) hC 3 (fun l hl => c_X12_isIn N (Int32.toInt64 x2) (1 : Int64) (6 : Int64) M (v1, M2) h3 l hl) rfl wd_1067 wd_1065 wd_1066 wd_7 hd_X12_isIn rfl ⟨⟨(Nat.le_of_ble_eq_true rfl), (Nat.le_of_ble_eq_true rfl)⟩, (Nat.le_of_ble_eq_true rfl), (Nat.le_of_ble_eq_true rfl)⟩ rfl (Nat.le_of_ble_eq_true rfl) rfl dX12_set_22 ?_
      refine zt_if_ne (tgt := 30) hC h (by decide) dX12_set_25 (fun h => ?_) (fun h => ?_)
      · refine zt_iload_n hC rfl dX12_set_30 ?_
        refine zt_aload_n hC rfl dX12_set_31 ?_
        refine zt_gR hC h cl12 (k := 0) (by decide) rfl wd_991 (Or.inl rfl) dX12_set_32 (fun v4 h => ?_)
        refine zt_iconst hC ki_0 dX12_set_35 ?_
        refine zt_iconst hC ki_3 dX12_set_36 ?_
        obtain ⟨v5, M6, h7, h⟩ := bnd_some h
        refine zt_callS (z := yX12_boatOf) (As := [.ref v4, .int (0 : Int32), .int (3 : Int32)]) (rest := [.int x2]) (st1 := (.int v5 :: [.int x2])) hC 3 (fun l hl => c_X12_boatOf N v4 (0 : Int32) (3 : Int32) M2 (v5, M6) h7 l hl) rfl wd_1109 wd_1107 wd_1108 wd_7 hd_X12_boatOf rfl ⟨⟨(Nat.le_of_ble_eq_true rfl), (Nat.le_of_ble_eq_true rfl)⟩, (Nat.le_of_ble_eq_true rfl), (Nat.le_of_ble_eq_true rfl)⟩ rfl (Nat.le_of_ble_eq_true rfl) rfl dX12_set_37 ?_
        refine zt_icmp_ge (tgt := 48) hC h (by decide) dX12_set_40 (fun h => ?_) (fun h => ?_)
        · refine zt_aload_n hC rfl dX12_set_48 ?_
          refine zt_iconst hC ki_2 dX12_set_49 ?_
          refine zt_iload_n hC rfl dX12_set_50 ?_
          obtain ⟨hk, h⟩ := ck_some h
          obtain ⟨v8, M9, h10, h⟩ := bnd_some h
          refine zt_callV (z := yX12_becomes) (As := [.int (2 : Int32), .int x2]) (rest := []) (st1 := (.int v8 :: [])) hC 2 hk cl12 (fun l hl => c_X12_becomes N x0 (2 : Int32) x2 M6 (v8, M9) h10 l hl) rfl wd_1139 wd_1136 wd_1138 ws_31 wd_7 hd_X12_becomes rfl ⟨⟨(Nat.le_of_ble_eq_true rfl), (Nat.le_of_ble_eq_true rfl)⟩, (Nat.le_of_ble_eq_true rfl), (Nat.le_of_ble_eq_true rfl)⟩ rfl (Nat.le_of_ble_eq_true rfl) rfl dX12_set_51 ?_
          obtain rfl := Option.some.inj h
          exact zt_iret hC rfl rfl (Nat.le_of_ble_eq_true rfl) (Nat.le_of_ble_eq_true rfl) dX12_set_54
        · refine zt_bipush hC kb_m3 dX12_set_43 ?_
          refine zt_goto (tgt := 54) hC (by decide) dX12_set_45 ?_
          obtain rfl := Option.some.inj h
          exact zt_iret hC rfl rfl (Nat.le_of_ble_eq_true rfl) (Nat.le_of_ble_eq_true rfl) dX12_set_54
      · refine zt_iconst hC ki_m1 dX12_set_28 ?_
        obtain rfl := Option.some.inj h
        exact zt_iret hC rfl rfl (Nat.le_of_ble_eq_true rfl) (Nat.le_of_ble_eq_true rfl) dX12_set_29
  · refine zt_aload_n hC rfl dX12_set_5 ?_
    refine zt_iconst hC ki_4 dX12_set_6 ?_
    refine zt_iload_n hC rfl dX12_set_7 ?_
    obtain ⟨hk, h⟩ := ck_some h
    obtain ⟨v11, M12, h13, h⟩ := bnd_some h
    refine zt_callV (z := yX12_becomes) (As := [.int (4 : Int32), .int x2]) (rest := []) (st1 := (.int v11 :: [])) hC 2 hk cl12 (fun l hl => c_X12_becomes N x0 (4 : Int32) x2 M (v11, M12) h13 l hl) rfl wd_1139 wd_1136 wd_1138 ws_31 wd_7 hd_X12_becomes rfl ⟨⟨(Nat.le_of_ble_eq_true rfl), (Nat.le_of_ble_eq_true rfl)⟩, (Nat.le_of_ble_eq_true rfl), (Nat.le_of_ble_eq_true rfl)⟩ rfl (Nat.le_of_ble_eq_true rfl) rfl dX12_set_8 ?_
    obtain rfl := Option.some.inj h
    exact zt_iret hC rfl rfl (Nat.le_of_ble_eq_true rfl) (Nat.le_of_ble_eq_true rfl) dX12_set_11
def rm_X12_toFirst : Room := { frames := 1, cells := 0, slots := 0, locals := 22 }
theorem hd_X12_toFirst : yX12_toFirst.cls ≠ "java/lang/invoke/MethodHandle" ∧ yX12_toFirst.cls ≠ "java/lang/invoke/VarHandle" ∧ (parseMethodDescriptor yX12_toFirst.desc).map (fun d => d.parameters.length) = some 2 := by decide +kernel
def f_X12_toFirst (N : Nat) (x0 : Nat) (x1 : Int32) (M : Mm) : Option (Int32 × Mm) :=
bnd (f_X12_boatOf N x0 x1 (3 : Int32) M) (fun v1 M2 =>
(if v1 ≤ 0 then
some ((-4 : Int32), M2)
else
bnd (f_X12_boatOf N x0 x1 (6 : Int32) M2) (fun v4 M5 =>
bnd (f_X12_get N x0 v4 (1 : Int32) M5) (fun v7 M8 =>
some (v7, M8)))))
set_option maxRecDepth 100000 in
set_option maxHeartbeats 4000000 in
theorem c_X12_toFirst (N : Nat) (x0 : Nat) (x1 : Int32) (M : Mm) (r : (Int32 × Mm)) (h : f_X12_toFirst N x0 x1 M = some r) (l : Launch) (hfl : l.flags = flags0) {G : Gl} : MT l G yX12_toFirst cX12_toFirst 2 (some .int) rm_X12_toFirst [.ref x0, .int x1] M (some (.int r.1)) r.2 := by
  unfold f_X12_toFirst at h
  refine zt_start hfl (lv := [(0, .ref x0), (1, .int x1)]) (by decide) (Nat.le_of_ble_eq_true rfl) rfl wd_1198 (fun X hC _ => ?_)
  refine zt_aload_n hC rfl dX12_toFirst_0 ?_
  refine zt_iload_n hC rfl dX12_toFirst_1 ?_
  refine zt_iconst hC ki_3 dX12_toFirst_2 ?_
  obtain ⟨v1, M2, h3, h⟩ := bnd_some h
  refine zt_callS (z := yX12_boatOf) (As := [.ref x0, .int x1, .int (3 : Int32)]) (rest := []) (st1 := (.int v1 :: [])) hC 3 (fun l hl => c_X12_boatOf N x0 x1 (3 : Int32) M (v1, M2) h3 l hl) rfl wd_1109 wd_1107 wd_1108 wd_7 hd_X12_boatOf rfl ⟨⟨(Nat.le_of_ble_eq_true rfl), (Nat.le_of_ble_eq_true rfl)⟩, (Nat.le_of_ble_eq_true rfl), (Nat.le_of_ble_eq_true rfl)⟩ rfl (Nat.le_of_ble_eq_true rfl) rfl dX12_toFirst_3 ?_
  refine zt_if_le (tgt := 24) hC h (by decide) dX12_toFirst_6 (fun h => ?_) (fun h => ?_)
  · refine zt_bipush hC kb_m4 dX12_toFirst_24 ?_
    obtain rfl := Option.some.inj h
    exact zt_iret hC rfl rfl (Nat.le_of_ble_eq_true rfl) (Nat.le_of_ble_eq_true rfl) dX12_toFirst_26
  · refine zt_aload_n hC rfl dX12_toFirst_9 ?_
    refine zt_aload_n hC rfl dX12_toFirst_10 ?_
    refine zt_iload_n hC rfl dX12_toFirst_11 ?_
    refine zt_bipush hC kb_6 dX12_toFirst_12 ?_
    obtain ⟨v4, M5, h6, h⟩ := bnd_some h
    refine zt_callS (z := yX12_boatOf) (As := [.ref x0, .int x1, .int (6 : Int32)]) (rest := [.ref x0]) (st1 := (.int v4 :: [.ref x0])) hC 3 (fun l hl => c_X12_boatOf N x0 x1 (6 : Int32) M2 (v4, M5) h6 l hl) rfl wd_1109 wd_1107 wd_1108 wd_7 hd_X12_boatOf rfl ⟨⟨(Nat.le_of_ble_eq_true rfl), (Nat.le_of_ble_eq_true rfl)⟩, (Nat.le_of_ble_eq_true rfl), (Nat.le_of_ble_eq_true rfl)⟩ rfl (Nat.le_of_ble_eq_true rfl) rfl dX12_toFirst_14 ?_
    refine zt_iconst hC ki_1 dX12_toFirst_17 ?_
    obtain ⟨v7, M8, h9, h⟩ := bnd_some h
    refine zt_callS (z := yX12_get) (As := [.ref x0, .int v4, .int (1 : Int32)]) (rest := []) (st1 := (.int v7 :: [])) hC 3 (fun l hl => c_X12_get N x0 v4 (1 : Int32) M5 (v7, M8) h9 l hl) rfl wd_1112 wd_1110 wd_1111 wd_7 hd_X12_get rfl ⟨⟨(Nat.le_of_ble_eq_true rfl), (Nat.le_of_ble_eq_true rfl)⟩, (Nat.le_of_ble_eq_true rfl), (Nat.le_of_ble_eq_true rfl)⟩ rfl (Nat.le_of_ble_eq_true rfl) rfl dX12_toFirst_18 ?_
    refine zt_goto (tgt := 26) hC (by decide) dX12_toFirst_21 ?_
    obtain rfl := Option.some.inj h
    exact zt_iret hC rfl rfl (Nat.le_of_ble_eq_true rfl) (Nat.le_of_ble_eq_true rfl) dX12_toFirst_26
def rm_X12_sinceOf : Room := { frames := 0, cells := 0, slots := 0, locals := 0 }
theorem hd_X12_sinceOf : yX12_sinceOf.cls ≠ "java/lang/invoke/MethodHandle" ∧ yX12_sinceOf.cls ≠ "java/lang/invoke/VarHandle" ∧ (parseMethodDescriptor yX12_sinceOf.desc).map (fun d => d.parameters.length) = some 3 := by decide +kernel
def f_X12_sinceOf (N : Nat) (x0 : Nat) (x1 : Int32) (x2 : Int32) (M : Mm) : Option (Int32 × Mm) :=
ald M x0 ((((74 : Int32) + ((25 : Int32) * x1)) + (13 : Int32)) + x2) (fun v1 =>
some (v1, M))
set_option maxRecDepth 100000 in
set_option maxHeartbeats 4000000 in
theorem c_X12_sinceOf (N : Nat) (x0 : Nat) (x1 : Int32) (x2 : Int32) (M : Mm) (r : (Int32 × Mm)) (h : f_X12_sinceOf N x0 x1 x2 M = some r) (l : Launch) (hfl : l.flags = flags0) {G : Gl} : MT l G yX12_sinceOf cX12_sinceOf 3 (some .int) rm_X12_sinceOf [.ref x0, .int x1, .int x2] M (some (.int r.1)) r.2 := by
  unfold f_X12_sinceOf at h
  refine zt_start hfl (lv := [(0, .ref x0), (1, .int x1), (2, .int x2)]) (by decide) (Nat.le_of_ble_eq_true rfl) rfl wd_1195 (fun X hC _ => ?_)
  refine zt_aload_n hC rfl dX12_sinceOf_0 ?_
  refine zt_bipush hC kb_74 dX12_sinceOf_1 ?_
  refine zt_bipush hC kb_25 dX12_sinceOf_3 ?_
  refine zt_iload_n hC rfl dX12_sinceOf_5 ?_
  refine zt_imul hC dX12_sinceOf_6 ?_
  refine zt_iadd hC dX12_sinceOf_7 ?_
  refine zt_bipush hC kb_13 dX12_sinceOf_8 ?_
  refine zt_iadd hC dX12_sinceOf_10 ?_
  refine zt_iload_n hC rfl dX12_sinceOf_11 ?_
  refine zt_iadd hC dX12_sinceOf_12 ?_
  refine zt_ald hC h dX12_sinceOf_13 (fun v1 h => ?_)
  obtain rfl := Option.some.inj h
  exact zt_iret hC rfl rfl (Nat.le_of_ble_eq_true rfl) (Nat.le_of_ble_eq_true rfl) dX12_sinceOf_14
def rm_X12_longest : Room := { frames := 1, cells := 0, slots := 0, locals := 22 }
theorem hd_X12_longest : yX12_longest.cls ≠ "java/lang/invoke/MethodHandle" ∧ yX12_longest.cls ≠ "java/lang/invoke/VarHandle" ∧ (parseMethodDescriptor yX12_longest.desc).map (fun d => d.parameters.length) = some 2 := by decide +kernel
def b_X12_longest_40 (N : Nat) (k15 : Nat → Int32 → Int32 → Int32 → Int32 → Mm → Option (Int32 × Mm)) (k40 : Nat → Int32 → Int32 → Int32 → Int32 → Int32 → Mm → Option (Int32 × Mm)) (x0 : Nat) (x1 : Int32) (x2 : Int32) (x3 : Int32) (x4 : Int32) (x5 : Int32) (M : Mm) : Option (Int32 × Mm) :=
bnd (f_X12_standing N x0 x4 M) (fun v1 M2 =>
(if v1 ≤ x5 then
k15 x0 x1 x2 x3 (x4 + (1 : Int32)) M2
else
bnd (f_X12_sinceOf N x0 x4 x5 M2) (fun v4 M5 =>
(if x3 < v4 then
bnd (f_X12_sinceOf N x0 x4 x5 M5) (fun v7 M8 =>
k40 x0 x1 x4 v7 x4 (x5 + (1 : Int32)) M8)
else
k40 x0 x1 x2 x3 x4 (x5 + (1 : Int32)) M5))))
def l_X12_longest_40 (N : Nat) (k15 : Nat → Int32 → Int32 → Int32 → Int32 → Mm → Option (Int32 × Mm)) : Nat → Nat → Int32 → Int32 → Int32 → Int32 → Int32 → Mm → Option (Int32 × Mm)
  | 0 => fun _ _ _ _ _ _ _ => none
  | n + 1 => b_X12_longest_40 N k15 (l_X12_longest_40 N k15 n)
set_option maxRecDepth 100000 in
set_option maxHeartbeats 4000000 in
theorem v_X12_longest_40 {X : Cx} {G : Gl} {r : (Int32 × Mm)} (N : Nat) (hC : CX X G yX12_longest cX12_longest 6 (some .int) rm_X12_longest) (k15 : Nat → Int32 → Int32 → Int32 → Int32 → Mm → Option (Int32 × Mm)) (hk15 : ∀ (x0 : Nat) (x1 : Int32) (x2 : Int32) (x3 : Int32) (x4 : Int32) (M : Mm), k15 x0 x1 x2 x3 x4 M = some r → TW X G 6 (RQ X G (some (.int r.1)) r.2 rm_X12_longest) 0 0 M 15 [(0, .ref x0), (1, .int x1), (2, .int x2), (3, .int x3), (4, .int x4)] []) (k40 : Nat → Int32 → Int32 → Int32 → Int32 → Int32 → Mm → Option (Int32 × Mm)) (hk40 : ∀ (x0 : Nat) (x1 : Int32) (x2 : Int32) (x3 : Int32) (x4 : Int32) (x5 : Int32) (M : Mm), k40 x0 x1 x2 x3 x4 x5 M = some r → TW X G 6 (RQ X G (some (.int r.1)) r.2 rm_X12_longest) 0 0 M 40 [(0, .ref x0), (1, .int x1), (2, .int x2), (3, .int x3), (4, .int x4), (5, .int x5)] []) (x0 : Nat) (x1 : Int32) (x2 : Int32) (x3 : Int32) (x4 : Int32) (x5 : Int32) (M : Mm) (h : b_X12_longest_40 N k15 k40 x0 x1 x2 x3 x4 x5 M = some r) : TW X G 6 (RQ X G (some (.int r.1)) r.2 rm_X12_longest) 0 0 M 40 [(0, .ref x0), (1, .int x1), (2, .int x2), (3, .int x3), (4, .int x4), (5, .int x5)] [] := by
  unfold b_X12_longest_40 at h
  refine zt_iload hC rfl dX12_longest_40 ?_
  refine zt_aload_n hC rfl dX12_longest_42 ?_
  refine zt_iload hC rfl dX12_longest_43 ?_
  obtain ⟨v1, M2, h3, h⟩ := bnd_some h
  refine zt_callS (z := yX12_standing) (As := [.ref x0, .int x4]) (rest := [.int x5]) (st1 := (.int v1 :: [.int x5])) hC 2 (fun l hl => c_X12_standing N x0 x4 M (v1, M2) h3 l hl) rfl wd_1106 wd_1104 wd_1105 wd_7 hd_X12_standing rfl ⟨⟨(Nat.le_of_ble_eq_true rfl), (Nat.le_of_ble_eq_true rfl)⟩, (Nat.le_of_ble_eq_true rfl), (Nat.le_of_ble_eq_true rfl)⟩ rfl (Nat.le_of_ble_eq_true rfl) rfl dX12_longest_45 ?_
  refine zt_icmp_ge (tgt := 84) hC h (by decide) dX12_longest_48 (fun h => ?_) (fun h => ?_)
  · refine zt_iinc (v := (x4 + (1 : Int32))) (lv' := [(4, .int (x4 + (1 : Int32))), (0, .ref x0), (1, .int x1), (2, .int x2), (3, .int x3), (5, .int x5)]) hC rfl (by rw [ki_1]) (by decide) rfl dX12_longest_84 ?_
    refine zt_goto (tgt := 15) hC (by decide) dX12_longest_87 ?_
    refine zt_keep [0, 1, 2, 3, 4] rfl ?_
    exact hk15 x0 x1 x2 x3 (x4 + (1 : Int32)) M2 h
  · refine zt_aload_n hC rfl dX12_longest_51 ?_
    refine zt_iload hC rfl dX12_longest_52 ?_
    refine zt_iload hC rfl dX12_longest_54 ?_
    obtain ⟨v4, M5, h6, h⟩ := bnd_some h
    refine zt_callS (z := yX12_sinceOf) (As := [.ref x0, .int x4, .int x5]) (rest := []) (st1 := (.int v4 :: [])) hC 3 (fun l hl => c_X12_sinceOf N x0 x4 x5 M2 (v4, M5) h6 l hl) rfl wd_1195 wd_1193 wd_1194 wd_7 hd_X12_sinceOf rfl ⟨⟨(Nat.le_of_ble_eq_true rfl), (Nat.le_of_ble_eq_true rfl)⟩, (Nat.le_of_ble_eq_true rfl), (Nat.le_of_ble_eq_true rfl)⟩ rfl (Nat.le_of_ble_eq_true rfl) rfl dX12_longest_56 ?_
    refine zt_iload_n hC rfl dX12_longest_59 ?_
    refine zt_icmp_gt (tgt := 66) hC h (by decide) dX12_longest_60 (fun h => ?_) (fun h => ?_)
    · refine zt_aload_n hC rfl dX12_longest_66 ?_
      refine zt_iload hC rfl dX12_longest_67 ?_
      refine zt_iload hC rfl dX12_longest_69 ?_
      obtain ⟨v7, M8, h9, h⟩ := bnd_some h
      refine zt_callS (z := yX12_sinceOf) (As := [.ref x0, .int x4, .int x5]) (rest := []) (st1 := (.int v7 :: [])) hC 3 (fun l hl => c_X12_sinceOf N x0 x4 x5 M5 (v7, M8) h9 l hl) rfl wd_1195 wd_1193 wd_1194 wd_7 hd_X12_sinceOf rfl ⟨⟨(Nat.le_of_ble_eq_true rfl), (Nat.le_of_ble_eq_true rfl)⟩, (Nat.le_of_ble_eq_true rfl), (Nat.le_of_ble_eq_true rfl)⟩ rfl (Nat.le_of_ble_eq_true rfl) rfl dX12_longest_71 ?_
      refine zt_istore_n (lv' := [(3, .int v7), (0, .ref x0), (1, .int x1), (2, .int x2), (4, .int x4), (5, .int x5)]) hC (by decide) rfl dX12_longest_74 ?_
      refine zt_iload hC rfl dX12_longest_75 ?_
      refine zt_istore_n (lv' := [(2, .int x4), (3, .int v7), (0, .ref x0), (1, .int x1), (4, .int x4), (5, .int x5)]) hC (by decide) rfl dX12_longest_77 ?_
      refine zt_iinc (v := (x5 + (1 : Int32))) (lv' := [(5, .int (x5 + (1 : Int32))), (2, .int x4), (3, .int v7), (0, .ref x0), (1, .int x1), (4, .int x4)]) hC rfl (by rw [ki_1]) (by decide) rfl dX12_longest_78 ?_
      refine zt_goto (tgt := 40) hC (by decide) dX12_longest_81 ?_
      refine zt_keep [0, 1, 2, 3, 4, 5] rfl ?_
      exact hk40 x0 x1 x4 v7 x4 (x5 + (1 : Int32)) M8 h
    · refine zt_goto (tgt := 78) hC (by decide) dX12_longest_63 ?_
      refine zt_iinc (v := (x5 + (1 : Int32))) (lv' := [(5, .int (x5 + (1 : Int32))), (0, .ref x0), (1, .int x1), (2, .int x2), (3, .int x3), (4, .int x4)]) hC rfl (by rw [ki_1]) (by decide) rfl dX12_longest_78 ?_
      refine zt_goto (tgt := 40) hC (by decide) dX12_longest_81 ?_
      refine zt_keep [0, 1, 2, 3, 4, 5] rfl ?_
      exact hk40 x0 x1 x2 x3 x4 (x5 + (1 : Int32)) M5 h
theorem w_X12_longest_40 {X : Cx} {G : Gl} {r : (Int32 × Mm)} (N : Nat) (hC : CX X G yX12_longest cX12_longest 6 (some .int) rm_X12_longest) (k15 : Nat → Int32 → Int32 → Int32 → Int32 → Mm → Option (Int32 × Mm)) (hk15 : ∀ (x0 : Nat) (x1 : Int32) (x2 : Int32) (x3 : Int32) (x4 : Int32) (M : Mm), k15 x0 x1 x2 x3 x4 M = some r → TW X G 6 (RQ X G (some (.int r.1)) r.2 rm_X12_longest) 0 0 M 15 [(0, .ref x0), (1, .int x1), (2, .int x2), (3, .int x3), (4, .int x4)] []) (n : Nat) : ∀ (x0 : Nat) (x1 : Int32) (x2 : Int32) (x3 : Int32) (x4 : Int32) (x5 : Int32) (M : Mm), l_X12_longest_40 N k15 n x0 x1 x2 x3 x4 x5 M = some r → TW X G 6 (RQ X G (some (.int r.1)) r.2 rm_X12_longest) 0 0 M 40 [(0, .ref x0), (1, .int x1), (2, .int x2), (3, .int x3), (4, .int x4), (5, .int x5)] [] := by
  induction n with
  | zero => intro  x0 x1 x2 x3 x4 x5 M h; cases (show none = some r from h)
  | succ n ih => intro  x0 x1 x2 x3 x4 x5 M h; exact v_X12_longest_40 N hC k15 hk15 (l_X12_longest_40 N k15 n) ih x0 x1 x2 x3 x4 x5 M h
def b_X12_longest_15 (N : Nat) (k15 : Nat → Int32 → Int32 → Int32 → Int32 → Mm → Option (Int32 × Mm)) (x0 : Nat) (x1 : Int32) (x2 : Int32) (x3 : Int32) (x4 : Int32) (M : Mm) : Option (Int32 × Mm) :=
ald M x0 (0 : Int32) (fun v1 =>
(if v1 ≤ x4 then
some (x2, M)
else
bnd (f_X12_boatOf N x0 x1 (0 : Int32) M) (fun v2 M3 =>
(if x4 = v2 then
k15 x0 x1 x2 x3 (x4 + (1 : Int32)) M3
else
l_X12_longest_40 N k15 N x0 x1 x2 x3 x4 (0 : Int32) M3))))
def l_X12_longest_15 (N : Nat) : Nat → Nat → Int32 → Int32 → Int32 → Int32 → Mm → Option (Int32 × Mm)
  | 0 => fun _ _ _ _ _ _ => none
  | n + 1 => b_X12_longest_15 N (l_X12_longest_15 N n)
set_option maxRecDepth 100000 in
set_option maxHeartbeats 4000000 in
theorem v_X12_longest_15 {X : Cx} {G : Gl} {r : (Int32 × Mm)} (N : Nat) (hC : CX X G yX12_longest cX12_longest 6 (some .int) rm_X12_longest) (k15 : Nat → Int32 → Int32 → Int32 → Int32 → Mm → Option (Int32 × Mm)) (hk15 : ∀ (x0 : Nat) (x1 : Int32) (x2 : Int32) (x3 : Int32) (x4 : Int32) (M : Mm), k15 x0 x1 x2 x3 x4 M = some r → TW X G 6 (RQ X G (some (.int r.1)) r.2 rm_X12_longest) 0 0 M 15 [(0, .ref x0), (1, .int x1), (2, .int x2), (3, .int x3), (4, .int x4)] []) (x0 : Nat) (x1 : Int32) (x2 : Int32) (x3 : Int32) (x4 : Int32) (M : Mm) (h : b_X12_longest_15 N k15 x0 x1 x2 x3 x4 M = some r) : TW X G 6 (RQ X G (some (.int r.1)) r.2 rm_X12_longest) 0 0 M 15 [(0, .ref x0), (1, .int x1), (2, .int x2), (3, .int x3), (4, .int x4)] [] := by
  unfold b_X12_longest_15 at h
  refine zt_iload hC rfl dX12_longest_15 ?_
  refine zt_aload_n hC rfl dX12_longest_17 ?_
  refine zt_iconst hC ki_0 dX12_longest_18 ?_
  refine zt_ald hC h dX12_longest_19 (fun v1 h => ?_)
  refine zt_icmp_ge (tgt := 90) hC h (by decide) dX12_longest_20 (fun h => ?_) (fun h => ?_)
  · refine zt_iload_n hC rfl dX12_longest_90 ?_
    obtain rfl := Option.some.inj h
    exact zt_iret hC rfl rfl (Nat.le_of_ble_eq_true rfl) (Nat.le_of_ble_eq_true rfl) dX12_longest_91
  · refine zt_iload hC rfl dX12_longest_23 ?_
    refine zt_aload_n hC rfl dX12_longest_25 ?_
    refine zt_iload_n hC rfl dX12_longest_26 ?_
    refine zt_iconst hC ki_0 dX12_longest_27 ?_
    obtain ⟨v2, M3, h4, h⟩ := bnd_some h
    refine zt_callS (z := yX12_boatOf) (As := [.ref x0, .int x1, .int (0 : Int32)]) (rest := [.int x4]) (st1 := (.int v2 :: [.int x4])) hC 3 (fun l hl => c_X12_boatOf N x0 x1 (0 : Int32) M (v2, M3) h4 l hl) rfl wd_1109 wd_1107 wd_1108 wd_7 hd_X12_boatOf rfl ⟨⟨(Nat.le_of_ble_eq_true rfl), (Nat.le_of_ble_eq_true rfl)⟩, (Nat.le_of_ble_eq_true rfl), (Nat.le_of_ble_eq_true rfl)⟩ rfl (Nat.le_of_ble_eq_true rfl) rfl dX12_longest_28 ?_
    refine zt_icmp_ne (tgt := 37) hC h (by decide) dX12_longest_31 (fun h => ?_) (fun h => ?_)
    · refine zt_iconst hC ki_0 dX12_longest_37 ?_
      refine zt_istore (lv' := [(5, .int (0 : Int32)), (0, .ref x0), (1, .int x1), (2, .int x2), (3, .int x3), (4, .int x4)]) hC (by decide) rfl dX12_longest_38 ?_
      refine zt_keep [0, 1, 2, 3, 4, 5] rfl ?_
      exact w_X12_longest_40 N hC k15 hk15 N x0 x1 x2 x3 x4 (0 : Int32) M3 h
    · refine zt_goto (tgt := 84) hC (by decide) dX12_longest_34 ?_
      refine zt_iinc (v := (x4 + (1 : Int32))) (lv' := [(4, .int (x4 + (1 : Int32))), (0, .ref x0), (1, .int x1), (2, .int x2), (3, .int x3)]) hC rfl (by rw [ki_1]) (by decide) rfl dX12_longest_84 ?_
      refine zt_goto (tgt := 15) hC (by decide) dX12_longest_87 ?_
      refine zt_keep [0, 1, 2, 3, 4] rfl ?_
      exact hk15 x0 x1 x2 x3 (x4 + (1 : Int32)) M3 h
theorem w_X12_longest_15 {X : Cx} {G : Gl} {r : (Int32 × Mm)} (N : Nat) (hC : CX X G yX12_longest cX12_longest 6 (some .int) rm_X12_longest) (n : Nat) : ∀ (x0 : Nat) (x1 : Int32) (x2 : Int32) (x3 : Int32) (x4 : Int32) (M : Mm), l_X12_longest_15 N n x0 x1 x2 x3 x4 M = some r → TW X G 6 (RQ X G (some (.int r.1)) r.2 rm_X12_longest) 0 0 M 15 [(0, .ref x0), (1, .int x1), (2, .int x2), (3, .int x3), (4, .int x4)] [] := by
  induction n with
  | zero => intro  x0 x1 x2 x3 x4 M h; cases (show none = some r from h)
  | succ n ih => intro  x0 x1 x2 x3 x4 M h; exact v_X12_longest_15 N hC (l_X12_longest_15 N n) ih x0 x1 x2 x3 x4 M h
def f_X12_longest (N : Nat) (x0 : Nat) (x1 : Int32) (M : Mm) : Option (Int32 × Mm) :=
bnd (f_X12_boatOf N x0 x1 (5 : Int32) M) (fun v1 M2 =>
l_X12_longest_15 N N x0 x1 (-4 : Int32) (v1 - (1 : Int32)) (0 : Int32) M2)
set_option maxRecDepth 100000 in
set_option maxHeartbeats 4000000 in
theorem c_X12_longest (N : Nat) (x0 : Nat) (x1 : Int32) (M : Mm) (r : (Int32 × Mm)) (h : f_X12_longest N x0 x1 M = some r) (l : Launch) (hfl : l.flags = flags0) {G : Gl} : MT l G yX12_longest cX12_longest 6 (some .int) rm_X12_longest [.ref x0, .int x1] M (some (.int r.1)) r.2 := by
  unfold f_X12_longest at h
  refine zt_start hfl (lv := [(0, .ref x0), (1, .int x1)]) (by decide) (Nat.le_of_ble_eq_true rfl) rfl wd_1192 (fun X hC _ => ?_)
  refine zt_bipush hC kb_m4 dX12_longest_0 ?_
  refine zt_istore_n (lv' := [(2, .int (-4 : Int32)), (0, .ref x0), (1, .int x1)]) hC (by decide) rfl dX12_longest_2 ?_
  refine zt_aload_n hC rfl dX12_longest_3 ?_
  refine zt_iload_n hC rfl dX12_longest_4 ?_
  refine zt_iconst hC ki_5 dX12_longest_5 ?_
  obtain ⟨v1, M2, h3, h⟩ := bnd_some h
  refine zt_callS (z := yX12_boatOf) (As := [.ref x0, .int x1, .int (5 : Int32)]) (rest := []) (st1 := (.int v1 :: [])) hC 3 (fun l hl => c_X12_boatOf N x0 x1 (5 : Int32) M (v1, M2) h3 l hl) rfl wd_1109 wd_1107 wd_1108 wd_7 hd_X12_boatOf rfl ⟨⟨(Nat.le_of_ble_eq_true rfl), (Nat.le_of_ble_eq_true rfl)⟩, (Nat.le_of_ble_eq_true rfl), (Nat.le_of_ble_eq_true rfl)⟩ rfl (Nat.le_of_ble_eq_true rfl) rfl dX12_longest_6 ?_
  refine zt_iconst hC ki_1 dX12_longest_9 ?_
  refine zt_isub hC dX12_longest_10 ?_
  refine zt_istore_n (lv' := [(3, .int (v1 - (1 : Int32))), (2, .int (-4 : Int32)), (0, .ref x0), (1, .int x1)]) hC (by decide) rfl dX12_longest_11 ?_
  refine zt_iconst hC ki_0 dX12_longest_12 ?_
  refine zt_istore (lv' := [(4, .int (0 : Int32)), (3, .int (v1 - (1 : Int32))), (2, .int (-4 : Int32)), (0, .ref x0), (1, .int x1)]) hC (by decide) rfl dX12_longest_13 ?_
  refine zt_keep [0, 1, 2, 3, 4] rfl ?_
  exact w_X12_longest_15 N hC N x0 x1 (-4 : Int32) (v1 - (1 : Int32)) (0 : Int32) M2 h
def rm_X12_busiest : Room := { frames := 1, cells := 0, slots := 0, locals := 22 }
theorem hd_X12_busiest : yX12_busiest.cls ≠ "java/lang/invoke/MethodHandle" ∧ yX12_busiest.cls ≠ "java/lang/invoke/VarHandle" ∧ (parseMethodDescriptor yX12_busiest.desc).map (fun d => d.parameters.length) = some 2 := by decide +kernel
def b_X12_busiest_13 (N : Nat) (k13 : Nat → Int32 → Int32 → Int32 → Int32 → Mm → Option (Int32 × Mm)) (x0 : Nat) (x1 : Int32) (x2 : Int32) (x3 : Int32) (x4 : Int32) (M : Mm) : Option (Int32 × Mm) :=
ald M x0 (0 : Int32) (fun v1 =>
(if v1 ≤ x4 then
some (x2, M)
else
bnd (f_X12_boatOf N x0 x1 (0 : Int32) M) (fun v2 M3 =>
(if x4 = v2 then
k13 x0 x1 x2 x3 (x4 + (1 : Int32)) M3
else
bnd (f_X12_standing N x0 x4 M3) (fun v5 M6 =>
(if x3 < v5 then
bnd (f_X12_standing N x0 x4 M6) (fun v8 M9 =>
k13 x0 x1 x4 v8 (x4 + (1 : Int32)) M9)
else
k13 x0 x1 x2 x3 (x4 + (1 : Int32)) M6))))))
def l_X12_busiest_13 (N : Nat) : Nat → Nat → Int32 → Int32 → Int32 → Int32 → Mm → Option (Int32 × Mm)
  | 0 => fun _ _ _ _ _ _ => none
  | n + 1 => b_X12_busiest_13 N (l_X12_busiest_13 N n)
set_option maxRecDepth 100000 in
set_option maxHeartbeats 4000000 in
theorem v_X12_busiest_13 {X : Cx} {G : Gl} {r : (Int32 × Mm)} (N : Nat) (hC : CX X G yX12_busiest cX12_busiest 5 (some .int) rm_X12_busiest) (k13 : Nat → Int32 → Int32 → Int32 → Int32 → Mm → Option (Int32 × Mm)) (hk13 : ∀ (x0 : Nat) (x1 : Int32) (x2 : Int32) (x3 : Int32) (x4 : Int32) (M : Mm), k13 x0 x1 x2 x3 x4 M = some r → TW X G 5 (RQ X G (some (.int r.1)) r.2 rm_X12_busiest) 0 0 M 13 [(0, .ref x0), (1, .int x1), (2, .int x2), (3, .int x3), (4, .int x4)] []) (x0 : Nat) (x1 : Int32) (x2 : Int32) (x3 : Int32) (x4 : Int32) (M : Mm) (h : b_X12_busiest_13 N k13 x0 x1 x2 x3 x4 M = some r) : TW X G 5 (RQ X G (some (.int r.1)) r.2 rm_X12_busiest) 0 0 M 13 [(0, .ref x0), (1, .int x1), (2, .int x2), (3, .int x3), (4, .int x4)] [] := by
  unfold b_X12_busiest_13 at h
  refine zt_iload hC rfl dX12_busiest_13 ?_
  refine zt_aload_n hC rfl dX12_busiest_15 ?_
  refine zt_iconst hC ki_0 dX12_busiest_16 ?_
  refine zt_ald hC h dX12_busiest_17 (fun v1 h => ?_)
  refine zt_icmp_ge (tgt := 61) hC h (by decide) dX12_busiest_18 (fun h => ?_) (fun h => ?_)
  · refine zt_iload_n hC rfl dX12_busiest_61 ?_
    obtain rfl := Option.some.inj h
    exact zt_iret hC rfl rfl (Nat.le_of_ble_eq_true rfl) (Nat.le_of_ble_eq_true rfl) dX12_busiest_62
  · refine zt_iload hC rfl dX12_busiest_21 ?_
    refine zt_aload_n hC rfl dX12_busiest_23 ?_
    refine zt_iload_n hC rfl dX12_busiest_24 ?_
    refine zt_iconst hC ki_0 dX12_busiest_25 ?_
    obtain ⟨v2, M3, h4, h⟩ := bnd_some h
    refine zt_callS (z := yX12_boatOf) (As := [.ref x0, .int x1, .int (0 : Int32)]) (rest := [.int x4]) (st1 := (.int v2 :: [.int x4])) hC 3 (fun l hl => c_X12_boatOf N x0 x1 (0 : Int32) M (v2, M3) h4 l hl) rfl wd_1109 wd_1107 wd_1108 wd_7 hd_X12_boatOf rfl ⟨⟨(Nat.le_of_ble_eq_true rfl), (Nat.le_of_ble_eq_true rfl)⟩, (Nat.le_of_ble_eq_true rfl), (Nat.le_of_ble_eq_true rfl)⟩ rfl (Nat.le_of_ble_eq_true rfl) rfl dX12_busiest_26 ?_
    refine zt_icmp_eq (tgt := 55) hC h (by decide) dX12_busiest_29 (fun h => ?_) (fun h => ?_)
    · refine zt_iinc (v := (x4 + (1 : Int32))) (lv' := [(4, .int (x4 + (1 : Int32))), (0, .ref x0), (1, .int x1), (2, .int x2), (3, .int x3)]) hC rfl (by rw [ki_1]) (by decide) rfl dX12_busiest_55 ?_
      refine zt_goto (tgt := 13) hC (by decide) dX12_busiest_58 ?_
      refine zt_keep [0, 1, 2, 3, 4] rfl ?_
      exact hk13 x0 x1 x2 x3 (x4 + (1 : Int32)) M3 h
    · refine zt_aload_n hC rfl dX12_busiest_32 ?_
      refine zt_iload hC rfl dX12_busiest_33 ?_
      obtain ⟨v5, M6, h7, h⟩ := bnd_some h
      refine zt_callS (z := yX12_standing) (As := [.ref x0, .int x4]) (rest := []) (st1 := (.int v5 :: [])) hC 2 (fun l hl => c_X12_standing N x0 x4 M3 (v5, M6) h7 l hl) rfl wd_1106 wd_1104 wd_1105 wd_7 hd_X12_standing rfl ⟨⟨(Nat.le_of_ble_eq_true rfl), (Nat.le_of_ble_eq_true rfl)⟩, (Nat.le_of_ble_eq_true rfl), (Nat.le_of_ble_eq_true rfl)⟩ rfl (Nat.le_of_ble_eq_true rfl) rfl dX12_busiest_35 ?_
      refine zt_iload_n hC rfl dX12_busiest_38 ?_
      refine zt_icmp_gt (tgt := 45) hC h (by decide) dX12_busiest_39 (fun h => ?_) (fun h => ?_)
      · refine zt_iload hC rfl dX12_busiest_45 ?_
        refine zt_istore_n (lv' := [(2, .int x4), (0, .ref x0), (1, .int x1), (3, .int x3), (4, .int x4)]) hC (by decide) rfl dX12_busiest_47 ?_
        refine zt_aload_n hC rfl dX12_busiest_48 ?_
        refine zt_iload hC rfl dX12_busiest_49 ?_
        obtain ⟨v8, M9, h10, h⟩ := bnd_some h
        refine zt_callS (z := yX12_standing) (As := [.ref x0, .int x4]) (rest := []) (st1 := (.int v8 :: [])) hC 2 (fun l hl => c_X12_standing N x0 x4 M6 (v8, M9) h10 l hl) rfl wd_1106 wd_1104 wd_1105 wd_7 hd_X12_standing rfl ⟨⟨(Nat.le_of_ble_eq_true rfl), (Nat.le_of_ble_eq_true rfl)⟩, (Nat.le_of_ble_eq_true rfl), (Nat.le_of_ble_eq_true rfl)⟩ rfl (Nat.le_of_ble_eq_true rfl) rfl dX12_busiest_51 ?_
        refine zt_istore_n (lv' := [(3, .int v8), (2, .int x4), (0, .ref x0), (1, .int x1), (4, .int x4)]) hC (by decide) rfl dX12_busiest_54 ?_
        refine zt_iinc (v := (x4 + (1 : Int32))) (lv' := [(4, .int (x4 + (1 : Int32))), (3, .int v8), (2, .int x4), (0, .ref x0), (1, .int x1)]) hC rfl (by rw [ki_1]) (by decide) rfl dX12_busiest_55 ?_
        refine zt_goto (tgt := 13) hC (by decide) dX12_busiest_58 ?_
        refine zt_keep [0, 1, 2, 3, 4] rfl ?_
        exact hk13 x0 x1 x4 v8 (x4 + (1 : Int32)) M9 h
      · refine zt_goto (tgt := 55) hC (by decide) dX12_busiest_42 ?_
        refine zt_iinc (v := (x4 + (1 : Int32))) (lv' := [(4, .int (x4 + (1 : Int32))), (0, .ref x0), (1, .int x1), (2, .int x2), (3, .int x3)]) hC rfl (by rw [ki_1]) (by decide) rfl dX12_busiest_55 ?_
        refine zt_goto (tgt := 13) hC (by decide) dX12_busiest_58 ?_
        refine zt_keep [0, 1, 2, 3, 4] rfl ?_
        exact hk13 x0 x1 x2 x3 (x4 + (1 : Int32)) M6 h
theorem w_X12_busiest_13 {X : Cx} {G : Gl} {r : (Int32 × Mm)} (N : Nat) (hC : CX X G yX12_busiest cX12_busiest 5 (some .int) rm_X12_busiest) (n : Nat) : ∀ (x0 : Nat) (x1 : Int32) (x2 : Int32) (x3 : Int32) (x4 : Int32) (M : Mm), l_X12_busiest_13 N n x0 x1 x2 x3 x4 M = some r → TW X G 5 (RQ X G (some (.int r.1)) r.2 rm_X12_busiest) 0 0 M 13 [(0, .ref x0), (1, .int x1), (2, .int x2), (3, .int x3), (4, .int x4)] [] := by
  induction n with
  | zero => intro  x0 x1 x2 x3 x4 M h; cases (show none = some r from h)
  | succ n ih => intro  x0 x1 x2 x3 x4 M h; exact v_X12_busiest_13 N hC (l_X12_busiest_13 N n) ih x0 x1 x2 x3 x4 M h
def f_X12_busiest (N : Nat) (x0 : Nat) (x1 : Int32) (M : Mm) : Option (Int32 × Mm) :=
bnd (f_X12_boatOf N x0 x1 (5 : Int32) M) (fun v1 M2 =>
l_X12_busiest_13 N N x0 x1 (-4 : Int32) v1 (0 : Int32) M2)
set_option maxRecDepth 100000 in
set_option maxHeartbeats 4000000 in
theorem c_X12_busiest (N : Nat) (x0 : Nat) (x1 : Int32) (M : Mm) (r : (Int32 × Mm)) (h : f_X12_busiest N x0 x1 M = some r) (l : Launch) (hfl : l.flags = flags0) {G : Gl} : MT l G yX12_busiest cX12_busiest 5 (some .int) rm_X12_busiest [.ref x0, .int x1] M (some (.int r.1)) r.2 := by
  unfold f_X12_busiest at h
  refine zt_start hfl (lv := [(0, .ref x0), (1, .int x1)]) (by decide) (Nat.le_of_ble_eq_true rfl) rfl wd_1201 (fun X hC _ => ?_)
  refine zt_bipush hC kb_m4 dX12_busiest_0 ?_
  refine zt_istore_n (lv' := [(2, .int (-4 : Int32)), (0, .ref x0), (1, .int x1)]) hC (by decide) rfl dX12_busiest_2 ?_
  refine zt_aload_n hC rfl dX12_busiest_3 ?_
  refine zt_iload_n hC rfl dX12_busiest_4 ?_
  refine zt_iconst hC ki_5 dX12_busiest_5 ?_
  obtain ⟨v1, M2, h3, h⟩ := bnd_some h
  refine zt_callS (z := yX12_boatOf) (As := [.ref x0, .int x1, .int (5 : Int32)]) (rest := []) (st1 := (.int v1 :: [])) hC 3 (fun l hl => c_X12_boatOf N x0 x1 (5 : Int32) M (v1, M2) h3 l hl) rfl wd_1109 wd_1107 wd_1108 wd_7 hd_X12_boatOf rfl ⟨⟨(Nat.le_of_ble_eq_true rfl), (Nat.le_of_ble_eq_true rfl)⟩, (Nat.le_of_ble_eq_true rfl), (Nat.le_of_ble_eq_true rfl)⟩ rfl (Nat.le_of_ble_eq_true rfl) rfl dX12_busiest_6 ?_
  refine zt_istore_n (lv' := [(3, .int v1), (2, .int (-4 : Int32)), (0, .ref x0), (1, .int x1)]) hC (by decide) rfl dX12_busiest_9 ?_
  refine zt_iconst hC ki_0 dX12_busiest_10 ?_
  refine zt_istore (lv' := [(4, .int (0 : Int32)), (3, .int v1), (2, .int (-4 : Int32)), (0, .ref x0), (1, .int x1)]) hC (by decide) rfl dX12_busiest_11 ?_
  refine zt_keep [0, 1, 2, 3, 4] rfl ?_
  exact w_X12_busiest_13 N hC N x0 x1 (-4 : Int32) v1 (0 : Int32) M2 h
def rm_X12_toMost : Room := { frames := 1, cells := 0, slots := 0, locals := 22 }
theorem hd_X12_toMost : yX12_toMost.cls ≠ "java/lang/invoke/MethodHandle" ∧ yX12_toMost.cls ≠ "java/lang/invoke/VarHandle" ∧ (parseMethodDescriptor yX12_toMost.desc).map (fun d => d.parameters.length) = some 2 := by decide +kernel
def j_X12_toMost_60 (N : Nat) (k8 : Nat → Int32 → Int32 → Int32 → Int32 → Mm → Option (Int32 × Mm)) (k22 : Nat → Int32 → Int32 → Int32 → Int32 → Int32 → Int32 → Mm → Option (Int32 × Mm)) (x0 : Nat) (x1 : Int32) (x2 : Int32) (x3 : Int32) (x4 : Int32) (x6 : Int32) (s0 : Int32) (s1 : Int32) (M : Mm) : Option (Int32 × Mm) :=
k22 x0 x1 x2 x3 x4 (s1 + s0) (x6 + (1 : Int32)) M
set_option maxRecDepth 100000 in
set_option maxHeartbeats 4000000 in
theorem w_X12_toMost_60 {X : Cx} {G : Gl} {r : (Int32 × Mm)} (N : Nat) (hC : CX X G yX12_toMost cX12_toMost 7 (some .int) rm_X12_toMost) (k8 : Nat → Int32 → Int32 → Int32 → Int32 → Mm → Option (Int32 × Mm)) (hk8 : ∀ (x0 : Nat) (x1 : Int32) (x2 : Int32) (x3 : Int32) (x4 : Int32) (M : Mm), k8 x0 x1 x2 x3 x4 M = some r → TW X G 7 (RQ X G (some (.int r.1)) r.2 rm_X12_toMost) 0 0 M 8 [(0, .ref x0), (1, .int x1), (2, .int x2), (3, .int x3), (4, .int x4)] []) (k22 : Nat → Int32 → Int32 → Int32 → Int32 → Int32 → Int32 → Mm → Option (Int32 × Mm)) (hk22 : ∀ (x0 : Nat) (x1 : Int32) (x2 : Int32) (x3 : Int32) (x4 : Int32) (x5 : Int32) (x6 : Int32) (M : Mm), k22 x0 x1 x2 x3 x4 x5 x6 M = some r → TW X G 7 (RQ X G (some (.int r.1)) r.2 rm_X12_toMost) 0 0 M 22 [(0, .ref x0), (1, .int x1), (2, .int x2), (3, .int x3), (4, .int x4), (5, .int x5), (6, .int x6)] []) (x0 : Nat) (x1 : Int32) (x2 : Int32) (x3 : Int32) (x4 : Int32) (x6 : Int32) (s0 : Int32) (s1 : Int32) (M : Mm) (h : j_X12_toMost_60 N k8 k22 x0 x1 x2 x3 x4 x6 s0 s1 M = some r) : TW X G 7 (RQ X G (some (.int r.1)) r.2 rm_X12_toMost) 0 0 M 60 [(0, .ref x0), (1, .int x1), (2, .int x2), (3, .int x3), (4, .int x4), (6, .int x6)] [.int s0, .int s1] := by
  unfold j_X12_toMost_60 at h
  refine zt_iadd hC dX12_toMost_60 ?_
  refine zt_istore (lv' := [(5, .int (s1 + s0)), (0, .ref x0), (1, .int x1), (2, .int x2), (3, .int x3), (4, .int x4), (6, .int x6)]) hC (by decide) rfl dX12_toMost_61 ?_
  refine zt_iinc (v := (x6 + (1 : Int32))) (lv' := [(6, .int (x6 + (1 : Int32))), (5, .int (s1 + s0)), (0, .ref x0), (1, .int x1), (2, .int x2), (3, .int x3), (4, .int x4)]) hC rfl (by rw [ki_1]) (by decide) rfl dX12_toMost_63 ?_
  refine zt_goto (tgt := 22) hC (by decide) dX12_toMost_66 ?_
  refine zt_keep [0, 1, 2, 3, 4, 5, 6] rfl ?_
  exact hk22 x0 x1 x2 x3 x4 (s1 + s0) (x6 + (1 : Int32)) M h
def b_X12_toMost_22 (N : Nat) (k8 : Nat → Int32 → Int32 → Int32 → Int32 → Mm → Option (Int32 × Mm)) (k22 : Nat → Int32 → Int32 → Int32 → Int32 → Int32 → Int32 → Mm → Option (Int32 × Mm)) (x0 : Nat) (x1 : Int32) (x2 : Int32) (x3 : Int32) (x4 : Int32) (x5 : Int32) (x6 : Int32) (M : Mm) : Option (Int32 × Mm) :=
bnd (f_X12_boatOf N x0 x1 (3 : Int32) M) (fun v1 M2 =>
(if v1 ≤ x6 then
(if x3 < x5 then
k8 x0 x1 x4 x5 (x4 + (1 : Int32)) M2
else
k8 x0 x1 x2 x3 (x4 + (1 : Int32)) M2)
else
bnd (f_X12_boatOf N x0 x1 ((6 : Int32) + x6) M2) (fun v4 M5 =>
bnd (f_X12_get N x0 v4 (1 : Int32) M5) (fun v7 M8 =>
(if v7 = x4 then
j_X12_toMost_60 N k8 k22 x0 x1 x2 x3 x4 x6 (1 : Int32) x5 M8
else
j_X12_toMost_60 N k8 k22 x0 x1 x2 x3 x4 x6 (0 : Int32) x5 M8)))))
def l_X12_toMost_22 (N : Nat) (k8 : Nat → Int32 → Int32 → Int32 → Int32 → Mm → Option (Int32 × Mm)) : Nat → Nat → Int32 → Int32 → Int32 → Int32 → Int32 → Int32 → Mm → Option (Int32 × Mm)
  | 0 => fun _ _ _ _ _ _ _ _ => none
  | n + 1 => b_X12_toMost_22 N k8 (l_X12_toMost_22 N k8 n)
set_option maxRecDepth 100000 in
set_option maxHeartbeats 4000000 in
theorem v_X12_toMost_22 {X : Cx} {G : Gl} {r : (Int32 × Mm)} (N : Nat) (hC : CX X G yX12_toMost cX12_toMost 7 (some .int) rm_X12_toMost) (k8 : Nat → Int32 → Int32 → Int32 → Int32 → Mm → Option (Int32 × Mm)) (hk8 : ∀ (x0 : Nat) (x1 : Int32) (x2 : Int32) (x3 : Int32) (x4 : Int32) (M : Mm), k8 x0 x1 x2 x3 x4 M = some r → TW X G 7 (RQ X G (some (.int r.1)) r.2 rm_X12_toMost) 0 0 M 8 [(0, .ref x0), (1, .int x1), (2, .int x2), (3, .int x3), (4, .int x4)] []) (k22 : Nat → Int32 → Int32 → Int32 → Int32 → Int32 → Int32 → Mm → Option (Int32 × Mm)) (hk22 : ∀ (x0 : Nat) (x1 : Int32) (x2 : Int32) (x3 : Int32) (x4 : Int32) (x5 : Int32) (x6 : Int32) (M : Mm), k22 x0 x1 x2 x3 x4 x5 x6 M = some r → TW X G 7 (RQ X G (some (.int r.1)) r.2 rm_X12_toMost) 0 0 M 22 [(0, .ref x0), (1, .int x1), (2, .int x2), (3, .int x3), (4, .int x4), (5, .int x5), (6, .int x6)] []) (x0 : Nat) (x1 : Int32) (x2 : Int32) (x3 : Int32) (x4 : Int32) (x5 : Int32) (x6 : Int32) (M : Mm) (h : b_X12_toMost_22 N k8 k22 x0 x1 x2 x3 x4 x5 x6 M = some r) : TW X G 7 (RQ X G (some (.int r.1)) r.2 rm_X12_toMost) 0 0 M 22 [(0, .ref x0), (1, .int x1), (2, .int x2), (3, .int x3), (4, .int x4), (5, .int x5), (6, .int x6)] [] := by
  unfold b_X12_toMost_22 at h
  refine zt_iload hC rfl dX12_toMost_22 ?_
  refine zt_aload_n hC rfl dX12_toMost_24 ?_
  refine zt_iload_n hC rfl dX12_toMost_25 ?_
  refine zt_iconst hC ki_3 dX12_toMost_26 ?_
  obtain ⟨v1, M2, h3, h⟩ := bnd_some h
  refine zt_callS (z := yX12_boatOf) (As := [.ref x0, .int x1, .int (3 : Int32)]) (rest := [.int x6]) (st1 := (.int v1 :: [.int x6])) hC 3 (fun l hl => c_X12_boatOf N x0 x1 (3 : Int32) M (v1, M2) h3 l hl) rfl wd_1109 wd_1107 wd_1108 wd_7 hd_X12_boatOf rfl ⟨⟨(Nat.le_of_ble_eq_true rfl), (Nat.le_of_ble_eq_true rfl)⟩, (Nat.le_of_ble_eq_true rfl), (Nat.le_of_ble_eq_true rfl)⟩ rfl (Nat.le_of_ble_eq_true rfl) rfl dX12_toMost_27 ?_
  refine zt_icmp_ge (tgt := 69) hC h (by decide) dX12_toMost_30 (fun h => ?_) (fun h => ?_)
  · refine zt_iload hC rfl dX12_toMost_69 ?_
    refine zt_iload_n hC rfl dX12_toMost_71 ?_
    refine zt_icmp_gt (tgt := 78) hC h (by decide) dX12_toMost_72 (fun h => ?_) (fun h => ?_)
    · refine zt_iload hC rfl dX12_toMost_78 ?_
      refine zt_istore_n (lv' := [(2, .int x4), (0, .ref x0), (1, .int x1), (3, .int x3), (4, .int x4), (5, .int x5), (6, .int x6)]) hC (by decide) rfl dX12_toMost_80 ?_
      refine zt_iload hC rfl dX12_toMost_81 ?_
      refine zt_istore_n (lv' := [(3, .int x5), (2, .int x4), (0, .ref x0), (1, .int x1), (4, .int x4), (5, .int x5), (6, .int x6)]) hC (by decide) rfl dX12_toMost_83 ?_
      refine zt_iinc (v := (x4 + (1 : Int32))) (lv' := [(4, .int (x4 + (1 : Int32))), (3, .int x5), (2, .int x4), (0, .ref x0), (1, .int x1), (5, .int x5), (6, .int x6)]) hC rfl (by rw [ki_1]) (by decide) rfl dX12_toMost_84 ?_
      refine zt_goto (tgt := 8) hC (by decide) dX12_toMost_87 ?_
      refine zt_keep [0, 1, 2, 3, 4] rfl ?_
      exact hk8 x0 x1 x4 x5 (x4 + (1 : Int32)) M2 h
    · refine zt_goto (tgt := 84) hC (by decide) dX12_toMost_75 ?_
      refine zt_iinc (v := (x4 + (1 : Int32))) (lv' := [(4, .int (x4 + (1 : Int32))), (0, .ref x0), (1, .int x1), (2, .int x2), (3, .int x3), (5, .int x5), (6, .int x6)]) hC rfl (by rw [ki_1]) (by decide) rfl dX12_toMost_84 ?_
      refine zt_goto (tgt := 8) hC (by decide) dX12_toMost_87 ?_
      refine zt_keep [0, 1, 2, 3, 4] rfl ?_
      exact hk8 x0 x1 x2 x3 (x4 + (1 : Int32)) M2 h
  · refine zt_iload hC rfl dX12_toMost_33 ?_
    refine zt_aload_n hC rfl dX12_toMost_35 ?_
    refine zt_aload_n hC rfl dX12_toMost_36 ?_
    refine zt_iload_n hC rfl dX12_toMost_37 ?_
    refine zt_bipush hC kb_6 dX12_toMost_38 ?_
    refine zt_iload hC rfl dX12_toMost_40 ?_
    refine zt_iadd hC dX12_toMost_42 ?_
    obtain ⟨v4, M5, h6, h⟩ := bnd_some h
    refine zt_callS (z := yX12_boatOf) (As := [.ref x0, .int x1, .int ((6 : Int32) + x6)]) (rest := [.ref x0, .int x5]) (st1 := (.int v4 :: [.ref x0, .int x5])) hC 3 (fun l hl => c_X12_boatOf N x0 x1 ((6 : Int32) + x6) M2 (v4, M5) h6 l hl) rfl wd_1109 wd_1107 wd_1108 wd_7 hd_X12_boatOf rfl ⟨⟨(Nat.le_of_ble_eq_true rfl), (Nat.le_of_ble_eq_true rfl)⟩, (Nat.le_of_ble_eq_true rfl), (Nat.le_of_ble_eq_true rfl)⟩ rfl (Nat.le_of_ble_eq_true rfl) rfl dX12_toMost_43 ?_
    refine zt_iconst hC ki_1 dX12_toMost_46 ?_
    obtain ⟨v7, M8, h9, h⟩ := bnd_some h
    refine zt_callS (z := yX12_get) (As := [.ref x0, .int v4, .int (1 : Int32)]) (rest := [.int x5]) (st1 := (.int v7 :: [.int x5])) hC 3 (fun l hl => c_X12_get N x0 v4 (1 : Int32) M5 (v7, M8) h9 l hl) rfl wd_1112 wd_1110 wd_1111 wd_7 hd_X12_get rfl ⟨⟨(Nat.le_of_ble_eq_true rfl), (Nat.le_of_ble_eq_true rfl)⟩, (Nat.le_of_ble_eq_true rfl), (Nat.le_of_ble_eq_true rfl)⟩ rfl (Nat.le_of_ble_eq_true rfl) rfl dX12_toMost_47 ?_
    refine zt_iload hC rfl dX12_toMost_50 ?_
    refine zt_icmp_ne (tgt := 59) hC h (by decide) dX12_toMost_52 (fun h => ?_) (fun h => ?_)
    · refine zt_iconst hC ki_0 dX12_toMost_59 ?_
      refine zt_keep [0, 1, 2, 3, 4, 6] rfl ?_
      exact w_X12_toMost_60 N hC k8 hk8 k22 hk22 x0 x1 x2 x3 x4 x6 (0 : Int32) x5 M8 h
    · refine zt_iconst hC ki_1 dX12_toMost_55 ?_
      refine zt_goto (tgt := 60) hC (by decide) dX12_toMost_56 ?_
      refine zt_keep [0, 1, 2, 3, 4, 6] rfl ?_
      exact w_X12_toMost_60 N hC k8 hk8 k22 hk22 x0 x1 x2 x3 x4 x6 (1 : Int32) x5 M8 h
theorem w_X12_toMost_22 {X : Cx} {G : Gl} {r : (Int32 × Mm)} (N : Nat) (hC : CX X G yX12_toMost cX12_toMost 7 (some .int) rm_X12_toMost) (k8 : Nat → Int32 → Int32 → Int32 → Int32 → Mm → Option (Int32 × Mm)) (hk8 : ∀ (x0 : Nat) (x1 : Int32) (x2 : Int32) (x3 : Int32) (x4 : Int32) (M : Mm), k8 x0 x1 x2 x3 x4 M = some r → TW X G 7 (RQ X G (some (.int r.1)) r.2 rm_X12_toMost) 0 0 M 8 [(0, .ref x0), (1, .int x1), (2, .int x2), (3, .int x3), (4, .int x4)] []) (n : Nat) : ∀ (x0 : Nat) (x1 : Int32) (x2 : Int32) (x3 : Int32) (x4 : Int32) (x5 : Int32) (x6 : Int32) (M : Mm), l_X12_toMost_22 N k8 n x0 x1 x2 x3 x4 x5 x6 M = some r → TW X G 7 (RQ X G (some (.int r.1)) r.2 rm_X12_toMost) 0 0 M 22 [(0, .ref x0), (1, .int x1), (2, .int x2), (3, .int x3), (4, .int x4), (5, .int x5), (6, .int x6)] [] := by
  induction n with
  | zero => intro  x0 x1 x2 x3 x4 x5 x6 M h; cases (show none = some r from h)
  | succ n ih => intro  x0 x1 x2 x3 x4 x5 x6 M h; exact v_X12_toMost_22 N hC k8 hk8 (l_X12_toMost_22 N k8 n) ih x0 x1 x2 x3 x4 x5 x6 M h
def b_X12_toMost_8 (N : Nat) (k8 : Nat → Int32 → Int32 → Int32 → Int32 → Mm → Option (Int32 × Mm)) (x0 : Nat) (x1 : Int32) (x2 : Int32) (x3 : Int32) (x4 : Int32) (M : Mm) : Option (Int32 × Mm) :=
ald M x0 (0 : Int32) (fun v1 =>
(if v1 ≤ x4 then
some (x2, M)
else
l_X12_toMost_22 N k8 N x0 x1 x2 x3 x4 (0 : Int32) (0 : Int32) M))
def l_X12_toMost_8 (N : Nat) : Nat → Nat → Int32 → Int32 → Int32 → Int32 → Mm → Option (Int32 × Mm)
  | 0 => fun _ _ _ _ _ _ => none
  | n + 1 => b_X12_toMost_8 N (l_X12_toMost_8 N n)
set_option maxRecDepth 100000 in
set_option maxHeartbeats 4000000 in
theorem v_X12_toMost_8 {X : Cx} {G : Gl} {r : (Int32 × Mm)} (N : Nat) (hC : CX X G yX12_toMost cX12_toMost 7 (some .int) rm_X12_toMost) (k8 : Nat → Int32 → Int32 → Int32 → Int32 → Mm → Option (Int32 × Mm)) (hk8 : ∀ (x0 : Nat) (x1 : Int32) (x2 : Int32) (x3 : Int32) (x4 : Int32) (M : Mm), k8 x0 x1 x2 x3 x4 M = some r → TW X G 7 (RQ X G (some (.int r.1)) r.2 rm_X12_toMost) 0 0 M 8 [(0, .ref x0), (1, .int x1), (2, .int x2), (3, .int x3), (4, .int x4)] []) (x0 : Nat) (x1 : Int32) (x2 : Int32) (x3 : Int32) (x4 : Int32) (M : Mm) (h : b_X12_toMost_8 N k8 x0 x1 x2 x3 x4 M = some r) : TW X G 7 (RQ X G (some (.int r.1)) r.2 rm_X12_toMost) 0 0 M 8 [(0, .ref x0), (1, .int x1), (2, .int x2), (3, .int x3), (4, .int x4)] [] := by
  unfold b_X12_toMost_8 at h
  refine zt_iload hC rfl dX12_toMost_8 ?_
  refine zt_aload_n hC rfl dX12_toMost_10 ?_
  refine zt_iconst hC ki_0 dX12_toMost_11 ?_
  refine zt_ald hC h dX12_toMost_12 (fun v1 h => ?_)
  refine zt_icmp_ge (tgt := 90) hC h (by decide) dX12_toMost_13 (fun h => ?_) (fun h => ?_)
  · refine zt_iload_n hC rfl dX12_toMost_90 ?_
    obtain rfl := Option.some.inj h
    exact zt_iret hC rfl rfl (Nat.le_of_ble_eq_true rfl) (Nat.le_of_ble_eq_true rfl) dX12_toMost_91
  · refine zt_iconst hC ki_0 dX12_toMost_16 ?_
    refine zt_istore (lv' := [(5, .int (0 : Int32)), (0, .ref x0), (1, .int x1), (2, .int x2), (3, .int x3), (4, .int x4)]) hC (by decide) rfl dX12_toMost_17 ?_
    refine zt_iconst hC ki_0 dX12_toMost_19 ?_
    refine zt_istore (lv' := [(6, .int (0 : Int32)), (5, .int (0 : Int32)), (0, .ref x0), (1, .int x1), (2, .int x2), (3, .int x3), (4, .int x4)]) hC (by decide) rfl dX12_toMost_20 ?_
    refine zt_keep [0, 1, 2, 3, 4, 5, 6] rfl ?_
    exact w_X12_toMost_22 N hC k8 hk8 N x0 x1 x2 x3 x4 (0 : Int32) (0 : Int32) M h
theorem w_X12_toMost_8 {X : Cx} {G : Gl} {r : (Int32 × Mm)} (N : Nat) (hC : CX X G yX12_toMost cX12_toMost 7 (some .int) rm_X12_toMost) (n : Nat) : ∀ (x0 : Nat) (x1 : Int32) (x2 : Int32) (x3 : Int32) (x4 : Int32) (M : Mm), l_X12_toMost_8 N n x0 x1 x2 x3 x4 M = some r → TW X G 7 (RQ X G (some (.int r.1)) r.2 rm_X12_toMost) 0 0 M 8 [(0, .ref x0), (1, .int x1), (2, .int x2), (3, .int x3), (4, .int x4)] [] := by
  induction n with
  | zero => intro  x0 x1 x2 x3 x4 M h; cases (show none = some r from h)
  | succ n ih => intro  x0 x1 x2 x3 x4 M h; exact v_X12_toMost_8 N hC (l_X12_toMost_8 N n) ih x0 x1 x2 x3 x4 M h
def f_X12_toMost (N : Nat) (x0 : Nat) (x1 : Int32) (M : Mm) : Option (Int32 × Mm) :=
l_X12_toMost_8 N N x0 x1 (-4 : Int32) (0 : Int32) (0 : Int32) M
set_option maxRecDepth 100000 in
set_option maxHeartbeats 4000000 in
theorem c_X12_toMost (N : Nat) (x0 : Nat) (x1 : Int32) (M : Mm) (r : (Int32 × Mm)) (h : f_X12_toMost N x0 x1 M = some r) (l : Launch) (hfl : l.flags = flags0) {G : Gl} : MT l G yX12_toMost cX12_toMost 7 (some .int) rm_X12_toMost [.ref x0, .int x1] M (some (.int r.1)) r.2 := by
  unfold f_X12_toMost at h
  refine zt_start hfl (lv := [(0, .ref x0), (1, .int x1)]) (by decide) (Nat.le_of_ble_eq_true rfl) rfl wd_1207 (fun X hC _ => ?_)
  refine zt_bipush hC kb_m4 dX12_toMost_0 ?_
  refine zt_istore_n (lv' := [(2, .int (-4 : Int32)), (0, .ref x0), (1, .int x1)]) hC (by decide) rfl dX12_toMost_2 ?_
  refine zt_iconst hC ki_0 dX12_toMost_3 ?_
  refine zt_istore_n (lv' := [(3, .int (0 : Int32)), (2, .int (-4 : Int32)), (0, .ref x0), (1, .int x1)]) hC (by decide) rfl dX12_toMost_4 ?_
  refine zt_iconst hC ki_0 dX12_toMost_5 ?_
  refine zt_istore (lv' := [(4, .int (0 : Int32)), (3, .int (0 : Int32)), (2, .int (-4 : Int32)), (0, .ref x0), (1, .int x1)]) hC (by decide) rfl dX12_toMost_6 ?_
  refine zt_keep [0, 1, 2, 3, 4] rfl ?_
  exact w_X12_toMost_8 N hC N x0 x1 (-4 : Int32) (0 : Int32) (0 : Int32) M h
def rm_X12_isFull : Room := { frames := 1, cells := 0, slots := 0, locals := 22 }
theorem hd_X12_isFull : yX12_isFull.cls ≠ "java/lang/invoke/MethodHandle" ∧ yX12_isFull.cls ≠ "java/lang/invoke/VarHandle" ∧ (parseMethodDescriptor yX12_isFull.desc).map (fun d => d.parameters.length) = some 2 := by decide +kernel
def b_X12_isFull_28 (N : Nat) (k28 : Nat → Int32 → Int32 → Mm → Option (Int32 × Mm)) (x0 : Nat) (x1 : Int32) (x3 : Int32) (M : Mm) : Option (Int32 × Mm) :=
ald M x0 (1 : Int32) (fun v1 =>
(if v1 ≤ x3 then
some ((1 : Int32), M)
else
bnd (f_X12_get N x0 x3 (0 : Int32) M) (fun v2 M3 =>
bnd (f_X12_boatOf N x0 x1 (0 : Int32) M3) (fun v5 M6 =>
(if v2 = v5 then
bnd (f_X12_get N x0 x3 (2 : Int32) M6) (fun v8 M9 =>
(if v8 ≤ 0 then
k28 x0 x1 (x3 + (1 : Int32)) M9
else
some ((0 : Int32), M9)))
else
k28 x0 x1 (x3 + (1 : Int32)) M6)))))
def l_X12_isFull_28 (N : Nat) : Nat → Nat → Int32 → Int32 → Mm → Option (Int32 × Mm)
  | 0 => fun _ _ _ _ => none
  | n + 1 => b_X12_isFull_28 N (l_X12_isFull_28 N n)
set_option maxRecDepth 100000 in
set_option maxHeartbeats 4000000 in
theorem v_X12_isFull_28 {X : Cx} {G : Gl} {r : (Int32 × Mm)} (N : Nat) (hC : CX X G yX12_isFull cX12_isFull 4 (some .boolean) rm_X12_isFull) (k28 : Nat → Int32 → Int32 → Mm → Option (Int32 × Mm)) (hk28 : ∀ (x0 : Nat) (x1 : Int32) (x3 : Int32) (M : Mm), k28 x0 x1 x3 M = some r → TW X G 4 (RQ X G (some (.int r.1)) r.2 rm_X12_isFull) 0 0 M 28 [(0, .ref x0), (1, .int x1), (3, .int x3)] []) (x0 : Nat) (x1 : Int32) (x3 : Int32) (M : Mm) (h : b_X12_isFull_28 N k28 x0 x1 x3 M = some r) : TW X G 4 (RQ X G (some (.int r.1)) r.2 rm_X12_isFull) 0 0 M 28 [(0, .ref x0), (1, .int x1), (3, .int x3)] [] := by
  unfold b_X12_isFull_28 at h
  refine zt_iload_n hC rfl dX12_isFull_28 ?_
  refine zt_aload_n hC rfl dX12_isFull_29 ?_
  refine zt_iconst hC ki_1 dX12_isFull_30 ?_
  refine zt_ald hC h dX12_isFull_31 (fun v1 h => ?_)
  refine zt_icmp_ge (tgt := 67) hC h (by decide) dX12_isFull_32 (fun h => ?_) (fun h => ?_)
  · refine zt_iconst hC ki_1 dX12_isFull_67 ?_
    obtain rfl := Option.some.inj h
    exact zt_zret hC rfl rfl (Or.inr rfl) (Nat.le_of_ble_eq_true rfl) (Nat.le_of_ble_eq_true rfl) dX12_isFull_68
  · refine zt_aload_n hC rfl dX12_isFull_35 ?_
    refine zt_iload_n hC rfl dX12_isFull_36 ?_
    refine zt_iconst hC ki_0 dX12_isFull_37 ?_
    obtain ⟨v2, M3, h4, h⟩ := bnd_some h
    refine zt_callS (z := yX12_get) (As := [.ref x0, .int x3, .int (0 : Int32)]) (rest := []) (st1 := (.int v2 :: [])) hC 3 (fun l hl => c_X12_get N x0 x3 (0 : Int32) M (v2, M3) h4 l hl) rfl wd_1112 wd_1110 wd_1111 wd_7 hd_X12_get rfl ⟨⟨(Nat.le_of_ble_eq_true rfl), (Nat.le_of_ble_eq_true rfl)⟩, (Nat.le_of_ble_eq_true rfl), (Nat.le_of_ble_eq_true rfl)⟩ rfl (Nat.le_of_ble_eq_true rfl) rfl dX12_isFull_38 ?_
    refine zt_aload_n hC rfl dX12_isFull_41 ?_
    refine zt_iload_n hC rfl dX12_isFull_42 ?_
    refine zt_iconst hC ki_0 dX12_isFull_43 ?_
    obtain ⟨v5, M6, h7, h⟩ := bnd_some h
    refine zt_callS (z := yX12_boatOf) (As := [.ref x0, .int x1, .int (0 : Int32)]) (rest := [.int v2]) (st1 := (.int v5 :: [.int v2])) hC 3 (fun l hl => c_X12_boatOf N x0 x1 (0 : Int32) M3 (v5, M6) h7 l hl) rfl wd_1109 wd_1107 wd_1108 wd_7 hd_X12_boatOf rfl ⟨⟨(Nat.le_of_ble_eq_true rfl), (Nat.le_of_ble_eq_true rfl)⟩, (Nat.le_of_ble_eq_true rfl), (Nat.le_of_ble_eq_true rfl)⟩ rfl (Nat.le_of_ble_eq_true rfl) rfl dX12_isFull_44 ?_
    refine zt_icmp_ne (tgt := 61) hC h (by decide) dX12_isFull_47 (fun h => ?_) (fun h => ?_)
    · refine zt_iinc (v := (x3 + (1 : Int32))) (lv' := [(3, .int (x3 + (1 : Int32))), (0, .ref x0), (1, .int x1)]) hC rfl (by rw [ki_1]) (by decide) rfl dX12_isFull_61 ?_
      refine zt_goto (tgt := 28) hC (by decide) dX12_isFull_64 ?_
      refine zt_keep [0, 1, 3] rfl ?_
      exact hk28 x0 x1 (x3 + (1 : Int32)) M6 h
    · refine zt_aload_n hC rfl dX12_isFull_50 ?_
      refine zt_iload_n hC rfl dX12_isFull_51 ?_
      refine zt_iconst hC ki_2 dX12_isFull_52 ?_
      obtain ⟨v8, M9, h10, h⟩ := bnd_some h
      refine zt_callS (z := yX12_get) (As := [.ref x0, .int x3, .int (2 : Int32)]) (rest := []) (st1 := (.int v8 :: [])) hC 3 (fun l hl => c_X12_get N x0 x3 (2 : Int32) M6 (v8, M9) h10 l hl) rfl wd_1112 wd_1110 wd_1111 wd_7 hd_X12_get rfl ⟨⟨(Nat.le_of_ble_eq_true rfl), (Nat.le_of_ble_eq_true rfl)⟩, (Nat.le_of_ble_eq_true rfl), (Nat.le_of_ble_eq_true rfl)⟩ rfl (Nat.le_of_ble_eq_true rfl) rfl dX12_isFull_53 ?_
      refine zt_if_le (tgt := 61) hC h (by decide) dX12_isFull_56 (fun h => ?_) (fun h => ?_)
      · refine zt_iinc (v := (x3 + (1 : Int32))) (lv' := [(3, .int (x3 + (1 : Int32))), (0, .ref x0), (1, .int x1)]) hC rfl (by rw [ki_1]) (by decide) rfl dX12_isFull_61 ?_
        refine zt_goto (tgt := 28) hC (by decide) dX12_isFull_64 ?_
        refine zt_keep [0, 1, 3] rfl ?_
        exact hk28 x0 x1 (x3 + (1 : Int32)) M9 h
      · refine zt_iconst hC ki_0 dX12_isFull_59 ?_
        obtain rfl := Option.some.inj h
        exact zt_zret hC rfl rfl (Or.inl rfl) (Nat.le_of_ble_eq_true rfl) (Nat.le_of_ble_eq_true rfl) dX12_isFull_60
theorem w_X12_isFull_28 {X : Cx} {G : Gl} {r : (Int32 × Mm)} (N : Nat) (hC : CX X G yX12_isFull cX12_isFull 4 (some .boolean) rm_X12_isFull) (n : Nat) : ∀ (x0 : Nat) (x1 : Int32) (x3 : Int32) (M : Mm), l_X12_isFull_28 N n x0 x1 x3 M = some r → TW X G 4 (RQ X G (some (.int r.1)) r.2 rm_X12_isFull) 0 0 M 28 [(0, .ref x0), (1, .int x1), (3, .int x3)] [] := by
  induction n with
  | zero => intro  x0 x1 x3 M h; cases (show none = some r from h)
  | succ n ih => intro  x0 x1 x3 M h; exact v_X12_isFull_28 N hC (l_X12_isFull_28 N n) ih x0 x1 x3 M h
def f_X12_isFull (N : Nat) (x0 : Nat) (x1 : Int32) (M : Mm) : Option (Int32 × Mm) :=
bnd (f_X12_boatOf N x0 x1 (3 : Int32) M) (fun v1 M2 =>
bnd (f_X12_boatOf N x0 x1 (5 : Int32) M2) (fun v4 M5 =>
(if v4 < v1 then
some ((1 : Int32), M5)
else
ald M5 x0 (2 : Int32) (fun v7 =>
(if v1 = v7 then
some ((1 : Int32), M5)
else
l_X12_isFull_28 N N x0 x1 (0 : Int32) M5)))))
set_option maxRecDepth 100000 in
set_option maxHeartbeats 4000000 in
theorem c_X12_isFull (N : Nat) (x0 : Nat) (x1 : Int32) (M : Mm) (r : (Int32 × Mm)) (h : f_X12_isFull N x0 x1 M = some r) (l : Launch) (hfl : l.flags = flags0) {G : Gl} : MT l G yX12_isFull cX12_isFull 4 (some .boolean) rm_X12_isFull [.ref x0, .int x1] M (some (.int r.1)) r.2 := by
  unfold f_X12_isFull at h
  refine zt_start hfl (lv := [(0, .ref x0), (1, .int x1)]) (by decide) (Nat.le_of_ble_eq_true rfl) rfl wd_1204 (fun X hC _ => ?_)
  refine zt_aload_n hC rfl dX12_isFull_0 ?_
  refine zt_iload_n hC rfl dX12_isFull_1 ?_
  refine zt_iconst hC ki_3 dX12_isFull_2 ?_
  obtain ⟨v1, M2, h3, h⟩ := bnd_some h
  refine zt_callS (z := yX12_boatOf) (As := [.ref x0, .int x1, .int (3 : Int32)]) (rest := []) (st1 := (.int v1 :: [])) hC 3 (fun l hl => c_X12_boatOf N x0 x1 (3 : Int32) M (v1, M2) h3 l hl) rfl wd_1109 wd_1107 wd_1108 wd_7 hd_X12_boatOf rfl ⟨⟨(Nat.le_of_ble_eq_true rfl), (Nat.le_of_ble_eq_true rfl)⟩, (Nat.le_of_ble_eq_true rfl), (Nat.le_of_ble_eq_true rfl)⟩ rfl (Nat.le_of_ble_eq_true rfl) rfl dX12_isFull_3 ?_
  refine zt_istore_n (lv' := [(2, .int v1), (0, .ref x0), (1, .int x1)]) hC (by decide) rfl dX12_isFull_6 ?_
  refine zt_iload_n hC rfl dX12_isFull_7 ?_
  refine zt_aload_n hC rfl dX12_isFull_8 ?_
  refine zt_iload_n hC rfl dX12_isFull_9 ?_
  refine zt_iconst hC ki_5 dX12_isFull_10 ?_
  obtain ⟨v4, M5, h6, h⟩ := bnd_some h
  refine zt_callS (z := yX12_boatOf) (As := [.ref x0, .int x1, .int (5 : Int32)]) (rest := [.int v1]) (st1 := (.int v4 :: [.int v1])) hC 3 (fun l hl => c_X12_boatOf N x0 x1 (5 : Int32) M2 (v4, M5) h6 l hl) rfl wd_1109 wd_1107 wd_1108 wd_7 hd_X12_boatOf rfl ⟨⟨(Nat.le_of_ble_eq_true rfl), (Nat.le_of_ble_eq_true rfl)⟩, (Nat.le_of_ble_eq_true rfl), (Nat.le_of_ble_eq_true rfl)⟩ rfl (Nat.le_of_ble_eq_true rfl) rfl dX12_isFull_11 ?_
  refine zt_icmp_gt (tgt := 24) hC h (by decide) dX12_isFull_14 (fun h => ?_) (fun h => ?_)
  · refine zt_iconst hC ki_1 dX12_isFull_24 ?_
    obtain rfl := Option.some.inj h
    exact zt_zret hC rfl rfl (Or.inr rfl) (Nat.le_of_ble_eq_true rfl) (Nat.le_of_ble_eq_true rfl) dX12_isFull_25
  · refine zt_iload_n hC rfl dX12_isFull_17 ?_
    refine zt_aload_n hC rfl dX12_isFull_18 ?_
    refine zt_iconst hC ki_2 dX12_isFull_19 ?_
    refine zt_ald hC h dX12_isFull_20 (fun v7 h => ?_)
    refine zt_icmp_ne (tgt := 26) hC h (by decide) dX12_isFull_21 (fun h => ?_) (fun h => ?_)
    · refine zt_iconst hC ki_0 dX12_isFull_26 ?_
      refine zt_istore_n (lv' := [(3, .int (0 : Int32)), (2, .int v1), (0, .ref x0), (1, .int x1)]) hC (by decide) rfl dX12_isFull_27 ?_
      refine zt_keep [0, 1, 3] rfl ?_
      exact w_X12_isFull_28 N hC N x0 x1 (0 : Int32) M5 h
    · refine zt_iconst hC ki_1 dX12_isFull_24 ?_
      obtain rfl := Option.some.inj h
      exact zt_zret hC rfl rfl (Or.inr rfl) (Nat.le_of_ble_eq_true rfl) (Nat.le_of_ble_eq_true rfl) dX12_isFull_25
def rm_X12_goesTo : Room := { frames := 2, cells := 0, slots := 0, locals := 48 }
theorem hd_X12_goesTo : yX12_goesTo.cls ≠ "java/lang/invoke/MethodHandle" ∧ yX12_goesTo.cls ≠ "java/lang/invoke/VarHandle" ∧ (parseMethodDescriptor yX12_goesTo.desc).map (fun d => d.parameters.length) = some 2 := by decide +kernel
def j_X12_goesTo_37 (N : Nat) (x0 : Nat) (x1 : Int32) (x2 : Int32) (x3 : Int32) (s0 : Int32) (M : Mm) : Option (Int32 × Mm) :=
bnd (f_X12_boatOf N x0 x1 (0 : Int32) M) (fun v1 M2 =>
bnd (f_X12_boatOf N x0 x1 (4 : Int32) M2) (fun v4 M5 =>
(if v4 = (1 : Int32) then
(if x3 = 0 then
some ((-4 : Int32), M5)
else
ald M5 x0 (0 : Int32) (fun v10 =>
irm (v1 + (1 : Int32)) v10 (fun v11 =>
some (v11, M5))))
else
(if v4 = (2 : Int32) then
(if s0 = 0 then
bnd (f_X12_toFirst N x0 x1 M5) (fun v12 M13 =>
some (v12, M13))
else
bnd (f_X12_longest N x0 x1 M5) (fun v15 M16 =>
some (v15, M16)))
else
(if v4 = (3 : Int32) then
(if s0 = 0 then
bnd (f_X12_toFirst N x0 x1 M5) (fun v18 M19 =>
some (v18, M19))
else
bnd (f_X12_busiest N x0 x1 M5) (fun v21 M22 =>
some (v21, M22)))
else
(if v4 = (4 : Int32) then
bnd (f_X12_isFull N x0 x1 M5) (fun v24 M25 =>
(if v24 = 0 then
some ((-4 : Int32), M25)
else
bnd (f_X12_toFirst N x0 x1 M25) (fun v27 M28 =>
some (v27, M28))))
else
(if v4 = (5 : Int32) then
(if s0 = 0 then
bnd (f_X12_toMost N x0 x1 M5) (fun v30 M31 =>
some (v30, M31))
else
bnd (f_X12_busiest N x0 x1 M5) (fun v33 M34 =>
some (v33, M34)))
else
(if v4 = (6 : Int32) then
(if x3 = 0 then
some ((-4 : Int32), M5)
else
ald M5 x0 (0 : Int32) (fun v36 =>
irm x2 v36 (fun v37 =>
(if v37 = v1 then
some ((-4 : Int32), M5)
else
ald M5 x0 (0 : Int32) (fun v38 =>
irm x2 v38 (fun v39 =>
some (v39, M5)))))))
else
bnd (f_X12_toFirst N x0 x1 M5) (fun v7 M8 =>
some (v7, M8))))))))))
set_option maxRecDepth 100000 in
set_option maxHeartbeats 4000000 in
theorem w_X12_goesTo_37 {X : Cx} {G : Gl} {r : (Int32 × Mm)} (N : Nat) (hC : CX X G yX12_goesTo cX12_goesTo 6 (some .int) rm_X12_goesTo) (x0 : Nat) (x1 : Int32) (x2 : Int32) (x3 : Int32) (s0 : Int32) (M : Mm) (h : j_X12_goesTo_37 N x0 x1 x2 x3 s0 M = some r) : TW X G 6 (RQ X G (some (.int r.1)) r.2 rm_X12_goesTo) 0 0 M 37 [(0, .ref x0), (1, .int x1), (2, .int x2), (3, .int x3)] [.int s0] := by
  unfold j_X12_goesTo_37 at h
  refine zt_istore (lv' := [(4, .int s0), (0, .ref x0), (1, .int x1), (2, .int x2), (3, .int x3)]) hC (by decide) rfl dX12_goesTo_37 ?_
  refine zt_aload_n hC rfl dX12_goesTo_39 ?_
  refine zt_iload_n hC rfl dX12_goesTo_40 ?_
  refine zt_iconst hC ki_0 dX12_goesTo_41 ?_
  obtain ⟨v1, M2, h3, h⟩ := bnd_some h
  refine zt_callS (z := yX12_boatOf) (As := [.ref x0, .int x1, .int (0 : Int32)]) (rest := []) (st1 := (.int v1 :: [])) hC 3 (fun l hl => c_X12_boatOf N x0 x1 (0 : Int32) M (v1, M2) h3 l hl) rfl wd_1109 wd_1107 wd_1108 wd_7 hd_X12_boatOf rfl ⟨⟨(Nat.le_of_ble_eq_true rfl), (Nat.le_of_ble_eq_true rfl)⟩, (Nat.le_of_ble_eq_true rfl), (Nat.le_of_ble_eq_true rfl)⟩ rfl (Nat.le_of_ble_eq_true rfl) rfl dX12_goesTo_42 ?_
  refine zt_istore (lv' := [(5, .int v1), (4, .int s0), (0, .ref x0), (1, .int x1), (2, .int x2), (3, .int x3)]) hC (by decide) rfl dX12_goesTo_45 ?_
  refine zt_aload_n hC rfl dX12_goesTo_47 ?_
  refine zt_iload_n hC rfl dX12_goesTo_48 ?_
  refine zt_iconst hC ki_4 dX12_goesTo_49 ?_
  obtain ⟨v4, M5, h6, h⟩ := bnd_some h
  refine zt_callS (z := yX12_boatOf) (As := [.ref x0, .int x1, .int (4 : Int32)]) (rest := []) (st1 := (.int v4 :: [])) hC 3 (fun l hl => c_X12_boatOf N x0 x1 (4 : Int32) M2 (v4, M5) h6 l hl) rfl wd_1109 wd_1107 wd_1108 wd_7 hd_X12_boatOf rfl ⟨⟨(Nat.le_of_ble_eq_true rfl), (Nat.le_of_ble_eq_true rfl)⟩, (Nat.le_of_ble_eq_true rfl), (Nat.le_of_ble_eq_true rfl)⟩ rfl (Nat.le_of_ble_eq_true rfl) rfl dX12_goesTo_50 ?_
  rcases ite_or h with ⟨c1, h⟩ | ⟨c1, h⟩
  · refine zt_tsIn (tgt := 92) hC c1 (by decide) (by decide) rfl (by decide) dX12_goesTo_53 ?_
    refine zt_iload_n hC rfl dX12_goesTo_92 ?_
    refine zt_if_eq (tgt := 107) hC h (by decide) dX12_goesTo_93 (fun h => ?_) (fun h => ?_)
    · refine zt_bipush hC kb_m4 dX12_goesTo_107 ?_
      obtain rfl := Option.some.inj h
      exact zt_iret hC rfl rfl (Nat.le_of_ble_eq_true rfl) (Nat.le_of_ble_eq_true rfl) dX12_goesTo_109
    · refine zt_iload hC rfl dX12_goesTo_96 ?_
      refine zt_iconst hC ki_1 dX12_goesTo_98 ?_
      refine zt_iadd hC dX12_goesTo_99 ?_
      refine zt_aload_n hC rfl dX12_goesTo_100 ?_
      refine zt_iconst hC ki_0 dX12_goesTo_101 ?_
      refine zt_ald hC h dX12_goesTo_102 (fun v10 h => ?_)
      refine zt_irem hC h dX12_goesTo_103 (fun v11 h => ?_)
      refine zt_goto (tgt := 109) hC (by decide) dX12_goesTo_104 ?_
      obtain rfl := Option.some.inj h
      exact zt_iret hC rfl rfl (Nat.le_of_ble_eq_true rfl) (Nat.le_of_ble_eq_true rfl) dX12_goesTo_109
  · rcases ite_or h with ⟨c2, h⟩ | ⟨c2, h⟩
    · refine zt_tsIn (tgt := 110) hC c2 (by decide) (by decide) rfl (by decide) dX12_goesTo_53 ?_
      refine zt_iload hC rfl dX12_goesTo_110 ?_
      refine zt_if_eq (tgt := 123) hC h (by decide) dX12_goesTo_112 (fun h => ?_) (fun h => ?_)
      · refine zt_aload_n hC rfl dX12_goesTo_123 ?_
        refine zt_iload_n hC rfl dX12_goesTo_124 ?_
        obtain ⟨v12, M13, h14, h⟩ := bnd_some h
        refine zt_callS (z := yX12_toFirst) (As := [.ref x0, .int x1]) (rest := []) (st1 := (.int v12 :: [])) hC 2 (fun l hl => c_X12_toFirst N x0 x1 M5 (v12, M13) h14 l hl) rfl wd_1198 wd_1196 wd_1197 wd_7 hd_X12_toFirst rfl ⟨⟨(Nat.le_of_ble_eq_true rfl), (Nat.le_of_ble_eq_true rfl)⟩, (Nat.le_of_ble_eq_true rfl), (Nat.le_of_ble_eq_true rfl)⟩ rfl (Nat.le_of_ble_eq_true rfl) rfl dX12_goesTo_125 ?_
        obtain rfl := Option.some.inj h
        exact zt_iret hC rfl rfl (Nat.le_of_ble_eq_true rfl) (Nat.le_of_ble_eq_true rfl) dX12_goesTo_128
      · refine zt_aload_n hC rfl dX12_goesTo_115 ?_
        refine zt_iload_n hC rfl dX12_goesTo_116 ?_
        obtain ⟨v15, M16, h17, h⟩ := bnd_some h
        refine zt_callS (z := yX12_longest) (As := [.ref x0, .int x1]) (rest := []) (st1 := (.int v15 :: [])) hC 2 (fun l hl => c_X12_longest N x0 x1 M5 (v15, M16) h17 l hl) rfl wd_1192 wd_1190 wd_1191 wd_7 hd_X12_longest rfl ⟨⟨(Nat.le_of_ble_eq_true rfl), (Nat.le_of_ble_eq_true rfl)⟩, (Nat.le_of_ble_eq_true rfl), (Nat.le_of_ble_eq_true rfl)⟩ rfl (Nat.le_of_ble_eq_true rfl) rfl dX12_goesTo_117 ?_
        refine zt_goto (tgt := 128) hC (by decide) dX12_goesTo_120 ?_
        obtain rfl := Option.some.inj h
        exact zt_iret hC rfl rfl (Nat.le_of_ble_eq_true rfl) (Nat.le_of_ble_eq_true rfl) dX12_goesTo_128
    · rcases ite_or h with ⟨c3, h⟩ | ⟨c3, h⟩
      · refine zt_tsIn (tgt := 129) hC c3 (by decide) (by decide) rfl (by decide) dX12_goesTo_53 ?_
        refine zt_iload hC rfl dX12_goesTo_129 ?_
        refine zt_if_eq (tgt := 142) hC h (by decide) dX12_goesTo_131 (fun h => ?_) (fun h => ?_)
        · refine zt_aload_n hC rfl dX12_goesTo_142 ?_
          refine zt_iload_n hC rfl dX12_goesTo_143 ?_
          obtain ⟨v18, M19, h20, h⟩ := bnd_some h
          refine zt_callS (z := yX12_toFirst) (As := [.ref x0, .int x1]) (rest := []) (st1 := (.int v18 :: [])) hC 2 (fun l hl => c_X12_toFirst N x0 x1 M5 (v18, M19) h20 l hl) rfl wd_1198 wd_1196 wd_1197 wd_7 hd_X12_toFirst rfl ⟨⟨(Nat.le_of_ble_eq_true rfl), (Nat.le_of_ble_eq_true rfl)⟩, (Nat.le_of_ble_eq_true rfl), (Nat.le_of_ble_eq_true rfl)⟩ rfl (Nat.le_of_ble_eq_true rfl) rfl dX12_goesTo_144 ?_
          obtain rfl := Option.some.inj h
          exact zt_iret hC rfl rfl (Nat.le_of_ble_eq_true rfl) (Nat.le_of_ble_eq_true rfl) dX12_goesTo_147
        · refine zt_aload_n hC rfl dX12_goesTo_134 ?_
          refine zt_iload_n hC rfl dX12_goesTo_135 ?_
          obtain ⟨v21, M22, h23, h⟩ := bnd_some h
          refine zt_callS (z := yX12_busiest) (As := [.ref x0, .int x1]) (rest := []) (st1 := (.int v21 :: [])) hC 2 (fun l hl => c_X12_busiest N x0 x1 M5 (v21, M22) h23 l hl) rfl wd_1201 wd_1199 wd_1200 wd_7 hd_X12_busiest rfl ⟨⟨(Nat.le_of_ble_eq_true rfl), (Nat.le_of_ble_eq_true rfl)⟩, (Nat.le_of_ble_eq_true rfl), (Nat.le_of_ble_eq_true rfl)⟩ rfl (Nat.le_of_ble_eq_true rfl) rfl dX12_goesTo_136 ?_
          refine zt_goto (tgt := 147) hC (by decide) dX12_goesTo_139 ?_
          obtain rfl := Option.some.inj h
          exact zt_iret hC rfl rfl (Nat.le_of_ble_eq_true rfl) (Nat.le_of_ble_eq_true rfl) dX12_goesTo_147
      · rcases ite_or h with ⟨c4, h⟩ | ⟨c4, h⟩
        · refine zt_tsIn (tgt := 148) hC c4 (by decide) (by decide) rfl (by decide) dX12_goesTo_53 ?_
          refine zt_aload_n hC rfl dX12_goesTo_148 ?_
          refine zt_iload_n hC rfl dX12_goesTo_149 ?_
          obtain ⟨v24, M25, h26, h⟩ := bnd_some h
          refine zt_callS (z := yX12_isFull) (As := [.ref x0, .int x1]) (rest := []) (st1 := (.int v24 :: [])) hC 2 (fun l hl => c_X12_isFull N x0 x1 M5 (v24, M25) h26 l hl) rfl wd_1204 wd_1202 wd_1203 wd_7 hd_X12_isFull rfl ⟨⟨(Nat.le_of_ble_eq_true rfl), (Nat.le_of_ble_eq_true rfl)⟩, (Nat.le_of_ble_eq_true rfl), (Nat.le_of_ble_eq_true rfl)⟩ rfl (Nat.le_of_ble_eq_true rfl) rfl dX12_goesTo_150 ?_
          refine zt_if_eq (tgt := 164) hC h (by decide) dX12_goesTo_153 (fun h => ?_) (fun h => ?_)
          · refine zt_bipush hC kb_m4 dX12_goesTo_164 ?_
            obtain rfl := Option.some.inj h
            exact zt_iret hC rfl rfl (Nat.le_of_ble_eq_true rfl) (Nat.le_of_ble_eq_true rfl) dX12_goesTo_166
          · refine zt_aload_n hC rfl dX12_goesTo_156 ?_
            refine zt_iload_n hC rfl dX12_goesTo_157 ?_
            obtain ⟨v27, M28, h29, h⟩ := bnd_some h
            refine zt_callS (z := yX12_toFirst) (As := [.ref x0, .int x1]) (rest := []) (st1 := (.int v27 :: [])) hC 2 (fun l hl => c_X12_toFirst N x0 x1 M25 (v27, M28) h29 l hl) rfl wd_1198 wd_1196 wd_1197 wd_7 hd_X12_toFirst rfl ⟨⟨(Nat.le_of_ble_eq_true rfl), (Nat.le_of_ble_eq_true rfl)⟩, (Nat.le_of_ble_eq_true rfl), (Nat.le_of_ble_eq_true rfl)⟩ rfl (Nat.le_of_ble_eq_true rfl) rfl dX12_goesTo_158 ?_
            refine zt_goto (tgt := 166) hC (by decide) dX12_goesTo_161 ?_
            obtain rfl := Option.some.inj h
            exact zt_iret hC rfl rfl (Nat.le_of_ble_eq_true rfl) (Nat.le_of_ble_eq_true rfl) dX12_goesTo_166
        · rcases ite_or h with ⟨c5, h⟩ | ⟨c5, h⟩
          · refine zt_tsIn (tgt := 167) hC c5 (by decide) (by decide) rfl (by decide) dX12_goesTo_53 ?_
            refine zt_iload hC rfl dX12_goesTo_167 ?_
            refine zt_if_eq (tgt := 180) hC h (by decide) dX12_goesTo_169 (fun h => ?_) (fun h => ?_)
            · refine zt_aload_n hC rfl dX12_goesTo_180 ?_
              refine zt_iload_n hC rfl dX12_goesTo_181 ?_
              obtain ⟨v30, M31, h32, h⟩ := bnd_some h
              refine zt_callS (z := yX12_toMost) (As := [.ref x0, .int x1]) (rest := []) (st1 := (.int v30 :: [])) hC 2 (fun l hl => c_X12_toMost N x0 x1 M5 (v30, M31) h32 l hl) rfl wd_1207 wd_1205 wd_1206 wd_7 hd_X12_toMost rfl ⟨⟨(Nat.le_of_ble_eq_true rfl), (Nat.le_of_ble_eq_true rfl)⟩, (Nat.le_of_ble_eq_true rfl), (Nat.le_of_ble_eq_true rfl)⟩ rfl (Nat.le_of_ble_eq_true rfl) rfl dX12_goesTo_182 ?_
              obtain rfl := Option.some.inj h
              exact zt_iret hC rfl rfl (Nat.le_of_ble_eq_true rfl) (Nat.le_of_ble_eq_true rfl) dX12_goesTo_185
            · refine zt_aload_n hC rfl dX12_goesTo_172 ?_
              refine zt_iload_n hC rfl dX12_goesTo_173 ?_
              obtain ⟨v33, M34, h35, h⟩ := bnd_some h
              refine zt_callS (z := yX12_busiest) (As := [.ref x0, .int x1]) (rest := []) (st1 := (.int v33 :: [])) hC 2 (fun l hl => c_X12_busiest N x0 x1 M5 (v33, M34) h35 l hl) rfl wd_1201 wd_1199 wd_1200 wd_7 hd_X12_busiest rfl ⟨⟨(Nat.le_of_ble_eq_true rfl), (Nat.le_of_ble_eq_true rfl)⟩, (Nat.le_of_ble_eq_true rfl), (Nat.le_of_ble_eq_true rfl)⟩ rfl (Nat.le_of_ble_eq_true rfl) rfl dX12_goesTo_174 ?_
              refine zt_goto (tgt := 185) hC (by decide) dX12_goesTo_177 ?_
              obtain rfl := Option.some.inj h
              exact zt_iret hC rfl rfl (Nat.le_of_ble_eq_true rfl) (Nat.le_of_ble_eq_true rfl) dX12_goesTo_185
          · rcases ite_or h with ⟨c6, h⟩ | ⟨c6, h⟩
            · refine zt_tsIn (tgt := 186) hC c6 (by decide) (by decide) rfl (by decide) dX12_goesTo_53 ?_
              refine zt_iload_n hC rfl dX12_goesTo_186 ?_
              refine zt_if_eq (tgt := 208) hC h (by decide) dX12_goesTo_187 (fun h => ?_) (fun h => ?_)
              · refine zt_bipush hC kb_m4 dX12_goesTo_208 ?_
                obtain rfl := Option.some.inj h
                exact zt_iret hC rfl rfl (Nat.le_of_ble_eq_true rfl) (Nat.le_of_ble_eq_true rfl) dX12_goesTo_210
              · refine zt_iload_n hC rfl dX12_goesTo_190 ?_
                refine zt_aload_n hC rfl dX12_goesTo_191 ?_
                refine zt_iconst hC ki_0 dX12_goesTo_192 ?_
                refine zt_ald hC h dX12_goesTo_193 (fun v36 h => ?_)
                refine zt_irem hC h dX12_goesTo_194 (fun v37 h => ?_)
                refine zt_iload hC rfl dX12_goesTo_195 ?_
                refine zt_icmp_eq (tgt := 208) hC h (by decide) dX12_goesTo_197 (fun h => ?_) (fun h => ?_)
                · refine zt_bipush hC kb_m4 dX12_goesTo_208 ?_
                  obtain rfl := Option.some.inj h
                  exact zt_iret hC rfl rfl (Nat.le_of_ble_eq_true rfl) (Nat.le_of_ble_eq_true rfl) dX12_goesTo_210
                · refine zt_iload_n hC rfl dX12_goesTo_200 ?_
                  refine zt_aload_n hC rfl dX12_goesTo_201 ?_
                  refine zt_iconst hC ki_0 dX12_goesTo_202 ?_
                  refine zt_ald hC h dX12_goesTo_203 (fun v38 h => ?_)
                  refine zt_irem hC h dX12_goesTo_204 (fun v39 h => ?_)
                  refine zt_goto (tgt := 210) hC (by decide) dX12_goesTo_205 ?_
                  obtain rfl := Option.some.inj h
                  exact zt_iret hC rfl rfl (Nat.le_of_ble_eq_true rfl) (Nat.le_of_ble_eq_true rfl) dX12_goesTo_210
            · refine zt_tsOut (tgt := 211) hC (by have e1 := sw_ne c1 (j := 1) (by decide); have e2 := sw_ne c2 (j := 2) (by decide); have e3 := sw_ne c3 (j := 3) (by decide); have e4 := sw_ne c4 (j := 4) (by decide); have e5 := sw_ne c5 (j := 5) (by decide); have e6 := sw_ne c6 (j := 6) (by decide); omega) (by decide) dX12_goesTo_53 ?_
              refine zt_aload_n hC rfl dX12_goesTo_211 ?_
              refine zt_iload_n hC rfl dX12_goesTo_212 ?_
              obtain ⟨v7, M8, h9, h⟩ := bnd_some h
              refine zt_callS (z := yX12_toFirst) (As := [.ref x0, .int x1]) (rest := []) (st1 := (.int v7 :: [])) hC 2 (fun l hl => c_X12_toFirst N x0 x1 M5 (v7, M8) h9 l hl) rfl wd_1198 wd_1196 wd_1197 wd_7 hd_X12_toFirst rfl ⟨⟨(Nat.le_of_ble_eq_true rfl), (Nat.le_of_ble_eq_true rfl)⟩, (Nat.le_of_ble_eq_true rfl), (Nat.le_of_ble_eq_true rfl)⟩ rfl (Nat.le_of_ble_eq_true rfl) rfl dX12_goesTo_213 ?_
              obtain rfl := Option.some.inj h
              exact zt_iret hC rfl rfl (Nat.le_of_ble_eq_true rfl) (Nat.le_of_ble_eq_true rfl) dX12_goesTo_216
def j_X12_goesTo_22 (N : Nat) (x0 : Nat) (x1 : Int32) (x2 : Int32) (s0 : Int32) (M : Mm) : Option (Int32 × Mm) :=
bnd (f_X12_boatOf N x0 x1 (3 : Int32) M) (fun v1 M2 =>
(if v1 = 0 then
j_X12_goesTo_37 N x0 x1 x2 s0 (1 : Int32) M2
else
j_X12_goesTo_37 N x0 x1 x2 s0 (0 : Int32) M2))
set_option maxRecDepth 100000 in
set_option maxHeartbeats 4000000 in
theorem w_X12_goesTo_22 {X : Cx} {G : Gl} {r : (Int32 × Mm)} (N : Nat) (hC : CX X G yX12_goesTo cX12_goesTo 6 (some .int) rm_X12_goesTo) (x0 : Nat) (x1 : Int32) (x2 : Int32) (s0 : Int32) (M : Mm) (h : j_X12_goesTo_22 N x0 x1 x2 s0 M = some r) : TW X G 6 (RQ X G (some (.int r.1)) r.2 rm_X12_goesTo) 0 0 M 22 [(0, .ref x0), (1, .int x1), (2, .int x2)] [.int s0] := by
  unfold j_X12_goesTo_22 at h
  refine zt_istore_n (lv' := [(3, .int s0), (0, .ref x0), (1, .int x1), (2, .int x2)]) hC (by decide) rfl dX12_goesTo_22 ?_
  refine zt_aload_n hC rfl dX12_goesTo_23 ?_
  refine zt_iload_n hC rfl dX12_goesTo_24 ?_
  refine zt_iconst hC ki_3 dX12_goesTo_25 ?_
  obtain ⟨v1, M2, h3, h⟩ := bnd_some h
  refine zt_callS (z := yX12_boatOf) (As := [.ref x0, .int x1, .int (3 : Int32)]) (rest := []) (st1 := (.int v1 :: [])) hC 3 (fun l hl => c_X12_boatOf N x0 x1 (3 : Int32) M (v1, M2) h3 l hl) rfl wd_1109 wd_1107 wd_1108 wd_7 hd_X12_boatOf rfl ⟨⟨(Nat.le_of_ble_eq_true rfl), (Nat.le_of_ble_eq_true rfl)⟩, (Nat.le_of_ble_eq_true rfl), (Nat.le_of_ble_eq_true rfl)⟩ rfl (Nat.le_of_ble_eq_true rfl) rfl dX12_goesTo_26 ?_
  refine zt_if_ne (tgt := 36) hC h (by decide) dX12_goesTo_29 (fun h => ?_) (fun h => ?_)
  · refine zt_iconst hC ki_0 dX12_goesTo_36 ?_
    refine zt_keep [0, 1, 2, 3] rfl ?_
    exact w_X12_goesTo_37 N hC x0 x1 x2 s0 (0 : Int32) M2 h
  · refine zt_iconst hC ki_1 dX12_goesTo_32 ?_
    refine zt_goto (tgt := 37) hC (by decide) dX12_goesTo_33 ?_
    refine zt_keep [0, 1, 2, 3] rfl ?_
    exact w_X12_goesTo_37 N hC x0 x1 x2 s0 (1 : Int32) M2 h
def f_X12_goesTo (N : Nat) (x0 : Nat) (x1 : Int32) (M : Mm) : Option (Int32 × Mm) :=
bnd (f_X12_boatOf N x0 x1 (5 : Int32) M) (fun v1 M2 =>
ald M2 x0 (3 : Int32) (fun v4 =>
irm v4 (v1 + (1 : Int32)) (fun v5 =>
(if v5 = 0 then
j_X12_goesTo_22 N x0 x1 v1 (1 : Int32) M2
else
j_X12_goesTo_22 N x0 x1 v1 (0 : Int32) M2))))
set_option maxRecDepth 100000 in
set_option maxHeartbeats 4000000 in
theorem c_X12_goesTo (N : Nat) (x0 : Nat) (x1 : Int32) (M : Mm) (r : (Int32 × Mm)) (h : f_X12_goesTo N x0 x1 M = some r) (l : Launch) (hfl : l.flags = flags0) {G : Gl} : MT l G yX12_goesTo cX12_goesTo 6 (some .int) rm_X12_goesTo [.ref x0, .int x1] M (some (.int r.1)) r.2 := by
  unfold f_X12_goesTo at h
  refine zt_start hfl (lv := [(0, .ref x0), (1, .int x1)]) (by decide) (Nat.le_of_ble_eq_true rfl) rfl wd_1189 (fun X hC _ => ?_)
  refine zt_aload_n hC rfl dX12_goesTo_0 ?_
  refine zt_iload_n hC rfl dX12_goesTo_1 ?_
  refine zt_iconst hC ki_5 dX12_goesTo_2 ?_
  obtain ⟨v1, M2, h3, h⟩ := bnd_some h
  refine zt_callS (z := yX12_boatOf) (As := [.ref x0, .int x1, .int (5 : Int32)]) (rest := []) (st1 := (.int v1 :: [])) hC 3 (fun l hl => c_X12_boatOf N x0 x1 (5 : Int32) M (v1, M2) h3 l hl) rfl wd_1109 wd_1107 wd_1108 wd_7 hd_X12_boatOf rfl ⟨⟨(Nat.le_of_ble_eq_true rfl), (Nat.le_of_ble_eq_true rfl)⟩, (Nat.le_of_ble_eq_true rfl), (Nat.le_of_ble_eq_true rfl)⟩ rfl (Nat.le_of_ble_eq_true rfl) rfl dX12_goesTo_3 ?_
  refine zt_istore_n (lv' := [(2, .int v1), (0, .ref x0), (1, .int x1)]) hC (by decide) rfl dX12_goesTo_6 ?_
  refine zt_aload_n hC rfl dX12_goesTo_7 ?_
  refine zt_iconst hC ki_3 dX12_goesTo_8 ?_
  refine zt_ald hC h dX12_goesTo_9 (fun v4 h => ?_)
  refine zt_iload_n hC rfl dX12_goesTo_10 ?_
  refine zt_iconst hC ki_1 dX12_goesTo_11 ?_
  refine zt_iadd hC dX12_goesTo_12 ?_
  refine zt_irem hC h dX12_goesTo_13 (fun v5 h => ?_)
  refine zt_if_ne (tgt := 21) hC h (by decide) dX12_goesTo_14 (fun h => ?_) (fun h => ?_)
  · refine zt_iconst hC ki_0 dX12_goesTo_21 ?_
    refine zt_keep [0, 1, 2] rfl ?_
    exact w_X12_goesTo_22 N hC x0 x1 v1 (0 : Int32) M2 h
  · refine zt_iconst hC ki_1 dX12_goesTo_17 ?_
    refine zt_goto (tgt := 22) hC (by decide) dX12_goesTo_18 ?_
    refine zt_keep [0, 1, 2] rfl ?_
    exact w_X12_goesTo_22 N hC x0 x1 v1 (1 : Int32) M2 h
def rm_X12_walks : Room := { frames := 0, cells := 0, slots := 0, locals := 0 }
theorem hd_X12_walks : yX12_walks.cls ≠ "java/lang/invoke/MethodHandle" ∧ yX12_walks.cls ≠ "java/lang/invoke/VarHandle" ∧ (parseMethodDescriptor yX12_walks.desc).map (fun d => d.parameters.length) = some 3 := by decide +kernel
def b_X12_walks_12 (N : Nat) (k12 : Nat → Int32 → Int32 → Mm → Option (Unit × Mm)) (x1 : Nat) (x4 : Int32) (x5 : Int32) (M : Mm) : Option (Unit × Mm) :=
ald M x1 x4 (fun v1 =>
(if (v1 - (1 : Int32)) ≤ x5 then
ald M x1 x4 (fun v2 =>
ast M x1 x4 (v2 - (1 : Int32)) (fun M3 =>
some ((), M3)))
else
ald M x1 ((x4 + (2 : Int32)) + x5) (fun v4 =>
ast M x1 ((x4 + (1 : Int32)) + x5) v4 (fun M5 =>
ald M5 x1 ((x4 + (14 : Int32)) + x5) (fun v6 =>
ast M5 x1 ((x4 + (13 : Int32)) + x5) v6 (fun M7 =>
k12 x1 x4 (x5 + (1 : Int32)) M7))))))
def l_X12_walks_12 (N : Nat) : Nat → Nat → Int32 → Int32 → Mm → Option (Unit × Mm)
  | 0 => fun _ _ _ _ => none
  | n + 1 => b_X12_walks_12 N (l_X12_walks_12 N n)
set_option maxRecDepth 100000 in
set_option maxHeartbeats 4000000 in
theorem v_X12_walks_12 {X : Cx} {G : Gl} {r : (Unit × Mm)} (N : Nat) (hC : CX X G yX12_walks cX12_walks 6 none rm_X12_walks) (k12 : Nat → Int32 → Int32 → Mm → Option (Unit × Mm)) (hk12 : ∀ (x1 : Nat) (x4 : Int32) (x5 : Int32) (M : Mm), k12 x1 x4 x5 M = some r → TW X G 6 (RQ X G none r.2 rm_X12_walks) 0 0 M 12 [(1, .ref x1), (4, .int x4), (5, .int x5)] []) (x1 : Nat) (x4 : Int32) (x5 : Int32) (M : Mm) (h : b_X12_walks_12 N k12 x1 x4 x5 M = some r) : TW X G 6 (RQ X G none r.2 rm_X12_walks) 0 0 M 12 [(1, .ref x1), (4, .int x4), (5, .int x5)] [] := by
  unfold b_X12_walks_12 at h
  refine zt_iload hC rfl dX12_walks_12 ?_
  refine zt_aload_n hC rfl dX12_walks_14 ?_
  refine zt_iload hC rfl dX12_walks_15 ?_
  refine zt_ald hC h dX12_walks_17 (fun v1 h => ?_)
  refine zt_iconst hC ki_1 dX12_walks_18 ?_
  refine zt_isub hC dX12_walks_19 ?_
  refine zt_icmp_ge (tgt := 67) hC h (by decide) dX12_walks_20 (fun h => ?_) (fun h => ?_)
  · refine zt_aload_n hC rfl dX12_walks_67 ?_
    refine zt_iload hC rfl dX12_walks_68 ?_
    refine zt_dup2 hC rfl rfl dX12_walks_70 ?_
    refine zt_ald hC h dX12_walks_71 (fun v2 h => ?_)
    refine zt_iconst hC ki_1 dX12_walks_72 ?_
    refine zt_isub hC dX12_walks_73 ?_
    refine zt_ast hC h dX12_walks_74 (fun M3 h => ?_)
    obtain rfl := Option.some.inj h
    exact zt_vret hC rfl rfl (Nat.le_of_ble_eq_true rfl) (Nat.le_of_ble_eq_true rfl) dX12_walks_75
  · refine zt_aload_n hC rfl dX12_walks_23 ?_
    refine zt_iload hC rfl dX12_walks_24 ?_
    refine zt_iconst hC ki_1 dX12_walks_26 ?_
    refine zt_iadd hC dX12_walks_27 ?_
    refine zt_iload hC rfl dX12_walks_28 ?_
    refine zt_iadd hC dX12_walks_30 ?_
    refine zt_aload_n hC rfl dX12_walks_31 ?_
    refine zt_iload hC rfl dX12_walks_32 ?_
    refine zt_iconst hC ki_2 dX12_walks_34 ?_
    refine zt_iadd hC dX12_walks_35 ?_
    refine zt_iload hC rfl dX12_walks_36 ?_
    refine zt_iadd hC dX12_walks_38 ?_
    refine zt_ald hC h dX12_walks_39 (fun v4 h => ?_)
    refine zt_ast hC h dX12_walks_40 (fun M5 h => ?_)
    refine zt_aload_n hC rfl dX12_walks_41 ?_
    refine zt_iload hC rfl dX12_walks_42 ?_
    refine zt_bipush hC kb_13 dX12_walks_44 ?_
    refine zt_iadd hC dX12_walks_46 ?_
    refine zt_iload hC rfl dX12_walks_47 ?_
    refine zt_iadd hC dX12_walks_49 ?_
    refine zt_aload_n hC rfl dX12_walks_50 ?_
    refine zt_iload hC rfl dX12_walks_51 ?_
    refine zt_bipush hC kb_14 dX12_walks_53 ?_
    refine zt_iadd hC dX12_walks_55 ?_
    refine zt_iload hC rfl dX12_walks_56 ?_
    refine zt_iadd hC dX12_walks_58 ?_
    refine zt_ald hC h dX12_walks_59 (fun v6 h => ?_)
    refine zt_ast hC h dX12_walks_60 (fun M7 h => ?_)
    refine zt_iinc (v := (x5 + (1 : Int32))) (lv' := [(5, .int (x5 + (1 : Int32))), (1, .ref x1), (4, .int x4)]) hC rfl (by rw [ki_1]) (by decide) rfl dX12_walks_61 ?_
    refine zt_goto (tgt := 12) hC (by decide) dX12_walks_64 ?_
    refine zt_keep [1, 4, 5] rfl ?_
    exact hk12 x1 x4 (x5 + (1 : Int32)) M7 h
theorem w_X12_walks_12 {X : Cx} {G : Gl} {r : (Unit × Mm)} (N : Nat) (hC : CX X G yX12_walks cX12_walks 6 none rm_X12_walks) (n : Nat) : ∀ (x1 : Nat) (x4 : Int32) (x5 : Int32) (M : Mm), l_X12_walks_12 N n x1 x4 x5 M = some r → TW X G 6 (RQ X G none r.2 rm_X12_walks) 0 0 M 12 [(1, .ref x1), (4, .int x4), (5, .int x5)] [] := by
  induction n with
  | zero => intro  x1 x4 x5 M h; cases (show none = some r from h)
  | succ n ih => intro  x1 x4 x5 M h; exact v_X12_walks_12 N hC (l_X12_walks_12 N n) ih x1 x4 x5 M h
def f_X12_walks (N : Nat) (x0 : Nat) (x1 : Nat) (x2 : Int32) (x3 : Int32) (M : Mm) : Option (Unit × Mm) :=
l_X12_walks_12 N N x1 ((74 : Int32) + ((25 : Int32) * x2)) x3 M
set_option maxRecDepth 100000 in
set_option maxHeartbeats 4000000 in
theorem c_X12_walks (N : Nat) (x0 : Nat) (x1 : Nat) (x2 : Int32) (x3 : Int32) (M : Mm) (r : (Unit × Mm)) (h : f_X12_walks N x0 x1 x2 x3 M = some r) (l : Launch) (hfl : l.flags = flags0) {G : Gl} : MT l G yX12_walks cX12_walks 6 none rm_X12_walks [.ref x0, .ref x1, .int x2, .int x3] M none r.2 := by
  unfold f_X12_walks at h
  refine zt_start hfl (lv := [(0, .ref x0), (1, .ref x1), (2, .int x2), (3, .int x3)]) (by decide) (Nat.le_of_ble_eq_true rfl) rfl wd_1182 (fun X hC _ => ?_)
  refine zt_bipush hC kb_74 dX12_walks_0 ?_
  refine zt_bipush hC kb_25 dX12_walks_2 ?_
  refine zt_iload_n hC rfl dX12_walks_4 ?_
  refine zt_imul hC dX12_walks_5 ?_
  refine zt_iadd hC dX12_walks_6 ?_
  refine zt_istore (lv' := [(4, .int ((74 : Int32) + ((25 : Int32) * x2))), (0, .ref x0), (1, .ref x1), (2, .int x2), (3, .int x3)]) hC (by decide) rfl dX12_walks_7 ?_
  refine zt_iload_n hC rfl dX12_walks_9 ?_
  refine zt_istore (lv' := [(5, .int x3), (4, .int ((74 : Int32) + ((25 : Int32) * x2))), (0, .ref x0), (1, .ref x1), (2, .int x2), (3, .int x3)]) hC (by decide) rfl dX12_walks_10 ?_
  refine zt_keep [1, 4, 5] rfl ?_
  exact w_X12_walks_12 N hC N x1 ((74 : Int32) + ((25 : Int32) * x2)) x3 M h
def rm_X12_come : Room := { frames := 1, cells := 0, slots := 0, locals := 22 }
theorem hd_X12_come : yX12_come.cls ≠ "java/lang/invoke/MethodHandle" ∧ yX12_come.cls ≠ "java/lang/invoke/VarHandle" ∧ (parseMethodDescriptor yX12_come.desc).map (fun d => d.parameters.length) = some 1 := by decide +kernel
def b_X12_come_2 (N : Nat) (k2 : Nat → Int32 → Mm → Option (Unit × Mm)) (x1 : Nat) (x2 : Int32) (M : Mm) : Option (Unit × Mm) :=
ald M x1 (1 : Int32) (fun v1 =>
(if v1 ≤ x2 then
some ((), M)
else
ald M x1 (4 : Int32) (fun v2 =>
ast M x1 (4 : Int32) ((v2 * (1103515245 : Int32)) + (12345 : Int32)) (fun M3 =>
ald M3 x1 (4 : Int32) (fun v4 =>
bnd (f_X12_get N x1 x2 (2 : Int32) M3) (fun v5 M6 =>
(if (((v4 &&& (2147483647 : Int32)) / (65536 : Int32)) - ((v4 &&& (2147483647 : Int32)) / (65536 : Int32)) / (100 : Int32) * (100 : Int32)) < v5 then
bnd (f_X12_get N x1 x2 (0 : Int32) M6) (fun v8 M9 =>
ald M9 x1 ((74 : Int32) + ((25 : Int32) * v8)) (fun v11 =>
(if v11 = (12 : Int32) then
ald M9 x1 (6 : Int32) (fun v18 =>
ast M9 x1 (6 : Int32) (v18 + (1 : Int32)) (fun M19 =>
k2 x1 (x2 + (1 : Int32)) M19))
else
ald M9 x1 ((74 : Int32) + ((25 : Int32) * v8)) (fun v12 =>
ast M9 x1 ((((74 : Int32) + ((25 : Int32) * v8)) + (1 : Int32)) + v12) x2 (fun M13 =>
ald M13 x1 ((74 : Int32) + ((25 : Int32) * v8)) (fun v14 =>
ast M13 x1 ((((74 : Int32) + ((25 : Int32) * v8)) + (13 : Int32)) + v14) (0 : Int32) (fun M15 =>
ald M15 x1 ((74 : Int32) + ((25 : Int32) * v8)) (fun v16 =>
ast M15 x1 ((74 : Int32) + ((25 : Int32) * v8)) (v16 + (1 : Int32)) (fun M17 =>
k2 x1 (x2 + (1 : Int32)) M17)))))))))
else
k2 x1 (x2 + (1 : Int32)) M6)))))))
def l_X12_come_2 (N : Nat) : Nat → Nat → Int32 → Mm → Option (Unit × Mm)
  | 0 => fun _ _ _ => none
  | n + 1 => b_X12_come_2 N (l_X12_come_2 N n)
set_option maxRecDepth 100000 in
set_option maxHeartbeats 4000000 in
theorem v_X12_come_2 {X : Cx} {G : Gl} {r : (Unit × Mm)} (N : Nat) (hC : CX X G yX12_come cX12_come 4 none rm_X12_come) (k2 : Nat → Int32 → Mm → Option (Unit × Mm)) (hk2 : ∀ (x1 : Nat) (x2 : Int32) (M : Mm), k2 x1 x2 M = some r → TW X G 4 (RQ X G none r.2 rm_X12_come) 0 0 M 2 [(1, .ref x1), (2, .int x2)] []) (x1 : Nat) (x2 : Int32) (M : Mm) (h : b_X12_come_2 N k2 x1 x2 M = some r) : TW X G 4 (RQ X G none r.2 rm_X12_come) 0 0 M 2 [(1, .ref x1), (2, .int x2)] [] := by
  unfold b_X12_come_2 at h
  refine zt_iload_n hC rfl dX12_come_2 ?_
  refine zt_aload_n hC rfl dX12_come_3 ?_
  refine zt_iconst hC ki_1 dX12_come_4 ?_
  refine zt_ald hC h dX12_come_5 (fun v1 h => ?_)
  refine zt_icmp_ge (tgt := 112) hC h (by decide) dX12_come_6 (fun h => ?_) (fun h => ?_)
  · obtain rfl := Option.some.inj h
    exact zt_vret hC rfl rfl (Nat.le_of_ble_eq_true rfl) (Nat.le_of_ble_eq_true rfl) dX12_come_112
  · refine zt_aload_n hC rfl dX12_come_9 ?_
    refine zt_iconst hC ki_4 dX12_come_10 ?_
    refine zt_aload_n hC rfl dX12_come_11 ?_
    refine zt_iconst hC ki_4 dX12_come_12 ?_
    refine zt_ald hC h dX12_come_13 (fun v2 h => ?_)
    refine zt_ldc hC wd_1165 dX12_come_14 ?_
    refine zt_imul hC dX12_come_16 ?_
    refine zt_sipush hC ks_12345 dX12_come_17 ?_
    refine zt_iadd hC dX12_come_20 ?_
    refine zt_ast hC h dX12_come_21 (fun M3 h => ?_)
    refine zt_aload_n hC rfl dX12_come_22 ?_
    refine zt_iconst hC ki_4 dX12_come_23 ?_
    refine zt_ald hC h dX12_come_24 (fun v4 h => ?_)
    refine zt_ldc hC wd_1166 dX12_come_25 ?_
    refine zt_iand hC dX12_come_27 ?_
    refine zt_ldc hC wd_1167 dX12_come_28 ?_
    refine zt_idivc hC (by decide) dX12_come_30 ?_
    refine zt_bipush hC kb_100 dX12_come_31 ?_
    refine zt_iremc hC (by decide) dX12_come_33 ?_
    refine zt_aload_n hC rfl dX12_come_34 ?_
    refine zt_iload_n hC rfl dX12_come_35 ?_
    refine zt_iconst hC ki_2 dX12_come_36 ?_
    obtain ⟨v5, M6, h7, h⟩ := bnd_some h
    refine zt_callS (z := yX12_get) (As := [.ref x1, .int x2, .int (2 : Int32)]) (rest := [.int (((v4 &&& (2147483647 : Int32)) / (65536 : Int32)) - ((v4 &&& (2147483647 : Int32)) / (65536 : Int32)) / (100 : Int32) * (100 : Int32))]) (st1 := (.int v5 :: [.int (((v4 &&& (2147483647 : Int32)) / (65536 : Int32)) - ((v4 &&& (2147483647 : Int32)) / (65536 : Int32)) / (100 : Int32) * (100 : Int32))])) hC 3 (fun l hl => c_X12_get N x1 x2 (2 : Int32) M3 (v5, M6) h7 l hl) rfl wd_1112 wd_1110 wd_1111 wd_7 hd_X12_get rfl ⟨⟨(Nat.le_of_ble_eq_true rfl), (Nat.le_of_ble_eq_true rfl)⟩, (Nat.le_of_ble_eq_true rfl), (Nat.le_of_ble_eq_true rfl)⟩ rfl (Nat.le_of_ble_eq_true rfl) rfl dX12_come_37 ?_
    refine zt_icmp_lt (tgt := 46) hC h (by decide) dX12_come_40 (fun h => ?_) (fun h => ?_)
    · refine zt_bipush hC kb_74 dX12_come_46 ?_
      refine zt_bipush hC kb_25 dX12_come_48 ?_
      refine zt_aload_n hC rfl dX12_come_50 ?_
      refine zt_iload_n hC rfl dX12_come_51 ?_
      refine zt_iconst hC ki_0 dX12_come_52 ?_
      obtain ⟨v8, M9, h10, h⟩ := bnd_some h
      refine zt_callS (z := yX12_get) (As := [.ref x1, .int x2, .int (0 : Int32)]) (rest := [.int (25 : Int32), .int (74 : Int32)]) (st1 := (.int v8 :: [.int (25 : Int32), .int (74 : Int32)])) hC 3 (fun l hl => c_X12_get N x1 x2 (0 : Int32) M6 (v8, M9) h10 l hl) rfl wd_1112 wd_1110 wd_1111 wd_7 hd_X12_get rfl ⟨⟨(Nat.le_of_ble_eq_true rfl), (Nat.le_of_ble_eq_true rfl)⟩, (Nat.le_of_ble_eq_true rfl), (Nat.le_of_ble_eq_true rfl)⟩ rfl (Nat.le_of_ble_eq_true rfl) rfl dX12_come_53 ?_
      refine zt_imul hC dX12_come_56 ?_
      refine zt_iadd hC dX12_come_57 ?_
      refine zt_istore_n (lv' := [(3, .int ((74 : Int32) + ((25 : Int32) * v8))), (1, .ref x1), (2, .int x2)]) hC (by decide) rfl dX12_come_58 ?_
      refine zt_aload_n hC rfl dX12_come_59 ?_
      refine zt_iload_n hC rfl dX12_come_60 ?_
      refine zt_ald hC h dX12_come_61 (fun v11 h => ?_)
      refine zt_bipush hC kb_12 dX12_come_62 ?_
      refine zt_icmp_ne (tgt := 78) hC h (by decide) dX12_come_64 (fun h => ?_) (fun h => ?_)
      · refine zt_aload_n hC rfl dX12_come_78 ?_
        refine zt_iload_n hC rfl dX12_come_79 ?_
        refine zt_iconst hC ki_1 dX12_come_80 ?_
        refine zt_iadd hC dX12_come_81 ?_
        refine zt_aload_n hC rfl dX12_come_82 ?_
        refine zt_iload_n hC rfl dX12_come_83 ?_
        refine zt_ald hC h dX12_come_84 (fun v12 h => ?_)
        refine zt_iadd hC dX12_come_85 ?_
        refine zt_iload_n hC rfl dX12_come_86 ?_
        refine zt_ast hC h dX12_come_87 (fun M13 h => ?_)
        refine zt_aload_n hC rfl dX12_come_88 ?_
        refine zt_iload_n hC rfl dX12_come_89 ?_
        refine zt_bipush hC kb_13 dX12_come_90 ?_
        refine zt_iadd hC dX12_come_92 ?_
        refine zt_aload_n hC rfl dX12_come_93 ?_
        refine zt_iload_n hC rfl dX12_come_94 ?_
        refine zt_ald hC h dX12_come_95 (fun v14 h => ?_)
        refine zt_iadd hC dX12_come_96 ?_
        refine zt_iconst hC ki_0 dX12_come_97 ?_
        refine zt_ast hC h dX12_come_98 (fun M15 h => ?_)
        refine zt_aload_n hC rfl dX12_come_99 ?_
        refine zt_iload_n hC rfl dX12_come_100 ?_
        refine zt_dup2 hC rfl rfl dX12_come_101 ?_
        refine zt_ald hC h dX12_come_102 (fun v16 h => ?_)
        refine zt_iconst hC ki_1 dX12_come_103 ?_
        refine zt_iadd hC dX12_come_104 ?_
        refine zt_ast hC h dX12_come_105 (fun M17 h => ?_)
        refine zt_iinc (v := (x2 + (1 : Int32))) (lv' := [(2, .int (x2 + (1 : Int32))), (3, .int ((74 : Int32) + ((25 : Int32) * v8))), (1, .ref x1)]) hC rfl (by rw [ki_1]) (by decide) rfl dX12_come_106 ?_
        refine zt_goto (tgt := 2) hC (by decide) dX12_come_109 ?_
        refine zt_keep [1, 2] rfl ?_
        exact hk2 x1 (x2 + (1 : Int32)) M17 h
      · refine zt_aload_n hC rfl dX12_come_67 ?_
        refine zt_bipush hC kb_6 dX12_come_68 ?_
        refine zt_dup2 hC rfl rfl dX12_come_70 ?_
        refine zt_ald hC h dX12_come_71 (fun v18 h => ?_)
        refine zt_iconst hC ki_1 dX12_come_72 ?_
        refine zt_iadd hC dX12_come_73 ?_
        refine zt_ast hC h dX12_come_74 (fun M19 h => ?_)
        refine zt_goto (tgt := 106) hC (by decide) dX12_come_75 ?_
        refine zt_iinc (v := (x2 + (1 : Int32))) (lv' := [(2, .int (x2 + (1 : Int32))), (3, .int ((74 : Int32) + ((25 : Int32) * v8))), (1, .ref x1)]) hC rfl (by rw [ki_1]) (by decide) rfl dX12_come_106 ?_
        refine zt_goto (tgt := 2) hC (by decide) dX12_come_109 ?_
        refine zt_keep [1, 2] rfl ?_
        exact hk2 x1 (x2 + (1 : Int32)) M19 h
    · refine zt_goto (tgt := 106) hC (by decide) dX12_come_43 ?_
      refine zt_iinc (v := (x2 + (1 : Int32))) (lv' := [(2, .int (x2 + (1 : Int32))), (1, .ref x1)]) hC rfl (by rw [ki_1]) (by decide) rfl dX12_come_106 ?_
      refine zt_goto (tgt := 2) hC (by decide) dX12_come_109 ?_
      refine zt_keep [1, 2] rfl ?_
      exact hk2 x1 (x2 + (1 : Int32)) M6 h
theorem w_X12_come_2 {X : Cx} {G : Gl} {r : (Unit × Mm)} (N : Nat) (hC : CX X G yX12_come cX12_come 4 none rm_X12_come) (n : Nat) : ∀ (x1 : Nat) (x2 : Int32) (M : Mm), l_X12_come_2 N n x1 x2 M = some r → TW X G 4 (RQ X G none r.2 rm_X12_come) 0 0 M 2 [(1, .ref x1), (2, .int x2)] [] := by
  induction n with
  | zero => intro  x1 x2 M h; cases (show none = some r from h)
  | succ n ih => intro  x1 x2 M h; exact v_X12_come_2 N hC (l_X12_come_2 N n) ih x1 x2 M h
def f_X12_come (N : Nat) (x0 : Nat) (x1 : Nat) (M : Mm) : Option (Unit × Mm) :=
l_X12_come_2 N N x1 (0 : Int32) M
set_option maxRecDepth 100000 in
set_option maxHeartbeats 4000000 in
theorem c_X12_come (N : Nat) (x0 : Nat) (x1 : Nat) (M : Mm) (r : (Unit × Mm)) (h : f_X12_come N x0 x1 M = some r) (l : Launch) (hfl : l.flags = flags0) {G : Gl} : MT l G yX12_come cX12_come 4 none rm_X12_come [.ref x0, .ref x1] M none r.2 := by
  unfold f_X12_come at h
  refine zt_start hfl (lv := [(0, .ref x0), (1, .ref x1)]) (by decide) (Nat.le_of_ble_eq_true rfl) rfl wd_1164 (fun X hC _ => ?_)
  refine zt_iconst hC ki_0 dX12_come_0 ?_
  refine zt_istore_n (lv' := [(2, .int (0 : Int32)), (0, .ref x0), (1, .ref x1)]) hC (by decide) rfl dX12_come_1 ?_
  refine zt_keep [1, 2] rfl ?_
  exact w_X12_come_2 N hC N x1 (0 : Int32) M h
def rm_X12_isAt : Room := { frames := 1, cells := 0, slots := 0, locals := 22 }
theorem hd_X12_isAt : yX12_isAt.cls ≠ "java/lang/invoke/MethodHandle" ∧ yX12_isAt.cls ≠ "java/lang/invoke/VarHandle" ∧ (parseMethodDescriptor yX12_isAt.desc).map (fun d => d.parameters.length) = some 2 := by decide +kernel
def f_X12_isAt (N : Nat) (x0 : Nat) (x1 : Int32) (M : Mm) : Option (Int32 × Mm) :=
bnd (f_X12_boatOf N x0 x1 (0 : Int32) M) (fun v1 M2 =>
(if v1 < 0 then
some ((0 : Int32), M2)
else
some ((1 : Int32), M2)))
set_option maxRecDepth 100000 in
set_option maxHeartbeats 4000000 in
theorem c_X12_isAt (N : Nat) (x0 : Nat) (x1 : Int32) (M : Mm) (r : (Int32 × Mm)) (h : f_X12_isAt N x0 x1 M = some r) (l : Launch) (hfl : l.flags = flags0) {G : Gl} : MT l G yX12_isAt cX12_isAt 2 (some .boolean) rm_X12_isAt [.ref x0, .int x1] M (some (.int r.1)) r.2 := by
  unfold f_X12_isAt at h
  refine zt_start hfl (lv := [(0, .ref x0), (1, .int x1)]) (by decide) (Nat.le_of_ble_eq_true rfl) rfl wd_1174 (fun X hC _ => ?_)
  refine zt_aload_n hC rfl dX12_isAt_0 ?_
  refine zt_iload_n hC rfl dX12_isAt_1 ?_
  refine zt_iconst hC ki_0 dX12_isAt_2 ?_
  obtain ⟨v1, M2, h3, h⟩ := bnd_some h
  refine zt_callS (z := yX12_boatOf) (As := [.ref x0, .int x1, .int (0 : Int32)]) (rest := []) (st1 := (.int v1 :: [])) hC 3 (fun l hl => c_X12_boatOf N x0 x1 (0 : Int32) M (v1, M2) h3 l hl) rfl wd_1109 wd_1107 wd_1108 wd_7 hd_X12_boatOf rfl ⟨⟨(Nat.le_of_ble_eq_true rfl), (Nat.le_of_ble_eq_true rfl)⟩, (Nat.le_of_ble_eq_true rfl), (Nat.le_of_ble_eq_true rfl)⟩ rfl (Nat.le_of_ble_eq_true rfl) rfl dX12_isAt_3 ?_
  refine zt_if_lt (tgt := 13) hC h (by decide) dX12_isAt_6 (fun h => ?_) (fun h => ?_)
  · refine zt_iconst hC ki_0 dX12_isAt_13 ?_
    obtain rfl := Option.some.inj h
    exact zt_zret hC rfl rfl (Or.inl rfl) (Nat.le_of_ble_eq_true rfl) (Nat.le_of_ble_eq_true rfl) dX12_isAt_14
  · refine zt_iconst hC ki_1 dX12_isAt_9 ?_
    refine zt_goto (tgt := 14) hC (by decide) dX12_isAt_10 ?_
    obtain rfl := Option.some.inj h
    exact zt_zret hC rfl rfl (Or.inr rfl) (Nat.le_of_ble_eq_true rfl) (Nat.le_of_ble_eq_true rfl) dX12_isAt_14
def rm_X12_lands : Room := { frames := 2, cells := 0, slots := 0, locals := 43 }
theorem hd_X12_lands : yX12_lands.cls ≠ "java/lang/invoke/MethodHandle" ∧ yX12_lands.cls ≠ "java/lang/invoke/VarHandle" ∧ (parseMethodDescriptor yX12_lands.desc).map (fun d => d.parameters.length) = some 2 := by decide +kernel
def b_X12_lands_61 (N : Nat) (k61 : Nat → Int32 → Int32 → Int32 → Int32 → Mm → Option (Unit × Mm)) (x1 : Nat) (x2 : Int32) (x3 : Int32) (x4 : Int32) (x5 : Int32) (M : Mm) : Option (Unit × Mm) :=
bnd (f_X12_boatOf N x1 x2 (3 : Int32) M) (fun v1 M2 =>
(if v1 ≤ x5 then
bnd (f_X12_sets N x1 x2 (3 : Int32) x4 M2) (fun v4 M5 =>
some ((), M5))
else
bnd (f_X12_boatOf N x1 x2 ((6 : Int32) + x5) M2) (fun v7 M8 =>
bnd (f_X12_get N x1 v7 (1 : Int32) M8) (fun v10 M11 =>
(if v10 = x3 then
ald M11 x1 (7 : Int32) (fun v16 =>
bnd (f_X12_get N x1 v7 (4 : Int32) M11) (fun v17 M18 =>
ast M18 x1 (7 : Int32) (v16 + v17) (fun M20 =>
ald M20 x1 (8 : Int32) (fun v21 =>
ast M20 x1 (8 : Int32) (v21 + (1 : Int32)) (fun M22 =>
k61 x1 x2 x3 x4 (x5 + (1 : Int32)) M22)))))
else
bnd (f_X12_sets N x1 x2 ((6 : Int32) + x4) v7 M11) (fun v13 M14 =>
k61 x1 x2 x3 (x4 + (1 : Int32)) (x5 + (1 : Int32)) M14))))))
def l_X12_lands_61 (N : Nat) : Nat → Nat → Int32 → Int32 → Int32 → Int32 → Mm → Option (Unit × Mm)
  | 0 => fun _ _ _ _ _ _ => none
  | n + 1 => b_X12_lands_61 N (l_X12_lands_61 N n)
set_option maxRecDepth 100000 in
set_option maxHeartbeats 4000000 in
theorem v_X12_lands_61 {X : Cx} {G : Gl} {r : (Unit × Mm)} (N : Nat) (hC : CX X G yX12_lands cX12_lands 7 none rm_X12_lands) (k61 : Nat → Int32 → Int32 → Int32 → Int32 → Mm → Option (Unit × Mm)) (hk61 : ∀ (x1 : Nat) (x2 : Int32) (x3 : Int32) (x4 : Int32) (x5 : Int32) (M : Mm), k61 x1 x2 x3 x4 x5 M = some r → TW X G 7 (RQ X G none r.2 rm_X12_lands) 0 0 M 61 [(1, .ref x1), (2, .int x2), (3, .int x3), (4, .int x4), (5, .int x5)] []) (x1 : Nat) (x2 : Int32) (x3 : Int32) (x4 : Int32) (x5 : Int32) (M : Mm) (h : b_X12_lands_61 N k61 x1 x2 x3 x4 x5 M = some r) : TW X G 7 (RQ X G none r.2 rm_X12_lands) 0 0 M 61 [(1, .ref x1), (2, .int x2), (3, .int x3), (4, .int x4), (5, .int x5)] [] := by
  unfold b_X12_lands_61 at h
  refine zt_iload hC rfl dX12_lands_61 ?_
  refine zt_aload_n hC rfl dX12_lands_63 ?_
  refine zt_iload_n hC rfl dX12_lands_64 ?_
  refine zt_iconst hC ki_3 dX12_lands_65 ?_
  obtain ⟨v1, M2, h3, h⟩ := bnd_some h
  refine zt_callS (z := yX12_boatOf) (As := [.ref x1, .int x2, .int (3 : Int32)]) (rest := [.int x5]) (st1 := (.int v1 :: [.int x5])) hC 3 (fun l hl => c_X12_boatOf N x1 x2 (3 : Int32) M (v1, M2) h3 l hl) rfl wd_1109 wd_1107 wd_1108 wd_7 hd_X12_boatOf rfl ⟨⟨(Nat.le_of_ble_eq_true rfl), (Nat.le_of_ble_eq_true rfl)⟩, (Nat.le_of_ble_eq_true rfl), (Nat.le_of_ble_eq_true rfl)⟩ rfl (Nat.le_of_ble_eq_true rfl) rfl dX12_lands_66 ?_
  refine zt_icmp_ge (tgt := 141) hC h (by decide) dX12_lands_69 (fun h => ?_) (fun h => ?_)
  · refine zt_aload_n hC rfl dX12_lands_141 ?_
    refine zt_iload_n hC rfl dX12_lands_142 ?_
    refine zt_iconst hC ki_3 dX12_lands_143 ?_
    refine zt_iload hC rfl dX12_lands_144 ?_
    obtain ⟨v4, M5, h6, h⟩ := bnd_some h
    refine zt_callS (z := yX12_sets) (As := [.ref x1, .int x2, .int (3 : Int32), .int x4]) (rest := []) (st1 := []) hC 4 (fun l hl => c_X12_sets N x1 x2 (3 : Int32) x4 M2 (v4, M5) h6 l hl) rfl wd_990 wd_988 wd_989 wd_7 hd_X12_sets rfl ⟨⟨(Nat.le_of_ble_eq_true rfl), (Nat.le_of_ble_eq_true rfl)⟩, (Nat.le_of_ble_eq_true rfl), (Nat.le_of_ble_eq_true rfl)⟩ rfl (Nat.le_of_ble_eq_true rfl) rfl dX12_lands_146 ?_
    obtain rfl := Option.some.inj h
    exact zt_vret hC rfl rfl (Nat.le_of_ble_eq_true rfl) (Nat.le_of_ble_eq_true rfl) dX12_lands_149
  · refine zt_aload_n hC rfl dX12_lands_72 ?_
    refine zt_iload_n hC rfl dX12_lands_73 ?_
    refine zt_bipush hC kb_6 dX12_lands_74 ?_
    refine zt_iload hC rfl dX12_lands_76 ?_
    refine zt_iadd hC dX12_lands_78 ?_
    obtain ⟨v7, M8, h9, h⟩ := bnd_some h
    refine zt_callS (z := yX12_boatOf) (As := [.ref x1, .int x2, .int ((6 : Int32) + x5)]) (rest := []) (st1 := (.int v7 :: [])) hC 3 (fun l hl => c_X12_boatOf N x1 x2 ((6 : Int32) + x5) M2 (v7, M8) h9 l hl) rfl wd_1109 wd_1107 wd_1108 wd_7 hd_X12_boatOf rfl ⟨⟨(Nat.le_of_ble_eq_true rfl), (Nat.le_of_ble_eq_true rfl)⟩, (Nat.le_of_ble_eq_true rfl), (Nat.le_of_ble_eq_true rfl)⟩ rfl (Nat.le_of_ble_eq_true rfl) rfl dX12_lands_79 ?_
    refine zt_istore (lv' := [(6, .int v7), (1, .ref x1), (2, .int x2), (3, .int x3), (4, .int x4), (5, .int x5)]) hC (by decide) rfl dX12_lands_82 ?_
    refine zt_aload_n hC rfl dX12_lands_84 ?_
    refine zt_iload hC rfl dX12_lands_85 ?_
    refine zt_iconst hC ki_1 dX12_lands_87 ?_
    obtain ⟨v10, M11, h12, h⟩ := bnd_some h
    refine zt_callS (z := yX12_get) (As := [.ref x1, .int v7, .int (1 : Int32)]) (rest := []) (st1 := (.int v10 :: [])) hC 3 (fun l hl => c_X12_get N x1 v7 (1 : Int32) M8 (v10, M11) h12 l hl) rfl wd_1112 wd_1110 wd_1111 wd_7 hd_X12_get rfl ⟨⟨(Nat.le_of_ble_eq_true rfl), (Nat.le_of_ble_eq_true rfl)⟩, (Nat.le_of_ble_eq_true rfl), (Nat.le_of_ble_eq_true rfl)⟩ rfl (Nat.le_of_ble_eq_true rfl) rfl dX12_lands_88 ?_
    refine zt_iload_n hC rfl dX12_lands_91 ?_
    refine zt_icmp_ne (tgt := 120) hC h (by decide) dX12_lands_92 (fun h => ?_) (fun h => ?_)
    · refine zt_aload_n hC rfl dX12_lands_120 ?_
      refine zt_iload_n hC rfl dX12_lands_121 ?_
      refine zt_bipush hC kb_6 dX12_lands_122 ?_
      refine zt_iload hC rfl dX12_lands_124 ?_
      refine zt_iadd hC dX12_lands_126 ?_
      refine zt_iload hC rfl dX12_lands_127 ?_
      obtain ⟨v13, M14, h15, h⟩ := bnd_some h
      refine zt_callS (z := yX12_sets) (As := [.ref x1, .int x2, .int ((6 : Int32) + x4), .int v7]) (rest := []) (st1 := []) hC 4 (fun l hl => c_X12_sets N x1 x2 ((6 : Int32) + x4) v7 M11 (v13, M14) h15 l hl) rfl wd_990 wd_988 wd_989 wd_7 hd_X12_sets rfl ⟨⟨(Nat.le_of_ble_eq_true rfl), (Nat.le_of_ble_eq_true rfl)⟩, (Nat.le_of_ble_eq_true rfl), (Nat.le_of_ble_eq_true rfl)⟩ rfl (Nat.le_of_ble_eq_true rfl) rfl dX12_lands_129 ?_
      refine zt_iinc (v := (x4 + (1 : Int32))) (lv' := [(4, .int (x4 + (1 : Int32))), (6, .int v7), (1, .ref x1), (2, .int x2), (3, .int x3), (5, .int x5)]) hC rfl (by rw [ki_1]) (by decide) rfl dX12_lands_132 ?_
      refine zt_iinc (v := (x5 + (1 : Int32))) (lv' := [(5, .int (x5 + (1 : Int32))), (4, .int (x4 + (1 : Int32))), (6, .int v7), (1, .ref x1), (2, .int x2), (3, .int x3)]) hC rfl (by rw [ki_1]) (by decide) rfl dX12_lands_135 ?_
      refine zt_goto (tgt := 61) hC (by decide) dX12_lands_138 ?_
      refine zt_keep [1, 2, 3, 4, 5] rfl ?_
      exact hk61 x1 x2 x3 (x4 + (1 : Int32)) (x5 + (1 : Int32)) M14 h
    · refine zt_aload_n hC rfl dX12_lands_95 ?_
      refine zt_bipush hC kb_7 dX12_lands_96 ?_
      refine zt_dup2 hC rfl rfl dX12_lands_98 ?_
      refine zt_ald hC h dX12_lands_99 (fun v16 h => ?_)
      refine zt_aload_n hC rfl dX12_lands_100 ?_
      refine zt_iload hC rfl dX12_lands_101 ?_
      refine zt_iconst hC ki_4 dX12_lands_103 ?_
      obtain ⟨v17, M18, h19, h⟩ := bnd_some h
      refine zt_callS (z := yX12_get) (As := [.ref x1, .int v7, .int (4 : Int32)]) (rest := [.int v16, .int (7 : Int32), .ref x1]) (st1 := (.int v17 :: [.int v16, .int (7 : Int32), .ref x1])) hC 3 (fun l hl => c_X12_get N x1 v7 (4 : Int32) M11 (v17, M18) h19 l hl) rfl wd_1112 wd_1110 wd_1111 wd_7 hd_X12_get rfl ⟨⟨(Nat.le_of_ble_eq_true rfl), (Nat.le_of_ble_eq_true rfl)⟩, (Nat.le_of_ble_eq_true rfl), (Nat.le_of_ble_eq_true rfl)⟩ rfl (Nat.le_of_ble_eq_true rfl) rfl dX12_lands_104 ?_
      refine zt_iadd hC dX12_lands_107 ?_
      refine zt_ast hC h dX12_lands_108 (fun M20 h => ?_)
      refine zt_aload_n hC rfl dX12_lands_109 ?_
      refine zt_bipush hC kb_8 dX12_lands_110 ?_
      refine zt_dup2 hC rfl rfl dX12_lands_112 ?_
      refine zt_ald hC h dX12_lands_113 (fun v21 h => ?_)
      refine zt_iconst hC ki_1 dX12_lands_114 ?_
      refine zt_iadd hC dX12_lands_115 ?_
      refine zt_ast hC h dX12_lands_116 (fun M22 h => ?_)
      refine zt_goto (tgt := 135) hC (by decide) dX12_lands_117 ?_
      refine zt_iinc (v := (x5 + (1 : Int32))) (lv' := [(5, .int (x5 + (1 : Int32))), (6, .int v7), (1, .ref x1), (2, .int x2), (3, .int x3), (4, .int x4)]) hC rfl (by rw [ki_1]) (by decide) rfl dX12_lands_135 ?_
      refine zt_goto (tgt := 61) hC (by decide) dX12_lands_138 ?_
      refine zt_keep [1, 2, 3, 4, 5] rfl ?_
      exact hk61 x1 x2 x3 x4 (x5 + (1 : Int32)) M22 h
theorem w_X12_lands_61 {X : Cx} {G : Gl} {r : (Unit × Mm)} (N : Nat) (hC : CX X G yX12_lands cX12_lands 7 none rm_X12_lands) (n : Nat) : ∀ (x1 : Nat) (x2 : Int32) (x3 : Int32) (x4 : Int32) (x5 : Int32) (M : Mm), l_X12_lands_61 N n x1 x2 x3 x4 x5 M = some r → TW X G 7 (RQ X G none r.2 rm_X12_lands) 0 0 M 61 [(1, .ref x1), (2, .int x2), (3, .int x3), (4, .int x4), (5, .int x5)] [] := by
  induction n with
  | zero => intro  x1 x2 x3 x4 x5 M h; cases (show none = some r from h)
  | succ n ih => intro  x1 x2 x3 x4 x5 M h; exact v_X12_lands_61 N hC (l_X12_lands_61 N n) ih x1 x2 x3 x4 x5 M h
def f_X12_lands (N : Nat) (x0 : Nat) (x1 : Nat) (x2 : Int32) (M : Mm) : Option (Unit × Mm) :=
bnd (f_X12_isAt N x1 x2 M) (fun v1 M2 =>
(if v1 = 0 then
bnd (f_X12_boatOf N x1 x2 (2 : Int32) M2) (fun v4 M5 =>
bnd (f_X12_sets N x1 x2 (2 : Int32) (v4 - (1 : Int32)) M5) (fun v7 M8 =>
bnd (f_X12_boatOf N x1 x2 (2 : Int32) M8) (fun v10 M11 =>
(if v10 ≤ 0 then
bnd (f_X12_boatOf N x1 x2 (1 : Int32) M11) (fun v13 M14 =>
bnd (f_X12_sets N x1 x2 (0 : Int32) v13 M14) (fun v16 M17 =>
bnd (f_X12_sets N x1 x2 (1 : Int32) (-4 : Int32) M17) (fun v19 M20 =>
l_X12_lands_61 N N x1 x2 v13 (0 : Int32) (0 : Int32) M20)))
else
some ((), M11)))))
else
some ((), M2)))
set_option maxRecDepth 100000 in
set_option maxHeartbeats 4000000 in
theorem c_X12_lands (N : Nat) (x0 : Nat) (x1 : Nat) (x2 : Int32) (M : Mm) (r : (Unit × Mm)) (h : f_X12_lands N x0 x1 x2 M = some r) (l : Launch) (hfl : l.flags = flags0) {G : Gl} : MT l G yX12_lands cX12_lands 7 none rm_X12_lands [.ref x0, .ref x1, .int x2] M none r.2 := by
  unfold f_X12_lands at h
  refine zt_start hfl (lv := [(0, .ref x0), (1, .ref x1), (2, .int x2)]) (by decide) (Nat.le_of_ble_eq_true rfl) rfl wd_1171 (fun X hC _ => ?_)
  refine zt_aload_n hC rfl dX12_lands_0 ?_
  refine zt_iload_n hC rfl dX12_lands_1 ?_
  obtain ⟨v1, M2, h3, h⟩ := bnd_some h
  refine zt_callS (z := yX12_isAt) (As := [.ref x1, .int x2]) (rest := []) (st1 := (.int v1 :: [])) hC 2 (fun l hl => c_X12_isAt N x1 x2 M (v1, M2) h3 l hl) rfl wd_1174 wd_1172 wd_1173 wd_7 hd_X12_isAt rfl ⟨⟨(Nat.le_of_ble_eq_true rfl), (Nat.le_of_ble_eq_true rfl)⟩, (Nat.le_of_ble_eq_true rfl), (Nat.le_of_ble_eq_true rfl)⟩ rfl (Nat.le_of_ble_eq_true rfl) rfl dX12_lands_2 ?_
  refine zt_if_eq (tgt := 9) hC h (by decide) dX12_lands_5 (fun h => ?_) (fun h => ?_)
  · refine zt_aload_n hC rfl dX12_lands_9 ?_
    refine zt_iload_n hC rfl dX12_lands_10 ?_
    refine zt_iconst hC ki_2 dX12_lands_11 ?_
    refine zt_aload_n hC rfl dX12_lands_12 ?_
    refine zt_iload_n hC rfl dX12_lands_13 ?_
    refine zt_iconst hC ki_2 dX12_lands_14 ?_
    obtain ⟨v4, M5, h6, h⟩ := bnd_some h
    refine zt_callS (z := yX12_boatOf) (As := [.ref x1, .int x2, .int (2 : Int32)]) (rest := [.int (2 : Int32), .int x2, .ref x1]) (st1 := (.int v4 :: [.int (2 : Int32), .int x2, .ref x1])) hC 3 (fun l hl => c_X12_boatOf N x1 x2 (2 : Int32) M2 (v4, M5) h6 l hl) rfl wd_1109 wd_1107 wd_1108 wd_7 hd_X12_boatOf rfl ⟨⟨(Nat.le_of_ble_eq_true rfl), (Nat.le_of_ble_eq_true rfl)⟩, (Nat.le_of_ble_eq_true rfl), (Nat.le_of_ble_eq_true rfl)⟩ rfl (Nat.le_of_ble_eq_true rfl) rfl dX12_lands_15 ?_
    refine zt_iconst hC ki_1 dX12_lands_18 ?_
    refine zt_isub hC dX12_lands_19 ?_
    obtain ⟨v7, M8, h9, h⟩ := bnd_some h
    refine zt_callS (z := yX12_sets) (As := [.ref x1, .int x2, .int (2 : Int32), .int (v4 - (1 : Int32))]) (rest := []) (st1 := []) hC 4 (fun l hl => c_X12_sets N x1 x2 (2 : Int32) (v4 - (1 : Int32)) M5 (v7, M8) h9 l hl) rfl wd_990 wd_988 wd_989 wd_7 hd_X12_sets rfl ⟨⟨(Nat.le_of_ble_eq_true rfl), (Nat.le_of_ble_eq_true rfl)⟩, (Nat.le_of_ble_eq_true rfl), (Nat.le_of_ble_eq_true rfl)⟩ rfl (Nat.le_of_ble_eq_true rfl) rfl dX12_lands_20 ?_
    refine zt_aload_n hC rfl dX12_lands_23 ?_
    refine zt_iload_n hC rfl dX12_lands_24 ?_
    refine zt_iconst hC ki_2 dX12_lands_25 ?_
    obtain ⟨v10, M11, h12, h⟩ := bnd_some h
    refine zt_callS (z := yX12_boatOf) (As := [.ref x1, .int x2, .int (2 : Int32)]) (rest := []) (st1 := (.int v10 :: [])) hC 3 (fun l hl => c_X12_boatOf N x1 x2 (2 : Int32) M8 (v10, M11) h12 l hl) rfl wd_1109 wd_1107 wd_1108 wd_7 hd_X12_boatOf rfl ⟨⟨(Nat.le_of_ble_eq_true rfl), (Nat.le_of_ble_eq_true rfl)⟩, (Nat.le_of_ble_eq_true rfl), (Nat.le_of_ble_eq_true rfl)⟩ rfl (Nat.le_of_ble_eq_true rfl) rfl dX12_lands_26 ?_
    refine zt_if_le (tgt := 33) hC h (by decide) dX12_lands_29 (fun h => ?_) (fun h => ?_)
    · refine zt_aload_n hC rfl dX12_lands_33 ?_
      refine zt_iload_n hC rfl dX12_lands_34 ?_
      refine zt_iconst hC ki_1 dX12_lands_35 ?_
      obtain ⟨v13, M14, h15, h⟩ := bnd_some h
      refine zt_callS (z := yX12_boatOf) (As := [.ref x1, .int x2, .int (1 : Int32)]) (rest := []) (st1 := (.int v13 :: [])) hC 3 (fun l hl => c_X12_boatOf N x1 x2 (1 : Int32) M11 (v13, M14) h15 l hl) rfl wd_1109 wd_1107 wd_1108 wd_7 hd_X12_boatOf rfl ⟨⟨(Nat.le_of_ble_eq_true rfl), (Nat.le_of_ble_eq_true rfl)⟩, (Nat.le_of_ble_eq_true rfl), (Nat.le_of_ble_eq_true rfl)⟩ rfl (Nat.le_of_ble_eq_true rfl) rfl dX12_lands_36 ?_
      refine zt_istore_n (lv' := [(3, .int v13), (0, .ref x0), (1, .ref x1), (2, .int x2)]) hC (by decide) rfl dX12_lands_39 ?_
      refine zt_aload_n hC rfl dX12_lands_40 ?_
      refine zt_iload_n hC rfl dX12_lands_41 ?_
      refine zt_iconst hC ki_0 dX12_lands_42 ?_
      refine zt_iload_n hC rfl dX12_lands_43 ?_
      obtain ⟨v16, M17, h18, h⟩ := bnd_some h
      refine zt_callS (z := yX12_sets) (As := [.ref x1, .int x2, .int (0 : Int32), .int v13]) (rest := []) (st1 := []) hC 4 (fun l hl => c_X12_sets N x1 x2 (0 : Int32) v13 M14 (v16, M17) h18 l hl) rfl wd_990 wd_988 wd_989 wd_7 hd_X12_sets rfl ⟨⟨(Nat.le_of_ble_eq_true rfl), (Nat.le_of_ble_eq_true rfl)⟩, (Nat.le_of_ble_eq_true rfl), (Nat.le_of_ble_eq_true rfl)⟩ rfl (Nat.le_of_ble_eq_true rfl) rfl dX12_lands_44 ?_
      refine zt_aload_n hC rfl dX12_lands_47 ?_
      refine zt_iload_n hC rfl dX12_lands_48 ?_
      refine zt_iconst hC ki_1 dX12_lands_49 ?_
      refine zt_bipush hC kb_m4 dX12_lands_50 ?_
      obtain ⟨v19, M20, h21, h⟩ := bnd_some h
      refine zt_callS (z := yX12_sets) (As := [.ref x1, .int x2, .int (1 : Int32), .int (-4 : Int32)]) (rest := []) (st1 := []) hC 4 (fun l hl => c_X12_sets N x1 x2 (1 : Int32) (-4 : Int32) M17 (v19, M20) h21 l hl) rfl wd_990 wd_988 wd_989 wd_7 hd_X12_sets rfl ⟨⟨(Nat.le_of_ble_eq_true rfl), (Nat.le_of_ble_eq_true rfl)⟩, (Nat.le_of_ble_eq_true rfl), (Nat.le_of_ble_eq_true rfl)⟩ rfl (Nat.le_of_ble_eq_true rfl) rfl dX12_lands_52 ?_
      refine zt_iconst hC ki_0 dX12_lands_55 ?_
      refine zt_istore (lv' := [(4, .int (0 : Int32)), (3, .int v13), (0, .ref x0), (1, .ref x1), (2, .int x2)]) hC (by decide) rfl dX12_lands_56 ?_
      refine zt_iconst hC ki_0 dX12_lands_58 ?_
      refine zt_istore (lv' := [(5, .int (0 : Int32)), (4, .int (0 : Int32)), (3, .int v13), (0, .ref x0), (1, .ref x1), (2, .int x2)]) hC (by decide) rfl dX12_lands_59 ?_
      refine zt_keep [1, 2, 3, 4, 5] rfl ?_
      exact w_X12_lands_61 N hC N x1 x2 v13 (0 : Int32) (0 : Int32) M20 h
    · obtain rfl := Option.some.inj h
      exact zt_vret hC rfl rfl (Nat.le_of_ble_eq_true rfl) (Nat.le_of_ble_eq_true rfl) dX12_lands_32
  · obtain rfl := Option.some.inj h
    exact zt_vret hC rfl rfl (Nat.le_of_ble_eq_true rfl) (Nat.le_of_ble_eq_true rfl) dX12_lands_8
def rm_X12_boards : Room := { frames := 1, cells := 0, slots := 0, locals := 25 }
theorem hd_X12_boards : yX12_boards.cls ≠ "java/lang/invoke/MethodHandle" ∧ yX12_boards.cls ≠ "java/lang/invoke/VarHandle" ∧ (parseMethodDescriptor yX12_boards.desc).map (fun d => d.parameters.length) = some 2 := by decide +kernel
def b_X12_boards_7 (N : Nat) (k7 : Nat → Nat → Int32 → Int32 → Mm → Option (Unit × Mm)) (x0 : Nat) (x1 : Nat) (x2 : Int32) (x3 : Int32) (M : Mm) : Option (Unit × Mm) :=
(if x3 < 0 then
some ((), M)
else
bnd (f_X12_standing N x1 x3 M) (fun v1 M2 =>
(if v1 ≤ 0 then
some ((), M2)
else
bnd (f_X12_boatOf N x1 x2 (3 : Int32) M2) (fun v4 M5 =>
ald M5 x1 (2 : Int32) (fun v7 =>
(if v7 ≤ v4 then
some ((), M5)
else
bnd (f_X12_boatOf N x1 x2 (3 : Int32) M5) (fun v8 M9 =>
ald M9 x1 (((74 : Int32) + ((25 : Int32) * x3)) + (1 : Int32)) (fun v11 =>
bnd (f_X12_sets N x1 x2 ((6 : Int32) + v8) v11 M9) (fun v12 M13 =>
bnd (f_X12_boatOf N x1 x2 (3 : Int32) M13) (fun v15 M16 =>
bnd (f_X12_sets N x1 x2 (3 : Int32) (v15 + (1 : Int32)) M16) (fun v18 M19 =>
ck 12 M19 x0 (bnd (f_X12_walks N x0 x1 x3 (0 : Int32) M19) (fun v21 M22 =>
k7 x0 x1 x2 x3 M22)))))))))))))
def l_X12_boards_7 (N : Nat) : Nat → Nat → Nat → Int32 → Int32 → Mm → Option (Unit × Mm)
  | 0 => fun _ _ _ _ _ => none
  | n + 1 => b_X12_boards_7 N (l_X12_boards_7 N n)
set_option maxRecDepth 100000 in
set_option maxHeartbeats 4000000 in
theorem v_X12_boards_7 {X : Cx} {G : Gl} {r : (Unit × Mm)} (N : Nat) (hC : CX X G yX12_boards cX12_boards 4 none rm_X12_boards) (k7 : Nat → Nat → Int32 → Int32 → Mm → Option (Unit × Mm)) (hk7 : ∀ (x0 : Nat) (x1 : Nat) (x2 : Int32) (x3 : Int32) (M : Mm), k7 x0 x1 x2 x3 M = some r → TW X G 4 (RQ X G none r.2 rm_X12_boards) 0 0 M 7 [(0, .ref x0), (1, .ref x1), (2, .int x2), (3, .int x3)] []) (x0 : Nat) (x1 : Nat) (x2 : Int32) (x3 : Int32) (M : Mm) (h : b_X12_boards_7 N k7 x0 x1 x2 x3 M = some r) : TW X G 4 (RQ X G none r.2 rm_X12_boards) 0 0 M 7 [(0, .ref x0), (1, .ref x1), (2, .int x2), (3, .int x3)] [] := by
  unfold b_X12_boards_7 at h
  refine zt_iload_n hC rfl dX12_boards_7 ?_
  refine zt_if_lt (tgt := 80) hC h (by decide) dX12_boards_8 (fun h => ?_) (fun h => ?_)
  · obtain rfl := Option.some.inj h
    exact zt_vret hC rfl rfl (Nat.le_of_ble_eq_true rfl) (Nat.le_of_ble_eq_true rfl) dX12_boards_80
  · refine zt_aload_n hC rfl dX12_boards_11 ?_
    refine zt_iload_n hC rfl dX12_boards_12 ?_
    obtain ⟨v1, M2, h3, h⟩ := bnd_some h
    refine zt_callS (z := yX12_standing) (As := [.ref x1, .int x3]) (rest := []) (st1 := (.int v1 :: [])) hC 2 (fun l hl => c_X12_standing N x1 x3 M (v1, M2) h3 l hl) rfl wd_1106 wd_1104 wd_1105 wd_7 hd_X12_standing rfl ⟨⟨(Nat.le_of_ble_eq_true rfl), (Nat.le_of_ble_eq_true rfl)⟩, (Nat.le_of_ble_eq_true rfl), (Nat.le_of_ble_eq_true rfl)⟩ rfl (Nat.le_of_ble_eq_true rfl) rfl dX12_boards_13 ?_
    refine zt_if_le (tgt := 80) hC h (by decide) dX12_boards_16 (fun h => ?_) (fun h => ?_)
    · obtain rfl := Option.some.inj h
      exact zt_vret hC rfl rfl (Nat.le_of_ble_eq_true rfl) (Nat.le_of_ble_eq_true rfl) dX12_boards_80
    · refine zt_aload_n hC rfl dX12_boards_19 ?_
      refine zt_iload_n hC rfl dX12_boards_20 ?_
      refine zt_iconst hC ki_3 dX12_boards_21 ?_
      obtain ⟨v4, M5, h6, h⟩ := bnd_some h
      refine zt_callS (z := yX12_boatOf) (As := [.ref x1, .int x2, .int (3 : Int32)]) (rest := []) (st1 := (.int v4 :: [])) hC 3 (fun l hl => c_X12_boatOf N x1 x2 (3 : Int32) M2 (v4, M5) h6 l hl) rfl wd_1109 wd_1107 wd_1108 wd_7 hd_X12_boatOf rfl ⟨⟨(Nat.le_of_ble_eq_true rfl), (Nat.le_of_ble_eq_true rfl)⟩, (Nat.le_of_ble_eq_true rfl), (Nat.le_of_ble_eq_true rfl)⟩ rfl (Nat.le_of_ble_eq_true rfl) rfl dX12_boards_22 ?_
      refine zt_aload_n hC rfl dX12_boards_25 ?_
      refine zt_iconst hC ki_2 dX12_boards_26 ?_
      refine zt_ald hC h dX12_boards_27 (fun v7 h => ?_)
      refine zt_icmp_ge (tgt := 80) hC h (by decide) dX12_boards_28 (fun h => ?_) (fun h => ?_)
      · obtain rfl := Option.some.inj h
        exact zt_vret hC rfl rfl (Nat.le_of_ble_eq_true rfl) (Nat.le_of_ble_eq_true rfl) dX12_boards_80
      · refine zt_aload_n hC rfl dX12_boards_31 ?_
        refine zt_iload_n hC rfl dX12_boards_32 ?_
        refine zt_bipush hC kb_6 dX12_boards_33 ?_
        refine zt_aload_n hC rfl dX12_boards_35 ?_
        refine zt_iload_n hC rfl dX12_boards_36 ?_
        refine zt_iconst hC ki_3 dX12_boards_37 ?_
        obtain ⟨v8, M9, h10, h⟩ := bnd_some h
        refine zt_callS (z := yX12_boatOf) (As := [.ref x1, .int x2, .int (3 : Int32)]) (rest := [.int (6 : Int32), .int x2, .ref x1]) (st1 := (.int v8 :: [.int (6 : Int32), .int x2, .ref x1])) hC 3 (fun l hl => c_X12_boatOf N x1 x2 (3 : Int32) M5 (v8, M9) h10 l hl) rfl wd_1109 wd_1107 wd_1108 wd_7 hd_X12_boatOf rfl ⟨⟨(Nat.le_of_ble_eq_true rfl), (Nat.le_of_ble_eq_true rfl)⟩, (Nat.le_of_ble_eq_true rfl), (Nat.le_of_ble_eq_true rfl)⟩ rfl (Nat.le_of_ble_eq_true rfl) rfl dX12_boards_38 ?_
        refine zt_iadd hC dX12_boards_41 ?_
        refine zt_aload_n hC rfl dX12_boards_42 ?_
        refine zt_bipush hC kb_74 dX12_boards_43 ?_
        refine zt_bipush hC kb_25 dX12_boards_45 ?_
        refine zt_iload_n hC rfl dX12_boards_47 ?_
        refine zt_imul hC dX12_boards_48 ?_
        refine zt_iadd hC dX12_boards_49 ?_
        refine zt_iconst hC ki_1 dX12_boards_50 ?_
        refine zt_iadd hC dX12_boards_51 ?_
        refine zt_ald hC h dX12_boards_52 (fun v11 h => ?_)
        obtain ⟨v12, M13, h14, h⟩ := bnd_some h
        refine zt_callS (z := yX12_sets) (As := [.ref x1, .int x2, .int ((6 : Int32) + v8), .int v11]) (rest := []) (st1 := []) hC 4 (fun l hl => c_X12_sets N x1 x2 ((6 : Int32) + v8) v11 M9 (v12, M13) h14 l hl) rfl wd_990 wd_988 wd_989 wd_7 hd_X12_sets rfl ⟨⟨(Nat.le_of_ble_eq_true rfl), (Nat.le_of_ble_eq_true rfl)⟩, (Nat.le_of_ble_eq_true rfl), (Nat.le_of_ble_eq_true rfl)⟩ rfl (Nat.le_of_ble_eq_true rfl) rfl dX12_boards_53 ?_
        refine zt_aload_n hC rfl dX12_boards_56 ?_
        refine zt_iload_n hC rfl dX12_boards_57 ?_
        refine zt_iconst hC ki_3 dX12_boards_58 ?_
        refine zt_aload_n hC rfl dX12_boards_59 ?_
        refine zt_iload_n hC rfl dX12_boards_60 ?_
        refine zt_iconst hC ki_3 dX12_boards_61 ?_
        obtain ⟨v15, M16, h17, h⟩ := bnd_some h
        refine zt_callS (z := yX12_boatOf) (As := [.ref x1, .int x2, .int (3 : Int32)]) (rest := [.int (3 : Int32), .int x2, .ref x1]) (st1 := (.int v15 :: [.int (3 : Int32), .int x2, .ref x1])) hC 3 (fun l hl => c_X12_boatOf N x1 x2 (3 : Int32) M13 (v15, M16) h17 l hl) rfl wd_1109 wd_1107 wd_1108 wd_7 hd_X12_boatOf rfl ⟨⟨(Nat.le_of_ble_eq_true rfl), (Nat.le_of_ble_eq_true rfl)⟩, (Nat.le_of_ble_eq_true rfl), (Nat.le_of_ble_eq_true rfl)⟩ rfl (Nat.le_of_ble_eq_true rfl) rfl dX12_boards_62 ?_
        refine zt_iconst hC ki_1 dX12_boards_65 ?_
        refine zt_iadd hC dX12_boards_66 ?_
        obtain ⟨v18, M19, h20, h⟩ := bnd_some h
        refine zt_callS (z := yX12_sets) (As := [.ref x1, .int x2, .int (3 : Int32), .int (v15 + (1 : Int32))]) (rest := []) (st1 := []) hC 4 (fun l hl => c_X12_sets N x1 x2 (3 : Int32) (v15 + (1 : Int32)) M16 (v18, M19) h20 l hl) rfl wd_990 wd_988 wd_989 wd_7 hd_X12_sets rfl ⟨⟨(Nat.le_of_ble_eq_true rfl), (Nat.le_of_ble_eq_true rfl)⟩, (Nat.le_of_ble_eq_true rfl), (Nat.le_of_ble_eq_true rfl)⟩ rfl (Nat.le_of_ble_eq_true rfl) rfl dX12_boards_67 ?_
        refine zt_aload_n hC rfl dX12_boards_70 ?_
        refine zt_aload_n hC rfl dX12_boards_71 ?_
        refine zt_iload_n hC rfl dX12_boards_72 ?_
        refine zt_iconst hC ki_0 dX12_boards_73 ?_
        obtain ⟨hk, h⟩ := ck_some h
        obtain ⟨v21, M22, h23, h⟩ := bnd_some h
        refine zt_callV (z := yX12_walks) (As := [.ref x1, .int x3, .int (0 : Int32)]) (rest := []) (st1 := []) hC 3 hk cl12 (fun l hl => c_X12_walks N x0 x1 x3 (0 : Int32) M19 (v21, M22) h23 l hl) rfl wd_1182 wd_1179 wd_1181 ws_37 wd_7 hd_X12_walks rfl ⟨⟨(Nat.le_of_ble_eq_true rfl), (Nat.le_of_ble_eq_true rfl)⟩, (Nat.le_of_ble_eq_true rfl), (Nat.le_of_ble_eq_true rfl)⟩ rfl (Nat.le_of_ble_eq_true rfl) rfl dX12_boards_74 ?_
        refine zt_goto (tgt := 7) hC (by decide) dX12_boards_77 ?_
        refine zt_keep [0, 1, 2, 3] rfl ?_
        exact hk7 x0 x1 x2 x3 M22 h
theorem w_X12_boards_7 {X : Cx} {G : Gl} {r : (Unit × Mm)} (N : Nat) (hC : CX X G yX12_boards cX12_boards 4 none rm_X12_boards) (n : Nat) : ∀ (x0 : Nat) (x1 : Nat) (x2 : Int32) (x3 : Int32) (M : Mm), l_X12_boards_7 N n x0 x1 x2 x3 M = some r → TW X G 4 (RQ X G none r.2 rm_X12_boards) 0 0 M 7 [(0, .ref x0), (1, .ref x1), (2, .int x2), (3, .int x3)] [] := by
  induction n with
  | zero => intro  x0 x1 x2 x3 M h; cases (show none = some r from h)
  | succ n ih => intro  x0 x1 x2 x3 M h; exact v_X12_boards_7 N hC (l_X12_boards_7 N n) ih x0 x1 x2 x3 M h
def f_X12_boards (N : Nat) (x0 : Nat) (x1 : Nat) (x2 : Int32) (M : Mm) : Option (Unit × Mm) :=
bnd (f_X12_boatOf N x1 x2 (0 : Int32) M) (fun v1 M2 =>
l_X12_boards_7 N N x0 x1 x2 v1 M2)
set_option maxRecDepth 100000 in
set_option maxHeartbeats 4000000 in
theorem c_X12_boards (N : Nat) (x0 : Nat) (x1 : Nat) (x2 : Int32) (M : Mm) (r : (Unit × Mm)) (h : f_X12_boards N x0 x1 x2 M = some r) (l : Launch) (hfl : l.flags = flags0) {G : Gl} : MT l G yX12_boards cX12_boards 4 none rm_X12_boards [.ref x0, .ref x1, .int x2] M none r.2 := by
  unfold f_X12_boards at h
  refine zt_start hfl (lv := [(0, .ref x0), (1, .ref x1), (2, .int x2)]) (by decide) (Nat.le_of_ble_eq_true rfl) rfl wd_1178 (fun X hC _ => ?_)
  refine zt_aload_n hC rfl dX12_boards_0 ?_
  refine zt_iload_n hC rfl dX12_boards_1 ?_
  refine zt_iconst hC ki_0 dX12_boards_2 ?_
  obtain ⟨v1, M2, h3, h⟩ := bnd_some h
  refine zt_callS (z := yX12_boatOf) (As := [.ref x1, .int x2, .int (0 : Int32)]) (rest := []) (st1 := (.int v1 :: [])) hC 3 (fun l hl => c_X12_boatOf N x1 x2 (0 : Int32) M (v1, M2) h3 l hl) rfl wd_1109 wd_1107 wd_1108 wd_7 hd_X12_boatOf rfl ⟨⟨(Nat.le_of_ble_eq_true rfl), (Nat.le_of_ble_eq_true rfl)⟩, (Nat.le_of_ble_eq_true rfl), (Nat.le_of_ble_eq_true rfl)⟩ rfl (Nat.le_of_ble_eq_true rfl) rfl dX12_boards_3 ?_
  refine zt_istore_n (lv' := [(3, .int v1), (0, .ref x0), (1, .ref x1), (2, .int x2)]) hC (by decide) rfl dX12_boards_6 ?_
  refine zt_keep [0, 1, 2, 3] rfl ?_
  exact w_X12_boards_7 N hC N x0 x1 x2 v1 M2 h
def rm_X12_leaves : Room := { frames := 1, cells := 0, slots := 0, locals := 23 }
theorem hd_X12_leaves : yX12_leaves.cls ≠ "java/lang/invoke/MethodHandle" ∧ yX12_leaves.cls ≠ "java/lang/invoke/VarHandle" ∧ (parseMethodDescriptor yX12_leaves.desc).map (fun d => d.parameters.length) = some 3 := by decide +kernel
def f_X12_leaves (N : Nat) (x0 : Nat) (x1 : Int32) (x2 : Int32) (M : Mm) : Option (Unit × Mm) :=
bnd (f_X12_boatOf N x0 x1 (0 : Int32) M) (fun v1 M2 =>
ald M2 x0 (((9 : Int32) + ((4 : Int32) * v1)) + x2) (fun v4 =>
bnd (f_X12_sets N x0 x1 (2 : Int32) v4 M2) (fun v5 M6 =>
bnd (f_X12_sets N x0 x1 (1 : Int32) x2 M6) (fun v8 M9 =>
bnd (f_X12_sets N x0 x1 (0 : Int32) (-4 : Int32) M9) (fun v11 M12 =>
some ((), M12))))))
set_option maxRecDepth 100000 in
set_option maxHeartbeats 4000000 in
theorem c_X12_leaves (N : Nat) (x0 : Nat) (x1 : Int32) (x2 : Int32) (M : Mm) (r : (Unit × Mm)) (h : f_X12_leaves N x0 x1 x2 M = some r) (l : Launch) (hfl : l.flags = flags0) {G : Gl} : MT l G yX12_leaves cX12_leaves 3 none rm_X12_leaves [.ref x0, .int x1, .int x2] M none r.2 := by
  unfold f_X12_leaves at h
  refine zt_start hfl (lv := [(0, .ref x0), (1, .int x1), (2, .int x2)]) (by decide) (Nat.le_of_ble_eq_true rfl) rfl wd_1210 (fun X hC _ => ?_)
  refine zt_aload_n hC rfl dX12_leaves_0 ?_
  refine zt_iload_n hC rfl dX12_leaves_1 ?_
  refine zt_iconst hC ki_2 dX12_leaves_2 ?_
  refine zt_aload_n hC rfl dX12_leaves_3 ?_
  refine zt_bipush hC kb_9 dX12_leaves_4 ?_
  refine zt_iconst hC ki_4 dX12_leaves_6 ?_
  refine zt_aload_n hC rfl dX12_leaves_7 ?_
  refine zt_iload_n hC rfl dX12_leaves_8 ?_
  refine zt_iconst hC ki_0 dX12_leaves_9 ?_
  obtain ⟨v1, M2, h3, h⟩ := bnd_some h
  refine zt_callS (z := yX12_boatOf) (As := [.ref x0, .int x1, .int (0 : Int32)]) (rest := [.int (4 : Int32), .int (9 : Int32), .ref x0, .int (2 : Int32), .int x1, .ref x0]) (st1 := (.int v1 :: [.int (4 : Int32), .int (9 : Int32), .ref x0, .int (2 : Int32), .int x1, .ref x0])) hC 3 (fun l hl => c_X12_boatOf N x0 x1 (0 : Int32) M (v1, M2) h3 l hl) rfl wd_1109 wd_1107 wd_1108 wd_7 hd_X12_boatOf rfl ⟨⟨(Nat.le_of_ble_eq_true rfl), (Nat.le_of_ble_eq_true rfl)⟩, (Nat.le_of_ble_eq_true rfl), (Nat.le_of_ble_eq_true rfl)⟩ rfl (Nat.le_of_ble_eq_true rfl) rfl dX12_leaves_10 ?_
  refine zt_imul hC dX12_leaves_13 ?_
  refine zt_iadd hC dX12_leaves_14 ?_
  refine zt_iload_n hC rfl dX12_leaves_15 ?_
  refine zt_iadd hC dX12_leaves_16 ?_
  refine zt_ald hC h dX12_leaves_17 (fun v4 h => ?_)
  obtain ⟨v5, M6, h7, h⟩ := bnd_some h
  refine zt_callS (z := yX12_sets) (As := [.ref x0, .int x1, .int (2 : Int32), .int v4]) (rest := []) (st1 := []) hC 4 (fun l hl => c_X12_sets N x0 x1 (2 : Int32) v4 M2 (v5, M6) h7 l hl) rfl wd_990 wd_988 wd_989 wd_7 hd_X12_sets rfl ⟨⟨(Nat.le_of_ble_eq_true rfl), (Nat.le_of_ble_eq_true rfl)⟩, (Nat.le_of_ble_eq_true rfl), (Nat.le_of_ble_eq_true rfl)⟩ rfl (Nat.le_of_ble_eq_true rfl) rfl dX12_leaves_18 ?_
  refine zt_aload_n hC rfl dX12_leaves_21 ?_
  refine zt_iload_n hC rfl dX12_leaves_22 ?_
  refine zt_iconst hC ki_1 dX12_leaves_23 ?_
  refine zt_iload_n hC rfl dX12_leaves_24 ?_
  obtain ⟨v8, M9, h10, h⟩ := bnd_some h
  refine zt_callS (z := yX12_sets) (As := [.ref x0, .int x1, .int (1 : Int32), .int x2]) (rest := []) (st1 := []) hC 4 (fun l hl => c_X12_sets N x0 x1 (1 : Int32) x2 M6 (v8, M9) h10 l hl) rfl wd_990 wd_988 wd_989 wd_7 hd_X12_sets rfl ⟨⟨(Nat.le_of_ble_eq_true rfl), (Nat.le_of_ble_eq_true rfl)⟩, (Nat.le_of_ble_eq_true rfl), (Nat.le_of_ble_eq_true rfl)⟩ rfl (Nat.le_of_ble_eq_true rfl) rfl dX12_leaves_25 ?_
  refine zt_aload_n hC rfl dX12_leaves_28 ?_
  refine zt_iload_n hC rfl dX12_leaves_29 ?_
  refine zt_iconst hC ki_0 dX12_leaves_30 ?_
  refine zt_bipush hC kb_m4 dX12_leaves_31 ?_
  obtain ⟨v11, M12, h13, h⟩ := bnd_some h
  refine zt_callS (z := yX12_sets) (As := [.ref x0, .int x1, .int (0 : Int32), .int (-4 : Int32)]) (rest := []) (st1 := []) hC 4 (fun l hl => c_X12_sets N x0 x1 (0 : Int32) (-4 : Int32) M9 (v11, M12) h13 l hl) rfl wd_990 wd_988 wd_989 wd_7 hd_X12_sets rfl ⟨⟨(Nat.le_of_ble_eq_true rfl), (Nat.le_of_ble_eq_true rfl)⟩, (Nat.le_of_ble_eq_true rfl), (Nat.le_of_ble_eq_true rfl)⟩ rfl (Nat.le_of_ble_eq_true rfl) rfl dX12_leaves_33 ?_
  obtain rfl := Option.some.inj h
  exact zt_vret hC rfl rfl (Nat.le_of_ble_eq_true rfl) (Nat.le_of_ble_eq_true rfl) dX12_leaves_36
def rm_X12_asks : Room := { frames := 3, cells := 0, slots := 0, locals := 73 }
theorem hd_X12_asks : yX12_asks.cls ≠ "java/lang/invoke/MethodHandle" ∧ yX12_asks.cls ≠ "java/lang/invoke/VarHandle" ∧ (parseMethodDescriptor yX12_asks.desc).map (fun d => d.parameters.length) = some 2 := by decide +kernel
def j_X12_asks_71 (N : Nat) (x1 : Nat) (x2 : Int32) (x3 : Int32) (M : Mm) : Option (Unit × Mm) :=
(if x3 < 0 then
some ((), M)
else
bnd (f_X12_leaves N x1 x2 x3 M) (fun v1 M2 =>
some ((), M2)))
set_option maxRecDepth 100000 in
set_option maxHeartbeats 4000000 in
theorem w_X12_asks_71 {X : Cx} {G : Gl} {r : (Unit × Mm)} (N : Nat) (hC : CX X G yX12_asks cX12_asks 4 none rm_X12_asks) (x1 : Nat) (x2 : Int32) (x3 : Int32) (M : Mm) (h : j_X12_asks_71 N x1 x2 x3 M = some r) : TW X G 4 (RQ X G none r.2 rm_X12_asks) 0 0 M 71 [(1, .ref x1), (2, .int x2), (3, .int x3)] [] := by
  unfold j_X12_asks_71 at h
  refine zt_iload_n hC rfl dX12_asks_71 ?_
  refine zt_if_lt (tgt := 81) hC h (by decide) dX12_asks_72 (fun h => ?_) (fun h => ?_)
  · obtain rfl := Option.some.inj h
    exact zt_vret hC rfl rfl (Nat.le_of_ble_eq_true rfl) (Nat.le_of_ble_eq_true rfl) dX12_asks_81
  · refine zt_aload_n hC rfl dX12_asks_75 ?_
    refine zt_iload_n hC rfl dX12_asks_76 ?_
    refine zt_iload_n hC rfl dX12_asks_77 ?_
    obtain ⟨v1, M2, h3, h⟩ := bnd_some h
    refine zt_callS (z := yX12_leaves) (As := [.ref x1, .int x2, .int x3]) (rest := []) (st1 := []) hC 3 (fun l hl => c_X12_leaves N x1 x2 x3 M (v1, M2) h3 l hl) rfl wd_1210 wd_1208 wd_1209 wd_7 hd_X12_leaves rfl ⟨⟨(Nat.le_of_ble_eq_true rfl), (Nat.le_of_ble_eq_true rfl)⟩, (Nat.le_of_ble_eq_true rfl), (Nat.le_of_ble_eq_true rfl)⟩ rfl (Nat.le_of_ble_eq_true rfl) rfl dX12_asks_78 ?_
    obtain rfl := Option.some.inj h
    exact zt_vret hC rfl rfl (Nat.le_of_ble_eq_true rfl) (Nat.le_of_ble_eq_true rfl) dX12_asks_81
def j_X12_asks_68 (N : Nat) (x1 : Nat) (x2 : Int32) (M : Mm) : Option (Unit × Mm) :=
j_X12_asks_71 N x1 x2 (-4 : Int32) M
set_option maxRecDepth 100000 in
set_option maxHeartbeats 4000000 in
theorem w_X12_asks_68 {X : Cx} {G : Gl} {r : (Unit × Mm)} (N : Nat) (hC : CX X G yX12_asks cX12_asks 4 none rm_X12_asks) (x1 : Nat) (x2 : Int32) (M : Mm) (h : j_X12_asks_68 N x1 x2 M = some r) : TW X G 4 (RQ X G none r.2 rm_X12_asks) 0 0 M 68 [(1, .ref x1), (2, .int x2)] [] := by
  unfold j_X12_asks_68 at h
  refine zt_bipush hC kb_m4 dX12_asks_68 ?_
  refine zt_istore_n (lv' := [(3, .int (-4 : Int32)), (1, .ref x1), (2, .int x2)]) hC (by decide) rfl dX12_asks_70 ?_
  refine zt_keep [1, 2, 3] rfl ?_
  exact w_X12_asks_71 N hC x1 x2 (-4 : Int32) M h
def f_X12_asks (N : Nat) (x0 : Nat) (x1 : Nat) (x2 : Int32) (M : Mm) : Option (Unit × Mm) :=
bnd (f_X12_isAt N x1 x2 M) (fun v1 M2 =>
(if v1 = 0 then
some ((), M2)
else
bnd (f_X12_goesTo N x1 x2 M2) (fun v4 M5 =>
gI 12 M5 x0 18 (fun v7 =>
(if v7 ≤ 0 then
j_X12_asks_71 N x1 x2 v4 M5
else
gI 12 M5 x0 17 (fun v8 =>
gI 12 M5 x0 17 (fun v9 =>
pI 12 M5 x0 17 (v9 / (5 : Int32)) (fun M10 =>
gI 12 M10 x0 18 (fun v11 =>
pI 12 M10 x0 18 (v11 - (1 : Int32)) (fun M12 =>
bnd (f_X12_boatOf N x1 x2 (0 : Int32) M12) (fun v13 M14 =>
(if ((v8 - v8 / (5 : Int32) * (5 : Int32)) - (1 : Int32)) = v13 then
j_X12_asks_68 N x1 x2 M14
else
ald M14 x1 (0 : Int32) (fun v16 =>
(if ((v8 - v8 / (5 : Int32) * (5 : Int32)) - (1 : Int32)) < v16 then
j_X12_asks_71 N x1 x2 ((v8 - v8 / (5 : Int32) * (5 : Int32)) - (1 : Int32)) M14
else
j_X12_asks_68 N x1 x2 M14))))))))))))))
set_option maxRecDepth 100000 in
set_option maxHeartbeats 4000000 in
theorem c_X12_asks (N : Nat) (x0 : Nat) (x1 : Nat) (x2 : Int32) (M : Mm) (r : (Unit × Mm)) (h : f_X12_asks N x0 x1 x2 M = some r) (l : Launch) (hfl : l.flags = flags0) {G : Gl} : MT l G yX12_asks cX12_asks 4 none rm_X12_asks [.ref x0, .ref x1, .int x2] M none r.2 := by
  unfold f_X12_asks at h
  refine zt_start hfl (lv := [(0, .ref x0), (1, .ref x1), (2, .int x2)]) (by decide) (Nat.le_of_ble_eq_true rfl) rfl wd_1186 (fun X hC _ => ?_)
  refine zt_aload_n hC rfl dX12_asks_0 ?_
  refine zt_iload_n hC rfl dX12_asks_1 ?_
  obtain ⟨v1, M2, h3, h⟩ := bnd_some h
  refine zt_callS (z := yX12_isAt) (As := [.ref x1, .int x2]) (rest := []) (st1 := (.int v1 :: [])) hC 2 (fun l hl => c_X12_isAt N x1 x2 M (v1, M2) h3 l hl) rfl wd_1174 wd_1172 wd_1173 wd_7 hd_X12_isAt rfl ⟨⟨(Nat.le_of_ble_eq_true rfl), (Nat.le_of_ble_eq_true rfl)⟩, (Nat.le_of_ble_eq_true rfl), (Nat.le_of_ble_eq_true rfl)⟩ rfl (Nat.le_of_ble_eq_true rfl) rfl dX12_asks_2 ?_
  refine zt_if_ne (tgt := 9) hC h (by decide) dX12_asks_5 (fun h => ?_) (fun h => ?_)
  · refine zt_aload_n hC rfl dX12_asks_9 ?_
    refine zt_iload_n hC rfl dX12_asks_10 ?_
    obtain ⟨v4, M5, h6, h⟩ := bnd_some h
    refine zt_callS (z := yX12_goesTo) (As := [.ref x1, .int x2]) (rest := []) (st1 := (.int v4 :: [])) hC 2 (fun l hl => c_X12_goesTo N x1 x2 M2 (v4, M5) h6 l hl) rfl wd_1189 wd_1187 wd_1188 wd_7 hd_X12_goesTo rfl ⟨⟨(Nat.le_of_ble_eq_true rfl), (Nat.le_of_ble_eq_true rfl)⟩, (Nat.le_of_ble_eq_true rfl), (Nat.le_of_ble_eq_true rfl)⟩ rfl (Nat.le_of_ble_eq_true rfl) rfl dX12_asks_11 ?_
    refine zt_istore_n (lv' := [(3, .int v4), (0, .ref x0), (1, .ref x1), (2, .int x2)]) hC (by decide) rfl dX12_asks_14 ?_
    refine zt_aload_n hC rfl dX12_asks_15 ?_
    refine zt_gI hC h cl12 (k := 18) (by decide) rfl wd_1009 (Or.inl rfl) dX12_asks_16 (fun v7 h => ?_)
    refine zt_if_le (tgt := 71) hC h (by decide) dX12_asks_19 (fun h => ?_) (fun h => ?_)
    · refine zt_keep [1, 2, 3] rfl ?_
      exact w_X12_asks_71 N hC x1 x2 v4 M5 h
    · refine zt_aload_n hC rfl dX12_asks_22 ?_
      refine zt_gI hC h cl12 (k := 17) (by decide) rfl wd_1008 (Or.inl rfl) dX12_asks_23 (fun v8 h => ?_)
      refine zt_iconst hC ki_5 dX12_asks_26 ?_
      refine zt_iremc hC (by decide) dX12_asks_27 ?_
      refine zt_iconst hC ki_1 dX12_asks_28 ?_
      refine zt_isub hC dX12_asks_29 ?_
      refine zt_istore_n (lv' := [(3, .int ((v8 - v8 / (5 : Int32) * (5 : Int32)) - (1 : Int32))), (0, .ref x0), (1, .ref x1), (2, .int x2)]) hC (by decide) rfl dX12_asks_30 ?_
      refine zt_aload_n hC rfl dX12_asks_31 ?_
      refine zt_dup hC rfl dX12_asks_32 ?_
      refine zt_gI hC h cl12 (k := 17) (by decide) rfl wd_1008 (Or.inl rfl) dX12_asks_33 (fun v9 h => ?_)
      refine zt_iconst hC ki_5 dX12_asks_36 ?_
      refine zt_idivc hC (by decide) dX12_asks_37 ?_
      refine zt_pI hC h cl12 (k := 17) (by decide) rfl wd_1008 (Or.inl rfl) (Or.inl rfl) dX12_asks_38 (fun M10 h => ?_)
      refine zt_aload_n hC rfl dX12_asks_41 ?_
      refine zt_dup hC rfl dX12_asks_42 ?_
      refine zt_gI hC h cl12 (k := 18) (by decide) rfl wd_1009 (Or.inl rfl) dX12_asks_43 (fun v11 h => ?_)
      refine zt_iconst hC ki_1 dX12_asks_46 ?_
      refine zt_isub hC dX12_asks_47 ?_
      refine zt_pI hC h cl12 (k := 18) (by decide) rfl wd_1009 (Or.inl rfl) (Or.inl rfl) dX12_asks_48 (fun M12 h => ?_)
      refine zt_iload_n hC rfl dX12_asks_51 ?_
      refine zt_aload_n hC rfl dX12_asks_52 ?_
      refine zt_iload_n hC rfl dX12_asks_53 ?_
      refine zt_iconst hC ki_0 dX12_asks_54 ?_
      obtain ⟨v13, M14, h15, h⟩ := bnd_some h
      refine zt_callS (z := yX12_boatOf) (As := [.ref x1, .int x2, .int (0 : Int32)]) (rest := [.int ((v8 - v8 / (5 : Int32) * (5 : Int32)) - (1 : Int32))]) (st1 := (.int v13 :: [.int ((v8 - v8 / (5 : Int32) * (5 : Int32)) - (1 : Int32))])) hC 3 (fun l hl => c_X12_boatOf N x1 x2 (0 : Int32) M12 (v13, M14) h15 l hl) rfl wd_1109 wd_1107 wd_1108 wd_7 hd_X12_boatOf rfl ⟨⟨(Nat.le_of_ble_eq_true rfl), (Nat.le_of_ble_eq_true rfl)⟩, (Nat.le_of_ble_eq_true rfl), (Nat.le_of_ble_eq_true rfl)⟩ rfl (Nat.le_of_ble_eq_true rfl) rfl dX12_asks_55 ?_
      refine zt_icmp_eq (tgt := 68) hC h (by decide) dX12_asks_58 (fun h => ?_) (fun h => ?_)
      · refine zt_keep [1, 2] rfl ?_
        exact w_X12_asks_68 N hC x1 x2 M14 h
      · refine zt_iload_n hC rfl dX12_asks_61 ?_
        refine zt_aload_n hC rfl dX12_asks_62 ?_
        refine zt_iconst hC ki_0 dX12_asks_63 ?_
        refine zt_ald hC h dX12_asks_64 (fun v16 h => ?_)
        refine zt_icmp_lt (tgt := 71) hC h (by decide) dX12_asks_65 (fun h => ?_) (fun h => ?_)
        · refine zt_keep [1, 2, 3] rfl ?_
          exact w_X12_asks_71 N hC x1 x2 ((v8 - v8 / (5 : Int32) * (5 : Int32)) - (1 : Int32)) M14 h
        · refine zt_keep [1, 2] rfl ?_
          exact w_X12_asks_68 N hC x1 x2 M14 h
  · obtain rfl := Option.some.inj h
    exact zt_vret hC rfl rfl (Nat.le_of_ble_eq_true rfl) (Nat.le_of_ble_eq_true rfl) dX12_asks_8
def rm_X12_waits : Room := { frames := 1, cells := 0, slots := 0, locals := 25 }
theorem hd_X12_waits : yX12_waits.cls ≠ "java/lang/invoke/MethodHandle" ∧ yX12_waits.cls ≠ "java/lang/invoke/VarHandle" ∧ (parseMethodDescriptor yX12_waits.desc).map (fun d => d.parameters.length) = some 1 := by decide +kernel
def b_X12_waits_11 (N : Nat) (k2 : Nat → Nat → Int32 → Mm → Option (Unit × Mm)) (k11 : Nat → Nat → Int32 → Int32 → Mm → Option (Unit × Mm)) (x0 : Nat) (x1 : Nat) (x2 : Int32) (x3 : Int32) (M : Mm) : Option (Unit × Mm) :=
bnd (f_X12_standing N x1 x2 M) (fun v1 M2 =>
(if v1 ≤ x3 then
k2 x0 x1 (x2 + (1 : Int32)) M2
else
ald M2 x1 ((((74 : Int32) + ((25 : Int32) * x2)) + (13 : Int32)) + x3) (fun v4 =>
ast M2 x1 ((((74 : Int32) + ((25 : Int32) * x2)) + (13 : Int32)) + x3) (v4 + (1 : Int32)) (fun M5 =>
ald M5 x1 (5 : Int32) (fun v6 =>
ast M5 x1 (5 : Int32) (v6 + (1 : Int32)) (fun M7 =>
ald M7 x1 ((((74 : Int32) + ((25 : Int32) * x2)) + (13 : Int32)) + x3) (fun v8 =>
ald M7 x1 ((((74 : Int32) + ((25 : Int32) * x2)) + (1 : Int32)) + x3) (fun v9 =>
bnd (f_X12_get N x1 v9 (3 : Int32) M7) (fun v10 M11 =>
(if v8 < v10 then
k11 x0 x1 x2 (x3 + (1 : Int32)) M11
else
ald M11 x1 (6 : Int32) (fun v13 =>
ast M11 x1 (6 : Int32) (v13 + (1 : Int32)) (fun M14 =>
ck 12 M14 x0 (bnd (f_X12_walks N x0 x1 x2 x3 M14) (fun v15 M16 =>
k11 x0 x1 x2 x3 M16))))))))))))))
def l_X12_waits_11 (N : Nat) (k2 : Nat → Nat → Int32 → Mm → Option (Unit × Mm)) : Nat → Nat → Nat → Int32 → Int32 → Mm → Option (Unit × Mm)
  | 0 => fun _ _ _ _ _ => none
  | n + 1 => b_X12_waits_11 N k2 (l_X12_waits_11 N k2 n)
set_option maxRecDepth 100000 in
set_option maxHeartbeats 4000000 in
theorem v_X12_waits_11 {X : Cx} {G : Gl} {r : (Unit × Mm)} (N : Nat) (hC : CX X G yX12_waits cX12_waits 5 none rm_X12_waits) (k2 : Nat → Nat → Int32 → Mm → Option (Unit × Mm)) (hk2 : ∀ (x0 : Nat) (x1 : Nat) (x2 : Int32) (M : Mm), k2 x0 x1 x2 M = some r → TW X G 5 (RQ X G none r.2 rm_X12_waits) 0 0 M 2 [(0, .ref x0), (1, .ref x1), (2, .int x2)] []) (k11 : Nat → Nat → Int32 → Int32 → Mm → Option (Unit × Mm)) (hk11 : ∀ (x0 : Nat) (x1 : Nat) (x2 : Int32) (x3 : Int32) (M : Mm), k11 x0 x1 x2 x3 M = some r → TW X G 5 (RQ X G none r.2 rm_X12_waits) 0 0 M 11 [(0, .ref x0), (1, .ref x1), (2, .int x2), (3, .int x3)] []) (x0 : Nat) (x1 : Nat) (x2 : Int32) (x3 : Int32) (M : Mm) (h : b_X12_waits_11 N k2 k11 x0 x1 x2 x3 M = some r) : TW X G 5 (RQ X G none r.2 rm_X12_waits) 0 0 M 11 [(0, .ref x0), (1, .ref x1), (2, .int x2), (3, .int x3)] [] := by
  unfold b_X12_waits_11 at h
  refine zt_iload_n hC rfl dX12_waits_11 ?_
  refine zt_aload_n hC rfl dX12_waits_12 ?_
  refine zt_iload_n hC rfl dX12_waits_13 ?_
  obtain ⟨v1, M2, h3, h⟩ := bnd_some h
  refine zt_callS (z := yX12_standing) (As := [.ref x1, .int x2]) (rest := [.int x3]) (st1 := (.int v1 :: [.int x3])) hC 2 (fun l hl => c_X12_standing N x1 x2 M (v1, M2) h3 l hl) rfl wd_1106 wd_1104 wd_1105 wd_7 hd_X12_standing rfl ⟨⟨(Nat.le_of_ble_eq_true rfl), (Nat.le_of_ble_eq_true rfl)⟩, (Nat.le_of_ble_eq_true rfl), (Nat.le_of_ble_eq_true rfl)⟩ rfl (Nat.le_of_ble_eq_true rfl) rfl dX12_waits_14 ?_
  refine zt_icmp_ge (tgt := 98) hC h (by decide) dX12_waits_17 (fun h => ?_) (fun h => ?_)
  · refine zt_iinc (v := (x2 + (1 : Int32))) (lv' := [(2, .int (x2 + (1 : Int32))), (0, .ref x0), (1, .ref x1), (3, .int x3)]) hC rfl (by rw [ki_1]) (by decide) rfl dX12_waits_98 ?_
    refine zt_goto (tgt := 2) hC (by decide) dX12_waits_101 ?_
    refine zt_keep [0, 1, 2] rfl ?_
    exact hk2 x0 x1 (x2 + (1 : Int32)) M2 h
  · refine zt_bipush hC kb_74 dX12_waits_20 ?_
    refine zt_bipush hC kb_25 dX12_waits_22 ?_
    refine zt_iload_n hC rfl dX12_waits_24 ?_
    refine zt_imul hC dX12_waits_25 ?_
    refine zt_iadd hC dX12_waits_26 ?_
    refine zt_istore (lv' := [(4, .int ((74 : Int32) + ((25 : Int32) * x2))), (0, .ref x0), (1, .ref x1), (2, .int x2), (3, .int x3)]) hC (by decide) rfl dX12_waits_27 ?_
    refine zt_aload_n hC rfl dX12_waits_29 ?_
    refine zt_iload hC rfl dX12_waits_30 ?_
    refine zt_bipush hC kb_13 dX12_waits_32 ?_
    refine zt_iadd hC dX12_waits_34 ?_
    refine zt_iload_n hC rfl dX12_waits_35 ?_
    refine zt_iadd hC dX12_waits_36 ?_
    refine zt_dup2 hC rfl rfl dX12_waits_37 ?_
    refine zt_ald hC h dX12_waits_38 (fun v4 h => ?_)
    refine zt_iconst hC ki_1 dX12_waits_39 ?_
    refine zt_iadd hC dX12_waits_40 ?_
    refine zt_ast hC h dX12_waits_41 (fun M5 h => ?_)
    refine zt_aload_n hC rfl dX12_waits_42 ?_
    refine zt_iconst hC ki_5 dX12_waits_43 ?_
    refine zt_dup2 hC rfl rfl dX12_waits_44 ?_
    refine zt_ald hC h dX12_waits_45 (fun v6 h => ?_)
    refine zt_iconst hC ki_1 dX12_waits_46 ?_
    refine zt_iadd hC dX12_waits_47 ?_
    refine zt_ast hC h dX12_waits_48 (fun M7 h => ?_)
    refine zt_aload_n hC rfl dX12_waits_49 ?_
    refine zt_iload hC rfl dX12_waits_50 ?_
    refine zt_bipush hC kb_13 dX12_waits_52 ?_
    refine zt_iadd hC dX12_waits_54 ?_
    refine zt_iload_n hC rfl dX12_waits_55 ?_
    refine zt_iadd hC dX12_waits_56 ?_
    refine zt_ald hC h dX12_waits_57 (fun v8 h => ?_)
    refine zt_aload_n hC rfl dX12_waits_58 ?_
    refine zt_aload_n hC rfl dX12_waits_59 ?_
    refine zt_iload hC rfl dX12_waits_60 ?_
    refine zt_iconst hC ki_1 dX12_waits_62 ?_
    refine zt_iadd hC dX12_waits_63 ?_
    refine zt_iload_n hC rfl dX12_waits_64 ?_
    refine zt_iadd hC dX12_waits_65 ?_
    refine zt_ald hC h dX12_waits_66 (fun v9 h => ?_)
    refine zt_iconst hC ki_3 dX12_waits_67 ?_
    obtain ⟨v10, M11, h12, h⟩ := bnd_some h
    refine zt_callS (z := yX12_get) (As := [.ref x1, .int v9, .int (3 : Int32)]) (rest := [.int v8]) (st1 := (.int v10 :: [.int v8])) hC 3 (fun l hl => c_X12_get N x1 v9 (3 : Int32) M7 (v10, M11) h12 l hl) rfl wd_1112 wd_1110 wd_1111 wd_7 hd_X12_get rfl ⟨⟨(Nat.le_of_ble_eq_true rfl), (Nat.le_of_ble_eq_true rfl)⟩, (Nat.le_of_ble_eq_true rfl), (Nat.le_of_ble_eq_true rfl)⟩ rfl (Nat.le_of_ble_eq_true rfl) rfl dX12_waits_68 ?_
    refine zt_icmp_lt (tgt := 92) hC h (by decide) dX12_waits_71 (fun h => ?_) (fun h => ?_)
    · refine zt_iinc (v := (x3 + (1 : Int32))) (lv' := [(3, .int (x3 + (1 : Int32))), (4, .int ((74 : Int32) + ((25 : Int32) * x2))), (0, .ref x0), (1, .ref x1), (2, .int x2)]) hC rfl (by rw [ki_1]) (by decide) rfl dX12_waits_92 ?_
      refine zt_goto (tgt := 11) hC (by decide) dX12_waits_95 ?_
      refine zt_keep [0, 1, 2, 3] rfl ?_
      exact hk11 x0 x1 x2 (x3 + (1 : Int32)) M11 h
    · refine zt_aload_n hC rfl dX12_waits_74 ?_
      refine zt_bipush hC kb_6 dX12_waits_75 ?_
      refine zt_dup2 hC rfl rfl dX12_waits_77 ?_
      refine zt_ald hC h dX12_waits_78 (fun v13 h => ?_)
      refine zt_iconst hC ki_1 dX12_waits_79 ?_
      refine zt_iadd hC dX12_waits_80 ?_
      refine zt_ast hC h dX12_waits_81 (fun M14 h => ?_)
      refine zt_aload_n hC rfl dX12_waits_82 ?_
      refine zt_aload_n hC rfl dX12_waits_83 ?_
      refine zt_iload_n hC rfl dX12_waits_84 ?_
      refine zt_iload_n hC rfl dX12_waits_85 ?_
      obtain ⟨hk, h⟩ := ck_some h
      obtain ⟨v15, M16, h17, h⟩ := bnd_some h
      refine zt_callV (z := yX12_walks) (As := [.ref x1, .int x2, .int x3]) (rest := []) (st1 := []) hC 3 hk cl12 (fun l hl => c_X12_walks N x0 x1 x2 x3 M14 (v15, M16) h17 l hl) rfl wd_1182 wd_1179 wd_1181 ws_37 wd_7 hd_X12_walks rfl ⟨⟨(Nat.le_of_ble_eq_true rfl), (Nat.le_of_ble_eq_true rfl)⟩, (Nat.le_of_ble_eq_true rfl), (Nat.le_of_ble_eq_true rfl)⟩ rfl (Nat.le_of_ble_eq_true rfl) rfl dX12_waits_86 ?_
      refine zt_goto (tgt := 95) hC (by decide) dX12_waits_89 ?_
      refine zt_goto (tgt := 11) hC (by decide) dX12_waits_95 ?_
      refine zt_keep [0, 1, 2, 3] rfl ?_
      exact hk11 x0 x1 x2 x3 M16 h
theorem w_X12_waits_11 {X : Cx} {G : Gl} {r : (Unit × Mm)} (N : Nat) (hC : CX X G yX12_waits cX12_waits 5 none rm_X12_waits) (k2 : Nat → Nat → Int32 → Mm → Option (Unit × Mm)) (hk2 : ∀ (x0 : Nat) (x1 : Nat) (x2 : Int32) (M : Mm), k2 x0 x1 x2 M = some r → TW X G 5 (RQ X G none r.2 rm_X12_waits) 0 0 M 2 [(0, .ref x0), (1, .ref x1), (2, .int x2)] []) (n : Nat) : ∀ (x0 : Nat) (x1 : Nat) (x2 : Int32) (x3 : Int32) (M : Mm), l_X12_waits_11 N k2 n x0 x1 x2 x3 M = some r → TW X G 5 (RQ X G none r.2 rm_X12_waits) 0 0 M 11 [(0, .ref x0), (1, .ref x1), (2, .int x2), (3, .int x3)] [] := by
  induction n with
  | zero => intro  x0 x1 x2 x3 M h; cases (show none = some r from h)
  | succ n ih => intro  x0 x1 x2 x3 M h; exact v_X12_waits_11 N hC k2 hk2 (l_X12_waits_11 N k2 n) ih x0 x1 x2 x3 M h
def b_X12_waits_2 (N : Nat) (k2 : Nat → Nat → Int32 → Mm → Option (Unit × Mm)) (x0 : Nat) (x1 : Nat) (x2 : Int32) (M : Mm) : Option (Unit × Mm) :=
ald M x1 (0 : Int32) (fun v1 =>
(if v1 ≤ x2 then
some ((), M)
else
l_X12_waits_11 N k2 N x0 x1 x2 (0 : Int32) M))
def l_X12_waits_2 (N : Nat) : Nat → Nat → Nat → Int32 → Mm → Option (Unit × Mm)
  | 0 => fun _ _ _ _ => none
  | n + 1 => b_X12_waits_2 N (l_X12_waits_2 N n)
set_option maxRecDepth 100000 in
set_option maxHeartbeats 4000000 in
theorem v_X12_waits_2 {X : Cx} {G : Gl} {r : (Unit × Mm)} (N : Nat) (hC : CX X G yX12_waits cX12_waits 5 none rm_X12_waits) (k2 : Nat → Nat → Int32 → Mm → Option (Unit × Mm)) (hk2 : ∀ (x0 : Nat) (x1 : Nat) (x2 : Int32) (M : Mm), k2 x0 x1 x2 M = some r → TW X G 5 (RQ X G none r.2 rm_X12_waits) 0 0 M 2 [(0, .ref x0), (1, .ref x1), (2, .int x2)] []) (x0 : Nat) (x1 : Nat) (x2 : Int32) (M : Mm) (h : b_X12_waits_2 N k2 x0 x1 x2 M = some r) : TW X G 5 (RQ X G none r.2 rm_X12_waits) 0 0 M 2 [(0, .ref x0), (1, .ref x1), (2, .int x2)] [] := by
  unfold b_X12_waits_2 at h
  refine zt_iload_n hC rfl dX12_waits_2 ?_
  refine zt_aload_n hC rfl dX12_waits_3 ?_
  refine zt_iconst hC ki_0 dX12_waits_4 ?_
  refine zt_ald hC h dX12_waits_5 (fun v1 h => ?_)
  refine zt_icmp_ge (tgt := 104) hC h (by decide) dX12_waits_6 (fun h => ?_) (fun h => ?_)
  · obtain rfl := Option.some.inj h
    exact zt_vret hC rfl rfl (Nat.le_of_ble_eq_true rfl) (Nat.le_of_ble_eq_true rfl) dX12_waits_104
  · refine zt_iconst hC ki_0 dX12_waits_9 ?_
    refine zt_istore_n (lv' := [(3, .int (0 : Int32)), (0, .ref x0), (1, .ref x1), (2, .int x2)]) hC (by decide) rfl dX12_waits_10 ?_
    refine zt_keep [0, 1, 2, 3] rfl ?_
    exact w_X12_waits_11 N hC k2 hk2 N x0 x1 x2 (0 : Int32) M h
theorem w_X12_waits_2 {X : Cx} {G : Gl} {r : (Unit × Mm)} (N : Nat) (hC : CX X G yX12_waits cX12_waits 5 none rm_X12_waits) (n : Nat) : ∀ (x0 : Nat) (x1 : Nat) (x2 : Int32) (M : Mm), l_X12_waits_2 N n x0 x1 x2 M = some r → TW X G 5 (RQ X G none r.2 rm_X12_waits) 0 0 M 2 [(0, .ref x0), (1, .ref x1), (2, .int x2)] [] := by
  induction n with
  | zero => intro  x0 x1 x2 M h; cases (show none = some r from h)
  | succ n ih => intro  x0 x1 x2 M h; exact v_X12_waits_2 N hC (l_X12_waits_2 N n) ih x0 x1 x2 M h
def f_X12_waits (N : Nat) (x0 : Nat) (x1 : Nat) (M : Mm) : Option (Unit × Mm) :=
l_X12_waits_2 N N x0 x1 (0 : Int32) M
set_option maxRecDepth 100000 in
set_option maxHeartbeats 4000000 in
theorem c_X12_waits (N : Nat) (x0 : Nat) (x1 : Nat) (M : Mm) (r : (Unit × Mm)) (h : f_X12_waits N x0 x1 M = some r) (l : Launch) (hfl : l.flags = flags0) {G : Gl} : MT l G yX12_waits cX12_waits 5 none rm_X12_waits [.ref x0, .ref x1] M none r.2 := by
  unfold f_X12_waits at h
  refine zt_start hfl (lv := [(0, .ref x0), (1, .ref x1)]) (by decide) (Nat.le_of_ble_eq_true rfl) rfl wd_1214 (fun X hC _ => ?_)
  refine zt_iconst hC ki_0 dX12_waits_0 ?_
  refine zt_istore_n (lv' := [(2, .int (0 : Int32)), (0, .ref x0), (1, .ref x1)]) hC (by decide) rfl dX12_waits_1 ?_
  refine zt_keep [0, 1, 2] rfl ?_
  exact w_X12_waits_2 N hC N x0 x1 (0 : Int32) M h
def rm_X12_minute : Room := { frames := 4, cells := 0, slots := 0, locals := 96 }
theorem hd_X12_minute : yX12_minute.cls ≠ "java/lang/invoke/MethodHandle" ∧ yX12_minute.cls ≠ "java/lang/invoke/VarHandle" ∧ (parseMethodDescriptor yX12_minute.desc).map (fun d => d.parameters.length) = some 2 := by decide +kernel
def b_X12_minute_45 (N : Nat) (k45 : Nat → Nat → Int32 → Int32 → Mm → Option (Unit × Mm)) (x0 : Nat) (x1 : Nat) (x2 : Int32) (x3 : Int32) (M : Mm) : Option (Unit × Mm) :=
(if x2 ≤ x3 then
ck 12 M x0 (bnd (f_X12_waits N x0 x1 M) (fun v1 M2 =>
ald M2 x1 (3 : Int32) (fun v4 =>
ast M2 x1 (3 : Int32) (v4 + (1 : Int32)) (fun M5 =>
some ((), M5)))))
else
ck 12 M x0 (bnd (f_X12_asks N x0 x1 x3 M) (fun v6 M7 =>
k45 x0 x1 x2 (x3 + (1 : Int32)) M7)))
def l_X12_minute_45 (N : Nat) : Nat → Nat → Nat → Int32 → Int32 → Mm → Option (Unit × Mm)
  | 0 => fun _ _ _ _ _ => none
  | n + 1 => b_X12_minute_45 N (l_X12_minute_45 N n)
set_option maxRecDepth 100000 in
set_option maxHeartbeats 4000000 in
theorem v_X12_minute_45 {X : Cx} {G : Gl} {r : (Unit × Mm)} (N : Nat) (hC : CX X G yX12_minute cX12_minute 4 none rm_X12_minute) (k45 : Nat → Nat → Int32 → Int32 → Mm → Option (Unit × Mm)) (hk45 : ∀ (x0 : Nat) (x1 : Nat) (x2 : Int32) (x3 : Int32) (M : Mm), k45 x0 x1 x2 x3 M = some r → TW X G 4 (RQ X G none r.2 rm_X12_minute) 0 0 M 45 [(0, .ref x0), (1, .ref x1), (2, .int x2), (3, .int x3)] []) (x0 : Nat) (x1 : Nat) (x2 : Int32) (x3 : Int32) (M : Mm) (h : b_X12_minute_45 N k45 x0 x1 x2 x3 M = some r) : TW X G 4 (RQ X G none r.2 rm_X12_minute) 0 0 M 45 [(0, .ref x0), (1, .ref x1), (2, .int x2), (3, .int x3)] [] := by
  unfold b_X12_minute_45 at h
  refine zt_iload_n hC rfl dX12_minute_45 ?_
  refine zt_iload_n hC rfl dX12_minute_46 ?_
  refine zt_icmp_ge (tgt := 62) hC h (by decide) dX12_minute_47 (fun h => ?_) (fun h => ?_)
  · refine zt_aload_n hC rfl dX12_minute_62 ?_
    refine zt_aload_n hC rfl dX12_minute_63 ?_
    obtain ⟨hk, h⟩ := ck_some h
    obtain ⟨v1, M2, h3, h⟩ := bnd_some h
    refine zt_callV (z := yX12_waits) (As := [.ref x1]) (rest := []) (st1 := []) hC 1 hk cl12 (fun l hl => c_X12_waits N x0 x1 M (v1, M2) h3 l hl) rfl wd_1214 wd_1211 wd_1213 ws_39 wd_7 hd_X12_waits rfl ⟨⟨(Nat.le_of_ble_eq_true rfl), (Nat.le_of_ble_eq_true rfl)⟩, (Nat.le_of_ble_eq_true rfl), (Nat.le_of_ble_eq_true rfl)⟩ rfl (Nat.le_of_ble_eq_true rfl) rfl dX12_minute_64 ?_
    refine zt_aload_n hC rfl dX12_minute_67 ?_
    refine zt_iconst hC ki_3 dX12_minute_68 ?_
    refine zt_dup2 hC rfl rfl dX12_minute_69 ?_
    refine zt_ald hC h dX12_minute_70 (fun v4 h => ?_)
    refine zt_iconst hC ki_1 dX12_minute_71 ?_
    refine zt_iadd hC dX12_minute_72 ?_
    refine zt_ast hC h dX12_minute_73 (fun M5 h => ?_)
    obtain rfl := Option.some.inj h
    exact zt_vret hC rfl rfl (Nat.le_of_ble_eq_true rfl) (Nat.le_of_ble_eq_true rfl) dX12_minute_74
  · refine zt_aload_n hC rfl dX12_minute_50 ?_
    refine zt_aload_n hC rfl dX12_minute_51 ?_
    refine zt_iload_n hC rfl dX12_minute_52 ?_
    obtain ⟨hk, h⟩ := ck_some h
    obtain ⟨v6, M7, h8, h⟩ := bnd_some h
    refine zt_callV (z := yX12_asks) (As := [.ref x1, .int x3]) (rest := []) (st1 := []) hC 2 hk cl12 (fun l hl => c_X12_asks N x0 x1 x3 M (v6, M7) h8 l hl) rfl wd_1186 wd_1183 wd_1185 ws_38 wd_7 hd_X12_asks rfl ⟨⟨(Nat.le_of_ble_eq_true rfl), (Nat.le_of_ble_eq_true rfl)⟩, (Nat.le_of_ble_eq_true rfl), (Nat.le_of_ble_eq_true rfl)⟩ rfl (Nat.le_of_ble_eq_true rfl) rfl dX12_minute_53 ?_
    refine zt_iinc (v := (x3 + (1 : Int32))) (lv' := [(3, .int (x3 + (1 : Int32))), (0, .ref x0), (1, .ref x1), (2, .int x2)]) hC rfl (by rw [ki_1]) (by decide) rfl dX12_minute_56 ?_
    refine zt_goto (tgt := 45) hC (by decide) dX12_minute_59 ?_
    refine zt_keep [0, 1, 2, 3] rfl ?_
    exact hk45 x0 x1 x2 (x3 + (1 : Int32)) M7 h
theorem w_X12_minute_45 {X : Cx} {G : Gl} {r : (Unit × Mm)} (N : Nat) (hC : CX X G yX12_minute cX12_minute 4 none rm_X12_minute) (n : Nat) : ∀ (x0 : Nat) (x1 : Nat) (x2 : Int32) (x3 : Int32) (M : Mm), l_X12_minute_45 N n x0 x1 x2 x3 M = some r → TW X G 4 (RQ X G none r.2 rm_X12_minute) 0 0 M 45 [(0, .ref x0), (1, .ref x1), (2, .int x2), (3, .int x3)] [] := by
  induction n with
  | zero => intro  x0 x1 x2 x3 M h; cases (show none = some r from h)
  | succ n ih => intro  x0 x1 x2 x3 M h; exact v_X12_minute_45 N hC (l_X12_minute_45 N n) ih x0 x1 x2 x3 M h
def b_X12_minute_26 (N : Nat) (k26 : Nat → Nat → Int32 → Int32 → Mm → Option (Unit × Mm)) (x0 : Nat) (x1 : Nat) (x2 : Int32) (x3 : Int32) (M : Mm) : Option (Unit × Mm) :=
(if x2 ≤ x3 then
l_X12_minute_45 N N x0 x1 x2 (0 : Int32) M
else
ck 12 M x0 (bnd (f_X12_boards N x0 x1 x3 M) (fun v1 M2 =>
k26 x0 x1 x2 (x3 + (1 : Int32)) M2)))
def l_X12_minute_26 (N : Nat) : Nat → Nat → Nat → Int32 → Int32 → Mm → Option (Unit × Mm)
  | 0 => fun _ _ _ _ _ => none
  | n + 1 => b_X12_minute_26 N (l_X12_minute_26 N n)
set_option maxRecDepth 100000 in
set_option maxHeartbeats 4000000 in
theorem v_X12_minute_26 {X : Cx} {G : Gl} {r : (Unit × Mm)} (N : Nat) (hC : CX X G yX12_minute cX12_minute 4 none rm_X12_minute) (k26 : Nat → Nat → Int32 → Int32 → Mm → Option (Unit × Mm)) (hk26 : ∀ (x0 : Nat) (x1 : Nat) (x2 : Int32) (x3 : Int32) (M : Mm), k26 x0 x1 x2 x3 M = some r → TW X G 4 (RQ X G none r.2 rm_X12_minute) 0 0 M 26 [(0, .ref x0), (1, .ref x1), (2, .int x2), (3, .int x3)] []) (x0 : Nat) (x1 : Nat) (x2 : Int32) (x3 : Int32) (M : Mm) (h : b_X12_minute_26 N k26 x0 x1 x2 x3 M = some r) : TW X G 4 (RQ X G none r.2 rm_X12_minute) 0 0 M 26 [(0, .ref x0), (1, .ref x1), (2, .int x2), (3, .int x3)] [] := by
  unfold b_X12_minute_26 at h
  refine zt_iload_n hC rfl dX12_minute_26 ?_
  refine zt_iload_n hC rfl dX12_minute_27 ?_
  refine zt_icmp_ge (tgt := 43) hC h (by decide) dX12_minute_28 (fun h => ?_) (fun h => ?_)
  · refine zt_iconst hC ki_0 dX12_minute_43 ?_
    refine zt_istore_n (lv' := [(3, .int (0 : Int32)), (0, .ref x0), (1, .ref x1), (2, .int x2)]) hC (by decide) rfl dX12_minute_44 ?_
    refine zt_keep [0, 1, 2, 3] rfl ?_
    exact w_X12_minute_45 N hC N x0 x1 x2 (0 : Int32) M h
  · refine zt_aload_n hC rfl dX12_minute_31 ?_
    refine zt_aload_n hC rfl dX12_minute_32 ?_
    refine zt_iload_n hC rfl dX12_minute_33 ?_
    obtain ⟨hk, h⟩ := ck_some h
    obtain ⟨v1, M2, h3, h⟩ := bnd_some h
    refine zt_callV (z := yX12_boards) (As := [.ref x1, .int x3]) (rest := []) (st1 := []) hC 2 hk cl12 (fun l hl => c_X12_boards N x0 x1 x3 M (v1, M2) h3 l hl) rfl wd_1178 wd_1175 wd_1177 ws_36 wd_7 hd_X12_boards rfl ⟨⟨(Nat.le_of_ble_eq_true rfl), (Nat.le_of_ble_eq_true rfl)⟩, (Nat.le_of_ble_eq_true rfl), (Nat.le_of_ble_eq_true rfl)⟩ rfl (Nat.le_of_ble_eq_true rfl) rfl dX12_minute_34 ?_
    refine zt_iinc (v := (x3 + (1 : Int32))) (lv' := [(3, .int (x3 + (1 : Int32))), (0, .ref x0), (1, .ref x1), (2, .int x2)]) hC rfl (by rw [ki_1]) (by decide) rfl dX12_minute_37 ?_
    refine zt_goto (tgt := 26) hC (by decide) dX12_minute_40 ?_
    refine zt_keep [0, 1, 2, 3] rfl ?_
    exact hk26 x0 x1 x2 (x3 + (1 : Int32)) M2 h
theorem w_X12_minute_26 {X : Cx} {G : Gl} {r : (Unit × Mm)} (N : Nat) (hC : CX X G yX12_minute cX12_minute 4 none rm_X12_minute) (n : Nat) : ∀ (x0 : Nat) (x1 : Nat) (x2 : Int32) (x3 : Int32) (M : Mm), l_X12_minute_26 N n x0 x1 x2 x3 M = some r → TW X G 4 (RQ X G none r.2 rm_X12_minute) 0 0 M 26 [(0, .ref x0), (1, .ref x1), (2, .int x2), (3, .int x3)] [] := by
  induction n with
  | zero => intro  x0 x1 x2 x3 M h; cases (show none = some r from h)
  | succ n ih => intro  x0 x1 x2 x3 M h; exact v_X12_minute_26 N hC (l_X12_minute_26 N n) ih x0 x1 x2 x3 M h
def b_X12_minute_7 (N : Nat) (k7 : Nat → Nat → Int32 → Int32 → Mm → Option (Unit × Mm)) (x0 : Nat) (x1 : Nat) (x2 : Int32) (x3 : Int32) (M : Mm) : Option (Unit × Mm) :=
(if x2 ≤ x3 then
l_X12_minute_26 N N x0 x1 x2 (0 : Int32) M
else
ck 12 M x0 (bnd (f_X12_lands N x0 x1 x3 M) (fun v1 M2 =>
k7 x0 x1 x2 (x3 + (1 : Int32)) M2)))
def l_X12_minute_7 (N : Nat) : Nat → Nat → Nat → Int32 → Int32 → Mm → Option (Unit × Mm)
  | 0 => fun _ _ _ _ _ => none
  | n + 1 => b_X12_minute_7 N (l_X12_minute_7 N n)
set_option maxRecDepth 100000 in
set_option maxHeartbeats 4000000 in
theorem v_X12_minute_7 {X : Cx} {G : Gl} {r : (Unit × Mm)} (N : Nat) (hC : CX X G yX12_minute cX12_minute 4 none rm_X12_minute) (k7 : Nat → Nat → Int32 → Int32 → Mm → Option (Unit × Mm)) (hk7 : ∀ (x0 : Nat) (x1 : Nat) (x2 : Int32) (x3 : Int32) (M : Mm), k7 x0 x1 x2 x3 M = some r → TW X G 4 (RQ X G none r.2 rm_X12_minute) 0 0 M 7 [(0, .ref x0), (1, .ref x1), (2, .int x2), (3, .int x3)] []) (x0 : Nat) (x1 : Nat) (x2 : Int32) (x3 : Int32) (M : Mm) (h : b_X12_minute_7 N k7 x0 x1 x2 x3 M = some r) : TW X G 4 (RQ X G none r.2 rm_X12_minute) 0 0 M 7 [(0, .ref x0), (1, .ref x1), (2, .int x2), (3, .int x3)] [] := by
  unfold b_X12_minute_7 at h
  refine zt_iload_n hC rfl dX12_minute_7 ?_
  refine zt_iload_n hC rfl dX12_minute_8 ?_
  refine zt_icmp_ge (tgt := 24) hC h (by decide) dX12_minute_9 (fun h => ?_) (fun h => ?_)
  · refine zt_iconst hC ki_0 dX12_minute_24 ?_
    refine zt_istore_n (lv' := [(3, .int (0 : Int32)), (0, .ref x0), (1, .ref x1), (2, .int x2)]) hC (by decide) rfl dX12_minute_25 ?_
    refine zt_keep [0, 1, 2, 3] rfl ?_
    exact w_X12_minute_26 N hC N x0 x1 x2 (0 : Int32) M h
  · refine zt_aload_n hC rfl dX12_minute_12 ?_
    refine zt_aload_n hC rfl dX12_minute_13 ?_
    refine zt_iload_n hC rfl dX12_minute_14 ?_
    obtain ⟨hk, h⟩ := ck_some h
    obtain ⟨v1, M2, h3, h⟩ := bnd_some h
    refine zt_callV (z := yX12_lands) (As := [.ref x1, .int x3]) (rest := []) (st1 := []) hC 2 hk cl12 (fun l hl => c_X12_lands N x0 x1 x3 M (v1, M2) h3 l hl) rfl wd_1171 wd_1168 wd_1170 ws_35 wd_7 hd_X12_lands rfl ⟨⟨(Nat.le_of_ble_eq_true rfl), (Nat.le_of_ble_eq_true rfl)⟩, (Nat.le_of_ble_eq_true rfl), (Nat.le_of_ble_eq_true rfl)⟩ rfl (Nat.le_of_ble_eq_true rfl) rfl dX12_minute_15 ?_
    refine zt_iinc (v := (x3 + (1 : Int32))) (lv' := [(3, .int (x3 + (1 : Int32))), (0, .ref x0), (1, .ref x1), (2, .int x2)]) hC rfl (by rw [ki_1]) (by decide) rfl dX12_minute_18 ?_
    refine zt_goto (tgt := 7) hC (by decide) dX12_minute_21 ?_
    refine zt_keep [0, 1, 2, 3] rfl ?_
    exact hk7 x0 x1 x2 (x3 + (1 : Int32)) M2 h
theorem w_X12_minute_7 {X : Cx} {G : Gl} {r : (Unit × Mm)} (N : Nat) (hC : CX X G yX12_minute cX12_minute 4 none rm_X12_minute) (n : Nat) : ∀ (x0 : Nat) (x1 : Nat) (x2 : Int32) (x3 : Int32) (M : Mm), l_X12_minute_7 N n x0 x1 x2 x3 M = some r → TW X G 4 (RQ X G none r.2 rm_X12_minute) 0 0 M 7 [(0, .ref x0), (1, .ref x1), (2, .int x2), (3, .int x3)] [] := by
  induction n with
  | zero => intro  x0 x1 x2 x3 M h; cases (show none = some r from h)
  | succ n ih => intro  x0 x1 x2 x3 M h; exact v_X12_minute_7 N hC (l_X12_minute_7 N n) ih x0 x1 x2 x3 M h
def f_X12_minute (N : Nat) (x0 : Nat) (x1 : Nat) (x2 : Int32) (M : Mm) : Option (Unit × Mm) :=
ck 12 M x0 (bnd (f_X12_come N x0 x1 M) (fun v1 M2 =>
l_X12_minute_7 N N x0 x1 x2 (0 : Int32) M2))
set_option maxRecDepth 100000 in
set_option maxHeartbeats 4000000 in
theorem c_X12_minute (N : Nat) (x0 : Nat) (x1 : Nat) (x2 : Int32) (M : Mm) (r : (Unit × Mm)) (h : f_X12_minute N x0 x1 x2 M = some r) (l : Launch) (hfl : l.flags = flags0) {G : Gl} : MT l G yX12_minute cX12_minute 4 none rm_X12_minute [.ref x0, .ref x1, .int x2] M none r.2 := by
  unfold f_X12_minute at h
  refine zt_start hfl (lv := [(0, .ref x0), (1, .ref x1), (2, .int x2)]) (by decide) (Nat.le_of_ble_eq_true rfl) rfl wd_1160 (fun X hC _ => ?_)
  refine zt_aload_n hC rfl dX12_minute_0 ?_
  refine zt_aload_n hC rfl dX12_minute_1 ?_
  obtain ⟨hk, h⟩ := ck_some h
  obtain ⟨v1, M2, h3, h⟩ := bnd_some h
  refine zt_callV (z := yX12_come) (As := [.ref x1]) (rest := []) (st1 := []) hC 1 hk cl12 (fun l hl => c_X12_come N x0 x1 M (v1, M2) h3 l hl) rfl wd_1164 wd_1161 wd_1163 ws_34 wd_7 hd_X12_come rfl ⟨⟨(Nat.le_of_ble_eq_true rfl), (Nat.le_of_ble_eq_true rfl)⟩, (Nat.le_of_ble_eq_true rfl), (Nat.le_of_ble_eq_true rfl)⟩ rfl (Nat.le_of_ble_eq_true rfl) rfl dX12_minute_2 ?_
  refine zt_iconst hC ki_0 dX12_minute_5 ?_
  refine zt_istore_n (lv' := [(3, .int (0 : Int32)), (0, .ref x0), (1, .ref x1), (2, .int x2)]) hC (by decide) rfl dX12_minute_6 ?_
  refine zt_keep [0, 1, 2, 3] rfl ?_
  exact w_X12_minute_7 N hC N x0 x1 x2 (0 : Int32) M2 h
