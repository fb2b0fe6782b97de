def rm_X12_wrongRule : Room := { frames := 2, cells := 0, slots := 0, locals := 45 }
theorem hd_X12_wrongRule : yX12_wrongRule.cls ≠ "java/lang/invoke/MethodHandle" ∧ yX12_wrongRule.cls ≠ "java/lang/invoke/VarHandle" ∧ (parseMethodDescriptor yX12_wrongRule.desc).map (fun d => d.parameters.length) = some 1 := by decide +kernel
def f_X12_wrongRule (N : Nat) (x0 : Nat) (x1 : Int32) (M : Mm) : Option (Int32 × Mm) :=
bnd (f_X12_isShelf N x1 M) (fun v1 M2 =>
(if v1 = 0 then
some ((-1 : Int32), M2)
else
gR 12 M2 x0 4 (fun v4 =>
ald M2 v4 x1 (fun v5 =>
(if v5 = 0 then
some ((-11 : Int32), M2)
else
gR 12 M2 x0 4 (fun v6 =>
ald M2 v6 x1 (fun v7 =>
(if v7 = (1 : Int32) then
some ((0 : Int32), M2)
else
some ((-12 : Int32), M2)))))))))
set_option maxRecDepth 100000 in
set_option maxHeartbeats 4000000 in
theorem c_X12_wrongRule (N : Nat) (x0 : Nat) (x1 : Int32) (M : Mm) (r : (Int32 × Mm)) (h : f_X12_wrongRule N x0 x1 M = some r) (l : Launch) (hfl : l.flags = flags0) {G : Gl} : MT l G yX12_wrongRule cX12_wrongRule 2 (some .int) rm_X12_wrongRule [.ref x0, .int x1] M (some (.int r.1)) r.2 := by
  unfold f_X12_wrongRule at h
  refine zt_start hfl (lv := [(0, .ref x0), (1, .int x1)]) (by decide) (Nat.le_of_ble_eq_true rfl) rfl wd_1151 (fun X hC _ => ?_)
  refine zt_iload_n hC rfl dX12_wrongRule_0 ?_
  obtain ⟨v1, M2, h3, h⟩ := bnd_some h
  refine zt_callS (z := yX12_isShelf) (As := [.int x1]) (rest := []) (st1 := (.int v1 :: [])) hC 1 (fun l hl => c_X12_isShelf N x1 M (v1, M2) h3 l hl) rfl wd_1063 wd_1061 wd_1062 wd_7 hd_X12_isShelf rfl ⟨⟨(Nat.le_of_ble_eq_true rfl), (Nat.le_of_ble_eq_true rfl)⟩, (Nat.le_of_ble_eq_true rfl), (Nat.le_of_ble_eq_true rfl)⟩ rfl (Nat.le_of_ble_eq_true rfl) rfl dX12_wrongRule_1 ?_
  refine zt_if_ne (tgt := 11) hC h (by decide) dX12_wrongRule_4 (fun h => ?_) (fun h => ?_)
  · refine zt_aload_n hC rfl dX12_wrongRule_11 ?_
    refine zt_gR hC h cl12 (k := 4) (by decide) rfl wd_995 (Or.inl rfl) dX12_wrongRule_12 (fun v4 h => ?_)
    refine zt_iload_n hC rfl dX12_wrongRule_15 ?_
    refine zt_ald hC h dX12_wrongRule_16 (fun v5 h => ?_)
    refine zt_if_ne (tgt := 25) hC h (by decide) dX12_wrongRule_17 (fun h => ?_) (fun h => ?_)
    · refine zt_aload_n hC rfl dX12_wrongRule_25 ?_
      refine zt_gR hC h cl12 (k := 4) (by decide) rfl wd_995 (Or.inl rfl) dX12_wrongRule_26 (fun v6 h => ?_)
      refine zt_iload_n hC rfl dX12_wrongRule_29 ?_
      refine zt_ald hC h dX12_wrongRule_30 (fun v7 h => ?_)
      refine zt_iconst hC ki_1 dX12_wrongRule_31 ?_
      refine zt_icmp_ne (tgt := 39) hC h (by decide) dX12_wrongRule_32 (fun h => ?_) (fun h => ?_)
      · refine zt_bipush hC kb_m12 dX12_wrongRule_39 ?_
        obtain rfl := Option.some.inj h
        exact zt_iret hC rfl rfl (Nat.le_of_ble_eq_true rfl) (Nat.le_of_ble_eq_true rfl) dX12_wrongRule_41
      · refine zt_iconst hC ki_0 dX12_wrongRule_35 ?_
        refine zt_goto (tgt := 41) hC (by decide) dX12_wrongRule_36 ?_
        obtain rfl := Option.some.inj h
        exact zt_iret hC rfl rfl (Nat.le_of_ble_eq_true rfl) (Nat.le_of_ble_eq_true rfl) dX12_wrongRule_41
    · refine zt_bipush hC kb_m11 dX12_wrongRule_20 ?_
      refine zt_goto (tgt := 41) hC (by decide) dX12_wrongRule_22 ?_
      obtain rfl := Option.some.inj h
      exact zt_iret hC rfl rfl (Nat.le_of_ble_eq_true rfl) (Nat.le_of_ble_eq_true rfl) dX12_wrongRule_41
  · refine zt_iconst hC ki_m1 dX12_wrongRule_7 ?_
    refine zt_goto (tgt := 41) hC (by decide) dX12_wrongRule_8 ?_
    obtain rfl := Option.some.inj h
    exact zt_iret hC rfl rfl (Nat.le_of_ble_eq_true rfl) (Nat.le_of_ble_eq_true rfl) dX12_wrongRule_41
def rm_X12_rule : Room := { frames := 3, cells := 0, slots := 0, locals := 66 }
theorem hd_X12_rule : yX12_rule.cls ≠ "java/lang/invoke/MethodHandle" ∧ yX12_rule.cls ≠ "java/lang/invoke/VarHandle" ∧ (parseMethodDescriptor yX12_rule.desc).map (fun d => d.parameters.length) = some 1 := by decide +kernel
def f_X12_rule (N : Nat) (x0 : Nat) (x1 : Int32) (M : Mm) : Option (Int32 × Mm) :=
ck 12 M x0 (bnd (f_X12_wrongRule N x0 x1 M) (fun v1 M2 =>
(if v1 = 0 then
gR 12 M2 x0 0 (fun v4 =>
gR 12 M2 x0 8 (fun v5 =>
ald M2 v5 x1 (fun v6 =>
bnd (f_X12_sets N v4 (0 : Int32) (4 : Int32) v6 M2) (fun v7 M8 =>
gR 12 M8 x0 0 (fun v10 =>
gR 12 M8 x0 9 (fun v11 =>
ald M8 v11 x1 (fun v12 =>
bnd (f_X12_sets N v10 (0 : Int32) (5 : Int32) v12 M8) (fun v13 M14 =>
gR 12 M14 x0 8 (fun v16 =>
ald M14 v16 x1 (fun v17 =>
some (v17, M14)))))))))))
else
some (v1, M2))))
set_option maxRecDepth 100000 in
set_option maxHeartbeats 4000000 in
theorem c_X12_rule (N : Nat) (x0 : Nat) (x1 : Int32) (M : Mm) (r : (Int32 × Mm)) (h : f_X12_rule N x0 x1 M = some r) (l : Launch) (hfl : l.flags = flags0) {G : Gl} : MT l G yX12_rule cX12_rule 3 (some .int) rm_X12_rule [.ref x0, .int x1] M (some (.int r.1)) r.2 := by
  unfold f_X12_rule at h
  refine zt_start hfl (lv := [(0, .ref x0), (1, .int x1)]) (by decide) (Nat.le_of_ble_eq_true rfl) rfl wd_1147 (fun X hC _ => ?_)
  refine zt_aload_n hC rfl dX12_rule_0 ?_
  refine zt_iload_n hC rfl dX12_rule_1 ?_
  obtain ⟨hk, h⟩ := ck_some h
  obtain ⟨v1, M2, h3, h⟩ := bnd_some h
  refine zt_callV (z := yX12_wrongRule) (As := [.int x1]) (rest := []) (st1 := (.int v1 :: [])) hC 1 hk cl12 (fun l hl => c_X12_wrongRule N x0 x1 M (v1, M2) h3 l hl) rfl wd_1151 wd_1148 wd_1150 ws_32 wd_7 hd_X12_wrongRule rfl ⟨⟨(Nat.le_of_ble_eq_true rfl), (Nat.le_of_ble_eq_true rfl)⟩, (Nat.le_of_ble_eq_true rfl), (Nat.le_of_ble_eq_true rfl)⟩ rfl (Nat.le_of_ble_eq_true rfl) rfl dX12_rule_2 ?_
  refine zt_istore_n (lv' := [(2, .int v1), (0, .ref x0), (1, .int x1)]) hC (by decide) rfl dX12_rule_5 ?_
  refine zt_iload_n hC rfl dX12_rule_6 ?_
  refine zt_if_eq (tgt := 12) hC h (by decide) dX12_rule_7 (fun h => ?_) (fun h => ?_)
  · refine zt_aload_n hC rfl dX12_rule_12 ?_
    refine zt_gR hC h cl12 (k := 0) (by decide) rfl wd_991 (Or.inl rfl) dX12_rule_13 (fun v4 h => ?_)
    refine zt_iconst hC ki_0 dX12_rule_16 ?_
    refine zt_iconst hC ki_4 dX12_rule_17 ?_
    refine zt_aload_n hC rfl dX12_rule_18 ?_
    refine zt_gR hC h cl12 (k := 8) (by decide) rfl wd_999 (Or.inl rfl) dX12_rule_19 (fun v5 h => ?_)
    refine zt_iload_n hC rfl dX12_rule_22 ?_
    refine zt_ald hC h dX12_rule_23 (fun v6 h => ?_)
    obtain ⟨v7, M8, h9, h⟩ := bnd_some h
    refine zt_callS (z := yX12_sets) (As := [.ref v4, .int (0 : Int32), .int (4 : Int32), .int v6]) (rest := []) (st1 := []) hC 4 (fun l hl => c_X12_sets N v4 (0 : Int32) (4 : Int32) v6 M2 (v7, M8) h9 l hl) rfl wd_990 wd_988 wd_989 wd_7 hd_X12_sets rfl ⟨⟨(Nat.le_of_ble_eq_true rfl), (Nat.le_of_ble_eq_true rfl)⟩, (Nat.le_of_ble_eq_true rfl), (Nat.le_of_ble_eq_true rfl)⟩ rfl (Nat.le_of_ble_eq_true rfl) rfl dX12_rule_24 ?_
    refine zt_aload_n hC rfl dX12_rule_27 ?_
    refine zt_gR hC h cl12 (k := 0) (by decide) rfl wd_991 (Or.inl rfl) dX12_rule_28 (fun v10 h => ?_)
    refine zt_iconst hC ki_0 dX12_rule_31 ?_
    refine zt_iconst hC ki_5 dX12_rule_32 ?_
    refine zt_aload_n hC rfl dX12_rule_33 ?_
    refine zt_gR hC h cl12 (k := 9) (by decide) rfl wd_1000 (Or.inl rfl) dX12_rule_34 (fun v11 h => ?_)
    refine zt_iload_n hC rfl dX12_rule_37 ?_
    refine zt_ald hC h dX12_rule_38 (fun v12 h => ?_)
    obtain ⟨v13, M14, h15, h⟩ := bnd_some h
    refine zt_callS (z := yX12_sets) (As := [.ref v10, .int (0 : Int32), .int (5 : Int32), .int v12]) (rest := []) (st1 := []) hC 4 (fun l hl => c_X12_sets N v10 (0 : Int32) (5 : Int32) v12 M8 (v13, M14) h15 l hl) rfl wd_990 wd_988 wd_989 wd_7 hd_X12_sets rfl ⟨⟨(Nat.le_of_ble_eq_true rfl), (Nat.le_of_ble_eq_true rfl)⟩, (Nat.le_of_ble_eq_true rfl), (Nat.le_of_ble_eq_true rfl)⟩ rfl (Nat.le_of_ble_eq_true rfl) rfl dX12_rule_39 ?_
    refine zt_aload_n hC rfl dX12_rule_42 ?_
    refine zt_gR hC h cl12 (k := 8) (by decide) rfl wd_999 (Or.inl rfl) dX12_rule_43 (fun v16 h => ?_)
    refine zt_iload_n hC rfl dX12_rule_46 ?_
    refine zt_ald hC h dX12_rule_47 (fun v17 h => ?_)
    obtain rfl := Option.some.inj h
    exact zt_iret hC rfl rfl (Nat.le_of_ble_eq_true rfl) (Nat.le_of_ble_eq_true rfl) dX12_rule_48
  · refine zt_iload_n hC rfl dX12_rule_10 ?_
    obtain rfl := Option.some.inj h
    exact zt_iret hC rfl rfl (Nat.le_of_ble_eq_true rfl) (Nat.le_of_ble_eq_true rfl) dX12_rule_11
def rm_X12_go : Room := { frames := 5, cells := 0, slots := 0, locals := 119 }
theorem hd_X12_go : yX12_go.cls ≠ "java/lang/invoke/MethodHandle" ∧ yX12_go.cls ≠ "java/lang/invoke/VarHandle" ∧ (parseMethodDescriptor yX12_go.desc).map (fun d => d.parameters.length) = some 1 := by decide +kernel
def b_X12_go_38 (N : Nat) (k38 : Nat → Int32 → Int32 → Mm → Option (Int32 × Mm)) (x0 : Nat) (x1 : Int32) (x2 : Int32) (M : Mm) : Option (Int32 × Mm) :=
(if x1 ≤ x2 then
gR 12 M x0 0 (fun v1 =>
ald M v1 (3 : Int32) (fun v2 =>
some (v2, M)))
else
gR 12 M x0 0 (fun v3 =>
ck 12 M x0 (bnd (f_X12_minute N x0 v3 (1 : Int32) M) (fun v4 M5 =>
k38 x0 x1 (x2 + (1 : Int32)) M5))))
def l_X12_go_38 (N : Nat) : Nat → Nat → Int32 → Int32 → Mm → Option (Int32 × Mm)
  | 0 => fun _ _ _ _ => none
  | n + 1 => b_X12_go_38 N (l_X12_go_38 N n)
set_option maxRecDepth 100000 in
set_option maxHeartbeats 4000000 in
theorem v_X12_go_38 {X : Cx} {G : Gl} {r : (Int32 × Mm)} (N : Nat) (hC : CX X G yX12_go cX12_go 3 (some .int) rm_X12_go) (k38 : Nat → Int32 → Int32 → Mm → Option (Int32 × Mm)) (hk38 : ∀ (x0 : Nat) (x1 : Int32) (x2 : Int32) (M : Mm), k38 x0 x1 x2 M = some r → TW X G 3 (RQ X G (some (.int r.1)) r.2 rm_X12_go) 0 0 M 38 [(0, .ref x0), (1, .int x1), (2, .int x2)] []) (x0 : Nat) (x1 : Int32) (x2 : Int32) (M : Mm) (h : b_X12_go_38 N k38 x0 x1 x2 M = some r) : TW X G 3 (RQ X G (some (.int r.1)) r.2 rm_X12_go) 0 0 M 38 [(0, .ref x0), (1, .int x1), (2, .int x2)] [] := by
  unfold b_X12_go_38 at h
  refine zt_iload_n hC rfl dX12_go_38 ?_
  refine zt_iload_n hC rfl dX12_go_39 ?_
  refine zt_icmp_ge (tgt := 58) hC h (by decide) dX12_go_40 (fun h => ?_) (fun h => ?_)
  · refine zt_aload_n hC rfl dX12_go_58 ?_
    refine zt_gR hC h cl12 (k := 0) (by decide) rfl wd_991 (Or.inl rfl) dX12_go_59 (fun v1 h => ?_)
    refine zt_iconst hC ki_3 dX12_go_62 ?_
    refine zt_ald hC h dX12_go_63 (fun v2 h => ?_)
    obtain rfl := Option.some.inj h
    exact zt_iret hC rfl rfl (Nat.le_of_ble_eq_true rfl) (Nat.le_of_ble_eq_true rfl) dX12_go_64
  · refine zt_aload_n hC rfl dX12_go_43 ?_
    refine zt_aload_n hC rfl dX12_go_44 ?_
    refine zt_gR hC h cl12 (k := 0) (by decide) rfl wd_991 (Or.inl rfl) dX12_go_45 (fun v3 h => ?_)
    refine zt_iconst hC ki_1 dX12_go_48 ?_
    obtain ⟨hk, h⟩ := ck_some h
    obtain ⟨v4, M5, h6, h⟩ := bnd_some h
    refine zt_callV (z := yX12_minute) (As := [.ref v3, .int (1 : Int32)]) (rest := []) (st1 := []) hC 2 hk cl12 (fun l hl => c_X12_minute N x0 v3 (1 : Int32) M (v4, M5) h6 l hl) rfl wd_1160 wd_1157 wd_1159 ws_33 wd_7 hd_X12_minute rfl ⟨⟨(Nat.le_of_ble_eq_true rfl), (Nat.le_of_ble_eq_true rfl)⟩, (Nat.le_of_ble_eq_true rfl), (Nat.le_of_ble_eq_true rfl)⟩ rfl (Nat.le_of_ble_eq_true rfl) rfl dX12_go_49 ?_
    refine zt_iinc (v := (x2 + (1 : Int32))) (lv' := [(2, .int (x2 + (1 : Int32))), (0, .ref x0), (1, .int x1)]) hC rfl (by rw [ki_1]) (by decide) rfl dX12_go_52 ?_
    refine zt_goto (tgt := 38) hC (by decide) dX12_go_55 ?_
    refine zt_keep [0, 1, 2] rfl ?_
    exact hk38 x0 x1 (x2 + (1 : Int32)) M5 h
theorem w_X12_go_38 {X : Cx} {G : Gl} {r : (Int32 × Mm)} (N : Nat) (hC : CX X G yX12_go cX12_go 3 (some .int) rm_X12_go) (n : Nat) : ∀ (x0 : Nat) (x1 : Int32) (x2 : Int32) (M : Mm), l_X12_go_38 N n x0 x1 x2 M = some r → TW X G 3 (RQ X G (some (.int r.1)) r.2 rm_X12_go) 0 0 M 38 [(0, .ref x0), (1, .int x1), (2, .int x2)] [] := by
  induction n with
  | zero => intro  x0 x1 x2 M h; cases (show none = some r from h)
  | succ n ih => intro  x0 x1 x2 M h; exact v_X12_go_38 N hC (l_X12_go_38 N n) ih x0 x1 x2 M h
def f_X12_go (N : Nat) (x0 : Nat) (x1 : Int32) (M : Mm) : Option (Int32 × Mm) :=
bnd (f_X12_isIn N (Int32.toInt64 x1) (1 : Int64) (60 : Int64) M) (fun v1 M2 =>
(if v1 = 0 then
some ((-1 : Int32), M2)
else
gR 12 M2 x0 0 (fun v4 =>
ald M2 v4 (3 : Int32) (fun v5 =>
(if (v5 + x1) ≤ (999 : Int32) then
pI 12 M2 x0 18 (0 : Int32) (fun M6 =>
l_X12_go_38 N N x0 x1 (0 : Int32) M6)
else
some ((-2 : Int32), M2))))))
set_option maxRecDepth 100000 in
set_option maxHeartbeats 4000000 in
theorem c_X12_go (N : Nat) (x0 : Nat) (x1 : Int32) (M : Mm) (r : (Int32 × Mm)) (h : f_X12_go N x0 x1 M = some r) (l : Launch) (hfl : l.flags = flags0) {G : Gl} : MT l G yX12_go cX12_go 3 (some .int) rm_X12_go [.ref x0, .int x1] M (some (.int r.1)) r.2 := by
  unfold f_X12_go at h
  refine zt_start hfl (lv := [(0, .ref x0), (1, .int x1)]) (by decide) (Nat.le_of_ble_eq_true rfl) rfl wd_1155 (fun X hC _ => ?_)
  refine zt_iload_n hC rfl dX12_go_0 ?_
  refine zt_i2l hC dX12_go_1 ?_
  refine zt_lconst hC kl_1 dX12_go_2 ?_
  refine zt_ldc2 hC wd_1156 dX12_go_3 ?_
  obtain ⟨v1, M2, h3, h⟩ := bnd_some h
  refine zt_callS (z := yX12_isIn) (As := [.long (Int32.toInt64 x1), .long (1 : Int64), .long (60 : Int64)]) (rest := []) (st1 := (.int v1 :: [])) hC 3 (fun l hl => c_X12_isIn N (Int32.toInt64 x1) (1 : Int64) (60 : Int64) M (v1, M2) h3 l hl) rfl wd_1067 wd_1065 wd_1066 wd_7 hd_X12_isIn rfl ⟨⟨(Nat.le_of_ble_eq_true rfl), (Nat.le_of_ble_eq_true rfl)⟩, (Nat.le_of_ble_eq_true rfl), (Nat.le_of_ble_eq_true rfl)⟩ rfl (Nat.le_of_ble_eq_true rfl) rfl dX12_go_6 ?_
  refine zt_if_ne (tgt := 14) hC h (by decide) dX12_go_9 (fun h => ?_) (fun h => ?_)
  · refine zt_aload_n hC rfl dX12_go_14 ?_
    refine zt_gR hC h cl12 (k := 0) (by decide) rfl wd_991 (Or.inl rfl) dX12_go_15 (fun v4 h => ?_)
    refine zt_iconst hC ki_3 dX12_go_18 ?_
    refine zt_ald hC h dX12_go_19 (fun v5 h => ?_)
    refine zt_iload_n hC rfl dX12_go_20 ?_
    refine zt_iadd hC dX12_go_21 ?_
    refine zt_sipush hC ks_999 dX12_go_22 ?_
    refine zt_icmp_le (tgt := 31) hC h (by decide) dX12_go_25 (fun h => ?_) (fun h => ?_)
    · refine zt_aload_n hC rfl dX12_go_31 ?_
      refine zt_iconst hC ki_0 dX12_go_32 ?_
      refine zt_pI hC h cl12 (k := 18) (by decide) rfl wd_1009 (Or.inl rfl) (Or.inl rfl) dX12_go_33 (fun M6 h => ?_)
      refine zt_iconst hC ki_0 dX12_go_36 ?_
      refine zt_istore_n (lv' := [(2, .int (0 : Int32)), (0, .ref x0), (1, .int x1)]) hC (by decide) rfl dX12_go_37 ?_
      refine zt_keep [0, 1, 2] rfl ?_
      exact w_X12_go_38 N hC N x0 x1 (0 : Int32) M6 h
    · refine zt_bipush hC kb_m2 dX12_go_28 ?_
      obtain rfl := Option.some.inj h
      exact zt_iret hC rfl rfl (Nat.le_of_ble_eq_true rfl) (Nat.le_of_ble_eq_true rfl) dX12_go_30
  · refine zt_iconst hC ki_m1 dX12_go_12 ?_
    obtain rfl := Option.some.inj h
    exact zt_iret hC rfl rfl (Nat.le_of_ble_eq_true rfl) (Nat.le_of_ble_eq_true rfl) dX12_go_13
def rm_X12_tell : Room := { frames := 2, cells := 0, slots := 0, locals := 46 }
theorem hd_X12_tell : yX12_tell.cls ≠ "java/lang/invoke/MethodHandle" ∧ yX12_tell.cls ≠ "java/lang/invoke/VarHandle" ∧ (parseMethodDescriptor yX12_tell.desc).map (fun d => d.parameters.length) = some 1 := by decide +kernel
def f_X12_tell (N : Nat) (x0 : Nat) (x1 : Int32) (M : Mm) : Option (Int32 × Mm) :=
ck 12 M x0 (bnd (f_X12_isLanding N x0 x1 M) (fun v1 M2 =>
(if v1 = 0 then
some ((-1 : Int32), M2)
else
gR 12 M2 x0 0 (fun v4 =>
bnd (f_X12_isAt N v4 (0 : Int32) M2) (fun v5 M6 =>
(if v5 = 0 then
some ((-3 : Int32), M6)
else
gR 12 M6 x0 0 (fun v8 =>
bnd (f_X12_boatOf N v8 (0 : Int32) (0 : Int32) M6) (fun v9 M10 =>
(if v9 = x1 then
some ((-3 : Int32), M10)
else
gR 12 M10 x0 0 (fun v12 =>
bnd (f_X12_leaves N v12 (0 : Int32) x1 M10) (fun v13 M14 =>
gR 12 M14 x0 0 (fun v16 =>
bnd (f_X12_boatOf N v16 (0 : Int32) (2 : Int32) M14) (fun v17 M18 =>
some (v17, M18))))))))))))))
set_option maxRecDepth 100000 in
set_option maxHeartbeats 4000000 in
theorem c_X12_tell (N : Nat) (x0 : Nat) (x1 : Int32) (M : Mm) (r : (Int32 × Mm)) (h : f_X12_tell N x0 x1 M = some r) (l : Launch) (hfl : l.flags = flags0) {G : Gl} : MT l G yX12_tell cX12_tell 2 (some .int) rm_X12_tell [.ref x0, .int x1] M (some (.int r.1)) r.2 := by
  unfold f_X12_tell at h
  refine zt_start hfl (lv := [(0, .ref x0), (1, .int x1)]) (by decide) (Nat.le_of_ble_eq_true rfl) rfl wd_1218 (fun X hC _ => ?_)
  refine zt_aload_n hC rfl dX12_tell_0 ?_
  refine zt_iload_n hC rfl dX12_tell_1 ?_
  obtain ⟨hk, h⟩ := ck_some h
  obtain ⟨v1, M2, h3, h⟩ := bnd_some h
  refine zt_callV (z := yX12_isLanding) (As := [.int x1]) (rest := []) (st1 := (.int v1 :: [])) hC 1 hk cl12 (fun l hl => c_X12_isLanding N x0 x1 M (v1, M2) h3 l hl) rfl wd_1122 wd_1119 wd_1121 ws_29 wd_7 hd_X12_isLanding rfl ⟨⟨(Nat.le_of_ble_eq_true rfl), (Nat.le_of_ble_eq_true rfl)⟩, (Nat.le_of_ble_eq_true rfl), (Nat.le_of_ble_eq_true rfl)⟩ rfl (Nat.le_of_ble_eq_true rfl) rfl dX12_tell_2 ?_
  refine zt_if_ne (tgt := 10) hC h (by decide) dX12_tell_5 (fun h => ?_) (fun h => ?_)
  · refine zt_aload_n hC rfl dX12_tell_10 ?_
    refine zt_gR hC h cl12 (k := 0) (by decide) rfl wd_991 (Or.inl rfl) dX12_tell_11 (fun v4 h => ?_)
    refine zt_iconst hC ki_0 dX12_tell_14 ?_
    obtain ⟨v5, M6, h7, h⟩ := bnd_some h
    refine zt_callS (z := yX12_isAt) (As := [.ref v4, .int (0 : Int32)]) (rest := []) (st1 := (.int v5 :: [])) hC 2 (fun l hl => c_X12_isAt N v4 (0 : Int32) M2 (v5, M6) h7 l hl) rfl wd_1174 wd_1172 wd_1173 wd_7 hd_X12_isAt rfl ⟨⟨(Nat.le_of_ble_eq_true rfl), (Nat.le_of_ble_eq_true rfl)⟩, (Nat.le_of_ble_eq_true rfl), (Nat.le_of_ble_eq_true rfl)⟩ rfl (Nat.le_of_ble_eq_true rfl) rfl dX12_tell_15 ?_
    refine zt_if_eq (tgt := 34) hC h (by decide) dX12_tell_18 (fun h => ?_) (fun h => ?_)
    · refine zt_bipush hC kb_m3 dX12_tell_34 ?_
      obtain rfl := Option.some.inj h
      exact zt_iret hC rfl rfl (Nat.le_of_ble_eq_true rfl) (Nat.le_of_ble_eq_true rfl) dX12_tell_36
    · refine zt_aload_n hC rfl dX12_tell_21 ?_
      refine zt_gR hC h cl12 (k := 0) (by decide) rfl wd_991 (Or.inl rfl) dX12_tell_22 (fun v8 h => ?_)
      refine zt_iconst hC ki_0 dX12_tell_25 ?_
      refine zt_iconst hC ki_0 dX12_tell_26 ?_
      obtain ⟨v9, M10, h11, h⟩ := bnd_some h
      refine zt_callS (z := yX12_boatOf) (As := [.ref v8, .int (0 : Int32), .int (0 : Int32)]) (rest := []) (st1 := (.int v9 :: [])) hC 3 (fun l hl => c_X12_boatOf N v8 (0 : Int32) (0 : Int32) M6 (v9, M10) h11 l hl) rfl wd_1109 wd_1107 wd_1108 wd_7 hd_X12_boatOf rfl ⟨⟨(Nat.le_of_ble_eq_true rfl), (Nat.le_of_ble_eq_true rfl)⟩, (Nat.le_of_ble_eq_true rfl), (Nat.le_of_ble_eq_true rfl)⟩ rfl (Nat.le_of_ble_eq_true rfl) rfl dX12_tell_27 ?_
      refine zt_iload_n hC rfl dX12_tell_30 ?_
      refine zt_icmp_ne (tgt := 37) hC h (by decide) dX12_tell_31 (fun h => ?_) (fun h => ?_)
      · refine zt_aload_n hC rfl dX12_tell_37 ?_
        refine zt_gR hC h cl12 (k := 0) (by decide) rfl wd_991 (Or.inl rfl) dX12_tell_38 (fun v12 h => ?_)
        refine zt_iconst hC ki_0 dX12_tell_41 ?_
        refine zt_iload_n hC rfl dX12_tell_42 ?_
        obtain ⟨v13, M14, h15, h⟩ := bnd_some h
        refine zt_callS (z := yX12_leaves) (As := [.ref v12, .int (0 : Int32), .int x1]) (rest := []) (st1 := []) hC 3 (fun l hl => c_X12_leaves N v12 (0 : Int32) x1 M10 (v13, M14) h15 l hl) rfl wd_1210 wd_1208 wd_1209 wd_7 hd_X12_leaves rfl ⟨⟨(Nat.le_of_ble_eq_true rfl), (Nat.le_of_ble_eq_true rfl)⟩, (Nat.le_of_ble_eq_true rfl), (Nat.le_of_ble_eq_true rfl)⟩ rfl (Nat.le_of_ble_eq_true rfl) rfl dX12_tell_43 ?_
        refine zt_aload_n hC rfl dX12_tell_46 ?_
        refine zt_gR hC h cl12 (k := 0) (by decide) rfl wd_991 (Or.inl rfl) dX12_tell_47 (fun v16 h => ?_)
        refine zt_iconst hC ki_0 dX12_tell_50 ?_
        refine zt_iconst hC ki_2 dX12_tell_51 ?_
        obtain ⟨v17, M18, h19, h⟩ := bnd_some h
        refine zt_callS (z := yX12_boatOf) (As := [.ref v16, .int (0 : Int32), .int (2 : Int32)]) (rest := []) (st1 := (.int v17 :: [])) hC 3 (fun l hl => c_X12_boatOf N v16 (0 : Int32) (2 : Int32) M14 (v17, M18) h19 l hl) rfl wd_1109 wd_1107 wd_1108 wd_7 hd_X12_boatOf rfl ⟨⟨(Nat.le_of_ble_eq_true rfl), (Nat.le_of_ble_eq_true rfl)⟩, (Nat.le_of_ble_eq_true rfl), (Nat.le_of_ble_eq_true rfl)⟩ rfl (Nat.le_of_ble_eq_true rfl) rfl dX12_tell_52 ?_
        obtain rfl := Option.some.inj h
        exact zt_iret hC rfl rfl (Nat.le_of_ble_eq_true rfl) (Nat.le_of_ble_eq_true rfl) dX12_tell_55
      · refine zt_bipush hC kb_m3 dX12_tell_34 ?_
        obtain rfl := Option.some.inj h
        exact zt_iret hC rfl rfl (Nat.le_of_ble_eq_true rfl) (Nat.le_of_ble_eq_true rfl) dX12_tell_36
  · refine zt_iconst hC ki_m1 dX12_tell_8 ?_
    obtain rfl := Option.some.inj h
    exact zt_iret hC rfl rfl (Nat.le_of_ble_eq_true rfl) (Nat.le_of_ble_eq_true rfl) dX12_tell_9
def rm_X12_boat : Room := { frames := 1, cells := 0, slots := 0, locals := 22 }
theorem hd_X12_boat : yX12_boat.cls ≠ "java/lang/invoke/MethodHandle" ∧ yX12_boat.cls ≠ "java/lang/invoke/VarHandle" ∧ (parseMethodDescriptor yX12_boat.desc).map (fun d => d.parameters.length) = some 1 := by decide +kernel
def f_X12_boat (N : Nat) (x0 : Nat) (x1 : Int32) (M : Mm) : Option (Int32 × Mm) :=
(if x1 = (0 : Int32) then
gR 12 M x0 0 (fun v1 =>
bnd (f_X12_boatOf N v1 (0 : Int32) (0 : Int32) M) (fun v2 M3 =>
some (v2, M3)))
else
(if x1 = (1 : Int32) then
gR 12 M x0 0 (fun v5 =>
bnd (f_X12_boatOf N v5 (0 : Int32) (1 : Int32) M) (fun v6 M7 =>
some (v6, M7)))
else
(if x1 = (2 : Int32) then
gR 12 M x0 0 (fun v9 =>
bnd (f_X12_boatOf N v9 (0 : Int32) (2 : Int32) M) (fun v10 M11 =>
some (v10, M11)))
else
(if x1 = (3 : Int32) then
gR 12 M x0 0 (fun v13 =>
bnd (f_X12_boatOf N v13 (0 : Int32) (3 : Int32) M) (fun v14 M15 =>
some (v14, M15)))
else
(if x1 = (4 : Int32) then
gR 12 M x0 0 (fun v17 =>
bnd (f_X12_boatOf N v17 (0 : Int32) (4 : Int32) M) (fun v18 M19 =>
some (v18, M19)))
else
some ((-1 : Int32), M))))))
set_option maxRecDepth 100000 in
set_option maxHeartbeats 4000000 in
theorem c_X12_boat (N : Nat) (x0 : Nat) (x1 : Int32) (M : Mm) (r : (Int32 × Mm)) (h : f_X12_boat N x0 x1 M = some r) (l : Launch) (hfl : l.flags = flags0) {G : Gl} : MT l G yX12_boat cX12_boat 2 (some .int) rm_X12_boat [.ref x0, .int x1] M (some (.int r.1)) r.2 := by
  unfold f_X12_boat at h
  refine zt_start hfl (lv := [(0, .ref x0), (1, .int x1)]) (by decide) (Nat.le_of_ble_eq_true rfl) rfl wd_1222 (fun X hC _ => ?_)
  refine zt_iload_n hC rfl dX12_boat_0 ?_
  rcases ite_or h with ⟨c0, h⟩ | ⟨c0, h⟩
  · refine zt_tsIn (tgt := 36) hC c0 (by decide) (by decide) rfl (by decide) dX12_boat_1 ?_
    refine zt_aload_n hC rfl dX12_boat_36 ?_
    refine zt_gR hC h cl12 (k := 0) (by decide) rfl wd_991 (Or.inl rfl) dX12_boat_37 (fun v1 h => ?_)
    refine zt_iconst hC ki_0 dX12_boat_40 ?_
    refine zt_iconst hC ki_0 dX12_boat_41 ?_
    obtain ⟨v2, M3, h4, h⟩ := bnd_some h
    refine zt_callS (z := yX12_boatOf) (As := [.ref v1, .int (0 : Int32), .int (0 : Int32)]) (rest := []) (st1 := (.int v2 :: [])) hC 3 (fun l hl => c_X12_boatOf N v1 (0 : Int32) (0 : Int32) M (v2, M3) h4 l hl) rfl wd_1109 wd_1107 wd_1108 wd_7 hd_X12_boatOf rfl ⟨⟨(Nat.le_of_ble_eq_true rfl), (Nat.le_of_ble_eq_true rfl)⟩, (Nat.le_of_ble_eq_true rfl), (Nat.le_of_ble_eq_true rfl)⟩ rfl (Nat.le_of_ble_eq_true rfl) rfl dX12_boat_42 ?_
    obtain rfl := Option.some.inj h
    exact zt_iret hC rfl rfl (Nat.le_of_ble_eq_true rfl) (Nat.le_of_ble_eq_true rfl) dX12_boat_45
  · rcases ite_or h with ⟨c1, h⟩ | ⟨c1, h⟩
    · refine zt_tsIn (tgt := 46) hC c1 (by decide) (by decide) rfl (by decide) dX12_boat_1 ?_
      refine zt_aload_n hC rfl dX12_boat_46 ?_
      refine zt_gR hC h cl12 (k := 0) (by decide) rfl wd_991 (Or.inl rfl) dX12_boat_47 (fun v5 h => ?_)
      refine zt_iconst hC ki_0 dX12_boat_50 ?_
      refine zt_iconst hC ki_1 dX12_boat_51 ?_
      obtain ⟨v6, M7, h8, h⟩ := bnd_some h
      refine zt_callS (z := yX12_boatOf) (As := [.ref v5, .int (0 : Int32), .int (1 : Int32)]) (rest := []) (st1 := (.int v6 :: [])) hC 3 (fun l hl => c_X12_boatOf N v5 (0 : Int32) (1 : Int32) M (v6, M7) h8 l hl) rfl wd_1109 wd_1107 wd_1108 wd_7 hd_X12_boatOf rfl ⟨⟨(Nat.le_of_ble_eq_true rfl), (Nat.le_of_ble_eq_true rfl)⟩, (Nat.le_of_ble_eq_true rfl), (Nat.le_of_ble_eq_true rfl)⟩ rfl (Nat.le_of_ble_eq_true rfl) rfl dX12_boat_52 ?_
      obtain rfl := Option.some.inj h
      exact zt_iret hC rfl rfl (Nat.le_of_ble_eq_true rfl) (Nat.le_of_ble_eq_true rfl) dX12_boat_55
    · rcases ite_or h with ⟨c2, h⟩ | ⟨c2, h⟩
      · refine zt_tsIn (tgt := 56) hC c2 (by decide) (by decide) rfl (by decide) dX12_boat_1 ?_
        refine zt_aload_n hC rfl dX12_boat_56 ?_
        refine zt_gR hC h cl12 (k := 0) (by decide) rfl wd_991 (Or.inl rfl) dX12_boat_57 (fun v9 h => ?_)
        refine zt_iconst hC ki_0 dX12_boat_60 ?_
        refine zt_iconst hC ki_2 dX12_boat_61 ?_
        obtain ⟨v10, M11, h12, h⟩ := bnd_some h
        refine zt_callS (z := yX12_boatOf) (As := [.ref v9, .int (0 : Int32), .int (2 : Int32)]) (rest := []) (st1 := (.int v10 :: [])) hC 3 (fun l hl => c_X12_boatOf N v9 (0 : Int32) (2 : Int32) M (v10, M11) h12 l hl) rfl wd_1109 wd_1107 wd_1108 wd_7 hd_X12_boatOf rfl ⟨⟨(Nat.le_of_ble_eq_true rfl), (Nat.le_of_ble_eq_true rfl)⟩, (Nat.le_of_ble_eq_true rfl), (Nat.le_of_ble_eq_true rfl)⟩ rfl (Nat.le_of_ble_eq_true rfl) rfl dX12_boat_62 ?_
        obtain rfl := Option.some.inj h
        exact zt_iret hC rfl rfl (Nat.le_of_ble_eq_true rfl) (Nat.le_of_ble_eq_true rfl) dX12_boat_65
      · rcases ite_or h with ⟨c3, h⟩ | ⟨c3, h⟩
        · refine zt_tsIn (tgt := 66) hC c3 (by decide) (by decide) rfl (by decide) dX12_boat_1 ?_
          refine zt_aload_n hC rfl dX12_boat_66 ?_
          refine zt_gR hC h cl12 (k := 0) (by decide) rfl wd_991 (Or.inl rfl) dX12_boat_67 (fun v13 h => ?_)
          refine zt_iconst hC ki_0 dX12_boat_70 ?_
          refine zt_iconst hC ki_3 dX12_boat_71 ?_
          obtain ⟨v14, M15, h16, h⟩ := bnd_some h
          refine zt_callS (z := yX12_boatOf) (As := [.ref v13, .int (0 : Int32), .int (3 : Int32)]) (rest := []) (st1 := (.int v14 :: [])) hC 3 (fun l hl => c_X12_boatOf N v13 (0 : Int32) (3 : Int32) M (v14, M15) h16 l hl) rfl wd_1109 wd_1107 wd_1108 wd_7 hd_X12_boatOf rfl ⟨⟨(Nat.le_of_ble_eq_true rfl), (Nat.le_of_ble_eq_true rfl)⟩, (Nat.le_of_ble_eq_true rfl), (Nat.le_of_ble_eq_true rfl)⟩ rfl (Nat.le_of_ble_eq_true rfl) rfl dX12_boat_72 ?_
          obtain rfl := Option.some.inj h
          exact zt_iret hC rfl rfl (Nat.le_of_ble_eq_true rfl) (Nat.le_of_ble_eq_true rfl) dX12_boat_75
        · rcases ite_or h with ⟨c4, h⟩ | ⟨c4, h⟩
          · refine zt_tsIn (tgt := 76) hC c4 (by decide) (by decide) rfl (by decide) dX12_boat_1 ?_
            refine zt_aload_n hC rfl dX12_boat_76 ?_
            refine zt_gR hC h cl12 (k := 0) (by decide) rfl wd_991 (Or.inl rfl) dX12_boat_77 (fun v17 h => ?_)
            refine zt_iconst hC ki_0 dX12_boat_80 ?_
            refine zt_iconst hC ki_4 dX12_boat_81 ?_
            obtain ⟨v18, M19, h20, h⟩ := bnd_some h
            refine zt_callS (z := yX12_boatOf) (As := [.ref v17, .int (0 : Int32), .int (4 : Int32)]) (rest := []) (st1 := (.int v18 :: [])) hC 3 (fun l hl => c_X12_boatOf N v17 (0 : Int32) (4 : Int32) M (v18, M19) h20 l hl) rfl wd_1109 wd_1107 wd_1108 wd_7 hd_X12_boatOf rfl ⟨⟨(Nat.le_of_ble_eq_true rfl), (Nat.le_of_ble_eq_true rfl)⟩, (Nat.le_of_ble_eq_true rfl), (Nat.le_of_ble_eq_true rfl)⟩ rfl (Nat.le_of_ble_eq_true rfl) rfl dX12_boat_82 ?_
            obtain rfl := Option.some.inj h
            exact zt_iret hC rfl rfl (Nat.le_of_ble_eq_true rfl) (Nat.le_of_ble_eq_true rfl) dX12_boat_85
          · refine zt_tsOut (tgt := 86) hC (by have e0 := sw_ne c0 (j := 0) (by decide); have e1 := sw_ne c1 (j := 1) (by decide); have e2 := sw_ne c2 (j := 2) (by decide); have e3 := sw_ne c3 (j := 3) (by decide); have e4 := sw_ne c4 (j := 4) (by decide); omega) (by decide) dX12_boat_1 ?_
            refine zt_iconst hC ki_m1 dX12_boat_86 ?_
            obtain rfl := Option.some.inj h
            exact zt_iret hC rfl rfl (Nat.le_of_ble_eq_true rfl) (Nat.le_of_ble_eq_true rfl) dX12_boat_87
def rm_X12_stand : Room := { frames := 2, cells := 0, slots := 0, locals := 46 }
theorem hd_X12_stand : yX12_stand.cls ≠ "java/lang/invoke/MethodHandle" ∧ yX12_stand.cls ≠ "java/lang/invoke/VarHandle" ∧ (parseMethodDescriptor yX12_stand.desc).map (fun d => d.parameters.length) = some 3 := by decide +kernel
def f_X12_stand (N : Nat) (x0 : Nat) (x1 : Int32) (x2 : Int32) (x3 : Int32) (M : Mm) : Option (Int32 × Mm) :=
ck 12 M x0 (bnd (f_X12_isLanding N x0 x1 M) (fun v1 M2 =>
(if v1 = 0 then
some ((-1 : Int32), M2)
else
(if x2 < (-1 : Int32) then
some ((-1 : Int32), M2)
else
bnd (f_X12_isIn N (Int32.toInt64 x3) (0 : Int64) (1 : Int64) M2) (fun v4 M5 =>
(if v4 = 0 then
some ((-1 : Int32), M5)
else
(if 0 ≤ x2 then
gR 12 M5 x0 0 (fun v7 =>
bnd (f_X12_standing N v7 x1 M5) (fun v8 M9 =>
(if x2 < v8 then
(if x3 = 0 then
gR 12 M9 x0 0 (fun v15 =>
ald M9 v15 ((((74 : Int32) + ((25 : Int32) * x1)) + (1 : Int32)) + x2) (fun v16 =>
some (v16, M9)))
else
gR 12 M9 x0 0 (fun v11 =>
bnd (f_X12_sinceOf N v11 x1 x2 M9) (fun v12 M13 =>
some (v12, M13))))
else
some ((-4 : Int32), M9))))
else
gR 12 M5 x0 0 (fun v17 =>
bnd (f_X12_standing N v17 x1 M5) (fun v18 M19 =>
some (v18, M19))))))))))
set_option maxRecDepth 100000 in
set_option maxHeartbeats 4000000 in
theorem c_X12_stand (N : Nat) (x0 : Nat) (x1 : Int32) (x2 : Int32) (x3 : Int32) (M : Mm) (r : (Int32 × Mm)) (h : f_X12_stand N x0 x1 x2 x3 M = some r) (l : Launch) (hfl : l.flags = flags0) {G : Gl} : MT l G yX12_stand cX12_stand 4 (some .int) rm_X12_stand [.ref x0, .int x1, .int x2, .int x3] M (some (.int r.1)) r.2 := by
  unfold f_X12_stand at h
  refine zt_start hfl (lv := [(0, .ref x0), (1, .int x1), (2, .int x2), (3, .int x3)]) (by decide) (Nat.le_of_ble_eq_true rfl) rfl wd_1226 (fun X hC _ => ?_)
  refine zt_aload_n hC rfl dX12_stand_0 ?_
  refine zt_iload_n hC rfl dX12_stand_1 ?_
  obtain ⟨hk, h⟩ := ck_some h
  obtain ⟨v1, M2, h3, h⟩ := bnd_some h
  refine zt_callV (z := yX12_isLanding) (As := [.int x1]) (rest := []) (st1 := (.int v1 :: [])) hC 1 hk cl12 (fun l hl => c_X12_isLanding N x0 x1 M (v1, M2) h3 l hl) rfl wd_1122 wd_1119 wd_1121 ws_29 wd_7 hd_X12_isLanding rfl ⟨⟨(Nat.le_of_ble_eq_true rfl), (Nat.le_of_ble_eq_true rfl)⟩, (Nat.le_of_ble_eq_true rfl), (Nat.le_of_ble_eq_true rfl)⟩ rfl (Nat.le_of_ble_eq_true rfl) rfl dX12_stand_2 ?_
  refine zt_if_eq (tgt := 23) hC h (by decide) dX12_stand_5 (fun h => ?_) (fun h => ?_)
  · refine zt_iconst hC ki_m1 dX12_stand_23 ?_
    obtain rfl := Option.some.inj h
    exact zt_iret hC rfl rfl (Nat.le_of_ble_eq_true rfl) (Nat.le_of_ble_eq_true rfl) dX12_stand_24
  · refine zt_iload_n hC rfl dX12_stand_8 ?_
    refine zt_iconst hC ki_m1 dX12_stand_9 ?_
    refine zt_icmp_lt (tgt := 23) hC h (by decide) dX12_stand_10 (fun h => ?_) (fun h => ?_)
    · refine zt_iconst hC ki_m1 dX12_stand_23 ?_
      obtain rfl := Option.some.inj h
      exact zt_iret hC rfl rfl (Nat.le_of_ble_eq_true rfl) (Nat.le_of_ble_eq_true rfl) dX12_stand_24
    · refine zt_iload_n hC rfl dX12_stand_13 ?_
      refine zt_i2l hC dX12_stand_14 ?_
      refine zt_lconst hC kl_0 dX12_stand_15 ?_
      refine zt_lconst hC kl_1 dX12_stand_16 ?_
      obtain ⟨v4, M5, h6, h⟩ := bnd_some h
      refine zt_callS (z := yX12_isIn) (As := [.long (Int32.toInt64 x3), .long (0 : Int64), .long (1 : Int64)]) (rest := []) (st1 := (.int v4 :: [])) hC 3 (fun l hl => c_X12_isIn N (Int32.toInt64 x3) (0 : Int64) (1 : Int64) M2 (v4, M5) h6 l hl) rfl wd_1067 wd_1065 wd_1066 wd_7 hd_X12_isIn rfl ⟨⟨(Nat.le_of_ble_eq_true rfl), (Nat.le_of_ble_eq_true rfl)⟩, (Nat.le_of_ble_eq_true rfl), (Nat.le_of_ble_eq_true rfl)⟩ rfl (Nat.le_of_ble_eq_true rfl) rfl dX12_stand_17 ?_
      refine zt_if_ne (tgt := 25) hC h (by decide) dX12_stand_20 (fun h => ?_) (fun h => ?_)
      · refine zt_iload_n hC rfl dX12_stand_25 ?_
        refine zt_if_ge (tgt := 38) hC h (by decide) dX12_stand_26 (fun h => ?_) (fun h => ?_)
        · refine zt_iload_n hC rfl dX12_stand_38 ?_
          refine zt_aload_n hC rfl dX12_stand_39 ?_
          refine zt_gR hC h cl12 (k := 0) (by decide) rfl wd_991 (Or.inl rfl) dX12_stand_40 (fun v7 h => ?_)
          refine zt_iload_n hC rfl dX12_stand_43 ?_
          obtain ⟨v8, M9, h10, h⟩ := bnd_some h
          refine zt_callS (z := yX12_standing) (As := [.ref v7, .int x1]) (rest := [.int x2]) (st1 := (.int v8 :: [.int x2])) hC 2 (fun l hl => c_X12_standing N v7 x1 M5 (v8, M9) h10 l hl) rfl wd_1106 wd_1104 wd_1105 wd_7 hd_X12_standing rfl ⟨⟨(Nat.le_of_ble_eq_true rfl), (Nat.le_of_ble_eq_true rfl)⟩, (Nat.le_of_ble_eq_true rfl), (Nat.le_of_ble_eq_true rfl)⟩ rfl (Nat.le_of_ble_eq_true rfl) rfl dX12_stand_44 ?_
          refine zt_icmp_lt (tgt := 55) hC h (by decide) dX12_stand_47 (fun h => ?_) (fun h => ?_)
          · refine zt_iload_n hC rfl dX12_stand_55 ?_
            refine zt_if_ne (tgt := 78) hC h (by decide) dX12_stand_56 (fun h => ?_) (fun h => ?_)
            · refine zt_aload_n hC rfl dX12_stand_78 ?_
              refine zt_gR hC h cl12 (k := 0) (by decide) rfl wd_991 (Or.inl rfl) dX12_stand_79 (fun v11 h => ?_)
              refine zt_iload_n hC rfl dX12_stand_82 ?_
              refine zt_iload_n hC rfl dX12_stand_83 ?_
              obtain ⟨v12, M13, h14, h⟩ := bnd_some h
              refine zt_callS (z := yX12_sinceOf) (As := [.ref v11, .int x1, .int x2]) (rest := []) (st1 := (.int v12 :: [])) hC 3 (fun l hl => c_X12_sinceOf N v11 x1 x2 M9 (v12, M13) h14 l hl) rfl wd_1195 wd_1193 wd_1194 wd_7 hd_X12_sinceOf rfl ⟨⟨(Nat.le_of_ble_eq_true rfl), (Nat.le_of_ble_eq_true rfl)⟩, (Nat.le_of_ble_eq_true rfl), (Nat.le_of_ble_eq_true rfl)⟩ rfl (Nat.le_of_ble_eq_true rfl) rfl dX12_stand_84 ?_
              obtain rfl := Option.some.inj h
              exact zt_iret hC rfl rfl (Nat.le_of_ble_eq_true rfl) (Nat.le_of_ble_eq_true rfl) dX12_stand_87
            · refine zt_aload_n hC rfl dX12_stand_59 ?_
              refine zt_gR hC h cl12 (k := 0) (by decide) rfl wd_991 (Or.inl rfl) dX12_stand_60 (fun v15 h => ?_)
              refine zt_bipush hC kb_74 dX12_stand_63 ?_
              refine zt_bipush hC kb_25 dX12_stand_65 ?_
              refine zt_iload_n hC rfl dX12_stand_67 ?_
              refine zt_imul hC dX12_stand_68 ?_
              refine zt_iadd hC dX12_stand_69 ?_
              refine zt_iconst hC ki_1 dX12_stand_70 ?_
              refine zt_iadd hC dX12_stand_71 ?_
              refine zt_iload_n hC rfl dX12_stand_72 ?_
              refine zt_iadd hC dX12_stand_73 ?_
              refine zt_ald hC h dX12_stand_74 (fun v16 h => ?_)
              refine zt_goto (tgt := 87) hC (by decide) dX12_stand_75 ?_
              obtain rfl := Option.some.inj h
              exact zt_iret hC rfl rfl (Nat.le_of_ble_eq_true rfl) (Nat.le_of_ble_eq_true rfl) dX12_stand_87
          · refine zt_bipush hC kb_m4 dX12_stand_50 ?_
            refine zt_goto (tgt := 87) hC (by decide) dX12_stand_52 ?_
            obtain rfl := Option.some.inj h
            exact zt_iret hC rfl rfl (Nat.le_of_ble_eq_true rfl) (Nat.le_of_ble_eq_true rfl) dX12_stand_87
        · refine zt_aload_n hC rfl dX12_stand_29 ?_
          refine zt_gR hC h cl12 (k := 0) (by decide) rfl wd_991 (Or.inl rfl) dX12_stand_30 (fun v17 h => ?_)
          refine zt_iload_n hC rfl dX12_stand_33 ?_
          obtain ⟨v18, M19, h20, h⟩ := bnd_some h
          refine zt_callS (z := yX12_standing) (As := [.ref v17, .int x1]) (rest := []) (st1 := (.int v18 :: [])) hC 2 (fun l hl => c_X12_standing N v17 x1 M5 (v18, M19) h20 l hl) rfl wd_1106 wd_1104 wd_1105 wd_7 hd_X12_standing rfl ⟨⟨(Nat.le_of_ble_eq_true rfl), (Nat.le_of_ble_eq_true rfl)⟩, (Nat.le_of_ble_eq_true rfl), (Nat.le_of_ble_eq_true rfl)⟩ rfl (Nat.le_of_ble_eq_true rfl) rfl dX12_stand_34 ?_
          obtain rfl := Option.some.inj h
          exact zt_iret hC rfl rfl (Nat.le_of_ble_eq_true rfl) (Nat.le_of_ble_eq_true rfl) dX12_stand_37
      · refine zt_iconst hC ki_m1 dX12_stand_23 ?_
        obtain rfl := Option.some.inj h
        exact zt_iret hC rfl rfl (Nat.le_of_ble_eq_true rfl) (Nat.le_of_ble_eq_true rfl) dX12_stand_24
def rm_X12_aboard : Room := { frames := 1, cells := 0, slots := 0, locals := 22 }
theorem hd_X12_aboard : yX12_aboard.cls ≠ "java/lang/invoke/MethodHandle" ∧ yX12_aboard.cls ≠ "java/lang/invoke/VarHandle" ∧ (parseMethodDescriptor yX12_aboard.desc).map (fun d => d.parameters.length) = some 1 := by decide +kernel
def f_X12_aboard (N : Nat) (x0 : Nat) (x1 : Int32) (M : Mm) : Option (Int32 × Mm) :=
(if 0 ≤ x1 then
gR 12 M x0 0 (fun v1 =>
bnd (f_X12_boatOf N v1 (0 : Int32) (3 : Int32) M) (fun v2 M3 =>
(if v2 ≤ x1 then
some ((-4 : Int32), M3)
else
gR 12 M3 x0 0 (fun v5 =>
bnd (f_X12_boatOf N v5 (0 : Int32) ((6 : Int32) + x1) M3) (fun v6 M7 =>
some (v6, M7))))))
else
some ((-1 : Int32), M))
set_option maxRecDepth 100000 in
set_option maxHeartbeats 4000000 in
theorem c_X12_aboard (N : Nat) (x0 : Nat) (x1 : Int32) (M : Mm) (r : (Int32 × Mm)) (h : f_X12_aboard N x0 x1 M = some r) (l : Launch) (hfl : l.flags = flags0) {G : Gl} : MT l G yX12_aboard cX12_aboard 2 (some .int) rm_X12_aboard [.ref x0, .int x1] M (some (.int r.1)) r.2 := by
  unfold f_X12_aboard at h
  refine zt_start hfl (lv := [(0, .ref x0), (1, .int x1)]) (by decide) (Nat.le_of_ble_eq_true rfl) rfl wd_1230 (fun X hC _ => ?_)
  refine zt_iload_n hC rfl dX12_aboard_0 ?_
  refine zt_if_ge (tgt := 8) hC h (by decide) dX12_aboard_1 (fun h => ?_) (fun h => ?_)
  · refine zt_iload_n hC rfl dX12_aboard_8 ?_
    refine zt_aload_n hC rfl dX12_aboard_9 ?_
    refine zt_gR hC h cl12 (k := 0) (by decide) rfl wd_991 (Or.inl rfl) dX12_aboard_10 (fun v1 h => ?_)
    refine zt_iconst hC ki_0 dX12_aboard_13 ?_
    refine zt_iconst hC ki_3 dX12_aboard_14 ?_
    obtain ⟨v2, M3, h4, h⟩ := bnd_some h
    refine zt_callS (z := yX12_boatOf) (As := [.ref v1, .int (0 : Int32), .int (3 : Int32)]) (rest := [.int x1]) (st1 := (.int v2 :: [.int x1])) hC 3 (fun l hl => c_X12_boatOf N v1 (0 : Int32) (3 : Int32) M (v2, M3) h4 l hl) rfl wd_1109 wd_1107 wd_1108 wd_7 hd_X12_boatOf rfl ⟨⟨(Nat.le_of_ble_eq_true rfl), (Nat.le_of_ble_eq_true rfl)⟩, (Nat.le_of_ble_eq_true rfl), (Nat.le_of_ble_eq_true rfl)⟩ rfl (Nat.le_of_ble_eq_true rfl) rfl dX12_aboard_15 ?_
    refine zt_icmp_ge (tgt := 36) hC h (by decide) dX12_aboard_18 (fun h => ?_) (fun h => ?_)
    · refine zt_bipush hC kb_m4 dX12_aboard_36 ?_
      obtain rfl := Option.some.inj h
      exact zt_iret hC rfl rfl (Nat.le_of_ble_eq_true rfl) (Nat.le_of_ble_eq_true rfl) dX12_aboard_38
    · refine zt_aload_n hC rfl dX12_aboard_21 ?_
      refine zt_gR hC h cl12 (k := 0) (by decide) rfl wd_991 (Or.inl rfl) dX12_aboard_22 (fun v5 h => ?_)
      refine zt_iconst hC ki_0 dX12_aboard_25 ?_
      refine zt_bipush hC kb_6 dX12_aboard_26 ?_
      refine zt_iload_n hC rfl dX12_aboard_28 ?_
      refine zt_iadd hC dX12_aboard_29 ?_
      obtain ⟨v6, M7, h8, h⟩ := bnd_some h
      refine zt_callS (z := yX12_boatOf) (As := [.ref v5, .int (0 : Int32), .int ((6 : Int32) + x1)]) (rest := []) (st1 := (.int v6 :: [])) hC 3 (fun l hl => c_X12_boatOf N v5 (0 : Int32) ((6 : Int32) + x1) M3 (v6, M7) h8 l hl) rfl wd_1109 wd_1107 wd_1108 wd_7 hd_X12_boatOf rfl ⟨⟨(Nat.le_of_ble_eq_true rfl), (Nat.le_of_ble_eq_true rfl)⟩, (Nat.le_of_ble_eq_true rfl), (Nat.le_of_ble_eq_true rfl)⟩ rfl (Nat.le_of_ble_eq_true rfl) rfl dX12_aboard_30 ?_
      refine zt_goto (tgt := 38) hC (by decide) dX12_aboard_33 ?_
      obtain rfl := Option.some.inj h
      exact zt_iret hC rfl rfl (Nat.le_of_ble_eq_true rfl) (Nat.le_of_ble_eq_true rfl) dX12_aboard_38
  · refine zt_iconst hC ki_m1 dX12_aboard_4 ?_
    refine zt_goto (tgt := 38) hC (by decide) dX12_aboard_5 ?_
    obtain rfl := Option.some.inj h
    exact zt_iret hC rfl rfl (Nat.le_of_ble_eq_true rfl) (Nat.le_of_ble_eq_true rfl) dX12_aboard_38
def rm_X12_told : Room := { frames := 1, cells := 0, slots := 0, locals := 25 }
theorem hd_X12_told : yX12_told.cls ≠ "java/lang/invoke/MethodHandle" ∧ yX12_told.cls ≠ "java/lang/invoke/VarHandle" ∧ (parseMethodDescriptor yX12_told.desc).map (fun d => d.parameters.length) = some 1 := by decide +kernel
def f_X12_told (N : Nat) (x0 : Nat) (x1 : Int32) (M : Mm) : Option (Int32 × Mm) :=
bnd (f_X12_isIn N (Int32.toInt64 x1) (0 : Int64) (3 : Int64) M) (fun v1 M2 =>
(if v1 = 0 then
some ((-1 : Int32), M2)
else
gR 12 M2 x0 0 (fun v4 =>
ald M2 v4 ((5 : Int32) + x1) (fun v5 =>
some (v5, M2)))))
set_option maxRecDepth 100000 in
set_option maxHeartbeats 4000000 in
theorem c_X12_told (N : Nat) (x0 : Nat) (x1 : Int32) (M : Mm) (r : (Int32 × Mm)) (h : f_X12_told N x0 x1 M = some r) (l : Launch) (hfl : l.flags = flags0) {G : Gl} : MT l G yX12_told cX12_told 2 (some .int) rm_X12_told [.ref x0, .int x1] M (some (.int r.1)) r.2 := by
  unfold f_X12_told at h
  refine zt_start hfl (lv := [(0, .ref x0), (1, .int x1)]) (by decide) (Nat.le_of_ble_eq_true rfl) rfl wd_1234 (fun X hC _ => ?_)
  refine zt_iload_n hC rfl dX12_told_0 ?_
  refine zt_i2l hC dX12_told_1 ?_
  refine zt_lconst hC kl_0 dX12_told_2 ?_
  refine zt_ldc2 hC wd_1235 dX12_told_3 ?_
  obtain ⟨v1, M2, h3, h⟩ := bnd_some h
  refine zt_callS (z := yX12_isIn) (As := [.long (Int32.toInt64 x1), .long (0 : Int64), .long (3 : Int64)]) (rest := []) (st1 := (.int v1 :: [])) hC 3 (fun l hl => c_X12_isIn N (Int32.toInt64 x1) (0 : Int64) (3 : Int64) M (v1, M2) h3 l hl) rfl wd_1067 wd_1065 wd_1066 wd_7 hd_X12_isIn rfl ⟨⟨(Nat.le_of_ble_eq_true rfl), (Nat.le_of_ble_eq_true rfl)⟩, (Nat.le_of_ble_eq_true rfl), (Nat.le_of_ble_eq_true rfl)⟩ rfl (Nat.le_of_ble_eq_true rfl) rfl dX12_told_6 ?_
  refine zt_if_eq (tgt := 23) hC h (by decide) dX12_told_9 (fun h => ?_) (fun h => ?_)
  · refine zt_iconst hC ki_m1 dX12_told_23 ?_
    obtain rfl := Option.some.inj h
    exact zt_iret hC rfl rfl (Nat.le_of_ble_eq_true rfl) (Nat.le_of_ble_eq_true rfl) dX12_told_24
  · refine zt_aload_n hC rfl dX12_told_12 ?_
    refine zt_gR hC h cl12 (k := 0) (by decide) rfl wd_991 (Or.inl rfl) dX12_told_13 (fun v4 h => ?_)
    refine zt_iconst hC ki_5 dX12_told_16 ?_
    refine zt_iload_n hC rfl dX12_told_17 ?_
    refine zt_iadd hC dX12_told_18 ?_
    refine zt_ald hC h dX12_told_19 (fun v5 h => ?_)
    refine zt_goto (tgt := 24) hC (by decide) dX12_told_20 ?_
    obtain rfl := Option.some.inj h
    exact zt_iret hC rfl rfl (Nat.le_of_ble_eq_true rfl) (Nat.le_of_ble_eq_true rfl) dX12_told_24
def rm_X12_begins : Room := { frames := 2, cells := 0, slots := 0, locals := 47 }
theorem hd_X12_begins : yX12_begins.cls ≠ "java/lang/invoke/MethodHandle" ∧ yX12_begins.cls ≠ "java/lang/invoke/VarHandle" ∧ (parseMethodDescriptor yX12_begins.desc).map (fun d => d.parameters.length) = some 4 := by decide +kernel
def b_X12_begins_48 (N : Nat) (k48 : Nat → Int32 → Int32 → Int32 → Int32 → Mm → Option (Unit × Mm)) (x0 : Nat) (x2 : Int32) (x3 : Int32) (x4 : Int32) (x5 : Int32) (M : Mm) : Option (Unit × Mm) :=
(if (4 : Int32) ≤ x5 then
gR 12 M x0 2 (fun v1 =>
bnd (f_X12_puts N v1 (0 : Int32) x2 x3 x4 M) (fun v2 M3 =>
pI 12 M3 x0 18 (0 : Int32) (fun M5 =>
some ((), M5))))
else
gR 12 M x0 2 (fun v6 =>
ast M v6 ((5 : Int32) + x5) (0 : Int32) (fun M7 =>
gR 12 M7 x0 2 (fun v8 =>
ast M7 v8 ((74 : Int32) + ((25 : Int32) * x5)) (0 : Int32) (fun M9 =>
k48 x0 x2 x3 x4 (x5 + (1 : Int32)) M9)))))
def l_X12_begins_48 (N : Nat) : Nat → Nat → Int32 → Int32 → Int32 → Int32 → Mm → Option (Unit × Mm)
  | 0 => fun _ _ _ _ _ _ => none
  | n + 1 => b_X12_begins_48 N (l_X12_begins_48 N n)
set_option maxRecDepth 100000 in
set_option maxHeartbeats 4000000 in
theorem v_X12_begins_48 {X : Cx} {G : Gl} {r : (Unit × Mm)} (N : Nat) (hC : CX X G yX12_begins cX12_begins 6 none rm_X12_begins) (k48 : Nat → Int32 → Int32 → Int32 → Int32 → Mm → Option (Unit × Mm)) (hk48 : ∀ (x0 : Nat) (x2 : Int32) (x3 : Int32) (x4 : Int32) (x5 : Int32) (M : Mm), k48 x0 x2 x3 x4 x5 M = some r → TW X G 6 (RQ X G none r.2 rm_X12_begins) 0 0 M 48 [(0, .ref x0), (2, .int x2), (3, .int x3), (4, .int x4), (5, .int x5)] []) (x0 : Nat) (x2 : Int32) (x3 : Int32) (x4 : Int32) (x5 : Int32) (M : Mm) (h : b_X12_begins_48 N k48 x0 x2 x3 x4 x5 M = some r) : TW X G 6 (RQ X G none r.2 rm_X12_begins) 0 0 M 48 [(0, .ref x0), (2, .int x2), (3, .int x3), (4, .int x4), (5, .int x5)] [] := by
  unfold b_X12_begins_48 at h
  refine zt_iload hC rfl dX12_begins_48 ?_
  refine zt_iconst hC ki_4 dX12_begins_50 ?_
  refine zt_icmp_ge (tgt := 84) hC h (by decide) dX12_begins_51 (fun h => ?_) (fun h => ?_)
  · refine zt_aload_n hC rfl dX12_begins_84 ?_
    refine zt_gR hC h cl12 (k := 2) (by decide) rfl wd_993 (Or.inl rfl) dX12_begins_85 (fun v1 h => ?_)
    refine zt_iconst hC ki_0 dX12_begins_88 ?_
    refine zt_iload_n hC rfl dX12_begins_89 ?_
    refine zt_iload_n hC rfl dX12_begins_90 ?_
    refine zt_iload hC rfl dX12_begins_91 ?_
    obtain ⟨v2, M3, h4, h⟩ := bnd_some h
    refine zt_callS (z := yX12_puts) (As := [.ref v1, .int (0 : Int32), .int x2, .int x3, .int x4]) (rest := []) (st1 := []) hC 5 (fun l hl => c_X12_puts N v1 (0 : Int32) x2 x3 x4 M (v2, M3) h4 l hl) rfl wd_987 wd_985 wd_986 wd_7 hd_X12_puts rfl ⟨⟨(Nat.le_of_ble_eq_true rfl), (Nat.le_of_ble_eq_true rfl)⟩, (Nat.le_of_ble_eq_true rfl), (Nat.le_of_ble_eq_true rfl)⟩ rfl (Nat.le_of_ble_eq_true rfl) rfl dX12_begins_93 ?_
    refine zt_aload_n hC rfl dX12_begins_96 ?_
    refine zt_iconst hC ki_0 dX12_begins_97 ?_
    refine zt_pI hC h cl12 (k := 18) (by decide) rfl wd_1009 (Or.inl rfl) (Or.inl rfl) dX12_begins_98 (fun M5 h => ?_)
    obtain rfl := Option.some.inj h
    exact zt_vret hC rfl rfl (Nat.le_of_ble_eq_true rfl) (Nat.le_of_ble_eq_true rfl) dX12_begins_101
  · refine zt_aload_n hC rfl dX12_begins_54 ?_
    refine zt_gR hC h cl12 (k := 2) (by decide) rfl wd_993 (Or.inl rfl) dX12_begins_55 (fun v6 h => ?_)
    refine zt_iconst hC ki_5 dX12_begins_58 ?_
    refine zt_iload hC rfl dX12_begins_59 ?_
    refine zt_iadd hC dX12_begins_61 ?_
    refine zt_iconst hC ki_0 dX12_begins_62 ?_
    refine zt_ast hC h dX12_begins_63 (fun M7 h => ?_)
    refine zt_aload_n hC rfl dX12_begins_64 ?_
    refine zt_gR hC h cl12 (k := 2) (by decide) rfl wd_993 (Or.inl rfl) dX12_begins_65 (fun v8 h => ?_)
    refine zt_bipush hC kb_74 dX12_begins_68 ?_
    refine zt_bipush hC kb_25 dX12_begins_70 ?_
    refine zt_iload hC rfl dX12_begins_72 ?_
    refine zt_imul hC dX12_begins_74 ?_
    refine zt_iadd hC dX12_begins_75 ?_
    refine zt_iconst hC ki_0 dX12_begins_76 ?_
    refine zt_ast hC h dX12_begins_77 (fun M9 h => ?_)
    refine zt_iinc (v := (x5 + (1 : Int32))) (lv' := [(5, .int (x5 + (1 : Int32))), (0, .ref x0), (2, .int x2), (3, .int x3), (4, .int x4)]) hC rfl (by rw [ki_1]) (by decide) rfl dX12_begins_78 ?_
    refine zt_goto (tgt := 48) hC (by decide) dX12_begins_81 ?_
    refine zt_keep [0, 2, 3, 4, 5] rfl ?_
    exact hk48 x0 x2 x3 x4 (x5 + (1 : Int32)) M9 h
theorem w_X12_begins_48 {X : Cx} {G : Gl} {r : (Unit × Mm)} (N : Nat) (hC : CX X G yX12_begins cX12_begins 6 none rm_X12_begins) (n : Nat) : ∀ (x0 : Nat) (x2 : Int32) (x3 : Int32) (x4 : Int32) (x5 : Int32) (M : Mm), l_X12_begins_48 N n x0 x2 x3 x4 x5 M = some r → TW X G 6 (RQ X G none r.2 rm_X12_begins) 0 0 M 48 [(0, .ref x0), (2, .int x2), (3, .int x3), (4, .int x4), (5, .int x5)] [] := by
  induction n with
  | zero => intro  x0 x2 x3 x4 x5 M h; cases (show none = some r from h)
  | succ n ih => intro  x0 x2 x3 x4 x5 M h; exact v_X12_begins_48 N hC (l_X12_begins_48 N n) ih x0 x2 x3 x4 x5 M h
def b_X12_begins_3 (N : Nat) (k3 : Nat → Int32 → Int32 → Int32 → Int32 → Int32 → Mm → Option (Unit × Mm)) (x0 : Nat) (x1 : Int32) (x2 : Int32) (x3 : Int32) (x4 : Int32) (x5 : Int32) (M : Mm) : Option (Unit × Mm) :=
(if (174 : Int32) ≤ x5 then
gR 12 M x0 2 (fun v1 =>
ast M v1 (4 : Int32) x1 (fun M2 =>
gR 12 M2 x0 2 (fun v3 =>
ast M2 v3 (3 : Int32) (0 : Int32) (fun M4 =>
l_X12_begins_48 N N x0 x2 x3 x4 (0 : Int32) M4))))
else
gR 12 M x0 2 (fun v5 =>
gR 12 M x0 0 (fun v6 =>
ald M v6 x5 (fun v7 =>
ast M v5 x5 v7 (fun M8 =>
k3 x0 x1 x2 x3 x4 (x5 + (1 : Int32)) M8)))))
def l_X12_begins_3 (N : Nat) : Nat → Nat → Int32 → Int32 → Int32 → Int32 → Int32 → Mm → Option (Unit × Mm)
  | 0 => fun _ _ _ _ _ _ _ => none
  | n + 1 => b_X12_begins_3 N (l_X12_begins_3 N n)
set_option maxRecDepth 100000 in
set_option maxHeartbeats 4000000 in
theorem v_X12_begins_3 {X : Cx} {G : Gl} {r : (Unit × Mm)} (N : Nat) (hC : CX X G yX12_begins cX12_begins 6 none rm_X12_begins) (k3 : Nat → Int32 → Int32 → Int32 → Int32 → Int32 → Mm → Option (Unit × Mm)) (hk3 : ∀ (x0 : Nat) (x1 : Int32) (x2 : Int32) (x3 : Int32) (x4 : Int32) (x5 : Int32) (M : Mm), k3 x0 x1 x2 x3 x4 x5 M = some r → TW X G 6 (RQ X G none r.2 rm_X12_begins) 0 0 M 3 [(0, .ref x0), (1, .int x1), (2, .int x2), (3, .int x3), (4, .int x4), (5, .int x5)] []) (x0 : Nat) (x1 : Int32) (x2 : Int32) (x3 : Int32) (x4 : Int32) (x5 : Int32) (M : Mm) (h : b_X12_begins_3 N k3 x0 x1 x2 x3 x4 x5 M = some r) : TW X G 6 (RQ X G none r.2 rm_X12_begins) 0 0 M 3 [(0, .ref x0), (1, .int x1), (2, .int x2), (3, .int x3), (4, .int x4), (5, .int x5)] [] := by
  unfold b_X12_begins_3 at h
  refine zt_iload hC rfl dX12_begins_3 ?_
  refine zt_sipush hC ks_174 dX12_begins_5 ?_
  refine zt_icmp_ge (tgt := 31) hC h (by decide) dX12_begins_8 (fun h => ?_) (fun h => ?_)
  · refine zt_aload_n hC rfl dX12_begins_31 ?_
    refine zt_gR hC h cl12 (k := 2) (by decide) rfl wd_993 (Or.inl rfl) dX12_begins_32 (fun v1 h => ?_)
    refine zt_iconst hC ki_4 dX12_begins_35 ?_
    refine zt_iload_n hC rfl dX12_begins_36 ?_
    refine zt_ast hC h dX12_begins_37 (fun M2 h => ?_)
    refine zt_aload_n hC rfl dX12_begins_38 ?_
    refine zt_gR hC h cl12 (k := 2) (by decide) rfl wd_993 (Or.inl rfl) dX12_begins_39 (fun v3 h => ?_)
    refine zt_iconst hC ki_3 dX12_begins_42 ?_
    refine zt_iconst hC ki_0 dX12_begins_43 ?_
    refine zt_ast hC h dX12_begins_44 (fun M4 h => ?_)
    refine zt_iconst hC ki_0 dX12_begins_45 ?_
    refine zt_istore (lv' := [(5, .int (0 : Int32)), (0, .ref x0), (1, .int x1), (2, .int x2), (3, .int x3), (4, .int x4)]) hC (by decide) rfl dX12_begins_46 ?_
    refine zt_keep [0, 2, 3, 4, 5] rfl ?_
    exact w_X12_begins_48 N hC N x0 x2 x3 x4 (0 : Int32) M4 h
  · refine zt_aload_n hC rfl dX12_begins_11 ?_
    refine zt_gR hC h cl12 (k := 2) (by decide) rfl wd_993 (Or.inl rfl) dX12_begins_12 (fun v5 h => ?_)
    refine zt_iload hC rfl dX12_begins_15 ?_
    refine zt_aload_n hC rfl dX12_begins_17 ?_
    refine zt_gR hC h cl12 (k := 0) (by decide) rfl wd_991 (Or.inl rfl) dX12_begins_18 (fun v6 h => ?_)
    refine zt_iload hC rfl dX12_begins_21 ?_
    refine zt_ald hC h dX12_begins_23 (fun v7 h => ?_)
    refine zt_ast hC h dX12_begins_24 (fun M8 h => ?_)
    refine zt_iinc (v := (x5 + (1 : Int32))) (lv' := [(5, .int (x5 + (1 : Int32))), (0, .ref x0), (1, .int x1), (2, .int x2), (3, .int x3), (4, .int x4)]) hC rfl (by rw [ki_1]) (by decide) rfl dX12_begins_25 ?_
    refine zt_goto (tgt := 3) hC (by decide) dX12_begins_28 ?_
    refine zt_keep [0, 1, 2, 3, 4, 5] rfl ?_
    exact hk3 x0 x1 x2 x3 x4 (x5 + (1 : Int32)) M8 h
theorem w_X12_begins_3 {X : Cx} {G : Gl} {r : (Unit × Mm)} (N : Nat) (hC : CX X G yX12_begins cX12_begins 6 none rm_X12_begins) (n : Nat) : ∀ (x0 : Nat) (x1 : Int32) (x2 : Int32) (x3 : Int32) (x4 : Int32) (x5 : Int32) (M : Mm), l_X12_begins_3 N n x0 x1 x2 x3 x4 x5 M = some r → TW X G 6 (RQ X G none r.2 rm_X12_begins) 0 0 M 3 [(0, .ref x0), (1, .int x1), (2, .int x2), (3, .int x3), (4, .int x4), (5, .int x5)] [] := by
  induction n with
  | zero => intro  x0 x1 x2 x3 x4 x5 M h; cases (show none = some r from h)
  | succ n ih => intro  x0 x1 x2 x3 x4 x5 M h; exact v_X12_begins_3 N hC (l_X12_begins_3 N n) ih x0 x1 x2 x3 x4 x5 M h
def f_X12_begins (N : Nat) (x0 : Nat) (x1 : Int32) (x2 : Int32) (x3 : Int32) (x4 : Int32) (M : Mm) : Option (Unit × Mm) :=
l_X12_begins_3 N N x0 x1 x2 x3 x4 (0 : Int32) M
set_option maxRecDepth 100000 in
set_option maxHeartbeats 4000000 in
theorem c_X12_begins (N : Nat) (x0 : Nat) (x1 : Int32) (x2 : Int32) (x3 : Int32) (x4 : Int32) (M : Mm) (r : (Unit × Mm)) (h : f_X12_begins N x0 x1 x2 x3 x4 M = some r) (l : Launch) (hfl : l.flags = flags0) {G : Gl} : MT l G yX12_begins cX12_begins 6 none rm_X12_begins [.ref x0, .int x1, .int x2, .int x3, .int x4] M none r.2 := by
  unfold f_X12_begins at h
  refine zt_start hfl (lv := [(0, .ref x0), (1, .int x1), (2, .int x2), (3, .int x3), (4, .int x4)]) (by decide) (Nat.le_of_ble_eq_true rfl) rfl wd_1251 (fun X hC _ => ?_)
  refine zt_iconst hC ki_0 dX12_begins_0 ?_
  refine zt_istore (lv' := [(5, .int (0 : Int32)), (0, .ref x0), (1, .int x1), (2, .int x2), (3, .int x3), (4, .int x4)]) hC (by decide) rfl dX12_begins_1 ?_
  refine zt_keep [0, 1, 2, 3, 4, 5] rfl ?_
  exact w_X12_begins_3 N hC N x0 x1 x2 x3 x4 (0 : Int32) M h
def rm_X12_goesBy : Room := { frames := 5, cells := 0, slots := 0, locals := 119 }
theorem hd_X12_goesBy : yX12_goesBy.cls ≠ "java/lang/invoke/MethodHandle" ∧ yX12_goesBy.cls ≠ "java/lang/invoke/VarHandle" ∧ (parseMethodDescriptor yX12_goesBy.desc).map (fun d => d.parameters.length) = some 3 := by decide +kernel
def b_X12_goesBy_3 (N : Nat) (k3 : Nat → Int32 → Int32 → Int32 → Int32 → Mm → Option (Int32 × Mm)) (x0 : Nat) (x1 : Int32) (x2 : Int32) (x3 : Int32) (x4 : Int32) (M : Mm) : Option (Int32 × Mm) :=
(if x1 ≤ x4 then
gR 12 M x0 2 (fun v1 =>
ald M v1 ((5 : Int32) + x3) (fun v2 =>
some (v2, M)))
else
gR 12 M x0 2 (fun v3 =>
ck 12 M x0 (bnd (f_X12_minute N x0 v3 x2 M) (fun v4 M5 =>
k3 x0 x1 x2 x3 (x4 + (1 : Int32)) M5))))
def l_X12_goesBy_3 (N : Nat) : Nat → Nat → Int32 → Int32 → Int32 → Int32 → Mm → Option (Int32 × Mm)
  | 0 => fun _ _ _ _ _ _ => none
  | n + 1 => b_X12_goesBy_3 N (l_X12_goesBy_3 N n)
set_option maxRecDepth 100000 in
set_option maxHeartbeats 4000000 in
theorem v_X12_goesBy_3 {X : Cx} {G : Gl} {r : (Int32 × Mm)} (N : Nat) (hC : CX X G yX12_goesBy cX12_goesBy 5 (some .int) rm_X12_goesBy) (k3 : Nat → Int32 → Int32 → Int32 → Int32 → Mm → Option (Int32 × Mm)) (hk3 : ∀ (x0 : Nat) (x1 : Int32) (x2 : Int32) (x3 : Int32) (x4 : Int32) (M : Mm), k3 x0 x1 x2 x3 x4 M = some r → TW X G 5 (RQ X G (some (.int r.1)) r.2 rm_X12_goesBy) 0 0 M 3 [(0, .ref x0), (1, .int x1), (2, .int x2), (3, .int x3), (4, .int x4)] []) (x0 : Nat) (x1 : Int32) (x2 : Int32) (x3 : Int32) (x4 : Int32) (M : Mm) (h : b_X12_goesBy_3 N k3 x0 x1 x2 x3 x4 M = some r) : TW X G 5 (RQ X G (some (.int r.1)) r.2 rm_X12_goesBy) 0 0 M 3 [(0, .ref x0), (1, .int x1), (2, .int x2), (3, .int x3), (4, .int x4)] [] := by
  unfold b_X12_goesBy_3 at h
  refine zt_iload hC rfl dX12_goesBy_3 ?_
  refine zt_iload_n hC rfl dX12_goesBy_5 ?_
  refine zt_icmp_ge (tgt := 24) hC h (by decide) dX12_goesBy_6 (fun h => ?_) (fun h => ?_)
  · refine zt_aload_n hC rfl dX12_goesBy_24 ?_
    refine zt_gR hC h cl12 (k := 2) (by decide) rfl wd_993 (Or.inl rfl) dX12_goesBy_25 (fun v1 h => ?_)
    refine zt_iconst hC ki_5 dX12_goesBy_28 ?_
    refine zt_iload_n hC rfl dX12_goesBy_29 ?_
    refine zt_iadd hC dX12_goesBy_30 ?_
    refine zt_ald hC h dX12_goesBy_31 (fun v2 h => ?_)
    obtain rfl := Option.some.inj h
    exact zt_iret hC rfl rfl (Nat.le_of_ble_eq_true rfl) (Nat.le_of_ble_eq_true rfl) dX12_goesBy_32
  · refine zt_aload_n hC rfl dX12_goesBy_9 ?_
    refine zt_aload_n hC rfl dX12_goesBy_10 ?_
    refine zt_gR hC h cl12 (k := 2) (by decide) rfl wd_993 (Or.inl rfl) dX12_goesBy_11 (fun v3 h => ?_)
    refine zt_iload_n hC rfl dX12_goesBy_14 ?_
    obtain ⟨hk, h⟩ := ck_some h
    obtain ⟨v4, M5, h6, h⟩ := bnd_some h
    refine zt_callV (z := yX12_minute) (As := [.ref v3, .int x2]) (rest := []) (st1 := []) hC 2 hk cl12 (fun l hl => c_X12_minute N x0 v3 x2 M (v4, M5) h6 l hl) rfl wd_1160 wd_1157 wd_1159 ws_33 wd_7 hd_X12_minute rfl ⟨⟨(Nat.le_of_ble_eq_true rfl), (Nat.le_of_ble_eq_true rfl)⟩, (Nat.le_of_ble_eq_true rfl), (Nat.le_of_ble_eq_true rfl)⟩ rfl (Nat.le_of_ble_eq_true rfl) rfl dX12_goesBy_15 ?_
    refine zt_iinc (v := (x4 + (1 : Int32))) (lv' := [(4, .int (x4 + (1 : Int32))), (0, .ref x0), (1, .int x1), (2, .int x2), (3, .int x3)]) hC rfl (by rw [ki_1]) (by decide) rfl dX12_goesBy_18 ?_
    refine zt_goto (tgt := 3) hC (by decide) dX12_goesBy_21 ?_
    refine zt_keep [0, 1, 2, 3, 4] rfl ?_
    exact hk3 x0 x1 x2 x3 (x4 + (1 : Int32)) M5 h
theorem w_X12_goesBy_3 {X : Cx} {G : Gl} {r : (Int32 × Mm)} (N : Nat) (hC : CX X G yX12_goesBy cX12_goesBy 5 (some .int) rm_X12_goesBy) (n : Nat) : ∀ (x0 : Nat) (x1 : Int32) (x2 : Int32) (x3 : Int32) (x4 : Int32) (M : Mm), l_X12_goesBy_3 N n x0 x1 x2 x3 x4 M = some r → TW X G 5 (RQ X G (some (.int r.1)) r.2 rm_X12_goesBy) 0 0 M 3 [(0, .ref x0), (1, .int x1), (2, .int x2), (3, .int x3), (4, .int x4)] [] := by
  induction n with
  | zero => intro  x0 x1 x2 x3 x4 M h; cases (show none = some r from h)
  | succ n ih => intro  x0 x1 x2 x3 x4 M h; exact v_X12_goesBy_3 N hC (l_X12_goesBy_3 N n) ih x0 x1 x2 x3 x4 M h
def f_X12_goesBy (N : Nat) (x0 : Nat) (x1 : Int32) (x2 : Int32) (x3 : Int32) (M : Mm) : Option (Int32 × Mm) :=
l_X12_goesBy_3 N N x0 x1 x2 x3 (0 : Int32) M
set_option maxRecDepth 100000 in
set_option maxHeartbeats 4000000 in
theorem c_X12_goesBy (N : Nat) (x0 : Nat) (x1 : Int32) (x2 : Int32) (x3 : Int32) (M : Mm) (r : (Int32 × Mm)) (h : f_X12_goesBy N x0 x1 x2 x3 M = some r) (l : Launch) (hfl : l.flags = flags0) {G : Gl} : MT l G yX12_goesBy cX12_goesBy 5 (some .int) rm_X12_goesBy [.ref x0, .int x1, .int x2, .int x3] M (some (.int r.1)) r.2 := by
  unfold f_X12_goesBy at h
  refine zt_start hfl (lv := [(0, .ref x0), (1, .int x1), (2, .int x2), (3, .int x3)]) (by decide) (Nat.le_of_ble_eq_true rfl) rfl wd_1255 (fun X hC _ => ?_)
  refine zt_iconst hC ki_0 dX12_goesBy_0 ?_
  refine zt_istore (lv' := [(4, .int (0 : Int32)), (0, .ref x0), (1, .int x1), (2, .int x2), (3, .int x3)]) hC (by decide) rfl dX12_goesBy_1 ?_
  refine zt_keep [0, 1, 2, 3, 4] rfl ?_
  exact w_X12_goesBy_3 N hC N x0 x1 x2 x3 (0 : Int32) M h
def rm_X12_dayOf : Room := { frames := 6, cells := 0, slots := 0, locals := 143 }
theorem hd_X12_dayOf : yX12_dayOf.cls ≠ "java/lang/invoke/MethodHandle" ∧ yX12_dayOf.cls ≠ "java/lang/invoke/VarHandle" ∧ (parseMethodDescriptor yX12_dayOf.desc).map (fun d => d.parameters.length) = some 5 := by decide +kernel
def f_X12_dayOf (N : Nat) (x0 : Nat) (x1 : Int32) (x2 : Int32) (x3 : Int32) (x4 : Int32) (x5 : Int32) (M : Mm) : Option (Int32 × Mm) :=
gR 12 M x0 8 (fun v1 =>
ald M v1 x1 (fun v2 =>
gR 12 M x0 9 (fun v3 =>
ald M v3 x1 (fun v4 =>
ck 12 M x0 (bnd (f_X12_begins N x0 x4 x2 v2 v4 M) (fun v5 M6 =>
ck 12 M6 x0 (bnd (f_X12_goesBy N x0 x3 (1 : Int32) x5 M6) (fun v8 M9 =>
some (v8, M9)))))))))
set_option maxRecDepth 100000 in
set_option maxHeartbeats 4000000 in
theorem c_X12_dayOf (N : Nat) (x0 : Nat) (x1 : Int32) (x2 : Int32) (x3 : Int32) (x4 : Int32) (x5 : Int32) (M : Mm) (r : (Int32 × Mm)) (h : f_X12_dayOf N x0 x1 x2 x3 x4 x5 M = some r) (l : Launch) (hfl : l.flags = flags0) {G : Gl} : MT l G yX12_dayOf cX12_dayOf 6 (some .int) rm_X12_dayOf [.ref x0, .int x1, .int x2, .int x3, .int x4, .int x5] M (some (.int r.1)) r.2 := by
  unfold f_X12_dayOf at h
  refine zt_start hfl (lv := [(0, .ref x0), (1, .int x1), (2, .int x2), (3, .int x3), (4, .int x4), (5, .int x5)]) (by decide) (Nat.le_of_ble_eq_true rfl) rfl wd_1247 (fun X hC _ => ?_)
  refine zt_aload_n hC rfl dX12_dayOf_0 ?_
  refine zt_iload hC rfl dX12_dayOf_1 ?_
  refine zt_iload_n hC rfl dX12_dayOf_3 ?_
  refine zt_aload_n hC rfl dX12_dayOf_4 ?_
  refine zt_gR hC h cl12 (k := 8) (by decide) rfl wd_999 (Or.inl rfl) dX12_dayOf_5 (fun v1 h => ?_)
  refine zt_iload_n hC rfl dX12_dayOf_8 ?_
  refine zt_ald hC h dX12_dayOf_9 (fun v2 h => ?_)
  refine zt_aload_n hC rfl dX12_dayOf_10 ?_
  refine zt_gR hC h cl12 (k := 9) (by decide) rfl wd_1000 (Or.inl rfl) dX12_dayOf_11 (fun v3 h => ?_)
  refine zt_iload_n hC rfl dX12_dayOf_14 ?_
  refine zt_ald hC h dX12_dayOf_15 (fun v4 h => ?_)
  obtain ⟨hk, h⟩ := ck_some h
  obtain ⟨v5, M6, h7, h⟩ := bnd_some h
  refine zt_callV (z := yX12_begins) (As := [.int x4, .int x2, .int v2, .int v4]) (rest := []) (st1 := []) hC 4 hk cl12 (fun l hl => c_X12_begins N x0 x4 x2 v2 v4 M (v5, M6) h7 l hl) rfl wd_1251 wd_1248 wd_1250 ws_41 wd_7 hd_X12_begins rfl ⟨⟨(Nat.le_of_ble_eq_true rfl), (Nat.le_of_ble_eq_true rfl)⟩, (Nat.le_of_ble_eq_true rfl), (Nat.le_of_ble_eq_true rfl)⟩ rfl (Nat.le_of_ble_eq_true rfl) rfl dX12_dayOf_16 ?_
  refine zt_aload_n hC rfl dX12_dayOf_19 ?_
  refine zt_iload_n hC rfl dX12_dayOf_20 ?_
  refine zt_iconst hC ki_1 dX12_dayOf_21 ?_
  refine zt_iload hC rfl dX12_dayOf_22 ?_
  obtain ⟨hk, h⟩ := ck_some h
  obtain ⟨v8, M9, h10, h⟩ := bnd_some h
  refine zt_callV (z := yX12_goesBy) (As := [.int x3, .int (1 : Int32), .int x5]) (rest := []) (st1 := (.int v8 :: [])) hC 3 hk cl12 (fun l hl => c_X12_goesBy N x0 x3 (1 : Int32) x5 M6 (v8, M9) h10 l hl) rfl wd_1255 wd_1252 wd_1254 ws_42 wd_7 hd_X12_goesBy rfl ⟨⟨(Nat.le_of_ble_eq_true rfl), (Nat.le_of_ble_eq_true rfl)⟩, (Nat.le_of_ble_eq_true rfl), (Nat.le_of_ble_eq_true rfl)⟩ rfl (Nat.le_of_ble_eq_true rfl) rfl dX12_dayOf_24 ?_
  obtain rfl := Option.some.inj h
  exact zt_iret hC rfl rfl (Nat.le_of_ble_eq_true rfl) (Nat.le_of_ble_eq_true rfl) dX12_dayOf_27
def rm_X12_isDay : Room := { frames := 1, cells := 0, slots := 0, locals := 25 }
theorem hd_X12_isDay : yX12_isDay.cls ≠ "java/lang/invoke/MethodHandle" ∧ yX12_isDay.cls ≠ "java/lang/invoke/VarHandle" ∧ (parseMethodDescriptor yX12_isDay.desc).map (fun d => d.parameters.length) = some 1 := by decide +kernel
def f_X12_isDay (N : Nat) (x0 : Int32) (M : Mm) : Option (Int32 × Mm) :=
bnd (f_X12_isIn N (Int32.toInt64 x0) (1 : Int64) (120 : Int64) M) (fun v1 M2 =>
rq (v1 = 0 ∨ v1 = 1) (some (v1, M2)))
set_option maxRecDepth 100000 in
set_option maxHeartbeats 4000000 in
theorem c_X12_isDay (N : Nat) (x0 : Int32) (M : Mm) (r : (Int32 × Mm)) (h : f_X12_isDay N x0 M = some r) (l : Launch) (hfl : l.flags = flags0) {G : Gl} : MT l G yX12_isDay cX12_isDay 1 (some .boolean) rm_X12_isDay [.int x0] M (some (.int r.1)) r.2 := by
  unfold f_X12_isDay at h
  refine zt_start hfl (lv := [(0, .int x0)]) (by decide) (Nat.le_of_ble_eq_true rfl) rfl wd_1242 (fun X hC _ => ?_)
  refine zt_iload_n hC rfl dX12_isDay_0 ?_
  refine zt_i2l hC dX12_isDay_1 ?_
  refine zt_lconst hC kl_1 dX12_isDay_2 ?_
  refine zt_ldc2 hC wd_1243 dX12_isDay_3 ?_
  obtain ⟨v1, M2, h3, h⟩ := bnd_some h
  refine zt_callS (z := yX12_isIn) (As := [.long (Int32.toInt64 x0), .long (1 : Int64), .long (120 : Int64)]) (rest := []) (st1 := (.int v1 :: [])) hC 3 (fun l hl => c_X12_isIn N (Int32.toInt64 x0) (1 : Int64) (120 : Int64) M (v1, M2) h3 l hl) rfl wd_1067 wd_1065 wd_1066 wd_7 hd_X12_isIn rfl ⟨⟨(Nat.le_of_ble_eq_true rfl), (Nat.le_of_ble_eq_true rfl)⟩, (Nat.le_of_ble_eq_true rfl), (Nat.le_of_ble_eq_true rfl)⟩ rfl (Nat.le_of_ble_eq_true rfl) rfl dX12_isDay_6 ?_
  obtain ⟨hz, h⟩ := rq_some h
  obtain rfl := Option.some.inj h
  exact zt_zret hC rfl rfl hz (Nat.le_of_ble_eq_true rfl) (Nat.le_of_ble_eq_true rfl) dX12_isDay_9
def rm_X12_day : Room := { frames := 7, cells := 0, slots := 0, locals := 168 }
theorem hd_X12_day : yX12_day.cls ≠ "java/lang/invoke/MethodHandle" ∧ yX12_day.cls ≠ "java/lang/invoke/VarHandle" ∧ (parseMethodDescriptor yX12_day.desc).map (fun d => d.parameters.length) = some 5 := by decide +kernel
def f_X12_day (N : Nat) (x0 : Nat) (x1 : Int32) (x2 : Int32) (x3 : Int32) (x4 : Int32) (x5 : Int32) (M : Mm) : Option (Int32 × Mm) :=
bnd (f_X12_isShelf N x1 M) (fun v1 M2 =>
(if v1 = 0 then
some ((-1 : Int32), M2)
else
ck 12 M2 x0 (bnd (f_X12_isLanding N x0 x2 M2) (fun v4 M5 =>
(if v4 = 0 then
some ((-1 : Int32), M5)
else
bnd (f_X12_isDay N x3 M5) (fun v7 M8 =>
(if v7 = 0 then
some ((-1 : Int32), M8)
else
bnd (f_X12_isIn N (Int32.toInt64 x5) (0 : Int64) (3 : Int64) M8) (fun v10 M11 =>
(if v10 = 0 then
some ((-1 : Int32), M11)
else
ck 12 M11 x0 (bnd (f_X12_wrongRule N x0 x1 M11) (fun v13 M14 =>
(if v13 = 0 then
ck 12 M14 x0 (bnd (f_X12_dayOf N x0 x1 x2 x3 x4 x5 M14) (fun v16 M17 =>
some (v16, M17)))
else
some (v13, M14)))))))))))))
set_option maxRecDepth 100000 in
set_option maxHeartbeats 4000000 in
theorem c_X12_day (N : Nat) (x0 : Nat) (x1 : Int32) (x2 : Int32) (x3 : Int32) (x4 : Int32) (x5 : Int32) (M : Mm) (r : (Int32 × Mm)) (h : f_X12_day N x0 x1 x2 x3 x4 x5 M = some r) (l : Launch) (hfl : l.flags = flags0) {G : Gl} : MT l G yX12_day cX12_day 7 (some .int) rm_X12_day [.ref x0, .int x1, .int x2, .int x3, .int x4, .int x5] M (some (.int r.1)) r.2 := by
  unfold f_X12_day at h
  refine zt_start hfl (lv := [(0, .ref x0), (1, .int x1), (2, .int x2), (3, .int x3), (4, .int x4), (5, .int x5)]) (by decide) (Nat.le_of_ble_eq_true rfl) rfl wd_1239 (fun X hC _ => ?_)
  refine zt_iload_n hC rfl dX12_day_0 ?_
  obtain ⟨v1, M2, h3, h⟩ := bnd_some h
  refine zt_callS (z := yX12_isShelf) (As := [.int x1]) (rest := []) (st1 := (.int v1 :: [])) hC 1 (fun l hl => c_X12_isShelf N x1 M (v1, M2) h3 l hl) rfl wd_1063 wd_1061 wd_1062 wd_7 hd_X12_isShelf rfl ⟨⟨(Nat.le_of_ble_eq_true rfl), (Nat.le_of_ble_eq_true rfl)⟩, (Nat.le_of_ble_eq_true rfl), (Nat.le_of_ble_eq_true rfl)⟩ rfl (Nat.le_of_ble_eq_true rfl) rfl dX12_day_1 ?_
  refine zt_if_eq (tgt := 35) hC h (by decide) dX12_day_4 (fun h => ?_) (fun h => ?_)
  · refine zt_iconst hC ki_m1 dX12_day_35 ?_
    obtain rfl := Option.some.inj h
    exact zt_iret hC rfl rfl (Nat.le_of_ble_eq_true rfl) (Nat.le_of_ble_eq_true rfl) dX12_day_36
  · refine zt_aload_n hC rfl dX12_day_7 ?_
    refine zt_iload_n hC rfl dX12_day_8 ?_
    obtain ⟨hk, h⟩ := ck_some h
    obtain ⟨v4, M5, h6, h⟩ := bnd_some h
    refine zt_callV (z := yX12_isLanding) (As := [.int x2]) (rest := []) (st1 := (.int v4 :: [])) hC 1 hk cl12 (fun l hl => c_X12_isLanding N x0 x2 M2 (v4, M5) h6 l hl) rfl wd_1122 wd_1119 wd_1121 ws_29 wd_7 hd_X12_isLanding rfl ⟨⟨(Nat.le_of_ble_eq_true rfl), (Nat.le_of_ble_eq_true rfl)⟩, (Nat.le_of_ble_eq_true rfl), (Nat.le_of_ble_eq_true rfl)⟩ rfl (Nat.le_of_ble_eq_true rfl) rfl dX12_day_9 ?_
    refine zt_if_eq (tgt := 35) hC h (by decide) dX12_day_12 (fun h => ?_) (fun h => ?_)
    · refine zt_iconst hC ki_m1 dX12_day_35 ?_
      obtain rfl := Option.some.inj h
      exact zt_iret hC rfl rfl (Nat.le_of_ble_eq_true rfl) (Nat.le_of_ble_eq_true rfl) dX12_day_36
    · refine zt_iload_n hC rfl dX12_day_15 ?_
      obtain ⟨v7, M8, h9, h⟩ := bnd_some h
      refine zt_callS (z := yX12_isDay) (As := [.int x3]) (rest := []) (st1 := (.int v7 :: [])) hC 1 (fun l hl => c_X12_isDay N x3 M5 (v7, M8) h9 l hl) rfl wd_1242 wd_1240 wd_1241 wd_7 hd_X12_isDay rfl ⟨⟨(Nat.le_of_ble_eq_true rfl), (Nat.le_of_ble_eq_true rfl)⟩, (Nat.le_of_ble_eq_true rfl), (Nat.le_of_ble_eq_true rfl)⟩ rfl (Nat.le_of_ble_eq_true rfl) rfl dX12_day_16 ?_
      refine zt_if_eq (tgt := 35) hC h (by decide) dX12_day_19 (fun h => ?_) (fun h => ?_)
      · refine zt_iconst hC ki_m1 dX12_day_35 ?_
        obtain rfl := Option.some.inj h
        exact zt_iret hC rfl rfl (Nat.le_of_ble_eq_true rfl) (Nat.le_of_ble_eq_true rfl) dX12_day_36
      · refine zt_iload hC rfl dX12_day_22 ?_
        refine zt_i2l hC dX12_day_24 ?_
        refine zt_lconst hC kl_0 dX12_day_25 ?_
        refine zt_ldc2 hC wd_1235 dX12_day_26 ?_
        obtain ⟨v10, M11, h12, h⟩ := bnd_some h
        refine zt_callS (z := yX12_isIn) (As := [.long (Int32.toInt64 x5), .long (0 : Int64), .long (3 : Int64)]) (rest := []) (st1 := (.int v10 :: [])) hC 3 (fun l hl => c_X12_isIn N (Int32.toInt64 x5) (0 : Int64) (3 : Int64) M8 (v10, M11) h12 l hl) rfl wd_1067 wd_1065 wd_1066 wd_7 hd_X12_isIn rfl ⟨⟨(Nat.le_of_ble_eq_true rfl), (Nat.le_of_ble_eq_true rfl)⟩, (Nat.le_of_ble_eq_true rfl), (Nat.le_of_ble_eq_true rfl)⟩ rfl (Nat.le_of_ble_eq_true rfl) rfl dX12_day_29 ?_
        refine zt_if_ne (tgt := 37) hC h (by decide) dX12_day_32 (fun h => ?_) (fun h => ?_)
        · refine zt_aload_n hC rfl dX12_day_37 ?_
          refine zt_iload_n hC rfl dX12_day_38 ?_
          obtain ⟨hk, h⟩ := ck_some h
          obtain ⟨v13, M14, h15, h⟩ := bnd_some h
          refine zt_callV (z := yX12_wrongRule) (As := [.int x1]) (rest := []) (st1 := (.int v13 :: [])) hC 1 hk cl12 (fun l hl => c_X12_wrongRule N x0 x1 M11 (v13, M14) h15 l hl) rfl wd_1151 wd_1148 wd_1150 ws_32 wd_7 hd_X12_wrongRule rfl ⟨⟨(Nat.le_of_ble_eq_true rfl), (Nat.le_of_ble_eq_true rfl)⟩, (Nat.le_of_ble_eq_true rfl), (Nat.le_of_ble_eq_true rfl)⟩ rfl (Nat.le_of_ble_eq_true rfl) rfl dX12_day_39 ?_
          refine zt_istore (lv' := [(6, .int v13), (0, .ref x0), (1, .int x1), (2, .int x2), (3, .int x3), (4, .int x4), (5, .int x5)]) hC (by decide) rfl dX12_day_42 ?_
          refine zt_iload hC rfl dX12_day_44 ?_
          refine zt_if_eq (tgt := 54) hC h (by decide) dX12_day_46 (fun h => ?_) (fun h => ?_)
          · refine zt_aload_n hC rfl dX12_day_54 ?_
            refine zt_iload_n hC rfl dX12_day_55 ?_
            refine zt_iload_n hC rfl dX12_day_56 ?_
            refine zt_iload_n hC rfl dX12_day_57 ?_
            refine zt_iload hC rfl dX12_day_58 ?_
            refine zt_iload hC rfl dX12_day_60 ?_
            obtain ⟨hk, h⟩ := ck_some h
            obtain ⟨v16, M17, h18, h⟩ := bnd_some h
            refine zt_callV (z := yX12_dayOf) (As := [.int x1, .int x2, .int x3, .int x4, .int x5]) (rest := []) (st1 := (.int v16 :: [])) hC 5 hk cl12 (fun l hl => c_X12_dayOf N x0 x1 x2 x3 x4 x5 M14 (v16, M17) h18 l hl) rfl wd_1247 wd_1244 wd_1246 ws_40 wd_7 hd_X12_dayOf rfl ⟨⟨(Nat.le_of_ble_eq_true rfl), (Nat.le_of_ble_eq_true rfl)⟩, (Nat.le_of_ble_eq_true rfl), (Nat.le_of_ble_eq_true rfl)⟩ rfl (Nat.le_of_ble_eq_true rfl) rfl dX12_day_62 ?_
            obtain rfl := Option.some.inj h
            exact zt_iret hC rfl rfl (Nat.le_of_ble_eq_true rfl) (Nat.le_of_ble_eq_true rfl) dX12_day_65
          · refine zt_iload hC rfl dX12_day_49 ?_
            refine zt_goto (tgt := 65) hC (by decide) dX12_day_51 ?_
            obtain rfl := Option.some.inj h
            exact zt_iret hC rfl rfl (Nat.le_of_ble_eq_true rfl) (Nat.le_of_ble_eq_true rfl) dX12_day_65
        · refine zt_iconst hC ki_m1 dX12_day_35 ?_
          obtain rfl := Option.some.inj h
          exact zt_iret hC rfl rfl (Nat.le_of_ble_eq_true rfl) (Nat.le_of_ble_eq_true rfl) dX12_day_36
def rm_X12_meanOf : Room := { frames := 6, cells := 0, slots := 0, locals := 143 }
theorem hd_X12_meanOf : yX12_meanOf.cls ≠ "java/lang/invoke/MethodHandle" ∧ yX12_meanOf.cls ≠ "java/lang/invoke/VarHandle" ∧ (parseMethodDescriptor yX12_meanOf.desc).map (fun d => d.parameters.length) = some 6 := by decide +kernel
def b_X12_meanOf_6 (N : Nat) (k6 : Nat → Int32 → Int32 → Int32 → Int32 → Int32 → Int32 → Int32 → Int32 → Mm → Option (Int32 × Mm)) (x0 : Nat) (x1 : Int32) (x2 : Int32) (x3 : Int32) (x4 : Int32) (x5 : Int32) (x6 : Int32) (x7 : Int32) (x8 : Int32) (M : Mm) : Option (Int32 × Mm) :=
(if x5 ≤ x8 then
some (x7, M)
else
ck 12 M x0 (bnd (f_X12_begins N x0 (x6 + x8) x3 x1 x2 M) (fun v1 M2 =>
ck 12 M2 x0 (bnd (f_X12_goesBy N x0 x4 (1 : Int32) (0 : Int32) M2) (fun v4 M5 =>
gR 12 M5 x0 2 (fun v7 =>
ald M5 v7 (7 : Int32) (fun v8 =>
k6 x0 x1 x2 x3 x4 x5 x6 (x7 + (v8 - v4)) (x8 + (1 : Int32)) M5)))))))
def l_X12_meanOf_6 (N : Nat) : Nat → Nat → Int32 → Int32 → Int32 → Int32 → Int32 → Int32 → Int32 → Int32 → Mm → Option (Int32 × Mm)
  | 0 => fun _ _ _ _ _ _ _ _ _ _ => none
  | n + 1 => b_X12_meanOf_6 N (l_X12_meanOf_6 N n)
set_option maxRecDepth 100000 in
set_option maxHeartbeats 4000000 in
theorem v_X12_meanOf_6 {X : Cx} {G : Gl} {r : (Int32 × Mm)} (N : Nat) (hC : CX X G yX12_meanOf cX12_meanOf 10 (some .int) rm_X12_meanOf) (k6 : Nat → Int32 → Int32 → Int32 → Int32 → Int32 → Int32 → Int32 → Int32 → Mm → Option (Int32 × Mm)) (hk6 : ∀ (x0 : Nat) (x1 : Int32) (x2 : Int32) (x3 : Int32) (x4 : Int32) (x5 : Int32) (x6 : Int32) (x7 : Int32) (x8 : Int32) (M : Mm), k6 x0 x1 x2 x3 x4 x5 x6 x7 x8 M = some r → TW X G 10 (RQ X G (some (.int r.1)) r.2 rm_X12_meanOf) 0 0 M 6 [(0, .ref x0), (1, .int x1), (2, .int x2), (3, .int x3), (4, .int x4), (5, .int x5), (6, .int x6), (7, .int x7), (8, .int x8)] []) (x0 : Nat) (x1 : Int32) (x2 : Int32) (x3 : Int32) (x4 : Int32) (x5 : Int32) (x6 : Int32) (x7 : Int32) (x8 : Int32) (M : Mm) (h : b_X12_meanOf_6 N k6 x0 x1 x2 x3 x4 x5 x6 x7 x8 M = some r) : TW X G 10 (RQ X G (some (.int r.1)) r.2 rm_X12_meanOf) 0 0 M 6 [(0, .ref x0), (1, .int x1), (2, .int x2), (3, .int x3), (4, .int x4), (5, .int x5), (6, .int x6), (7, .int x7), (8, .int x8)] [] := by
  unfold b_X12_meanOf_6 at h
  refine zt_iload hC rfl dX12_meanOf_6 ?_
  refine zt_iload hC rfl dX12_meanOf_8 ?_
  refine zt_icmp_ge (tgt := 56) hC h (by decide) dX12_meanOf_10 (fun h => ?_) (fun h => ?_)
  · refine zt_iload hC rfl dX12_meanOf_56 ?_
    obtain rfl := Option.some.inj h
    exact zt_iret hC rfl rfl (Nat.le_of_ble_eq_true rfl) (Nat.le_of_ble_eq_true rfl) dX12_meanOf_58
  · refine zt_aload_n hC rfl dX12_meanOf_13 ?_
    refine zt_iload hC rfl dX12_meanOf_14 ?_
    refine zt_iload hC rfl dX12_meanOf_16 ?_
    refine zt_iadd hC dX12_meanOf_18 ?_
    refine zt_iload_n hC rfl dX12_meanOf_19 ?_
    refine zt_iload_n hC rfl dX12_meanOf_20 ?_
    refine zt_iload_n hC rfl dX12_meanOf_21 ?_
    obtain ⟨hk, h⟩ := ck_some h
    obtain ⟨v1, M2, h3, h⟩ := bnd_some h
    refine zt_callV (z := yX12_begins) (As := [.int (x6 + x8), .int x3, .int x1, .int x2]) (rest := []) (st1 := []) hC 4 hk cl12 (fun l hl => c_X12_begins N x0 (x6 + x8) x3 x1 x2 M (v1, M2) h3 l hl) rfl wd_1251 wd_1248 wd_1250 ws_41 wd_7 hd_X12_begins rfl ⟨⟨(Nat.le_of_ble_eq_true rfl), (Nat.le_of_ble_eq_true rfl)⟩, (Nat.le_of_ble_eq_true rfl), (Nat.le_of_ble_eq_true rfl)⟩ rfl (Nat.le_of_ble_eq_true rfl) rfl dX12_meanOf_22 ?_
    refine zt_aload_n hC rfl dX12_meanOf_25 ?_
    refine zt_iload hC rfl dX12_meanOf_26 ?_
    refine zt_iconst hC ki_1 dX12_meanOf_28 ?_
    refine zt_iconst hC ki_0 dX12_meanOf_29 ?_
    obtain ⟨hk, h⟩ := ck_some h
    obtain ⟨v4, M5, h6, h⟩ := bnd_some h
    refine zt_callV (z := yX12_goesBy) (As := [.int x4, .int (1 : Int32), .int (0 : Int32)]) (rest := []) (st1 := (.int v4 :: [])) hC 3 hk cl12 (fun l hl => c_X12_goesBy N x0 x4 (1 : Int32) (0 : Int32) M2 (v4, M5) h6 l hl) rfl wd_1255 wd_1252 wd_1254 ws_42 wd_7 hd_X12_goesBy rfl ⟨⟨(Nat.le_of_ble_eq_true rfl), (Nat.le_of_ble_eq_true rfl)⟩, (Nat.le_of_ble_eq_true rfl), (Nat.le_of_ble_eq_true rfl)⟩ rfl (Nat.le_of_ble_eq_true rfl) rfl dX12_meanOf_30 ?_
    refine zt_istore (lv' := [(9, .int v4), (0, .ref x0), (1, .int x1), (2, .int x2), (3, .int x3), (4, .int x4), (5, .int x5), (6, .int x6), (7, .int x7), (8, .int x8)]) hC (by decide) rfl dX12_meanOf_33 ?_
    refine zt_iload hC rfl dX12_meanOf_35 ?_
    refine zt_aload_n hC rfl dX12_meanOf_37 ?_
    refine zt_gR hC h cl12 (k := 2) (by decide) rfl wd_993 (Or.inl rfl) dX12_meanOf_38 (fun v7 h => ?_)
    refine zt_bipush hC kb_7 dX12_meanOf_41 ?_
    refine zt_ald hC h dX12_meanOf_43 (fun v8 h => ?_)
    refine zt_iload hC rfl dX12_meanOf_44 ?_
    refine zt_isub hC dX12_meanOf_46 ?_
    refine zt_iadd hC dX12_meanOf_47 ?_
    refine zt_istore (lv' := [(7, .int (x7 + (v8 - v4))), (9, .int v4), (0, .ref x0), (1, .int x1), (2, .int x2), (3, .int x3), (4, .int x4), (5, .int x5), (6, .int x6), (8, .int x8)]) hC (by decide) rfl dX12_meanOf_48 ?_
    refine zt_iinc (v := (x8 + (1 : Int32))) (lv' := [(8, .int (x8 + (1 : Int32))), (7, .int (x7 + (v8 - v4))), (9, .int v4), (0, .ref x0), (1, .int x1), (2, .int x2), (3, .int x3), (4, .int x4), (5, .int x5), (6, .int x6)]) hC rfl (by rw [ki_1]) (by decide) rfl dX12_meanOf_50 ?_
    refine zt_goto (tgt := 6) hC (by decide) dX12_meanOf_53 ?_
    refine zt_keep [0, 1, 2, 3, 4, 5, 6, 7, 8] rfl ?_
    exact hk6 x0 x1 x2 x3 x4 x5 x6 (x7 + (v8 - v4)) (x8 + (1 : Int32)) M5 h
theorem w_X12_meanOf_6 {X : Cx} {G : Gl} {r : (Int32 × Mm)} (N : Nat) (hC : CX X G yX12_meanOf cX12_meanOf 10 (some .int) rm_X12_meanOf) (n : Nat) : ∀ (x0 : Nat) (x1 : Int32) (x2 : Int32) (x3 : Int32) (x4 : Int32) (x5 : Int32) (x6 : Int32) (x7 : Int32) (x8 : Int32) (M : Mm), l_X12_meanOf_6 N n x0 x1 x2 x3 x4 x5 x6 x7 x8 M = some r → TW X G 10 (RQ X G (some (.int r.1)) r.2 rm_X12_meanOf) 0 0 M 6 [(0, .ref x0), (1, .int x1), (2, .int x2), (3, .int x3), (4, .int x4), (5, .int x5), (6, .int x6), (7, .int x7), (8, .int x8)] [] := by
  induction n with
  | zero => intro  x0 x1 x2 x3 x4 x5 x6 x7 x8 M h; cases (show none = some r from h)
  | succ n ih => intro  x0 x1 x2 x3 x4 x5 x6 x7 x8 M h; exact v_X12_meanOf_6 N hC (l_X12_meanOf_6 N n) ih x0 x1 x2 x3 x4 x5 x6 x7 x8 M h
def f_X12_meanOf (N : Nat) (x0 : Nat) (x1 : Int32) (x2 : Int32) (x3 : Int32) (x4 : Int32) (x5 : Int32) (x6 : Int32) (M : Mm) : Option (Int32 × Mm) :=
l_X12_meanOf_6 N N x0 x1 x2 x3 x4 x5 x6 (0 : Int32) (0 : Int32) M
set_option maxRecDepth 100000 in
set_option maxHeartbeats 4000000 in
theorem c_X12_meanOf (N : Nat) (x0 : Nat) (x1 : Int32) (x2 : Int32) (x3 : Int32) (x4 : Int32) (x5 : Int32) (x6 : Int32) (M : Mm) (r : (Int32 × Mm)) (h : f_X12_meanOf N x0 x1 x2 x3 x4 x5 x6 M = some r) (l : Launch) (hfl : l.flags = flags0) {G : Gl} : MT l G yX12_meanOf cX12_meanOf 10 (some .int) rm_X12_meanOf [.ref x0, .int x1, .int x2, .int x3, .int x4, .int x5, .int x6] M (some (.int r.1)) r.2 := by
  unfold f_X12_meanOf at h
  refine zt_start hfl (lv := [(0, .ref x0), (1, .int x1), (2, .int x2), (3, .int x3), (4, .int x4), (5, .int x5), (6, .int x6)]) (by decide) (Nat.le_of_ble_eq_true rfl) rfl wd_1266 (fun X hC _ => ?_)
  refine zt_iconst hC ki_0 dX12_meanOf_0 ?_
  refine zt_istore (lv' := [(7, .int (0 : Int32)), (0, .ref x0), (1, .int x1), (2, .int x2), (3, .int x3), (4, .int x4), (5, .int x5), (6, .int x6)]) hC (by decide) rfl dX12_meanOf_1 ?_
  refine zt_iconst hC ki_0 dX12_meanOf_3 ?_
  refine zt_istore (lv' := [(8, .int (0 : Int32)), (7, .int (0 : Int32)), (0, .ref x0), (1, .int x1), (2, .int x2), (3, .int x3), (4, .int x4), (5, .int x5), (6, .int x6)]) hC (by decide) rfl dX12_meanOf_4 ?_
  refine zt_keep [0, 1, 2, 3, 4, 5, 6, 7, 8] rfl ?_
  exact w_X12_meanOf_6 N hC N x0 x1 x2 x3 x4 x5 x6 (0 : Int32) (0 : Int32) M h
def rm_X12_mean : Room := { frames := 7, cells := 0, slots := 0, locals := 172 }
theorem hd_X12_mean : yX12_mean.cls ≠ "java/lang/invoke/MethodHandle" ∧ yX12_mean.cls ≠ "java/lang/invoke/VarHandle" ∧ (parseMethodDescriptor yX12_mean.desc).map (fun d => d.parameters.length) = some 5 := by decide +kernel
def f_X12_mean (N : Nat) (x0 : Nat) (x1 : Int32) (x2 : Int32) (x3 : Int32) (x4 : Int32) (x5 : Int32) (M : Mm) : Option (Int32 × Mm) :=
bnd (f_X12_isShelf N x1 M) (fun v1 M2 =>
(if v1 = 0 then
some ((-1000000001 : Int32), M2)
else
ck 12 M2 x0 (bnd (f_X12_isLanding N x0 x2 M2) (fun v4 M5 =>
(if v4 = 0 then
some ((-1000000001 : Int32), M5)
else
bnd (f_X12_isDay N x3 M5) (fun v7 M8 =>
(if v7 = 0 then
some ((-1000000001 : Int32), M8)
else
bnd (f_X12_isIn N (Int32.toInt64 x4) (1 : Int64) (10 : Int64) M8) (fun v10 M11 =>
(if v10 = 0 then
some ((-1000000001 : Int32), M11)
else
ck 12 M11 x0 (bnd (f_X12_wrongRule N x0 x1 M11) (fun v13 M14 =>
(if v13 = 0 then
gR 12 M14 x0 8 (fun v16 =>
ald M14 v16 x1 (fun v17 =>
gR 12 M14 x0 9 (fun v18 =>
ald M14 v18 x1 (fun v19 =>
ck 12 M14 x0 (bnd (f_X12_meanOf N x0 v17 v19 x2 x3 x4 x5 M14) (fun v20 M21 =>
some (v20, M21)))))))
else
some (((-1000000000 : Int32) + v13), M14)))))))))))))
set_option maxRecDepth 100000 in
set_option maxHeartbeats 4000000 in
theorem c_X12_mean (N : Nat) (x0 : Nat) (x1 : Int32) (x2 : Int32) (x3 : Int32) (x4 : Int32) (x5 : Int32) (M : Mm) (r : (Int32 × Mm)) (h : f_X12_mean N x0 x1 x2 x3 x4 x5 M = some r) (l : Launch) (hfl : l.flags = flags0) {G : Gl} : MT l G yX12_mean cX12_mean 7 (some .int) rm_X12_mean [.ref x0, .int x1, .int x2, .int x3, .int x4, .int x5] M (some (.int r.1)) r.2 := by
  unfold f_X12_mean at h
  refine zt_start hfl (lv := [(0, .ref x0), (1, .int x1), (2, .int x2), (3, .int x3), (4, .int x4), (5, .int x5)]) (by decide) (Nat.le_of_ble_eq_true rfl) rfl wd_1259 (fun X hC _ => ?_)
  refine zt_iload_n hC rfl dX12_mean_0 ?_
  obtain ⟨v1, M2, h3, h⟩ := bnd_some h
  refine zt_callS (z := yX12_isShelf) (As := [.int x1]) (rest := []) (st1 := (.int v1 :: [])) hC 1 (fun l hl => c_X12_isShelf N x1 M (v1, M2) h3 l hl) rfl wd_1063 wd_1061 wd_1062 wd_7 hd_X12_isShelf rfl ⟨⟨(Nat.le_of_ble_eq_true rfl), (Nat.le_of_ble_eq_true rfl)⟩, (Nat.le_of_ble_eq_true rfl), (Nat.le_of_ble_eq_true rfl)⟩ rfl (Nat.le_of_ble_eq_true rfl) rfl dX12_mean_1 ?_
  refine zt_if_eq (tgt := 35) hC h (by decide) dX12_mean_4 (fun h => ?_) (fun h => ?_)
  · refine zt_ldc hC wd_1261 dX12_mean_35 ?_
    obtain rfl := Option.some.inj h
    exact zt_iret hC rfl rfl (Nat.le_of_ble_eq_true rfl) (Nat.le_of_ble_eq_true rfl) dX12_mean_37
  · refine zt_aload_n hC rfl dX12_mean_7 ?_
    refine zt_iload_n hC rfl dX12_mean_8 ?_
    obtain ⟨hk, h⟩ := ck_some h
    obtain ⟨v4, M5, h6, h⟩ := bnd_some h
    refine zt_callV (z := yX12_isLanding) (As := [.int x2]) (rest := []) (st1 := (.int v4 :: [])) hC 1 hk cl12 (fun l hl => c_X12_isLanding N x0 x2 M2 (v4, M5) h6 l hl) rfl wd_1122 wd_1119 wd_1121 ws_29 wd_7 hd_X12_isLanding rfl ⟨⟨(Nat.le_of_ble_eq_true rfl), (Nat.le_of_ble_eq_true rfl)⟩, (Nat.le_of_ble_eq_true rfl), (Nat.le_of_ble_eq_true rfl)⟩ rfl (Nat.le_of_ble_eq_true rfl) rfl dX12_mean_9 ?_
    refine zt_if_eq (tgt := 35) hC h (by decide) dX12_mean_12 (fun h => ?_) (fun h => ?_)
    · refine zt_ldc hC wd_1261 dX12_mean_35 ?_
      obtain rfl := Option.some.inj h
      exact zt_iret hC rfl rfl (Nat.le_of_ble_eq_true rfl) (Nat.le_of_ble_eq_true rfl) dX12_mean_37
    · refine zt_iload_n hC rfl dX12_mean_15 ?_
      obtain ⟨v7, M8, h9, h⟩ := bnd_some h
      refine zt_callS (z := yX12_isDay) (As := [.int x3]) (rest := []) (st1 := (.int v7 :: [])) hC 1 (fun l hl => c_X12_isDay N x3 M5 (v7, M8) h9 l hl) rfl wd_1242 wd_1240 wd_1241 wd_7 hd_X12_isDay rfl ⟨⟨(Nat.le_of_ble_eq_true rfl), (Nat.le_of_ble_eq_true rfl)⟩, (Nat.le_of_ble_eq_true rfl), (Nat.le_of_ble_eq_true rfl)⟩ rfl (Nat.le_of_ble_eq_true rfl) rfl dX12_mean_16 ?_
      refine zt_if_eq (tgt := 35) hC h (by decide) dX12_mean_19 (fun h => ?_) (fun h => ?_)
      · refine zt_ldc hC wd_1261 dX12_mean_35 ?_
        obtain rfl := Option.some.inj h
        exact zt_iret hC rfl rfl (Nat.le_of_ble_eq_true rfl) (Nat.le_of_ble_eq_true rfl) dX12_mean_37
      · refine zt_iload hC rfl dX12_mean_22 ?_
        refine zt_i2l hC dX12_mean_24 ?_
        refine zt_lconst hC kl_1 dX12_mean_25 ?_
        refine zt_ldc2 hC wd_1260 dX12_mean_26 ?_
        obtain ⟨v10, M11, h12, h⟩ := bnd_some h
        refine zt_callS (z := yX12_isIn) (As := [.long (Int32.toInt64 x4), .long (1 : Int64), .long (10 : Int64)]) (rest := []) (st1 := (.int v10 :: [])) hC 3 (fun l hl => c_X12_isIn N (Int32.toInt64 x4) (1 : Int64) (10 : Int64) M8 (v10, M11) h12 l hl) rfl wd_1067 wd_1065 wd_1066 wd_7 hd_X12_isIn rfl ⟨⟨(Nat.le_of_ble_eq_true rfl), (Nat.le_of_ble_eq_true rfl)⟩, (Nat.le_of_ble_eq_true rfl), (Nat.le_of_ble_eq_true rfl)⟩ rfl (Nat.le_of_ble_eq_true rfl) rfl dX12_mean_29 ?_
        refine zt_if_ne (tgt := 38) hC h (by decide) dX12_mean_32 (fun h => ?_) (fun h => ?_)
        · refine zt_aload_n hC rfl dX12_mean_38 ?_
          refine zt_iload_n hC rfl dX12_mean_39 ?_
          obtain ⟨hk, h⟩ := ck_some h
          obtain ⟨v13, M14, h15, h⟩ := bnd_some h
          refine zt_callV (z := yX12_wrongRule) (As := [.int x1]) (rest := []) (st1 := (.int v13 :: [])) hC 1 hk cl12 (fun l hl => c_X12_wrongRule N x0 x1 M11 (v13, M14) h15 l hl) rfl wd_1151 wd_1148 wd_1150 ws_32 wd_7 hd_X12_wrongRule rfl ⟨⟨(Nat.le_of_ble_eq_true rfl), (Nat.le_of_ble_eq_true rfl)⟩, (Nat.le_of_ble_eq_true rfl), (Nat.le_of_ble_eq_true rfl)⟩ rfl (Nat.le_of_ble_eq_true rfl) rfl dX12_mean_40 ?_
          refine zt_istore (lv' := [(6, .int v13), (0, .ref x0), (1, .int x1), (2, .int x2), (3, .int x3), (4, .int x4), (5, .int x5)]) hC (by decide) rfl dX12_mean_43 ?_
          refine zt_iload hC rfl dX12_mean_45 ?_
          refine zt_if_eq (tgt := 58) hC h (by decide) dX12_mean_47 (fun h => ?_) (fun h => ?_)
          · refine zt_aload_n hC rfl dX12_mean_58 ?_
            refine zt_aload_n hC rfl dX12_mean_59 ?_
            refine zt_gR hC h cl12 (k := 8) (by decide) rfl wd_999 (Or.inl rfl) dX12_mean_60 (fun v16 h => ?_)
            refine zt_iload_n hC rfl dX12_mean_63 ?_
            refine zt_ald hC h dX12_mean_64 (fun v17 h => ?_)
            refine zt_aload_n hC rfl dX12_mean_65 ?_
            refine zt_gR hC h cl12 (k := 9) (by decide) rfl wd_1000 (Or.inl rfl) dX12_mean_66 (fun v18 h => ?_)
            refine zt_iload_n hC rfl dX12_mean_69 ?_
            refine zt_ald hC h dX12_mean_70 (fun v19 h => ?_)
            refine zt_iload_n hC rfl dX12_mean_71 ?_
            refine zt_iload_n hC rfl dX12_mean_72 ?_
            refine zt_iload hC rfl dX12_mean_73 ?_
            refine zt_iload hC rfl dX12_mean_75 ?_
            obtain ⟨hk, h⟩ := ck_some h
            obtain ⟨v20, M21, h22, h⟩ := bnd_some h
            refine zt_callV (z := yX12_meanOf) (As := [.int v17, .int v19, .int x2, .int x3, .int x4, .int x5]) (rest := []) (st1 := (.int v20 :: [])) hC 6 hk cl12 (fun l hl => c_X12_meanOf N x0 v17 v19 x2 x3 x4 x5 M14 (v20, M21) h22 l hl) rfl wd_1266 wd_1263 wd_1265 ws_43 wd_7 hd_X12_meanOf rfl ⟨⟨(Nat.le_of_ble_eq_true rfl), (Nat.le_of_ble_eq_true rfl)⟩, (Nat.le_of_ble_eq_true rfl), (Nat.le_of_ble_eq_true rfl)⟩ rfl (Nat.le_of_ble_eq_true rfl) rfl dX12_mean_77 ?_
            obtain rfl := Option.some.inj h
            exact zt_iret hC rfl rfl (Nat.le_of_ble_eq_true rfl) (Nat.le_of_ble_eq_true rfl) dX12_mean_80
          · refine zt_ldc hC wd_1262 dX12_mean_50 ?_
            refine zt_iload hC rfl dX12_mean_52 ?_
            refine zt_iadd hC dX12_mean_54 ?_
            refine zt_goto (tgt := 80) hC (by decide) dX12_mean_55 ?_
            obtain rfl := Option.some.inj h
            exact zt_iret hC rfl rfl (Nat.le_of_ble_eq_true rfl) (Nat.le_of_ble_eq_true rfl) dX12_mean_80
        · refine zt_ldc hC wd_1261 dX12_mean_35 ?_
          obtain rfl := Option.some.inj h
          exact zt_iret hC rfl rfl (Nat.le_of_ble_eq_true rfl) (Nat.le_of_ble_eq_true rfl) dX12_mean_37
def rm_X12_best : Room := { frames := 7, cells := 0, slots := 0, locals := 172 }
theorem hd_X12_best : yX12_best.cls ≠ "java/lang/invoke/MethodHandle" ∧ yX12_best.cls ≠ "java/lang/invoke/VarHandle" ∧ (parseMethodDescriptor yX12_best.desc).map (fun d => d.parameters.length) = some 5 := by decide +kernel
def j_X12_best_184 (N : Nat) (k133 : Nat → Int32 → Int32 → Int32 → Int32 → Int32 → Int32 → Int32 → Int32 → Mm → Option (Int32 × Mm)) (x0 : Nat) (x1 : Int32) (x2 : Int32) (x3 : Int32) (x4 : Int32) (x5 : Int32) (x9 : Int32) (x10 : Int32) (M : Mm) : Option (Int32 × Mm) :=
k133 x0 x1 x2 x3 x4 x5 x9 x10 (x9 + (1 : Int32)) M
set_option maxRecDepth 100000 in
set_option maxHeartbeats 4000000 in
theorem w_X12_best_184 {X : Cx} {G : Gl} {r : (Int32 × Mm)} (N : Nat) (hC : CX X G yX12_best cX12_best 11 (some .int) rm_X12_best) (k133 : Nat → Int32 → Int32 → Int32 → Int32 → Int32 → Int32 → Int32 → Int32 → Mm → Option (Int32 × Mm)) (hk133 : ∀ (x0 : Nat) (x1 : Int32) (x2 : Int32) (x3 : Int32) (x4 : Int32) (x5 : Int32) (x7 : Int32) (x8 : Int32) (x9 : Int32) (M : Mm), k133 x0 x1 x2 x3 x4 x5 x7 x8 x9 M = some r → TW X G 11 (RQ X G (some (.int r.1)) r.2 rm_X12_best) 0 0 M 133 [(0, .ref x0), (1, .int x1), (2, .int x2), (3, .int x3), (4, .int x4), (5, .int x5), (7, .int x7), (8, .int x8), (9, .int x9)] []) (x0 : Nat) (x1 : Int32) (x2 : Int32) (x3 : Int32) (x4 : Int32) (x5 : Int32) (x9 : Int32) (x10 : Int32) (M : Mm) (h : j_X12_best_184 N k133 x0 x1 x2 x3 x4 x5 x9 x10 M = some r) : TW X G 11 (RQ X G (some (.int r.1)) r.2 rm_X12_best) 0 0 M 184 [(0, .ref x0), (1, .int x1), (2, .int x2), (3, .int x3), (4, .int x4), (5, .int x5), (9, .int x9), (10, .int x10)] [] := by
  unfold j_X12_best_184 at h
  refine zt_iload hC rfl dX12_best_184 ?_
  refine zt_istore (lv' := [(7, .int x9), (0, .ref x0), (1, .int x1), (2, .int x2), (3, .int x3), (4, .int x4), (5, .int x5), (9, .int x9), (10, .int x10)]) hC (by decide) rfl dX12_best_186 ?_
  refine zt_iload hC rfl dX12_best_188 ?_
  refine zt_istore (lv' := [(8, .int x10), (7, .int x9), (0, .ref x0), (1, .int x1), (2, .int x2), (3, .int x3), (4, .int x4), (5, .int x5), (9, .int x9), (10, .int x10)]) hC (by decide) rfl dX12_best_190 ?_
  refine zt_iinc (v := (x9 + (1 : Int32))) (lv' := [(9, .int (x9 + (1 : Int32))), (8, .int x10), (7, .int x9), (0, .ref x0), (1, .int x1), (2, .int x2), (3, .int x3), (4, .int x4), (5, .int x5), (10, .int x10)]) hC rfl (by rw [ki_1]) (by decide) rfl dX12_best_192 ?_
  refine zt_goto (tgt := 133) hC (by decide) dX12_best_195 ?_
  refine zt_keep [0, 1, 2, 3, 4, 5, 7, 8, 9] rfl ?_
  exact hk133 x0 x1 x2 x3 x4 x5 x9 x10 (x9 + (1 : Int32)) M h
def b_X12_best_133 (N : Nat) (k133 : Nat → Int32 → Int32 → Int32 → Int32 → Int32 → Int32 → Int32 → Int32 → Mm → Option (Int32 × Mm)) (x0 : Nat) (x1 : Int32) (x2 : Int32) (x3 : Int32) (x4 : Int32) (x5 : Int32) (x7 : Int32) (x8 : Int32) (x9 : Int32) (M : Mm) : Option (Int32 × Mm) :=
gR 12 M x0 6 (fun v1 =>
ald M v1 x1 (fun v2 =>
(if v2 ≤ x9 then
some (x7, M)
else
gR 12 M x0 7 (fun v3 =>
ald M v3 (((100 : Int32) * x1) + x9) (fun v4 =>
ck 12 M x0 (bnd (f_X12_meanOf N x0 v4 x2 (0 : Int32) x3 x4 x5 M) (fun v5 M6 =>
(if x7 < 0 then
j_X12_best_184 N k133 x0 x1 x2 x3 x4 x5 x9 v5 M6
else
(if x8 < v5 then
j_X12_best_184 N k133 x0 x1 x2 x3 x4 x5 x9 v5 M6
else
k133 x0 x1 x2 x3 x4 x5 x7 x8 (x9 + (1 : Int32)) M6)))))))))
def l_X12_best_133 (N : Nat) : Nat → Nat → Int32 → Int32 → Int32 → Int32 → Int32 → Int32 → Int32 → Int32 → Mm → Option (Int32 × Mm)
  | 0 => fun _ _ _ _ _ _ _ _ _ _ => none
  | n + 1 => b_X12_best_133 N (l_X12_best_133 N n)
set_option maxRecDepth 100000 in
set_option maxHeartbeats 4000000 in
theorem v_X12_best_133 {X : Cx} {G : Gl} {r : (Int32 × Mm)} (N : Nat) (hC : CX X G yX12_best cX12_best 11 (some .int) rm_X12_best) (k133 : Nat → Int32 → Int32 → Int32 → Int32 → Int32 → Int32 → Int32 → Int32 → Mm → Option (Int32 × Mm)) (hk133 : ∀ (x0 : Nat) (x1 : Int32) (x2 : Int32) (x3 : Int32) (x4 : Int32) (x5 : Int32) (x7 : Int32) (x8 : Int32) (x9 : Int32) (M : Mm), k133 x0 x1 x2 x3 x4 x5 x7 x8 x9 M = some r → TW X G 11 (RQ X G (some (.int r.1)) r.2 rm_X12_best) 0 0 M 133 [(0, .ref x0), (1, .int x1), (2, .int x2), (3, .int x3), (4, .int x4), (5, .int x5), (7, .int x7), (8, .int x8), (9, .int x9)] []) (x0 : Nat) (x1 : Int32) (x2 : Int32) (x3 : Int32) (x4 : Int32) (x5 : Int32) (x7 : Int32) (x8 : Int32) (x9 : Int32) (M : Mm) (h : b_X12_best_133 N k133 x0 x1 x2 x3 x4 x5 x7 x8 x9 M = some r) : TW X G 11 (RQ X G (some (.int r.1)) r.2 rm_X12_best) 0 0 M 133 [(0, .ref x0), (1, .int x1), (2, .int x2), (3, .int x3), (4, .int x4), (5, .int x5), (7, .int x7), (8, .int x8), (9, .int x9)] [] := by
  unfold b_X12_best_133 at h
  refine zt_iload hC rfl dX12_best_133 ?_
  refine zt_aload_n hC rfl dX12_best_135 ?_
  refine zt_gR hC h cl12 (k := 6) (by decide) rfl wd_997 (Or.inl rfl) dX12_best_136 (fun v1 h => ?_)
  refine zt_iload_n hC rfl dX12_best_139 ?_
  refine zt_ald hC h dX12_best_140 (fun v2 h => ?_)
  refine zt_icmp_ge (tgt := 198) hC h (by decide) dX12_best_141 (fun h => ?_) (fun h => ?_)
  · refine zt_iload hC rfl dX12_best_198 ?_
    obtain rfl := Option.some.inj h
    exact zt_iret hC rfl rfl (Nat.le_of_ble_eq_true rfl) (Nat.le_of_ble_eq_true rfl) dX12_best_200
  · refine zt_aload_n hC rfl dX12_best_144 ?_
    refine zt_aload_n hC rfl dX12_best_145 ?_
    refine zt_gR hC h cl12 (k := 7) (by decide) rfl wd_998 (Or.inl rfl) dX12_best_146 (fun v3 h => ?_)
    refine zt_bipush hC kb_100 dX12_best_149 ?_
    refine zt_iload_n hC rfl dX12_best_151 ?_
    refine zt_imul hC dX12_best_152 ?_
    refine zt_iload hC rfl dX12_best_153 ?_
    refine zt_iadd hC dX12_best_155 ?_
    refine zt_ald hC h dX12_best_156 (fun v4 h => ?_)
    refine zt_iload_n hC rfl dX12_best_157 ?_
    refine zt_iconst hC ki_0 dX12_best_158 ?_
    refine zt_iload_n hC rfl dX12_best_159 ?_
    refine zt_iload hC rfl dX12_best_160 ?_
    refine zt_iload hC rfl dX12_best_162 ?_
    obtain ⟨hk, h⟩ := ck_some h
    obtain ⟨v5, M6, h7, h⟩ := bnd_some h
    refine zt_callV (z := yX12_meanOf) (As := [.int v4, .int x2, .int (0 : Int32), .int x3, .int x4, .int x5]) (rest := []) (st1 := (.int v5 :: [])) hC 6 hk cl12 (fun l hl => c_X12_meanOf N x0 v4 x2 (0 : Int32) x3 x4 x5 M (v5, M6) h7 l hl) rfl wd_1266 wd_1263 wd_1265 ws_43 wd_7 hd_X12_meanOf rfl ⟨⟨(Nat.le_of_ble_eq_true rfl), (Nat.le_of_ble_eq_true rfl)⟩, (Nat.le_of_ble_eq_true rfl), (Nat.le_of_ble_eq_true rfl)⟩ rfl (Nat.le_of_ble_eq_true rfl) rfl dX12_best_164 ?_
    refine zt_istore (lv' := [(10, .int v5), (0, .ref x0), (1, .int x1), (2, .int x2), (3, .int x3), (4, .int x4), (5, .int x5), (7, .int x7), (8, .int x8), (9, .int x9)]) hC (by decide) rfl dX12_best_167 ?_
    refine zt_iload hC rfl dX12_best_169 ?_
    refine zt_if_lt (tgt := 184) hC h (by decide) dX12_best_171 (fun h => ?_) (fun h => ?_)
    · refine zt_keep [0, 1, 2, 3, 4, 5, 9, 10] rfl ?_
      exact w_X12_best_184 N hC k133 hk133 x0 x1 x2 x3 x4 x5 x9 v5 M6 h
    · refine zt_iload hC rfl dX12_best_174 ?_
      refine zt_iload hC rfl dX12_best_176 ?_
      refine zt_icmp_gt (tgt := 184) hC h (by decide) dX12_best_178 (fun h => ?_) (fun h => ?_)
      · refine zt_keep [0, 1, 2, 3, 4, 5, 9, 10] rfl ?_
        exact w_X12_best_184 N hC k133 hk133 x0 x1 x2 x3 x4 x5 x9 v5 M6 h
      · refine zt_goto (tgt := 192) hC (by decide) dX12_best_181 ?_
        refine zt_iinc (v := (x9 + (1 : Int32))) (lv' := [(9, .int (x9 + (1 : Int32))), (10, .int v5), (0, .ref x0), (1, .int x1), (2, .int x2), (3, .int x3), (4, .int x4), (5, .int x5), (7, .int x7), (8, .int x8)]) hC rfl (by rw [ki_1]) (by decide) rfl dX12_best_192 ?_
        refine zt_goto (tgt := 133) hC (by decide) dX12_best_195 ?_
        refine zt_keep [0, 1, 2, 3, 4, 5, 7, 8, 9] rfl ?_
        exact hk133 x0 x1 x2 x3 x4 x5 x7 x8 (x9 + (1 : Int32)) M6 h
theorem w_X12_best_133 {X : Cx} {G : Gl} {r : (Int32 × Mm)} (N : Nat) (hC : CX X G yX12_best cX12_best 11 (some .int) rm_X12_best) (n : Nat) : ∀ (x0 : Nat) (x1 : Int32) (x2 : Int32) (x3 : Int32) (x4 : Int32) (x5 : Int32) (x7 : Int32) (x8 : Int32) (x9 : Int32) (M : Mm), l_X12_best_133 N n x0 x1 x2 x3 x4 x5 x7 x8 x9 M = some r → TW X G 11 (RQ X G (some (.int r.1)) r.2 rm_X12_best) 0 0 M 133 [(0, .ref x0), (1, .int x1), (2, .int x2), (3, .int x3), (4, .int x4), (5, .int x5), (7, .int x7), (8, .int x8), (9, .int x9)] [] := by
  induction n with
  | zero => intro  x0 x1 x2 x3 x4 x5 x7 x8 x9 M h; cases (show none = some r from h)
  | succ n ih => intro  x0 x1 x2 x3 x4 x5 x7 x8 x9 M h; exact v_X12_best_133 N hC (l_X12_best_133 N n) ih x0 x1 x2 x3 x4 x5 x7 x8 x9 M h
def b_X12_best_80 (N : Nat) (k80 : Nat → Int32 → Int32 → Int32 → Int32 → Int32 → Int32 → Mm → Option (Int32 × Mm)) (x0 : Nat) (x1 : Int32) (x2 : Int32) (x3 : Int32) (x4 : Int32) (x5 : Int32) (x7 : Int32) (M : Mm) : Option (Int32 × Mm) :=
gR 12 M x0 6 (fun v1 =>
ald M v1 x1 (fun v2 =>
(if v2 ≤ x7 then
l_X12_best_133 N N x0 x1 x2 x3 x4 x5 (-4 : Int32) (0 : Int32) (0 : Int32) M
else
gR 12 M x0 7 (fun v3 =>
ald M v3 (((100 : Int32) * x1) + x7) (fun v4 =>
bnd (f_X12_isIn N (Int32.toInt64 v4) (0 : Int64) (6 : Int64) M) (fun v5 M6 =>
(if v5 = 0 then
some ((-13 : Int32), M6)
else
k80 x0 x1 x2 x3 x4 x5 (x7 + (1 : Int32)) M6)))))))
def l_X12_best_80 (N : Nat) : Nat → Nat → Int32 → Int32 → Int32 → Int32 → Int32 → Int32 → Mm → Option (Int32 × Mm)
  | 0 => fun _ _ _ _ _ _ _ _ => none
  | n + 1 => b_X12_best_80 N (l_X12_best_80 N n)
set_option maxRecDepth 100000 in
set_option maxHeartbeats 4000000 in
theorem v_X12_best_80 {X : Cx} {G : Gl} {r : (Int32 × Mm)} (N : Nat) (hC : CX X G yX12_best cX12_best 11 (some .int) rm_X12_best) (k80 : Nat → Int32 → Int32 → Int32 → Int32 → Int32 → Int32 → Mm → Option (Int32 × Mm)) (hk80 : ∀ (x0 : Nat) (x1 : Int32) (x2 : Int32) (x3 : Int32) (x4 : Int32) (x5 : Int32) (x7 : Int32) (M : Mm), k80 x0 x1 x2 x3 x4 x5 x7 M = some r → TW X G 11 (RQ X G (some (.int r.1)) r.2 rm_X12_best) 0 0 M 80 [(0, .ref x0), (1, .int x1), (2, .int x2), (3, .int x3), (4, .int x4), (5, .int x5), (7, .int x7)] []) (x0 : Nat) (x1 : Int32) (x2 : Int32) (x3 : Int32) (x4 : Int32) (x5 : Int32) (x7 : Int32) (M : Mm) (h : b_X12_best_80 N k80 x0 x1 x2 x3 x4 x5 x7 M = some r) : TW X G 11 (RQ X G (some (.int r.1)) r.2 rm_X12_best) 0 0 M 80 [(0, .ref x0), (1, .int x1), (2, .int x2), (3, .int x3), (4, .int x4), (5, .int x5), (7, .int x7)] [] := by
  unfold b_X12_best_80 at h
  refine zt_iload hC rfl dX12_best_80 ?_
  refine zt_aload_n hC rfl dX12_best_82 ?_
  refine zt_gR hC h cl12 (k := 6) (by decide) rfl wd_997 (Or.inl rfl) dX12_best_83 (fun v1 h => ?_)
  refine zt_iload_n hC rfl dX12_best_86 ?_
  refine zt_ald hC h dX12_best_87 (fun v2 h => ?_)
  refine zt_icmp_ge (tgt := 123) hC h (by decide) dX12_best_88 (fun h => ?_) (fun h => ?_)
  · refine zt_bipush hC kb_m4 dX12_best_123 ?_
    refine zt_istore (lv' := [(7, .int (-4 : Int32)), (0, .ref x0), (1, .int x1), (2, .int x2), (3, .int x3), (4, .int x4), (5, .int x5)]) hC (by decide) rfl dX12_best_125 ?_
    refine zt_iconst hC ki_0 dX12_best_127 ?_
    refine zt_istore (lv' := [(8, .int (0 : Int32)), (7, .int (-4 : Int32)), (0, .ref x0), (1, .int x1), (2, .int x2), (3, .int x3), (4, .int x4), (5, .int x5)]) hC (by decide) rfl dX12_best_128 ?_
    refine zt_iconst hC ki_0 dX12_best_130 ?_
    refine zt_istore (lv' := [(9, .int (0 : Int32)), (8, .int (0 : Int32)), (7, .int (-4 : Int32)), (0, .ref x0), (1, .int x1), (2, .int x2), (3, .int x3), (4, .int x4), (5, .int x5)]) hC (by decide) rfl dX12_best_131 ?_
    refine zt_keep [0, 1, 2, 3, 4, 5, 7, 8, 9] rfl ?_
    exact w_X12_best_133 N hC N x0 x1 x2 x3 x4 x5 (-4 : Int32) (0 : Int32) (0 : Int32) M h
  · refine zt_aload_n hC rfl dX12_best_91 ?_
    refine zt_gR hC h cl12 (k := 7) (by decide) rfl wd_998 (Or.inl rfl) dX12_best_92 (fun v3 h => ?_)
    refine zt_bipush hC kb_100 dX12_best_95 ?_
    refine zt_iload_n hC rfl dX12_best_97 ?_
    refine zt_imul hC dX12_best_98 ?_
    refine zt_iload hC rfl dX12_best_99 ?_
    refine zt_iadd hC dX12_best_101 ?_
    refine zt_ald hC h dX12_best_102 (fun v4 h => ?_)
    refine zt_i2l hC dX12_best_103 ?_
    refine zt_lconst hC kl_0 dX12_best_104 ?_
    refine zt_ldc2 hC wd_1113 dX12_best_105 ?_
    obtain ⟨v5, M6, h7, h⟩ := bnd_some h
    refine zt_callS (z := yX12_isIn) (As := [.long (Int32.toInt64 v4), .long (0 : Int64), .long (6 : Int64)]) (rest := []) (st1 := (.int v5 :: [])) hC 3 (fun l hl => c_X12_isIn N (Int32.toInt64 v4) (0 : Int64) (6 : Int64) M (v5, M6) h7 l hl) rfl wd_1067 wd_1065 wd_1066 wd_7 hd_X12_isIn rfl ⟨⟨(Nat.le_of_ble_eq_true rfl), (Nat.le_of_ble_eq_true rfl)⟩, (Nat.le_of_ble_eq_true rfl), (Nat.le_of_ble_eq_true rfl)⟩ rfl (Nat.le_of_ble_eq_true rfl) rfl dX12_best_108 ?_
    refine zt_if_ne (tgt := 117) hC h (by decide) dX12_best_111 (fun h => ?_) (fun h => ?_)
    · refine zt_iinc (v := (x7 + (1 : Int32))) (lv' := [(7, .int (x7 + (1 : Int32))), (0, .ref x0), (1, .int x1), (2, .int x2), (3, .int x3), (4, .int x4), (5, .int x5)]) hC rfl (by rw [ki_1]) (by decide) rfl dX12_best_117 ?_
      refine zt_goto (tgt := 80) hC (by decide) dX12_best_120 ?_
      refine zt_keep [0, 1, 2, 3, 4, 5, 7] rfl ?_
      exact hk80 x0 x1 x2 x3 x4 x5 (x7 + (1 : Int32)) M6 h
    · refine zt_bipush hC kb_m13 dX12_best_114 ?_
      obtain rfl := Option.some.inj h
      exact zt_iret hC rfl rfl (Nat.le_of_ble_eq_true rfl) (Nat.le_of_ble_eq_true rfl) dX12_best_116
theorem w_X12_best_80 {X : Cx} {G : Gl} {r : (Int32 × Mm)} (N : Nat) (hC : CX X G yX12_best cX12_best 11 (some .int) rm_X12_best) (n : Nat) : ∀ (x0 : Nat) (x1 : Int32) (x2 : Int32) (x3 : Int32) (x4 : Int32) (x5 : Int32) (x7 : Int32) (M : Mm), l_X12_best_80 N n x0 x1 x2 x3 x4 x5 x7 M = some r → TW X G 11 (RQ X G (some (.int r.1)) r.2 rm_X12_best) 0 0 M 80 [(0, .ref x0), (1, .int x1), (2, .int x2), (3, .int x3), (4, .int x4), (5, .int x5), (7, .int x7)] [] := by
  induction n with
  | zero => intro  x0 x1 x2 x3 x4 x5 x7 M h; cases (show none = some r from h)
  | succ n ih => intro  x0 x1 x2 x3 x4 x5 x7 M h; exact v_X12_best_80 N hC (l_X12_best_80 N n) ih x0 x1 x2 x3 x4 x5 x7 M h
def f_X12_best (N : Nat) (x0 : Nat) (x1 : Int32) (x2 : Int32) (x3 : Int32) (x4 : Int32) (x5 : Int32) (M : Mm) : Option (Int32 × Mm) :=
bnd (f_X12_isShelf N x1 M) (fun v1 M2 =>
(if v1 = 0 then
some ((-1 : Int32), M2)
else
bnd (f_X12_isIn N (Int32.toInt64 x2) (0 : Int64) (9 : Int64) M2) (fun v4 M5 =>
(if v4 = 0 then
some ((-1 : Int32), M5)
else
bnd (f_X12_isDay N x3 M5) (fun v7 M8 =>
(if v7 = 0 then
some ((-1 : Int32), M8)
else
bnd (f_X12_isIn N (Int32.toInt64 x4) (1 : Int64) (10 : Int64) M8) (fun v10 M11 =>
(if v10 = 0 then
some ((-1 : Int32), M11)
else
ck 12 M11 x0 (bnd (f_X12_wrongRow N x0 x1 (0 : Int32) M11) (fun v13 M14 =>
(if v13 = 0 then
gR 12 M14 x0 6 (fun v16 =>
ald M14 v16 x1 (fun v17 =>
bnd (f_X12_isIn N (Int32.toInt64 v17) (1 : Int64) (7 : Int64) M14) (fun v18 M19 =>
(if v18 = 0 then
some ((-13 : Int32), M19)
else
l_X12_best_80 N N x0 x1 x2 x3 x4 x5 (0 : Int32) M19))))
else
some (v13, M14))))))))))))
set_option maxRecDepth 100000 in
set_option maxHeartbeats 4000000 in
theorem c_X12_best (N : Nat) (x0 : Nat) (x1 : Int32) (x2 : Int32) (x3 : Int32) (x4 : Int32) (x5 : Int32) (M : Mm) (r : (Int32 × Mm)) (h : f_X12_best N x0 x1 x2 x3 x4 x5 M = some r) (l : Launch) (hfl : l.flags = flags0) {G : Gl} : MT l G yX12_best cX12_best 11 (some .int) rm_X12_best [.ref x0, .int x1, .int x2, .int x3, .int x4, .int x5] M (some (.int r.1)) r.2 := by
  unfold f_X12_best at h
  refine zt_start hfl (lv := [(0, .ref x0), (1, .int x1), (2, .int x2), (3, .int x3), (4, .int x4), (5, .int x5)]) (by decide) (Nat.le_of_ble_eq_true rfl) rfl wd_1270 (fun X hC _ => ?_)
  refine zt_iload_n hC rfl dX12_best_0 ?_
  obtain ⟨v1, M2, h3, h⟩ := bnd_some h
  refine zt_callS (z := yX12_isShelf) (As := [.int x1]) (rest := []) (st1 := (.int v1 :: [])) hC 1 (fun l hl => c_X12_isShelf N x1 M (v1, M2) h3 l hl) rfl wd_1063 wd_1061 wd_1062 wd_7 hd_X12_isShelf rfl ⟨⟨(Nat.le_of_ble_eq_true rfl), (Nat.le_of_ble_eq_true rfl)⟩, (Nat.le_of_ble_eq_true rfl), (Nat.le_of_ble_eq_true rfl)⟩ rfl (Nat.le_of_ble_eq_true rfl) rfl dX12_best_1 ?_
  refine zt_if_eq (tgt := 39) hC h (by decide) dX12_best_4 (fun h => ?_) (fun h => ?_)
  · refine zt_iconst hC ki_m1 dX12_best_39 ?_
    obtain rfl := Option.some.inj h
    exact zt_iret hC rfl rfl (Nat.le_of_ble_eq_true rfl) (Nat.le_of_ble_eq_true rfl) dX12_best_40
  · refine zt_iload_n hC rfl dX12_best_7 ?_
    refine zt_i2l hC dX12_best_8 ?_
    refine zt_lconst hC kl_0 dX12_best_9 ?_
    refine zt_ldc2 hC wd_1271 dX12_best_10 ?_
    obtain ⟨v4, M5, h6, h⟩ := bnd_some h
    refine zt_callS (z := yX12_isIn) (As := [.long (Int32.toInt64 x2), .long (0 : Int64), .long (9 : Int64)]) (rest := []) (st1 := (.int v4 :: [])) hC 3 (fun l hl => c_X12_isIn N (Int32.toInt64 x2) (0 : Int64) (9 : Int64) M2 (v4, M5) h6 l hl) rfl wd_1067 wd_1065 wd_1066 wd_7 hd_X12_isIn rfl ⟨⟨(Nat.le_of_ble_eq_true rfl), (Nat.le_of_ble_eq_true rfl)⟩, (Nat.le_of_ble_eq_true rfl), (Nat.le_of_ble_eq_true rfl)⟩ rfl (Nat.le_of_ble_eq_true rfl) rfl dX12_best_13 ?_
    refine zt_if_eq (tgt := 39) hC h (by decide) dX12_best_16 (fun h => ?_) (fun h => ?_)
    · refine zt_iconst hC ki_m1 dX12_best_39 ?_
      obtain rfl := Option.some.inj h
      exact zt_iret hC rfl rfl (Nat.le_of_ble_eq_true rfl) (Nat.le_of_ble_eq_true rfl) dX12_best_40
    · refine zt_iload_n hC rfl dX12_best_19 ?_
      obtain ⟨v7, M8, h9, h⟩ := bnd_some h
      refine zt_callS (z := yX12_isDay) (As := [.int x3]) (rest := []) (st1 := (.int v7 :: [])) hC 1 (fun l hl => c_X12_isDay N x3 M5 (v7, M8) h9 l hl) rfl wd_1242 wd_1240 wd_1241 wd_7 hd_X12_isDay rfl ⟨⟨(Nat.le_of_ble_eq_true rfl), (Nat.le_of_ble_eq_true rfl)⟩, (Nat.le_of_ble_eq_true rfl), (Nat.le_of_ble_eq_true rfl)⟩ rfl (Nat.le_of_ble_eq_true rfl) rfl dX12_best_20 ?_
      refine zt_if_eq (tgt := 39) hC h (by decide) dX12_best_23 (fun h => ?_) (fun h => ?_)
      · refine zt_iconst hC ki_m1 dX12_best_39 ?_
        obtain rfl := Option.some.inj h
        exact zt_iret hC rfl rfl (Nat.le_of_ble_eq_true rfl) (Nat.le_of_ble_eq_true rfl) dX12_best_40
      · refine zt_iload hC rfl dX12_best_26 ?_
        refine zt_i2l hC dX12_best_28 ?_
        refine zt_lconst hC kl_1 dX12_best_29 ?_
        refine zt_ldc2 hC wd_1260 dX12_best_30 ?_
        obtain ⟨v10, M11, h12, h⟩ := bnd_some h
        refine zt_callS (z := yX12_isIn) (As := [.long (Int32.toInt64 x4), .long (1 : Int64), .long (10 : Int64)]) (rest := []) (st1 := (.int v10 :: [])) hC 3 (fun l hl => c_X12_isIn N (Int32.toInt64 x4) (1 : Int64) (10 : Int64) M8 (v10, M11) h12 l hl) rfl wd_1067 wd_1065 wd_1066 wd_7 hd_X12_isIn rfl ⟨⟨(Nat.le_of_ble_eq_true rfl), (Nat.le_of_ble_eq_true rfl)⟩, (Nat.le_of_ble_eq_true rfl), (Nat.le_of_ble_eq_true rfl)⟩ rfl (Nat.le_of_ble_eq_true rfl) rfl dX12_best_33 ?_
        refine zt_if_ne (tgt := 41) hC h (by decide) dX12_best_36 (fun h => ?_) (fun h => ?_)
        · refine zt_aload_n hC rfl dX12_best_41 ?_
          refine zt_iload_n hC rfl dX12_best_42 ?_
          refine zt_iconst hC ki_0 dX12_best_43 ?_
          obtain ⟨hk, h⟩ := ck_some h
          obtain ⟨v13, M14, h15, h⟩ := bnd_some h
          refine zt_callV (z := yX12_wrongRow) (As := [.int x1, .int (0 : Int32)]) (rest := []) (st1 := (.int v13 :: [])) hC 2 hk cl12 (fun l hl => c_X12_wrongRow N x0 x1 (0 : Int32) M11 (v13, M14) h15 l hl) rfl wd_1060 wd_1057 wd_1059 ws_20 wd_7 hd_X12_wrongRow rfl ⟨⟨(Nat.le_of_ble_eq_true rfl), (Nat.le_of_ble_eq_true rfl)⟩, (Nat.le_of_ble_eq_true rfl), (Nat.le_of_ble_eq_true rfl)⟩ rfl (Nat.le_of_ble_eq_true rfl) rfl dX12_best_44 ?_
          refine zt_istore (lv' := [(6, .int v13), (0, .ref x0), (1, .int x1), (2, .int x2), (3, .int x3), (4, .int x4), (5, .int x5)]) hC (by decide) rfl dX12_best_47 ?_
          refine zt_iload hC rfl dX12_best_49 ?_
          refine zt_if_eq (tgt := 57) hC h (by decide) dX12_best_51 (fun h => ?_) (fun h => ?_)
          · refine zt_aload_n hC rfl dX12_best_57 ?_
            refine zt_gR hC h cl12 (k := 6) (by decide) rfl wd_997 (Or.inl rfl) dX12_best_58 (fun v16 h => ?_)
            refine zt_iload_n hC rfl dX12_best_61 ?_
            refine zt_ald hC h dX12_best_62 (fun v17 h => ?_)
            refine zt_i2l hC dX12_best_63 ?_
            refine zt_lconst hC kl_1 dX12_best_64 ?_
            refine zt_ldc2 hC wd_1064 dX12_best_65 ?_
            obtain ⟨v18, M19, h20, h⟩ := bnd_some h
            refine zt_callS (z := yX12_isIn) (As := [.long (Int32.toInt64 v17), .long (1 : Int64), .long (7 : Int64)]) (rest := []) (st1 := (.int v18 :: [])) hC 3 (fun l hl => c_X12_isIn N (Int32.toInt64 v17) (1 : Int64) (7 : Int64) M14 (v18, M19) h20 l hl) rfl wd_1067 wd_1065 wd_1066 wd_7 hd_X12_isIn rfl ⟨⟨(Nat.le_of_ble_eq_true rfl), (Nat.le_of_ble_eq_true rfl)⟩, (Nat.le_of_ble_eq_true rfl), (Nat.le_of_ble_eq_true rfl)⟩ rfl (Nat.le_of_ble_eq_true rfl) rfl dX12_best_68 ?_
            refine zt_if_ne (tgt := 77) hC h (by decide) dX12_best_71 (fun h => ?_) (fun h => ?_)
            · refine zt_iconst hC ki_0 dX12_best_77 ?_
              refine zt_istore (lv' := [(7, .int (0 : Int32)), (6, .int v13), (0, .ref x0), (1, .int x1), (2, .int x2), (3, .int x3), (4, .int x4), (5, .int x5)]) hC (by decide) rfl dX12_best_78 ?_
              refine zt_keep [0, 1, 2, 3, 4, 5, 7] rfl ?_
              exact w_X12_best_80 N hC N x0 x1 x2 x3 x4 x5 (0 : Int32) M19 h
            · refine zt_bipush hC kb_m13 dX12_best_74 ?_
              obtain rfl := Option.some.inj h
              exact zt_iret hC rfl rfl (Nat.le_of_ble_eq_true rfl) (Nat.le_of_ble_eq_true rfl) dX12_best_76
          · refine zt_iload hC rfl dX12_best_54 ?_
            obtain rfl := Option.some.inj h
            exact zt_iret hC rfl rfl (Nat.le_of_ble_eq_true rfl) (Nat.le_of_ble_eq_true rfl) dX12_best_56
        · refine zt_iconst hC ki_m1 dX12_best_39 ?_
          obtain rfl := Option.some.inj h
          exact zt_iret hC rfl rfl (Nat.le_of_ble_eq_true rfl) (Nat.le_of_ble_eq_true rfl) dX12_best_40
def rm_X12_where : Room := { frames := 7, cells := 0, slots := 0, locals := 172 }
theorem hd_X12_where : yX12_where.cls ≠ "java/lang/invoke/MethodHandle" ∧ yX12_where.cls ≠ "java/lang/invoke/VarHandle" ∧ (parseMethodDescriptor yX12_where.desc).map (fun d => d.parameters.length) = some 4 := by decide +kernel
def j_X12_where_103 (N : Nat) (k53 : Nat → Int32 → Int32 → Int32 → Int32 → Int32 → Int32 → Int32 → Mm → Option (Int32 × Mm)) (x0 : Nat) (x1 : Int32) (x2 : Int32) (x3 : Int32) (x4 : Int32) (x8 : Int32) (x9 : Int32) (M : Mm) : Option (Int32 × Mm) :=
k53 x0 x1 x2 x3 x4 x8 x9 (x8 + (1 : Int32)) M
set_option maxRecDepth 100000 in
set_option maxHeartbeats 4000000 in
theorem w_X12_where_103 {X : Cx} {G : Gl} {r : (Int32 × Mm)} (N : Nat) (hC : CX X G yX12_where cX12_where 10 (some .int) rm_X12_where) (k53 : Nat → Int32 → Int32 → Int32 → Int32 → Int32 → Int32 → Int32 → Mm → Option (Int32 × Mm)) (hk53 : ∀ (x0 : Nat) (x1 : Int32) (x2 : Int32) (x3 : Int32) (x4 : Int32) (x6 : Int32) (x7 : Int32) (x8 : Int32) (M : Mm), k53 x0 x1 x2 x3 x4 x6 x7 x8 M = some r → TW X G 10 (RQ X G (some (.int r.1)) r.2 rm_X12_where) 0 0 M 53 [(0, .ref x0), (1, .int x1), (2, .int x2), (3, .int x3), (4, .int x4), (6, .int x6), (7, .int x7), (8, .int x8)] []) (x0 : Nat) (x1 : Int32) (x2 : Int32) (x3 : Int32) (x4 : Int32) (x8 : Int32) (x9 : Int32) (M : Mm) (h : j_X12_where_103 N k53 x0 x1 x2 x3 x4 x8 x9 M = some r) : TW X G 10 (RQ X G (some (.int r.1)) r.2 rm_X12_where) 0 0 M 103 [(0, .ref x0), (1, .int x1), (2, .int x2), (3, .int x3), (4, .int x4), (8, .int x8), (9, .int x9)] [] := by
  unfold j_X12_where_103 at h
  refine zt_iload hC rfl dX12_where_103 ?_
  refine zt_istore (lv' := [(6, .int x8), (0, .ref x0), (1, .int x1), (2, .int x2), (3, .int x3), (4, .int x4), (8, .int x8), (9, .int x9)]) hC (by decide) rfl dX12_where_105 ?_
  refine zt_iload hC rfl dX12_where_107 ?_
  refine zt_istore (lv' := [(7, .int x9), (6, .int x8), (0, .ref x0), (1, .int x1), (2, .int x2), (3, .int x3), (4, .int x4), (8, .int x8), (9, .int x9)]) hC (by decide) rfl dX12_where_109 ?_
  refine zt_iinc (v := (x8 + (1 : Int32))) (lv' := [(8, .int (x8 + (1 : Int32))), (7, .int x9), (6, .int x8), (0, .ref x0), (1, .int x1), (2, .int x2), (3, .int x3), (4, .int x4), (9, .int x9)]) hC rfl (by rw [ki_1]) (by decide) rfl dX12_where_111 ?_
  refine zt_goto (tgt := 53) hC (by decide) dX12_where_114 ?_
  refine zt_keep [0, 1, 2, 3, 4, 6, 7, 8] rfl ?_
  exact hk53 x0 x1 x2 x3 x4 x8 x9 (x8 + (1 : Int32)) M h
def b_X12_where_53 (N : Nat) (k53 : Nat → Int32 → Int32 → Int32 → Int32 → Int32 → Int32 → Int32 → Mm → Option (Int32 × Mm)) (x0 : Nat) (x1 : Int32) (x2 : Int32) (x3 : Int32) (x4 : Int32) (x6 : Int32) (x7 : Int32) (x8 : Int32) (M : Mm) : Option (Int32 × Mm) :=
gR 12 M x0 0 (fun v1 =>
ald M v1 (0 : Int32) (fun v2 =>
(if v2 ≤ x8 then
some (x6, M)
else
gR 12 M x0 8 (fun v3 =>
ald M v3 x1 (fun v4 =>
gR 12 M x0 9 (fun v5 =>
ald M v5 x1 (fun v6 =>
ck 12 M x0 (bnd (f_X12_meanOf N x0 v4 v6 x8 x2 x3 x4 M) (fun v7 M8 =>
(if x6 < 0 then
j_X12_where_103 N k53 x0 x1 x2 x3 x4 x8 v7 M8
else
(if x7 < v7 then
j_X12_where_103 N k53 x0 x1 x2 x3 x4 x8 v7 M8
else
k53 x0 x1 x2 x3 x4 x6 x7 (x8 + (1 : Int32)) M8)))))))))))
def l_X12_where_53 (N : Nat) : Nat → Nat → Int32 → Int32 → Int32 → Int32 → Int32 → Int32 → Int32 → Mm → Option (Int32 × Mm)
  | 0 => fun _ _ _ _ _ _ _ _ _ => none
  | n + 1 => b_X12_where_53 N (l_X12_where_53 N n)
set_option maxRecDepth 100000 in
set_option maxHeartbeats 4000000 in
theorem v_X12_where_53 {X : Cx} {G : Gl} {r : (Int32 × Mm)} (N : Nat) (hC : CX X G yX12_where cX12_where 10 (some .int) rm_X12_where) (k53 : Nat → Int32 → Int32 → Int32 → Int32 → Int32 → Int32 → Int32 → Mm → Option (Int32 × Mm)) (hk53 : ∀ (x0 : Nat) (x1 : Int32) (x2 : Int32) (x3 : Int32) (x4 : Int32) (x6 : Int32) (x7 : Int32) (x8 : Int32) (M : Mm), k53 x0 x1 x2 x3 x4 x6 x7 x8 M = some r → TW X G 10 (RQ X G (some (.int r.1)) r.2 rm_X12_where) 0 0 M 53 [(0, .ref x0), (1, .int x1), (2, .int x2), (3, .int x3), (4, .int x4), (6, .int x6), (7, .int x7), (8, .int x8)] []) (x0 : Nat) (x1 : Int32) (x2 : Int32) (x3 : Int32) (x4 : Int32) (x6 : Int32) (x7 : Int32) (x8 : Int32) (M : Mm) (h : b_X12_where_53 N k53 x0 x1 x2 x3 x4 x6 x7 x8 M = some r) : TW X G 10 (RQ X G (some (.int r.1)) r.2 rm_X12_where) 0 0 M 53 [(0, .ref x0), (1, .int x1), (2, .int x2), (3, .int x3), (4, .int x4), (6, .int x6), (7, .int x7), (8, .int x8)] [] := by
  unfold b_X12_where_53 at h
  refine zt_iload hC rfl dX12_where_53 ?_
  refine zt_aload_n hC rfl dX12_where_55 ?_
  refine zt_gR hC h cl12 (k := 0) (by decide) rfl wd_991 (Or.inl rfl) dX12_where_56 (fun v1 h => ?_)
  refine zt_iconst hC ki_0 dX12_where_59 ?_
  refine zt_ald hC h dX12_where_60 (fun v2 h => ?_)
  refine zt_icmp_ge (tgt := 117) hC h (by decide) dX12_where_61 (fun h => ?_) (fun h => ?_)
  · refine zt_iload hC rfl dX12_where_117 ?_
    obtain rfl := Option.some.inj h
    exact zt_iret hC rfl rfl (Nat.le_of_ble_eq_true rfl) (Nat.le_of_ble_eq_true rfl) dX12_where_119
  · refine zt_aload_n hC rfl dX12_where_64 ?_
    refine zt_aload_n hC rfl dX12_where_65 ?_
    refine zt_gR hC h cl12 (k := 8) (by decide) rfl wd_999 (Or.inl rfl) dX12_where_66 (fun v3 h => ?_)
    refine zt_iload_n hC rfl dX12_where_69 ?_
    refine zt_ald hC h dX12_where_70 (fun v4 h => ?_)
    refine zt_aload_n hC rfl dX12_where_71 ?_
    refine zt_gR hC h cl12 (k := 9) (by decide) rfl wd_1000 (Or.inl rfl) dX12_where_72 (fun v5 h => ?_)
    refine zt_iload_n hC rfl dX12_where_75 ?_
    refine zt_ald hC h dX12_where_76 (fun v6 h => ?_)
    refine zt_iload hC rfl dX12_where_77 ?_
    refine zt_iload_n hC rfl dX12_where_79 ?_
    refine zt_iload_n hC rfl dX12_where_80 ?_
    refine zt_iload hC rfl dX12_where_81 ?_
    obtain ⟨hk, h⟩ := ck_some h
    obtain ⟨v7, M8, h9, h⟩ := bnd_some h
    refine zt_callV (z := yX12_meanOf) (As := [.int v4, .int v6, .int x8, .int x2, .int x3, .int x4]) (rest := []) (st1 := (.int v7 :: [])) hC 6 hk cl12 (fun l hl => c_X12_meanOf N x0 v4 v6 x8 x2 x3 x4 M (v7, M8) h9 l hl) rfl wd_1266 wd_1263 wd_1265 ws_43 wd_7 hd_X12_meanOf rfl ⟨⟨(Nat.le_of_ble_eq_true rfl), (Nat.le_of_ble_eq_true rfl)⟩, (Nat.le_of_ble_eq_true rfl), (Nat.le_of_ble_eq_true rfl)⟩ rfl (Nat.le_of_ble_eq_true rfl) rfl dX12_where_83 ?_
    refine zt_istore (lv' := [(9, .int v7), (0, .ref x0), (1, .int x1), (2, .int x2), (3, .int x3), (4, .int x4), (6, .int x6), (7, .int x7), (8, .int x8)]) hC (by decide) rfl dX12_where_86 ?_
    refine zt_iload hC rfl dX12_where_88 ?_
    refine zt_if_lt (tgt := 103) hC h (by decide) dX12_where_90 (fun h => ?_) (fun h => ?_)
    · refine zt_keep [0, 1, 2, 3, 4, 8, 9] rfl ?_
      exact w_X12_where_103 N hC k53 hk53 x0 x1 x2 x3 x4 x8 v7 M8 h
    · refine zt_iload hC rfl dX12_where_93 ?_
      refine zt_iload hC rfl dX12_where_95 ?_
      refine zt_icmp_gt (tgt := 103) hC h (by decide) dX12_where_97 (fun h => ?_) (fun h => ?_)
      · refine zt_keep [0, 1, 2, 3, 4, 8, 9] rfl ?_
        exact w_X12_where_103 N hC k53 hk53 x0 x1 x2 x3 x4 x8 v7 M8 h
      · refine zt_goto (tgt := 111) hC (by decide) dX12_where_100 ?_
        refine zt_iinc (v := (x8 + (1 : Int32))) (lv' := [(8, .int (x8 + (1 : Int32))), (9, .int v7), (0, .ref x0), (1, .int x1), (2, .int x2), (3, .int x3), (4, .int x4), (6, .int x6), (7, .int x7)]) hC rfl (by rw [ki_1]) (by decide) rfl dX12_where_111 ?_
        refine zt_goto (tgt := 53) hC (by decide) dX12_where_114 ?_
        refine zt_keep [0, 1, 2, 3, 4, 6, 7, 8] rfl ?_
        exact hk53 x0 x1 x2 x3 x4 x6 x7 (x8 + (1 : Int32)) M8 h
theorem w_X12_where_53 {X : Cx} {G : Gl} {r : (Int32 × Mm)} (N : Nat) (hC : CX X G yX12_where cX12_where 10 (some .int) rm_X12_where) (n : Nat) : ∀ (x0 : Nat) (x1 : Int32) (x2 : Int32) (x3 : Int32) (x4 : Int32) (x6 : Int32) (x7 : Int32) (x8 : Int32) (M : Mm), l_X12_where_53 N n x0 x1 x2 x3 x4 x6 x7 x8 M = some r → TW X G 10 (RQ X G (some (.int r.1)) r.2 rm_X12_where) 0 0 M 53 [(0, .ref x0), (1, .int x1), (2, .int x2), (3, .int x3), (4, .int x4), (6, .int x6), (7, .int x7), (8, .int x8)] [] := by
  induction n with
  | zero => intro  x0 x1 x2 x3 x4 x6 x7 x8 M h; cases (show none = some r from h)
  | succ n ih => intro  x0 x1 x2 x3 x4 x6 x7 x8 M h; exact v_X12_where_53 N hC (l_X12_where_53 N n) ih x0 x1 x2 x3 x4 x6 x7 x8 M h
def f_X12_where (N : Nat) (x0 : Nat) (x1 : Int32) (x2 : Int32) (x3 : Int32) (x4 : Int32) (M : Mm) : Option (Int32 × Mm) :=
bnd (f_X12_isShelf N x1 M) (fun v1 M2 =>
(if v1 = 0 then
some ((-1 : Int32), M2)
else
bnd (f_X12_isDay N x2 M2) (fun v4 M5 =>
(if v4 = 0 then
some ((-1 : Int32), M5)
else
bnd (f_X12_isIn N (Int32.toInt64 x3) (1 : Int64) (10 : Int64) M5) (fun v7 M8 =>
(if v7 = 0 then
some ((-1 : Int32), M8)
else
ck 12 M8 x0 (bnd (f_X12_wrongRule N x0 x1 M8) (fun v10 M11 =>
(if v10 = 0 then
l_X12_where_53 N N x0 x1 x2 x3 x4 (-4 : Int32) (0 : Int32) (0 : Int32) M11
else
some (v10, M11))))))))))
set_option maxRecDepth 100000 in
set_option maxHeartbeats 4000000 in
theorem c_X12_where (N : Nat) (x0 : Nat) (x1 : Int32) (x2 : Int32) (x3 : Int32) (x4 : Int32) (M : Mm) (r : (Int32 × Mm)) (h : f_X12_where N x0 x1 x2 x3 x4 M = some r) (l : Launch) (hfl : l.flags = flags0) {G : Gl} : MT l G yX12_where cX12_where 10 (some .int) rm_X12_where [.ref x0, .int x1, .int x2, .int x3, .int x4] M (some (.int r.1)) r.2 := by
  unfold f_X12_where at h
  refine zt_start hfl (lv := [(0, .ref x0), (1, .int x1), (2, .int x2), (3, .int x3), (4, .int x4)]) (by decide) (Nat.le_of_ble_eq_true rfl) rfl wd_1275 (fun X hC _ => ?_)
  refine zt_iload_n hC rfl dX12_where_0 ?_
  obtain ⟨v1, M2, h3, h⟩ := bnd_some h
  refine zt_callS (z := yX12_isShelf) (As := [.int x1]) (rest := []) (st1 := (.int v1 :: [])) hC 1 (fun l hl => c_X12_isShelf N x1 M (v1, M2) h3 l hl) rfl wd_1063 wd_1061 wd_1062 wd_7 hd_X12_isShelf rfl ⟨⟨(Nat.le_of_ble_eq_true rfl), (Nat.le_of_ble_eq_true rfl)⟩, (Nat.le_of_ble_eq_true rfl), (Nat.le_of_ble_eq_true rfl)⟩ rfl (Nat.le_of_ble_eq_true rfl) rfl dX12_where_1 ?_
  refine zt_if_eq (tgt := 26) hC h (by decide) dX12_where_4 (fun h => ?_) (fun h => ?_)
  · refine zt_iconst hC ki_m1 dX12_where_26 ?_
    obtain rfl := Option.some.inj h
    exact zt_iret hC rfl rfl (Nat.le_of_ble_eq_true rfl) (Nat.le_of_ble_eq_true rfl) dX12_where_27
  · refine zt_iload_n hC rfl dX12_where_7 ?_
    obtain ⟨v4, M5, h6, h⟩ := bnd_some h
    refine zt_callS (z := yX12_isDay) (As := [.int x2]) (rest := []) (st1 := (.int v4 :: [])) hC 1 (fun l hl => c_X12_isDay N x2 M2 (v4, M5) h6 l hl) rfl wd_1242 wd_1240 wd_1241 wd_7 hd_X12_isDay rfl ⟨⟨(Nat.le_of_ble_eq_true rfl), (Nat.le_of_ble_eq_true rfl)⟩, (Nat.le_of_ble_eq_true rfl), (Nat.le_of_ble_eq_true rfl)⟩ rfl (Nat.le_of_ble_eq_true rfl) rfl dX12_where_8 ?_
    refine zt_if_eq (tgt := 26) hC h (by decide) dX12_where_11 (fun h => ?_) (fun h => ?_)
    · refine zt_iconst hC ki_m1 dX12_where_26 ?_
      obtain rfl := Option.some.inj h
      exact zt_iret hC rfl rfl (Nat.le_of_ble_eq_true rfl) (Nat.le_of_ble_eq_true rfl) dX12_where_27
    · refine zt_iload_n hC rfl dX12_where_14 ?_
      refine zt_i2l hC dX12_where_15 ?_
      refine zt_lconst hC kl_1 dX12_where_16 ?_
      refine zt_ldc2 hC wd_1260 dX12_where_17 ?_
      obtain ⟨v7, M8, h9, h⟩ := bnd_some h
      refine zt_callS (z := yX12_isIn) (As := [.long (Int32.toInt64 x3), .long (1 : Int64), .long (10 : Int64)]) (rest := []) (st1 := (.int v7 :: [])) hC 3 (fun l hl => c_X12_isIn N (Int32.toInt64 x3) (1 : Int64) (10 : Int64) M5 (v7, M8) h9 l hl) rfl wd_1067 wd_1065 wd_1066 wd_7 hd_X12_isIn rfl ⟨⟨(Nat.le_of_ble_eq_true rfl), (Nat.le_of_ble_eq_true rfl)⟩, (Nat.le_of_ble_eq_true rfl), (Nat.le_of_ble_eq_true rfl)⟩ rfl (Nat.le_of_ble_eq_true rfl) rfl dX12_where_20 ?_
      refine zt_if_ne (tgt := 28) hC h (by decide) dX12_where_23 (fun h => ?_) (fun h => ?_)
      · refine zt_aload_n hC rfl dX12_where_28 ?_
        refine zt_iload_n hC rfl dX12_where_29 ?_
        obtain ⟨hk, h⟩ := ck_some h
        obtain ⟨v10, M11, h12, h⟩ := bnd_some h
        refine zt_callV (z := yX12_wrongRule) (As := [.int x1]) (rest := []) (st1 := (.int v10 :: [])) hC 1 hk cl12 (fun l hl => c_X12_wrongRule N x0 x1 M8 (v10, M11) h12 l hl) rfl wd_1151 wd_1148 wd_1150 ws_32 wd_7 hd_X12_wrongRule rfl ⟨⟨(Nat.le_of_ble_eq_true rfl), (Nat.le_of_ble_eq_true rfl)⟩, (Nat.le_of_ble_eq_true rfl), (Nat.le_of_ble_eq_true rfl)⟩ rfl (Nat.le_of_ble_eq_true rfl) rfl dX12_where_30 ?_
        refine zt_istore (lv' := [(5, .int v10), (0, .ref x0), (1, .int x1), (2, .int x2), (3, .int x3), (4, .int x4)]) hC (by decide) rfl dX12_where_33 ?_
        refine zt_iload hC rfl dX12_where_35 ?_
        refine zt_if_eq (tgt := 43) hC h (by decide) dX12_where_37 (fun h => ?_) (fun h => ?_)
        · refine zt_bipush hC kb_m4 dX12_where_43 ?_
          refine zt_istore (lv' := [(6, .int (-4 : Int32)), (5, .int v10), (0, .ref x0), (1, .int x1), (2, .int x2), (3, .int x3), (4, .int x4)]) hC (by decide) rfl dX12_where_45 ?_
          refine zt_iconst hC ki_0 dX12_where_47 ?_
          refine zt_istore (lv' := [(7, .int (0 : Int32)), (6, .int (-4 : Int32)), (5, .int v10), (0, .ref x0), (1, .int x1), (2, .int x2), (3, .int x3), (4, .int x4)]) hC (by decide) rfl dX12_where_48 ?_
          refine zt_iconst hC ki_0 dX12_where_50 ?_
          refine zt_istore (lv' := [(8, .int (0 : Int32)), (7, .int (0 : Int32)), (6, .int (-4 : Int32)), (5, .int v10), (0, .ref x0), (1, .int x1), (2, .int x2), (3, .int x3), (4, .int x4)]) hC (by decide) rfl dX12_where_51 ?_
          refine zt_keep [0, 1, 2, 3, 4, 6, 7, 8] rfl ?_
          exact w_X12_where_53 N hC N x0 x1 x2 x3 x4 (-4 : Int32) (0 : Int32) (0 : Int32) M11 h
        · refine zt_iload hC rfl dX12_where_40 ?_
          obtain rfl := Option.some.inj h
          exact zt_iret hC rfl rfl (Nat.le_of_ble_eq_true rfl) (Nat.le_of_ble_eq_true rfl) dX12_where_42
      · refine zt_iconst hC ki_m1 dX12_where_26 ?_
        obtain rfl := Option.some.inj h
        exact zt_iret hC rfl rfl (Nat.le_of_ble_eq_true rfl) (Nat.le_of_ble_eq_true rfl) dX12_where_27
def rm_X12_wrongDay : Room := { frames := 3, cells := 0, slots := 0, locals := 66 }
theorem hd_X12_wrongDay : yX12_wrongDay.cls ≠ "java/lang/invoke/MethodHandle" ∧ yX12_wrongDay.cls ≠ "java/lang/invoke/VarHandle" ∧ (parseMethodDescriptor yX12_wrongDay.desc).map (fun d => d.parameters.length) = some 3 := by decide +kernel
def f_X12_wrongDay (N : Nat) (x0 : Nat) (x1 : Int32) (x2 : Int32) (x3 : Int32) (M : Mm) : Option (Int32 × Mm) :=
bnd (f_X12_isShelf N x1 M) (fun v1 M2 =>
(if v1 = 0 then
some ((-1 : Int32), M2)
else
ck 12 M2 x0 (bnd (f_X12_isLanding N x0 x2 M2) (fun v4 M5 =>
(if v4 = 0 then
some ((-1 : Int32), M5)
else
bnd (f_X12_isDay N x3 M5) (fun v7 M8 =>
(if v7 = 0 then
some ((-1 : Int32), M8)
else
ck 12 M8 x0 (bnd (f_X12_wrongRule N x0 x1 M8) (fun v10 M11 =>
some (v10, M11))))))))))
set_option maxRecDepth 100000 in
set_option maxHeartbeats 4000000 in
theorem c_X12_wrongDay (N : Nat) (x0 : Nat) (x1 : Int32) (x2 : Int32) (x3 : Int32) (M : Mm) (r : (Int32 × Mm)) (h : f_X12_wrongDay N x0 x1 x2 x3 M = some r) (l : Launch) (hfl : l.flags = flags0) {G : Gl} : MT l G yX12_wrongDay cX12_wrongDay 4 (some .int) rm_X12_wrongDay [.ref x0, .int x1, .int x2, .int x3] M (some (.int r.1)) r.2 := by
  unfold f_X12_wrongDay at h
  refine zt_start hfl (lv := [(0, .ref x0), (1, .int x1), (2, .int x2), (3, .int x3)]) (by decide) (Nat.le_of_ble_eq_true rfl) rfl wd_1283 (fun X hC _ => ?_)
  refine zt_iload_n hC rfl dX12_wrongDay_0 ?_
  obtain ⟨v1, M2, h3, h⟩ := bnd_some h
  refine zt_callS (z := yX12_isShelf) (As := [.int x1]) (rest := []) (st1 := (.int v1 :: [])) hC 1 (fun l hl => c_X12_isShelf N x1 M (v1, M2) h3 l hl) rfl wd_1063 wd_1061 wd_1062 wd_7 hd_X12_isShelf rfl ⟨⟨(Nat.le_of_ble_eq_true rfl), (Nat.le_of_ble_eq_true rfl)⟩, (Nat.le_of_ble_eq_true rfl), (Nat.le_of_ble_eq_true rfl)⟩ rfl (Nat.le_of_ble_eq_true rfl) rfl dX12_wrongDay_1 ?_
  refine zt_if_eq (tgt := 22) hC h (by decide) dX12_wrongDay_4 (fun h => ?_) (fun h => ?_)
  · refine zt_iconst hC ki_m1 dX12_wrongDay_22 ?_
    obtain rfl := Option.some.inj h
    exact zt_iret hC rfl rfl (Nat.le_of_ble_eq_true rfl) (Nat.le_of_ble_eq_true rfl) dX12_wrongDay_23
  · refine zt_aload_n hC rfl dX12_wrongDay_7 ?_
    refine zt_iload_n hC rfl dX12_wrongDay_8 ?_
    obtain ⟨hk, h⟩ := ck_some h
    obtain ⟨v4, M5, h6, h⟩ := bnd_some h
    refine zt_callV (z := yX12_isLanding) (As := [.int x2]) (rest := []) (st1 := (.int v4 :: [])) hC 1 hk cl12 (fun l hl => c_X12_isLanding N x0 x2 M2 (v4, M5) h6 l hl) rfl wd_1122 wd_1119 wd_1121 ws_29 wd_7 hd_X12_isLanding rfl ⟨⟨(Nat.le_of_ble_eq_true rfl), (Nat.le_of_ble_eq_true rfl)⟩, (Nat.le_of_ble_eq_true rfl), (Nat.le_of_ble_eq_true rfl)⟩ rfl (Nat.le_of_ble_eq_true rfl) rfl dX12_wrongDay_9 ?_
    refine zt_if_eq (tgt := 22) hC h (by decide) dX12_wrongDay_12 (fun h => ?_) (fun h => ?_)
    · refine zt_iconst hC ki_m1 dX12_wrongDay_22 ?_
      obtain rfl := Option.some.inj h
      exact zt_iret hC rfl rfl (Nat.le_of_ble_eq_true rfl) (Nat.le_of_ble_eq_true rfl) dX12_wrongDay_23
    · refine zt_iload_n hC rfl dX12_wrongDay_15 ?_
      obtain ⟨v7, M8, h9, h⟩ := bnd_some h
      refine zt_callS (z := yX12_isDay) (As := [.int x3]) (rest := []) (st1 := (.int v7 :: [])) hC 1 (fun l hl => c_X12_isDay N x3 M5 (v7, M8) h9 l hl) rfl wd_1242 wd_1240 wd_1241 wd_7 hd_X12_isDay rfl ⟨⟨(Nat.le_of_ble_eq_true rfl), (Nat.le_of_ble_eq_true rfl)⟩, (Nat.le_of_ble_eq_true rfl), (Nat.le_of_ble_eq_true rfl)⟩ rfl (Nat.le_of_ble_eq_true rfl) rfl dX12_wrongDay_16 ?_
      refine zt_if_ne (tgt := 24) hC h (by decide) dX12_wrongDay_19 (fun h => ?_) (fun h => ?_)
      · refine zt_aload_n hC rfl dX12_wrongDay_24 ?_
        refine zt_iload_n hC rfl dX12_wrongDay_25 ?_
        obtain ⟨hk, h⟩ := ck_some h
        obtain ⟨v10, M11, h12, h⟩ := bnd_some h
        refine zt_callV (z := yX12_wrongRule) (As := [.int x1]) (rest := []) (st1 := (.int v10 :: [])) hC 1 hk cl12 (fun l hl => c_X12_wrongRule N x0 x1 M8 (v10, M11) h12 l hl) rfl wd_1151 wd_1148 wd_1150 ws_32 wd_7 hd_X12_wrongRule rfl ⟨⟨(Nat.le_of_ble_eq_true rfl), (Nat.le_of_ble_eq_true rfl)⟩, (Nat.le_of_ble_eq_true rfl), (Nat.le_of_ble_eq_true rfl)⟩ rfl (Nat.le_of_ble_eq_true rfl) rfl dX12_wrongDay_26 ?_
        obtain rfl := Option.some.inj h
        exact zt_iret hC rfl rfl (Nat.le_of_ble_eq_true rfl) (Nat.le_of_ble_eq_true rfl) dX12_wrongDay_29
      · refine zt_iconst hC ki_m1 dX12_wrongDay_22 ?_
        obtain rfl := Option.some.inj h
        exact zt_iret hC rfl rfl (Nat.le_of_ble_eq_true rfl) (Nat.le_of_ble_eq_true rfl) dX12_wrongDay_23
def rm_X12_enough : Room := { frames := 6, cells := 0, slots := 0, locals := 143 }
theorem hd_X12_enough : yX12_enough.cls ≠ "java/lang/invoke/MethodHandle" ∧ yX12_enough.cls ≠ "java/lang/invoke/VarHandle" ∧ (parseMethodDescriptor yX12_enough.desc).map (fun d => d.parameters.length) = some 4 := by decide +kernel
def b_X12_enough_20 (N : Nat) (k20 : Nat → Int32 → Int32 → Int32 → Int32 → Int32 → Mm → Option (Int32 × Mm)) (x0 : Nat) (x1 : Int32) (x2 : Int32) (x3 : Int32) (x4 : Int32) (x6 : Int32) (M : Mm) : Option (Int32 × Mm) :=
(if (7 : Int32) ≤ x6 then
some ((-4 : Int32), M)
else
gR 12 M x0 8 (fun v1 =>
ald M v1 x1 (fun v2 =>
gR 12 M x0 9 (fun v3 =>
ald M v3 x1 (fun v4 =>
ck 12 M x0 (bnd (f_X12_begins N x0 x4 x2 v2 v4 M) (fun v5 M6 =>
gR 12 M6 x0 2 (fun v8 =>
ast M6 v8 (2 : Int32) x6 (fun M9 =>
ck 12 M9 x0 (bnd (f_X12_goesBy N x0 x3 (1 : Int32) (1 : Int32) M9) (fun v10 M11 =>
(if v10 = 0 then
some (x6, M11)
else
k20 x0 x1 x2 x3 x4 (x6 + (1 : Int32)) M11))))))))))))
def l_X12_enough_20 (N : Nat) : Nat → Nat → Int32 → Int32 → Int32 → Int32 → Int32 → Mm → Option (Int32 × Mm)
  | 0 => fun _ _ _ _ _ _ _ => none
  | n + 1 => b_X12_enough_20 N (l_X12_enough_20 N n)
set_option maxRecDepth 100000 in
set_option maxHeartbeats 4000000 in
theorem v_X12_enough_20 {X : Cx} {G : Gl} {r : (Int32 × Mm)} (N : Nat) (hC : CX X G yX12_enough cX12_enough 7 (some .int) rm_X12_enough) (k20 : Nat → Int32 → Int32 → Int32 → Int32 → Int32 → Mm → Option (Int32 × Mm)) (hk20 : ∀ (x0 : Nat) (x1 : Int32) (x2 : Int32) (x3 : Int32) (x4 : Int32) (x6 : Int32) (M : Mm), k20 x0 x1 x2 x3 x4 x6 M = some r → TW X G 7 (RQ X G (some (.int r.1)) r.2 rm_X12_enough) 0 0 M 20 [(0, .ref x0), (1, .int x1), (2, .int x2), (3, .int x3), (4, .int x4), (6, .int x6)] []) (x0 : Nat) (x1 : Int32) (x2 : Int32) (x3 : Int32) (x4 : Int32) (x6 : Int32) (M : Mm) (h : b_X12_enough_20 N k20 x0 x1 x2 x3 x4 x6 M = some r) : TW X G 7 (RQ X G (some (.int r.1)) r.2 rm_X12_enough) 0 0 M 20 [(0, .ref x0), (1, .int x1), (2, .int x2), (3, .int x3), (4, .int x4), (6, .int x6)] [] := by
  unfold b_X12_enough_20 at h
  refine zt_iload hC rfl dX12_enough_20 ?_
  refine zt_bipush hC kb_7 dX12_enough_22 ?_
  refine zt_icmp_ge (tgt := 73) hC h (by decide) dX12_enough_24 (fun h => ?_) (fun h => ?_)
  · refine zt_bipush hC kb_m4 dX12_enough_73 ?_
    obtain rfl := Option.some.inj h
    exact zt_iret hC rfl rfl (Nat.le_of_ble_eq_true rfl) (Nat.le_of_ble_eq_true rfl) dX12_enough_75
  · refine zt_aload_n hC rfl dX12_enough_27 ?_
    refine zt_iload hC rfl dX12_enough_28 ?_
    refine zt_iload_n hC rfl dX12_enough_30 ?_
    refine zt_aload_n hC rfl dX12_enough_31 ?_
    refine zt_gR hC h cl12 (k := 8) (by decide) rfl wd_999 (Or.inl rfl) dX12_enough_32 (fun v1 h => ?_)
    refine zt_iload_n hC rfl dX12_enough_35 ?_
    refine zt_ald hC h dX12_enough_36 (fun v2 h => ?_)
    refine zt_aload_n hC rfl dX12_enough_37 ?_
    refine zt_gR hC h cl12 (k := 9) (by decide) rfl wd_1000 (Or.inl rfl) dX12_enough_38 (fun v3 h => ?_)
    refine zt_iload_n hC rfl dX12_enough_41 ?_
    refine zt_ald hC h dX12_enough_42 (fun v4 h => ?_)
    obtain ⟨hk, h⟩ := ck_some h
    obtain ⟨v5, M6, h7, h⟩ := bnd_some h
    refine zt_callV (z := yX12_begins) (As := [.int x4, .int x2, .int v2, .int v4]) (rest := []) (st1 := []) hC 4 hk cl12 (fun l hl => c_X12_begins N x0 x4 x2 v2 v4 M (v5, M6) h7 l hl) rfl wd_1251 wd_1248 wd_1250 ws_41 wd_7 hd_X12_begins rfl ⟨⟨(Nat.le_of_ble_eq_true rfl), (Nat.le_of_ble_eq_true rfl)⟩, (Nat.le_of_ble_eq_true rfl), (Nat.le_of_ble_eq_true rfl)⟩ rfl (Nat.le_of_ble_eq_true rfl) rfl dX12_enough_43 ?_
    refine zt_aload_n hC rfl dX12_enough_46 ?_
    refine zt_gR hC h cl12 (k := 2) (by decide) rfl wd_993 (Or.inl rfl) dX12_enough_47 (fun v8 h => ?_)
    refine zt_iconst hC ki_2 dX12_enough_50 ?_
    refine zt_iload hC rfl dX12_enough_51 ?_
    refine zt_ast hC h dX12_enough_53 (fun M9 h => ?_)
    refine zt_aload_n hC rfl dX12_enough_54 ?_
    refine zt_iload_n hC rfl dX12_enough_55 ?_
    refine zt_iconst hC ki_1 dX12_enough_56 ?_
    refine zt_iconst hC ki_1 dX12_enough_57 ?_
    obtain ⟨hk, h⟩ := ck_some h
    obtain ⟨v10, M11, h12, h⟩ := bnd_some h
    refine zt_callV (z := yX12_goesBy) (As := [.int x3, .int (1 : Int32), .int (1 : Int32)]) (rest := []) (st1 := (.int v10 :: [])) hC 3 hk cl12 (fun l hl => c_X12_goesBy N x0 x3 (1 : Int32) (1 : Int32) M9 (v10, M11) h12 l hl) rfl wd_1255 wd_1252 wd_1254 ws_42 wd_7 hd_X12_goesBy rfl ⟨⟨(Nat.le_of_ble_eq_true rfl), (Nat.le_of_ble_eq_true rfl)⟩, (Nat.le_of_ble_eq_true rfl), (Nat.le_of_ble_eq_true rfl)⟩ rfl (Nat.le_of_ble_eq_true rfl) rfl dX12_enough_58 ?_
    refine zt_if_ne (tgt := 67) hC h (by decide) dX12_enough_61 (fun h => ?_) (fun h => ?_)
    · refine zt_iinc (v := (x6 + (1 : Int32))) (lv' := [(6, .int (x6 + (1 : Int32))), (0, .ref x0), (1, .int x1), (2, .int x2), (3, .int x3), (4, .int x4)]) hC rfl (by rw [ki_1]) (by decide) rfl dX12_enough_67 ?_
      refine zt_goto (tgt := 20) hC (by decide) dX12_enough_70 ?_
      refine zt_keep [0, 1, 2, 3, 4, 6] rfl ?_
      exact hk20 x0 x1 x2 x3 x4 (x6 + (1 : Int32)) M11 h
    · refine zt_iload hC rfl dX12_enough_64 ?_
      obtain rfl := Option.some.inj h
      exact zt_iret hC rfl rfl (Nat.le_of_ble_eq_true rfl) (Nat.le_of_ble_eq_true rfl) dX12_enough_66
theorem w_X12_enough_20 {X : Cx} {G : Gl} {r : (Int32 × Mm)} (N : Nat) (hC : CX X G yX12_enough cX12_enough 7 (some .int) rm_X12_enough) (n : Nat) : ∀ (x0 : Nat) (x1 : Int32) (x2 : Int32) (x3 : Int32) (x4 : Int32) (x6 : Int32) (M : Mm), l_X12_enough_20 N n x0 x1 x2 x3 x4 x6 M = some r → TW X G 7 (RQ X G (some (.int r.1)) r.2 rm_X12_enough) 0 0 M 20 [(0, .ref x0), (1, .int x1), (2, .int x2), (3, .int x3), (4, .int x4), (6, .int x6)] [] := by
  induction n with
  | zero => intro  x0 x1 x2 x3 x4 x6 M h; cases (show none = some r from h)
  | succ n ih => intro  x0 x1 x2 x3 x4 x6 M h; exact v_X12_enough_20 N hC (l_X12_enough_20 N n) ih x0 x1 x2 x3 x4 x6 M h
def f_X12_enough (N : Nat) (x0 : Nat) (x1 : Int32) (x2 : Int32) (x3 : Int32) (x4 : Int32) (M : Mm) : Option (Int32 × Mm) :=
ck 12 M x0 (bnd (f_X12_wrongDay N x0 x1 x2 x3 M) (fun v1 M2 =>
(if v1 = 0 then
l_X12_enough_20 N N x0 x1 x2 x3 x4 (1 : Int32) M2
else
some (v1, M2))))
set_option maxRecDepth 100000 in
set_option maxHeartbeats 4000000 in
theorem c_X12_enough (N : Nat) (x0 : Nat) (x1 : Int32) (x2 : Int32) (x3 : Int32) (x4 : Int32) (M : Mm) (r : (Int32 × Mm)) (h : f_X12_enough N x0 x1 x2 x3 x4 M = some r) (l : Launch) (hfl : l.flags = flags0) {G : Gl} : MT l G yX12_enough cX12_enough 7 (some .int) rm_X12_enough [.ref x0, .int x1, .int x2, .int x3, .int x4] M (some (.int r.1)) r.2 := by
  unfold f_X12_enough at h
  refine zt_start hfl (lv := [(0, .ref x0), (1, .int x1), (2, .int x2), (3, .int x3), (4, .int x4)]) (by decide) (Nat.le_of_ble_eq_true rfl) rfl wd_1279 (fun X hC _ => ?_)
  refine zt_aload_n hC rfl dX12_enough_0 ?_
  refine zt_iload_n hC rfl dX12_enough_1 ?_
  refine zt_iload_n hC rfl dX12_enough_2 ?_
  refine zt_iload_n hC rfl dX12_enough_3 ?_
  obtain ⟨hk, h⟩ := ck_some h
  obtain ⟨v1, M2, h3, h⟩ := bnd_some h
  refine zt_callV (z := yX12_wrongDay) (As := [.int x1, .int x2, .int x3]) (rest := []) (st1 := (.int v1 :: [])) hC 3 hk cl12 (fun l hl => c_X12_wrongDay N x0 x1 x2 x3 M (v1, M2) h3 l hl) rfl wd_1283 wd_1280 wd_1282 ws_44 wd_7 hd_X12_wrongDay rfl ⟨⟨(Nat.le_of_ble_eq_true rfl), (Nat.le_of_ble_eq_true rfl)⟩, (Nat.le_of_ble_eq_true rfl), (Nat.le_of_ble_eq_true rfl)⟩ rfl (Nat.le_of_ble_eq_true rfl) rfl dX12_enough_4 ?_
  refine zt_istore (lv' := [(5, .int v1), (0, .ref x0), (1, .int x1), (2, .int x2), (3, .int x3), (4, .int x4)]) hC (by decide) rfl dX12_enough_7 ?_
  refine zt_iload hC rfl dX12_enough_9 ?_
  refine zt_if_eq (tgt := 17) hC h (by decide) dX12_enough_11 (fun h => ?_) (fun h => ?_)
  · refine zt_iconst hC ki_1 dX12_enough_17 ?_
    refine zt_istore (lv' := [(6, .int (1 : Int32)), (5, .int v1), (0, .ref x0), (1, .int x1), (2, .int x2), (3, .int x3), (4, .int x4)]) hC (by decide) rfl dX12_enough_18 ?_
    refine zt_keep [0, 1, 2, 3, 4, 6] rfl ?_
    exact w_X12_enough_20 N hC N x0 x1 x2 x3 x4 (1 : Int32) M2 h
  · refine zt_iload hC rfl dX12_enough_14 ?_
    obtain rfl := Option.some.inj h
    exact zt_iret hC rfl rfl (Nat.le_of_ble_eq_true rfl) (Nat.le_of_ble_eq_true rfl) dX12_enough_16
def rm_X12_lantern : Room := { frames := 7, cells := 0, slots := 0, locals := 168 }
theorem hd_X12_lantern : yX12_lantern.cls ≠ "java/lang/invoke/MethodHandle" ∧ yX12_lantern.cls ≠ "java/lang/invoke/VarHandle" ∧ (parseMethodDescriptor yX12_lantern.desc).map (fun d => d.parameters.length) = some 5 := by decide +kernel
def j_X12_lantern_123 (N : Nat) (k70 : Nat → Int32 → Int32 → Int32 → Int32 → Mm → Option (Int32 × Mm)) (x0 : Nat) (x3 : Int32) (x5 : Int32) (x7 : Int32) (x8 : Int32) (s0 : Int32) (s1 : Int32) (s2 : Nat) (M : Mm) : Option (Int32 × Mm) :=
ast M s2 s1 s0 (fun M1 =>
k70 x0 x3 x5 x7 (x8 + (1 : Int32)) M1)
set_option maxRecDepth 100000 in
set_option maxHeartbeats 4000000 in
theorem w_X12_lantern_123 {X : Cx} {G : Gl} {r : (Int32 × Mm)} (N : Nat) (hC : CX X G yX12_lantern cX12_lantern 10 (some .int) rm_X12_lantern) (k70 : Nat → Int32 → Int32 → Int32 → Int32 → Mm → Option (Int32 × Mm)) (hk70 : ∀ (x0 : Nat) (x3 : Int32) (x5 : Int32) (x7 : Int32) (x8 : Int32) (M : Mm), k70 x0 x3 x5 x7 x8 M = some r → TW X G 10 (RQ X G (some (.int r.1)) r.2 rm_X12_lantern) 0 0 M 70 [(0, .ref x0), (3, .int x3), (5, .int x5), (7, .int x7), (8, .int x8)] []) (x0 : Nat) (x3 : Int32) (x5 : Int32) (x7 : Int32) (x8 : Int32) (s0 : Int32) (s1 : Int32) (s2 : Nat) (M : Mm) (h : j_X12_lantern_123 N k70 x0 x3 x5 x7 x8 s0 s1 s2 M = some r) : TW X G 10 (RQ X G (some (.int r.1)) r.2 rm_X12_lantern) 0 0 M 123 [(0, .ref x0), (3, .int x3), (5, .int x5), (7, .int x7), (8, .int x8)] [.int s0, .int s1, .ref s2] := by
  unfold j_X12_lantern_123 at h
  refine zt_ast hC h dX12_lantern_123 (fun M1 h => ?_)
  refine zt_iinc (v := (x8 + (1 : Int32))) (lv' := [(8, .int (x8 + (1 : Int32))), (0, .ref x0), (3, .int x3), (5, .int x5), (7, .int x7)]) hC rfl (by rw [ki_1]) (by decide) rfl dX12_lantern_124 ?_
  refine zt_goto (tgt := 70) hC (by decide) dX12_lantern_127 ?_
  refine zt_keep [0, 3, 5, 7, 8] rfl ?_
  exact hk70 x0 x3 x5 x7 (x8 + (1 : Int32)) M1 h
def b_X12_lantern_70 (N : Nat) (k70 : Nat → Int32 → Int32 → Int32 → Int32 → Mm → Option (Int32 × Mm)) (x0 : Nat) (x3 : Int32) (x5 : Int32) (x7 : Int32) (x8 : Int32) (M : Mm) : Option (Int32 × Mm) :=
gR 12 M x0 2 (fun v1 =>
ald M v1 (1 : Int32) (fun v2 =>
(if v2 ≤ x8 then
ck 12 M x0 (bnd (f_X12_goesBy N x0 x3 (1 : Int32) (1 : Int32) M) (fun v3 M4 =>
some ((x7 - v3), M4)))
else
gR 12 M x0 2 (fun v6 =>
bnd (f_X12_get N v6 x8 (3 : Int32) M) (fun v7 M8 =>
gR 12 M8 x0 2 (fun v10 =>
(if (v7 + x5) ≤ (20 : Int32) then
j_X12_lantern_123 N k70 x0 x3 x5 x7 x8 (v7 + x5) (((25 : Int32) + ((5 : Int32) * x8)) + (3 : Int32)) v10 M8
else
j_X12_lantern_123 N k70 x0 x3 x5 x7 x8 (20 : Int32) (((25 : Int32) + ((5 : Int32) * x8)) + (3 : Int32)) v10 M8)))))))
def l_X12_lantern_70 (N : Nat) : Nat → Nat → Int32 → Int32 → Int32 → Int32 → Mm → Option (Int32 × Mm)
  | 0 => fun _ _ _ _ _ _ => none
  | n + 1 => b_X12_lantern_70 N (l_X12_lantern_70 N n)
set_option maxRecDepth 100000 in
set_option maxHeartbeats 4000000 in
theorem v_X12_lantern_70 {X : Cx} {G : Gl} {r : (Int32 × Mm)} (N : Nat) (hC : CX X G yX12_lantern cX12_lantern 10 (some .int) rm_X12_lantern) (k70 : Nat → Int32 → Int32 → Int32 → Int32 → Mm → Option (Int32 × Mm)) (hk70 : ∀ (x0 : Nat) (x3 : Int32) (x5 : Int32) (x7 : Int32) (x8 : Int32) (M : Mm), k70 x0 x3 x5 x7 x8 M = some r → TW X G 10 (RQ X G (some (.int r.1)) r.2 rm_X12_lantern) 0 0 M 70 [(0, .ref x0), (3, .int x3), (5, .int x5), (7, .int x7), (8, .int x8)] []) (x0 : Nat) (x3 : Int32) (x5 : Int32) (x7 : Int32) (x8 : Int32) (M : Mm) (h : b_X12_lantern_70 N k70 x0 x3 x5 x7 x8 M = some r) : TW X G 10 (RQ X G (some (.int r.1)) r.2 rm_X12_lantern) 0 0 M 70 [(0, .ref x0), (3, .int x3), (5, .int x5), (7, .int x7), (8, .int x8)] [] := by
  unfold b_X12_lantern_70 at h
  refine zt_iload hC rfl dX12_lantern_70 ?_
  refine zt_aload_n hC rfl dX12_lantern_72 ?_
  refine zt_gR hC h cl12 (k := 2) (by decide) rfl wd_993 (Or.inl rfl) dX12_lantern_73 (fun v1 h => ?_)
  refine zt_iconst hC ki_1 dX12_lantern_76 ?_
  refine zt_ald hC h dX12_lantern_77 (fun v2 h => ?_)
  refine zt_icmp_ge (tgt := 130) hC h (by decide) dX12_lantern_78 (fun h => ?_) (fun h => ?_)
  · refine zt_iload hC rfl dX12_lantern_130 ?_
    refine zt_aload_n hC rfl dX12_lantern_132 ?_
    refine zt_iload_n hC rfl dX12_lantern_133 ?_
    refine zt_iconst hC ki_1 dX12_lantern_134 ?_
    refine zt_iconst hC ki_1 dX12_lantern_135 ?_
    obtain ⟨hk, h⟩ := ck_some h
    obtain ⟨v3, M4, h5, h⟩ := bnd_some h
    refine zt_callV (z := yX12_goesBy) (As := [.int x3, .int (1 : Int32), .int (1 : Int32)]) (rest := [.int x7]) (st1 := (.int v3 :: [.int x7])) hC 3 hk cl12 (fun l hl => c_X12_goesBy N x0 x3 (1 : Int32) (1 : Int32) M (v3, M4) h5 l hl) rfl wd_1255 wd_1252 wd_1254 ws_42 wd_7 hd_X12_goesBy rfl ⟨⟨(Nat.le_of_ble_eq_true rfl), (Nat.le_of_ble_eq_true rfl)⟩, (Nat.le_of_ble_eq_true rfl), (Nat.le_of_ble_eq_true rfl)⟩ rfl (Nat.le_of_ble_eq_true rfl) rfl dX12_lantern_136 ?_
    refine zt_isub hC dX12_lantern_139 ?_
    obtain rfl := Option.some.inj h
    exact zt_iret hC rfl rfl (Nat.le_of_ble_eq_true rfl) (Nat.le_of_ble_eq_true rfl) dX12_lantern_140
  · refine zt_aload_n hC rfl dX12_lantern_81 ?_
    refine zt_gR hC h cl12 (k := 2) (by decide) rfl wd_993 (Or.inl rfl) dX12_lantern_82 (fun v6 h => ?_)
    refine zt_iload hC rfl dX12_lantern_85 ?_
    refine zt_iconst hC ki_3 dX12_lantern_87 ?_
    obtain ⟨v7, M8, h9, h⟩ := bnd_some h
    refine zt_callS (z := yX12_get) (As := [.ref v6, .int x8, .int (3 : Int32)]) (rest := []) (st1 := (.int v7 :: [])) hC 3 (fun l hl => c_X12_get N v6 x8 (3 : Int32) M (v7, M8) h9 l hl) rfl wd_1112 wd_1110 wd_1111 wd_7 hd_X12_get rfl ⟨⟨(Nat.le_of_ble_eq_true rfl), (Nat.le_of_ble_eq_true rfl)⟩, (Nat.le_of_ble_eq_true rfl), (Nat.le_of_ble_eq_true rfl)⟩ rfl (Nat.le_of_ble_eq_true rfl) rfl dX12_lantern_88 ?_
    refine zt_iload hC rfl dX12_lantern_91 ?_
    refine zt_iadd hC dX12_lantern_93 ?_
    refine zt_istore (lv' := [(9, .int (v7 + x5)), (0, .ref x0), (3, .int x3), (5, .int x5), (7, .int x7), (8, .int x8)]) hC (by decide) rfl dX12_lantern_94 ?_
    refine zt_aload_n hC rfl dX12_lantern_96 ?_
    refine zt_gR hC h cl12 (k := 2) (by decide) rfl wd_993 (Or.inl rfl) dX12_lantern_97 (fun v10 h => ?_)
    refine zt_bipush hC kb_25 dX12_lantern_100 ?_
    refine zt_iconst hC ki_5 dX12_lantern_102 ?_
    refine zt_iload hC rfl dX12_lantern_103 ?_
    refine zt_imul hC dX12_lantern_105 ?_
    refine zt_iadd hC dX12_lantern_106 ?_
    refine zt_iconst hC ki_3 dX12_lantern_107 ?_
    refine zt_iadd hC dX12_lantern_108 ?_
    refine zt_iload hC rfl dX12_lantern_109 ?_
    refine zt_bipush hC kb_20 dX12_lantern_111 ?_
    refine zt_icmp_le (tgt := 121) hC h (by decide) dX12_lantern_113 (fun h => ?_) (fun h => ?_)
    · refine zt_iload hC rfl dX12_lantern_121 ?_
      refine zt_keep [0, 3, 5, 7, 8] rfl ?_
      exact w_X12_lantern_123 N hC k70 hk70 x0 x3 x5 x7 x8 (v7 + x5) (((25 : Int32) + ((5 : Int32) * x8)) + (3 : Int32)) v10 M8 h
    · refine zt_bipush hC kb_20 dX12_lantern_116 ?_
      refine zt_goto (tgt := 123) hC (by decide) dX12_lantern_118 ?_
      refine zt_keep [0, 3, 5, 7, 8] rfl ?_
      exact w_X12_lantern_123 N hC k70 hk70 x0 x3 x5 x7 x8 (20 : Int32) (((25 : Int32) + ((5 : Int32) * x8)) + (3 : Int32)) v10 M8 h
theorem w_X12_lantern_70 {X : Cx} {G : Gl} {r : (Int32 × Mm)} (N : Nat) (hC : CX X G yX12_lantern cX12_lantern 10 (some .int) rm_X12_lantern) (n : Nat) : ∀ (x0 : Nat) (x3 : Int32) (x5 : Int32) (x7 : Int32) (x8 : Int32) (M : Mm), l_X12_lantern_70 N n x0 x3 x5 x7 x8 M = some r → TW X G 10 (RQ X G (some (.int r.1)) r.2 rm_X12_lantern) 0 0 M 70 [(0, .ref x0), (3, .int x3), (5, .int x5), (7, .int x7), (8, .int x8)] [] := by
  induction n with
  | zero => intro  x0 x3 x5 x7 x8 M h; cases (show none = some r from h)
  | succ n ih => intro  x0 x3 x5 x7 x8 M h; exact v_X12_lantern_70 N hC (l_X12_lantern_70 N n) ih x0 x3 x5 x7 x8 M h
def f_X12_lantern (N : Nat) (x0 : Nat) (x1 : Int32) (x2 : Int32) (x3 : Int32) (x4 : Int32) (x5 : Int32) (M : Mm) : Option (Int32 × Mm) :=
bnd (f_X12_isIn N (Int32.toInt64 x5) (0 : Int64) (20 : Int64) M) (fun v1 M2 =>
(if v1 = 0 then
some ((-1000000001 : Int32), M2)
else
ck 12 M2 x0 (bnd (f_X12_wrongDay N x0 x1 x2 x3 M2) (fun v4 M5 =>
(if v4 = 0 then
ck 12 M5 x0 (bnd (f_X12_dayOf N x0 x1 x2 x3 x4 (1 : Int32) M5) (fun v7 M8 =>
gR 12 M8 x0 8 (fun v10 =>
ald M8 v10 x1 (fun v11 =>
gR 12 M8 x0 9 (fun v12 =>
ald M8 v12 x1 (fun v13 =>
ck 12 M8 x0 (bnd (f_X12_begins N x0 x4 x2 v11 v13 M8) (fun v14 M15 =>
l_X12_lantern_70 N N x0 x3 x5 v7 (0 : Int32) M15))))))))
else
some (((-1000000000 : Int32) + v4), M5))))))
set_option maxRecDepth 100000 in
set_option maxHeartbeats 4000000 in
theorem c_X12_lantern (N : Nat) (x0 : Nat) (x1 : Int32) (x2 : Int32) (x3 : Int32) (x4 : Int32) (x5 : Int32) (M : Mm) (r : (Int32 × Mm)) (h : f_X12_lantern N x0 x1 x2 x3 x4 x5 M = some r) (l : Launch) (hfl : l.flags = flags0) {G : Gl} : MT l G yX12_lantern cX12_lantern 10 (some .int) rm_X12_lantern [.ref x0, .int x1, .int x2, .int x3, .int x4, .int x5] M (some (.int r.1)) r.2 := by
  unfold f_X12_lantern at h
  refine zt_start hfl (lv := [(0, .ref x0), (1, .int x1), (2, .int x2), (3, .int x3), (4, .int x4), (5, .int x5)]) (by decide) (Nat.le_of_ble_eq_true rfl) rfl wd_1287 (fun X hC _ => ?_)
  refine zt_iload hC rfl dX12_lantern_0 ?_
  refine zt_i2l hC dX12_lantern_2 ?_
  refine zt_lconst hC kl_0 dX12_lantern_3 ?_
  refine zt_ldc2 hC wd_1114 dX12_lantern_4 ?_
  obtain ⟨v1, M2, h3, h⟩ := bnd_some h
  refine zt_callS (z := yX12_isIn) (As := [.long (Int32.toInt64 x5), .long (0 : Int64), .long (20 : Int64)]) (rest := []) (st1 := (.int v1 :: [])) hC 3 (fun l hl => c_X12_isIn N (Int32.toInt64 x5) (0 : Int64) (20 : Int64) M (v1, M2) h3 l hl) rfl wd_1067 wd_1065 wd_1066 wd_7 hd_X12_isIn rfl ⟨⟨(Nat.le_of_ble_eq_true rfl), (Nat.le_of_ble_eq_true rfl)⟩, (Nat.le_of_ble_eq_true rfl), (Nat.le_of_ble_eq_true rfl)⟩ rfl (Nat.le_of_ble_eq_true rfl) rfl dX12_lantern_7 ?_
  refine zt_if_ne (tgt := 16) hC h (by decide) dX12_lantern_10 (fun h => ?_) (fun h => ?_)
  · refine zt_aload_n hC rfl dX12_lantern_16 ?_
    refine zt_iload_n hC rfl dX12_lantern_17 ?_
    refine zt_iload_n hC rfl dX12_lantern_18 ?_
    refine zt_iload_n hC rfl dX12_lantern_19 ?_
    obtain ⟨hk, h⟩ := ck_some h
    obtain ⟨v4, M5, h6, h⟩ := bnd_some h
    refine zt_callV (z := yX12_wrongDay) (As := [.int x1, .int x2, .int x3]) (rest := []) (st1 := (.int v4 :: [])) hC 3 hk cl12 (fun l hl => c_X12_wrongDay N x0 x1 x2 x3 M2 (v4, M5) h6 l hl) rfl wd_1283 wd_1280 wd_1282 ws_44 wd_7 hd_X12_wrongDay rfl ⟨⟨(Nat.le_of_ble_eq_true rfl), (Nat.le_of_ble_eq_true rfl)⟩, (Nat.le_of_ble_eq_true rfl), (Nat.le_of_ble_eq_true rfl)⟩ rfl (Nat.le_of_ble_eq_true rfl) rfl dX12_lantern_20 ?_
    refine zt_istore (lv' := [(6, .int v4), (0, .ref x0), (1, .int x1), (2, .int x2), (3, .int x3), (4, .int x4), (5, .int x5)]) hC (by decide) rfl dX12_lantern_23 ?_
    refine zt_iload hC rfl dX12_lantern_25 ?_
    refine zt_if_eq (tgt := 36) hC h (by decide) dX12_lantern_27 (fun h => ?_) (fun h => ?_)
    · refine zt_aload_n hC rfl dX12_lantern_36 ?_
      refine zt_iload_n hC rfl dX12_lantern_37 ?_
      refine zt_iload_n hC rfl dX12_lantern_38 ?_
      refine zt_iload_n hC rfl dX12_lantern_39 ?_
      refine zt_iload hC rfl dX12_lantern_40 ?_
      refine zt_iconst hC ki_1 dX12_lantern_42 ?_
      obtain ⟨hk, h⟩ := ck_some h
      obtain ⟨v7, M8, h9, h⟩ := bnd_some h
      refine zt_callV (z := yX12_dayOf) (As := [.int x1, .int x2, .int x3, .int x4, .int (1 : Int32)]) (rest := []) (st1 := (.int v7 :: [])) hC 5 hk cl12 (fun l hl => c_X12_dayOf N x0 x1 x2 x3 x4 (1 : Int32) M5 (v7, M8) h9 l hl) rfl wd_1247 wd_1244 wd_1246 ws_40 wd_7 hd_X12_dayOf rfl ⟨⟨(Nat.le_of_ble_eq_true rfl), (Nat.le_of_ble_eq_true rfl)⟩, (Nat.le_of_ble_eq_true rfl), (Nat.le_of_ble_eq_true rfl)⟩ rfl (Nat.le_of_ble_eq_true rfl) rfl dX12_lantern_43 ?_
      refine zt_istore (lv' := [(7, .int v7), (6, .int v4), (0, .ref x0), (1, .int x1), (2, .int x2), (3, .int x3), (4, .int x4), (5, .int x5)]) hC (by decide) rfl dX12_lantern_46 ?_
      refine zt_aload_n hC rfl dX12_lantern_48 ?_
      refine zt_iload hC rfl dX12_lantern_49 ?_
      refine zt_iload_n hC rfl dX12_lantern_51 ?_
      refine zt_aload_n hC rfl dX12_lantern_52 ?_
      refine zt_gR hC h cl12 (k := 8) (by decide) rfl wd_999 (Or.inl rfl) dX12_lantern_53 (fun v10 h => ?_)
      refine zt_iload_n hC rfl dX12_lantern_56 ?_
      refine zt_ald hC h dX12_lantern_57 (fun v11 h => ?_)
      refine zt_aload_n hC rfl dX12_lantern_58 ?_
      refine zt_gR hC h cl12 (k := 9) (by decide) rfl wd_1000 (Or.inl rfl) dX12_lantern_59 (fun v12 h => ?_)
      refine zt_iload_n hC rfl dX12_lantern_62 ?_
      refine zt_ald hC h dX12_lantern_63 (fun v13 h => ?_)
      obtain ⟨hk, h⟩ := ck_some h
      obtain ⟨v14, M15, h16, h⟩ := bnd_some h
      refine zt_callV (z := yX12_begins) (As := [.int x4, .int x2, .int v11, .int v13]) (rest := []) (st1 := []) hC 4 hk cl12 (fun l hl => c_X12_begins N x0 x4 x2 v11 v13 M8 (v14, M15) h16 l hl) rfl wd_1251 wd_1248 wd_1250 ws_41 wd_7 hd_X12_begins rfl ⟨⟨(Nat.le_of_ble_eq_true rfl), (Nat.le_of_ble_eq_true rfl)⟩, (Nat.le_of_ble_eq_true rfl), (Nat.le_of_ble_eq_true rfl)⟩ rfl (Nat.le_of_ble_eq_true rfl) rfl dX12_lantern_64 ?_
      refine zt_iconst hC ki_0 dX12_lantern_67 ?_
      refine zt_istore (lv' := [(8, .int (0 : Int32)), (7, .int v7), (6, .int v4), (0, .ref x0), (1, .int x1), (2, .int x2), (3, .int x3), (4, .int x4), (5, .int x5)]) hC (by decide) rfl dX12_lantern_68 ?_
      refine zt_keep [0, 3, 5, 7, 8] rfl ?_
      exact w_X12_lantern_70 N hC N x0 x3 x5 v7 (0 : Int32) M15 h
    · refine zt_ldc hC wd_1262 dX12_lantern_30 ?_
      refine zt_iload hC rfl dX12_lantern_32 ?_
      refine zt_iadd hC dX12_lantern_34 ?_
      obtain rfl := Option.some.inj h
      exact zt_iret hC rfl rfl (Nat.le_of_ble_eq_true rfl) (Nat.le_of_ble_eq_true rfl) dX12_lantern_35
  · refine zt_ldc hC wd_1261 dX12_lantern_13 ?_
    obtain rfl := Option.some.inj h
    exact zt_iret hC rfl rfl (Nat.le_of_ble_eq_true rfl) (Nat.le_of_ble_eq_true rfl) dX12_lantern_15
def rm_X12_price : Room := { frames := 7, cells := 0, slots := 0, locals := 168 }
theorem hd_X12_price : yX12_price.cls ≠ "java/lang/invoke/MethodHandle" ∧ yX12_price.cls ≠ "java/lang/invoke/VarHandle" ∧ (parseMethodDescriptor yX12_price.desc).map (fun d => d.parameters.length) = some 5 := by decide +kernel
def j_X12_price_157 (N : Nat) (x0 : Nat) (x3 : Int32) (x7 : Int32) (s0 : Int32) (s1 : Int32) (s2 : Nat) (M : Mm) : Option (Int32 × Mm) :=
ast M s2 s1 s0 (fun M1 =>
ck 12 M1 x0 (bnd (f_X12_goesBy N x0 x3 (1 : Int32) (2 : Int32) M1) (fun v2 M3 =>
some ((v2 - x7), M3))))
set_option maxRecDepth 100000 in
set_option maxHeartbeats 4000000 in
theorem w_X12_price_157 {X : Cx} {G : Gl} {r : (Int32 × Mm)} (N : Nat) (hC : CX X G yX12_price cX12_price 10 (some .int) rm_X12_price) (x0 : Nat) (x3 : Int32) (x7 : Int32) (s0 : Int32) (s1 : Int32) (s2 : Nat) (M : Mm) (h : j_X12_price_157 N x0 x3 x7 s0 s1 s2 M = some r) : TW X G 10 (RQ X G (some (.int r.1)) r.2 rm_X12_price) 0 0 M 157 [(0, .ref x0), (3, .int x3), (7, .int x7)] [.int s0, .int s1, .ref s2] := by
  unfold j_X12_price_157 at h
  refine zt_ast hC h dX12_price_157 (fun M1 h => ?_)
  refine zt_aload_n hC rfl dX12_price_158 ?_
  refine zt_iload_n hC rfl dX12_price_159 ?_
  refine zt_iconst hC ki_1 dX12_price_160 ?_
  refine zt_iconst hC ki_2 dX12_price_161 ?_
  obtain ⟨hk, h⟩ := ck_some h
  obtain ⟨v2, M3, h4, h⟩ := bnd_some h
  refine zt_callV (z := yX12_goesBy) (As := [.int x3, .int (1 : Int32), .int (2 : Int32)]) (rest := []) (st1 := (.int v2 :: [])) hC 3 hk cl12 (fun l hl => c_X12_goesBy N x0 x3 (1 : Int32) (2 : Int32) M1 (v2, M3) h4 l hl) rfl wd_1255 wd_1252 wd_1254 ws_42 wd_7 hd_X12_goesBy rfl ⟨⟨(Nat.le_of_ble_eq_true rfl), (Nat.le_of_ble_eq_true rfl)⟩, (Nat.le_of_ble_eq_true rfl), (Nat.le_of_ble_eq_true rfl)⟩ rfl (Nat.le_of_ble_eq_true rfl) rfl dX12_price_162 ?_
  refine zt_iload hC rfl dX12_price_165 ?_
  refine zt_isub hC dX12_price_167 ?_
  obtain rfl := Option.some.inj h
  exact zt_iret hC rfl rfl (Nat.le_of_ble_eq_true rfl) (Nat.le_of_ble_eq_true rfl) dX12_price_168
def j_X12_price_132 (N : Nat) (x0 : Nat) (x2 : Int32) (x3 : Int32) (x7 : Int32) (x9 : Int32) (s0 : Int32) (s1 : Int32) (s2 : Nat) (M : Mm) : Option (Int32 × Mm) :=
ast M s2 s1 s0 (fun M1 =>
gR 12 M1 x0 2 (fun v2 =>
(if (1 : Int32) ≤ x9 then
j_X12_price_157 N x0 x3 x7 x9 (((25 : Int32) + ((5 : Int32) * x2)) + (3 : Int32)) v2 M1
else
j_X12_price_157 N x0 x3 x7 (1 : Int32) (((25 : Int32) + ((5 : Int32) * x2)) + (3 : Int32)) v2 M1)))
set_option maxRecDepth 100000 in
set_option maxHeartbeats 4000000 in
theorem w_X12_price_132 {X : Cx} {G : Gl} {r : (Int32 × Mm)} (N : Nat) (hC : CX X G yX12_price cX12_price 10 (some .int) rm_X12_price) (x0 : Nat) (x2 : Int32) (x3 : Int32) (x7 : Int32) (x9 : Int32) (s0 : Int32) (s1 : Int32) (s2 : Nat) (M : Mm) (h : j_X12_price_132 N x0 x2 x3 x7 x9 s0 s1 s2 M = some r) : TW X G 10 (RQ X G (some (.int r.1)) r.2 rm_X12_price) 0 0 M 132 [(0, .ref x0), (2, .int x2), (3, .int x3), (7, .int x7), (9, .int x9)] [.int s0, .int s1, .ref s2] := by
  unfold j_X12_price_132 at h
  refine zt_ast hC h dX12_price_132 (fun M1 h => ?_)
  refine zt_aload_n hC rfl dX12_price_133 ?_
  refine zt_gR hC h cl12 (k := 2) (by decide) rfl wd_993 (Or.inl rfl) dX12_price_134 (fun v2 h => ?_)
  refine zt_bipush hC kb_25 dX12_price_137 ?_
  refine zt_iconst hC ki_5 dX12_price_139 ?_
  refine zt_iload_n hC rfl dX12_price_140 ?_
  refine zt_imul hC dX12_price_141 ?_
  refine zt_iadd hC dX12_price_142 ?_
  refine zt_iconst hC ki_3 dX12_price_143 ?_
  refine zt_iadd hC dX12_price_144 ?_
  refine zt_iload hC rfl dX12_price_145 ?_
  refine zt_iconst hC ki_1 dX12_price_147 ?_
  refine zt_icmp_ge (tgt := 155) hC h (by decide) dX12_price_148 (fun h => ?_) (fun h => ?_)
  · refine zt_iload hC rfl dX12_price_155 ?_
    refine zt_keep [0, 3, 7] rfl ?_
    exact w_X12_price_157 N hC x0 x3 x7 x9 (((25 : Int32) + ((5 : Int32) * x2)) + (3 : Int32)) v2 M1 h
  · refine zt_iconst hC ki_1 dX12_price_151 ?_
    refine zt_goto (tgt := 157) hC (by decide) dX12_price_152 ?_
    refine zt_keep [0, 3, 7] rfl ?_
    exact w_X12_price_157 N hC x0 x3 x7 (1 : Int32) (((25 : Int32) + ((5 : Int32) * x2)) + (3 : Int32)) v2 M1 h
def f_X12_price (N : Nat) (x0 : Nat) (x1 : Int32) (x2 : Int32) (x3 : Int32) (x4 : Int32) (x5 : Int32) (M : Mm) : Option (Int32 × Mm) :=
ck 12 M x0 (bnd (f_X12_isSort N x0 x2 M) (fun v1 M2 =>
(if v1 = 0 then
some ((-1000000001 : Int32), M2)
else
bnd (f_X12_isIn N (Int32.toInt64 x5) (0 : Int64) (99 : Int64) M2) (fun v4 M5 =>
(if v4 = 0 then
some ((-1000000001 : Int32), M5)
else
ck 12 M5 x0 (bnd (f_X12_wrongDay N x0 x1 (0 : Int32) x3 M5) (fun v7 M8 =>
(if v7 = 0 then
ck 12 M8 x0 (bnd (f_X12_dayOf N x0 x1 (0 : Int32) x3 x4 (2 : Int32) M8) (fun v10 M11 =>
gR 12 M11 x0 8 (fun v13 =>
ald M11 v13 x1 (fun v14 =>
gR 12 M11 x0 9 (fun v15 =>
ald M11 v15 x1 (fun v16 =>
ck 12 M11 x0 (bnd (f_X12_begins N x0 x4 (0 : Int32) v14 v16 M11) (fun v17 M18 =>
gR 12 M18 x0 2 (fun v20 =>
bnd (f_X12_get N v20 x2 (4 : Int32) M18) (fun v21 M22 =>
gR 12 M22 x0 2 (fun v24 =>
bnd (f_X12_get N v24 x2 (3 : Int32) M22) (fun v25 M26 =>
gR 12 M26 x0 2 (fun v28 =>
(if (v21 + x5) ≤ (99 : Int32) then
j_X12_price_132 N x0 x2 x3 v10 (v25 - (x5 / (10 : Int32))) (v21 + x5) (((25 : Int32) + ((5 : Int32) * x2)) + (4 : Int32)) v28 M26
else
j_X12_price_132 N x0 x2 x3 v10 (v25 - (x5 / (10 : Int32))) (99 : Int32) (((25 : Int32) + ((5 : Int32) * x2)) + (4 : Int32)) v28 M26))))))))))))))
else
some (((-1000000000 : Int32) + v7), M8)))))))))
set_option maxRecDepth 100000 in
set_option maxHeartbeats 4000000 in
theorem c_X12_price (N : Nat) (x0 : Nat) (x1 : Int32) (x2 : Int32) (x3 : Int32) (x4 : Int32) (x5 : Int32) (M : Mm) (r : (Int32 × Mm)) (h : f_X12_price N x0 x1 x2 x3 x4 x5 M = some r) (l : Launch) (hfl : l.flags = flags0) {G : Gl} : MT l G yX12_price cX12_price 10 (some .int) rm_X12_price [.ref x0, .int x1, .int x2, .int x3, .int x4, .int x5] M (some (.int r.1)) r.2 := by
  unfold f_X12_price at h
  refine zt_start hfl (lv := [(0, .ref x0), (1, .int x1), (2, .int x2), (3, .int x3), (4, .int x4), (5, .int x5)]) (by decide) (Nat.le_of_ble_eq_true rfl) rfl wd_1291 (fun X hC _ => ?_)
  refine zt_aload_n hC rfl dX12_price_0 ?_
  refine zt_iload_n hC rfl dX12_price_1 ?_
  obtain ⟨hk, h⟩ := ck_some h
  obtain ⟨v1, M2, h3, h⟩ := bnd_some h
  refine zt_callV (z := yX12_isSort) (As := [.int x2]) (rest := []) (st1 := (.int v1 :: [])) hC 1 hk cl12 (fun l hl => c_X12_isSort N x0 x2 M (v1, M2) h3 l hl) rfl wd_1130 wd_1127 wd_1129 ws_30 wd_7 hd_X12_isSort rfl ⟨⟨(Nat.le_of_ble_eq_true rfl), (Nat.le_of_ble_eq_true rfl)⟩, (Nat.le_of_ble_eq_true rfl), (Nat.le_of_ble_eq_true rfl)⟩ rfl (Nat.le_of_ble_eq_true rfl) rfl dX12_price_2 ?_
  refine zt_if_eq (tgt := 21) hC h (by decide) dX12_price_5 (fun h => ?_) (fun h => ?_)
  · refine zt_ldc hC wd_1261 dX12_price_21 ?_
    obtain rfl := Option.some.inj h
    exact zt_iret hC rfl rfl (Nat.le_of_ble_eq_true rfl) (Nat.le_of_ble_eq_true rfl) dX12_price_23
  · refine zt_iload hC rfl dX12_price_8 ?_
    refine zt_i2l hC dX12_price_10 ?_
    refine zt_lconst hC kl_0 dX12_price_11 ?_
    refine zt_ldc2 hC wd_1292 dX12_price_12 ?_
    obtain ⟨v4, M5, h6, h⟩ := bnd_some h
    refine zt_callS (z := yX12_isIn) (As := [.long (Int32.toInt64 x5), .long (0 : Int64), .long (99 : Int64)]) (rest := []) (st1 := (.int v4 :: [])) hC 3 (fun l hl => c_X12_isIn N (Int32.toInt64 x5) (0 : Int64) (99 : Int64) M2 (v4, M5) h6 l hl) rfl wd_1067 wd_1065 wd_1066 wd_7 hd_X12_isIn rfl ⟨⟨(Nat.le_of_ble_eq_true rfl), (Nat.le_of_ble_eq_true rfl)⟩, (Nat.le_of_ble_eq_true rfl), (Nat.le_of_ble_eq_true rfl)⟩ rfl (Nat.le_of_ble_eq_true rfl) rfl dX12_price_15 ?_
    refine zt_if_ne (tgt := 24) hC h (by decide) dX12_price_18 (fun h => ?_) (fun h => ?_)
    · refine zt_aload_n hC rfl dX12_price_24 ?_
      refine zt_iload_n hC rfl dX12_price_25 ?_
      refine zt_iconst hC ki_0 dX12_price_26 ?_
      refine zt_iload_n hC rfl dX12_price_27 ?_
      obtain ⟨hk, h⟩ := ck_some h
      obtain ⟨v7, M8, h9, h⟩ := bnd_some h
      refine zt_callV (z := yX12_wrongDay) (As := [.int x1, .int (0 : Int32), .int x3]) (rest := []) (st1 := (.int v7 :: [])) hC 3 hk cl12 (fun l hl => c_X12_wrongDay N x0 x1 (0 : Int32) x3 M5 (v7, M8) h9 l hl) rfl wd_1283 wd_1280 wd_1282 ws_44 wd_7 hd_X12_wrongDay rfl ⟨⟨(Nat.le_of_ble_eq_true rfl), (Nat.le_of_ble_eq_true rfl)⟩, (Nat.le_of_ble_eq_true rfl), (Nat.le_of_ble_eq_true rfl)⟩ rfl (Nat.le_of_ble_eq_true rfl) rfl dX12_price_28 ?_
      refine zt_istore (lv' := [(6, .int v7), (0, .ref x0), (1, .int x1), (2, .int x2), (3, .int x3), (4, .int x4), (5, .int x5)]) hC (by decide) rfl dX12_price_31 ?_
      refine zt_iload hC rfl dX12_price_33 ?_
      refine zt_if_eq (tgt := 44) hC h (by decide) dX12_price_35 (fun h => ?_) (fun h => ?_)
      · refine zt_aload_n hC rfl dX12_price_44 ?_
        refine zt_iload_n hC rfl dX12_price_45 ?_
        refine zt_iconst hC ki_0 dX12_price_46 ?_
        refine zt_iload_n hC rfl dX12_price_47 ?_
        refine zt_iload hC rfl dX12_price_48 ?_
        refine zt_iconst hC ki_2 dX12_price_50 ?_
        obtain ⟨hk, h⟩ := ck_some h
        obtain ⟨v10, M11, h12, h⟩ := bnd_some h
        refine zt_callV (z := yX12_dayOf) (As := [.int x1, .int (0 : Int32), .int x3, .int x4, .int (2 : Int32)]) (rest := []) (st1 := (.int v10 :: [])) hC 5 hk cl12 (fun l hl => c_X12_dayOf N x0 x1 (0 : Int32) x3 x4 (2 : Int32) M8 (v10, M11) h12 l hl) rfl wd_1247 wd_1244 wd_1246 ws_40 wd_7 hd_X12_dayOf rfl ⟨⟨(Nat.le_of_ble_eq_true rfl), (Nat.le_of_ble_eq_true rfl)⟩, (Nat.le_of_ble_eq_true rfl), (Nat.le_of_ble_eq_true rfl)⟩ rfl (Nat.le_of_ble_eq_true rfl) rfl dX12_price_51 ?_
        refine zt_istore (lv' := [(7, .int v10), (6, .int v7), (0, .ref x0), (1, .int x1), (2, .int x2), (3, .int x3), (4, .int x4), (5, .int x5)]) hC (by decide) rfl dX12_price_54 ?_
        refine zt_aload_n hC rfl dX12_price_56 ?_
        refine zt_iload hC rfl dX12_price_57 ?_
        refine zt_iconst hC ki_0 dX12_price_59 ?_
        refine zt_aload_n hC rfl dX12_price_60 ?_
        refine zt_gR hC h cl12 (k := 8) (by decide) rfl wd_999 (Or.inl rfl) dX12_price_61 (fun v13 h => ?_)
        refine zt_iload_n hC rfl dX12_price_64 ?_
        refine zt_ald hC h dX12_price_65 (fun v14 h => ?_)
        refine zt_aload_n hC rfl dX12_price_66 ?_
        refine zt_gR hC h cl12 (k := 9) (by decide) rfl wd_1000 (Or.inl rfl) dX12_price_67 (fun v15 h => ?_)
        refine zt_iload_n hC rfl dX12_price_70 ?_
        refine zt_ald hC h dX12_price_71 (fun v16 h => ?_)
        obtain ⟨hk, h⟩ := ck_some h
        obtain ⟨v17, M18, h19, h⟩ := bnd_some h
        refine zt_callV (z := yX12_begins) (As := [.int x4, .int (0 : Int32), .int v14, .int v16]) (rest := []) (st1 := []) hC 4 hk cl12 (fun l hl => c_X12_begins N x0 x4 (0 : Int32) v14 v16 M11 (v17, M18) h19 l hl) rfl wd_1251 wd_1248 wd_1250 ws_41 wd_7 hd_X12_begins rfl ⟨⟨(Nat.le_of_ble_eq_true rfl), (Nat.le_of_ble_eq_true rfl)⟩, (Nat.le_of_ble_eq_true rfl), (Nat.le_of_ble_eq_true rfl)⟩ rfl (Nat.le_of_ble_eq_true rfl) rfl dX12_price_72 ?_
        refine zt_aload_n hC rfl dX12_price_75 ?_
        refine zt_gR hC h cl12 (k := 2) (by decide) rfl wd_993 (Or.inl rfl) dX12_price_76 (fun v20 h => ?_)
        refine zt_iload_n hC rfl dX12_price_79 ?_
        refine zt_iconst hC ki_4 dX12_price_80 ?_
        obtain ⟨v21, M22, h23, h⟩ := bnd_some h
        refine zt_callS (z := yX12_get) (As := [.ref v20, .int x2, .int (4 : Int32)]) (rest := []) (st1 := (.int v21 :: [])) hC 3 (fun l hl => c_X12_get N v20 x2 (4 : Int32) M18 (v21, M22) h23 l hl) rfl wd_1112 wd_1110 wd_1111 wd_7 hd_X12_get rfl ⟨⟨(Nat.le_of_ble_eq_true rfl), (Nat.le_of_ble_eq_true rfl)⟩, (Nat.le_of_ble_eq_true rfl), (Nat.le_of_ble_eq_true rfl)⟩ rfl (Nat.le_of_ble_eq_true rfl) rfl dX12_price_81 ?_
        refine zt_iload hC rfl dX12_price_84 ?_
        refine zt_iadd hC dX12_price_86 ?_
        refine zt_istore (lv' := [(8, .int (v21 + x5)), (7, .int v10), (6, .int v7), (0, .ref x0), (1, .int x1), (2, .int x2), (3, .int x3), (4, .int x4), (5, .int x5)]) hC (by decide) rfl dX12_price_87 ?_
        refine zt_aload_n hC rfl dX12_price_89 ?_
        refine zt_gR hC h cl12 (k := 2) (by decide) rfl wd_993 (Or.inl rfl) dX12_price_90 (fun v24 h => ?_)
        refine zt_iload_n hC rfl dX12_price_93 ?_
        refine zt_iconst hC ki_3 dX12_price_94 ?_
        obtain ⟨v25, M26, h27, h⟩ := bnd_some h
        refine zt_callS (z := yX12_get) (As := [.ref v24, .int x2, .int (3 : Int32)]) (rest := []) (st1 := (.int v25 :: [])) hC 3 (fun l hl => c_X12_get N v24 x2 (3 : Int32) M22 (v25, M26) h27 l hl) rfl wd_1112 wd_1110 wd_1111 wd_7 hd_X12_get rfl ⟨⟨(Nat.le_of_ble_eq_true rfl), (Nat.le_of_ble_eq_true rfl)⟩, (Nat.le_of_ble_eq_true rfl), (Nat.le_of_ble_eq_true rfl)⟩ rfl (Nat.le_of_ble_eq_true rfl) rfl dX12_price_95 ?_
        refine zt_iload hC rfl dX12_price_98 ?_
        refine zt_bipush hC kb_10 dX12_price_100 ?_
        refine zt_idivc hC (by decide) dX12_price_102 ?_
        refine zt_isub hC dX12_price_103 ?_
        refine zt_istore (lv' := [(9, .int (v25 - (x5 / (10 : Int32)))), (8, .int (v21 + x5)), (7, .int v10), (6, .int v7), (0, .ref x0), (1, .int x1), (2, .int x2), (3, .int x3), (4, .int x4), (5, .int x5)]) hC (by decide) rfl dX12_price_104 ?_
        refine zt_aload_n hC rfl dX12_price_106 ?_
        refine zt_gR hC h cl12 (k := 2) (by decide) rfl wd_993 (Or.inl rfl) dX12_price_107 (fun v28 h => ?_)
        refine zt_bipush hC kb_25 dX12_price_110 ?_
        refine zt_iconst hC ki_5 dX12_price_112 ?_
        refine zt_iload_n hC rfl dX12_price_113 ?_
        refine zt_imul hC dX12_price_114 ?_
        refine zt_iadd hC dX12_price_115 ?_
        refine zt_iconst hC ki_4 dX12_price_116 ?_
        refine zt_iadd hC dX12_price_117 ?_
        refine zt_iload hC rfl dX12_price_118 ?_
        refine zt_bipush hC kb_99 dX12_price_120 ?_
        refine zt_icmp_le (tgt := 130) hC h (by decide) dX12_price_122 (fun h => ?_) (fun h => ?_)
        · refine zt_iload hC rfl dX12_price_130 ?_
          refine zt_keep [0, 2, 3, 7, 9] rfl ?_
          exact w_X12_price_132 N hC x0 x2 x3 v10 (v25 - (x5 / (10 : Int32))) (v21 + x5) (((25 : Int32) + ((5 : Int32) * x2)) + (4 : Int32)) v28 M26 h
        · refine zt_bipush hC kb_99 dX12_price_125 ?_
          refine zt_goto (tgt := 132) hC (by decide) dX12_price_127 ?_
          refine zt_keep [0, 2, 3, 7, 9] rfl ?_
          exact w_X12_price_132 N hC x0 x2 x3 v10 (v25 - (x5 / (10 : Int32))) (99 : Int32) (((25 : Int32) + ((5 : Int32) * x2)) + (4 : Int32)) v28 M26 h
      · refine zt_ldc hC wd_1262 dX12_price_38 ?_
        refine zt_iload hC rfl dX12_price_40 ?_
        refine zt_iadd hC dX12_price_42 ?_
        obtain rfl := Option.some.inj h
        exact zt_iret hC rfl rfl (Nat.le_of_ble_eq_true rfl) (Nat.le_of_ble_eq_true rfl) dX12_price_43
    · refine zt_ldc hC wd_1261 dX12_price_21 ?_
      obtain rfl := Option.some.inj h
      exact zt_iret hC rfl rfl (Nat.le_of_ble_eq_true rfl) (Nat.le_of_ble_eq_true rfl) dX12_price_23
