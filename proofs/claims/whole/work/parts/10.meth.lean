def rm_X6_init : Room := { frames := 1, cells := 0, slots := 0, locals := 24 }
theorem hd_X6_init : yX6_init.cls ≠ "java/lang/invoke/MethodHandle" ∧ yX6_init.cls ≠ "java/lang/invoke/VarHandle" ∧ (parseMethodDescriptor yX6_init.desc).map (fun d => d.parameters.length) = some 1 := by decide +kernel
def f_X6_init (N : Nat) (x0 : Nat) (x1 : Int32) (M : Mm) : Option (Unit × Mm) :=
pF M x0 x1 (fun M1 =>
some ((), M1))
set_option maxRecDepth 100000 in
set_option maxHeartbeats 4000000 in
theorem c_X6_init (N : Nat) (x0 : Nat) (x1 : Int32) (M : Mm) (r : (Unit × Mm)) (h : f_X6_init N x0 x1 M = some r) (l : Launch) (hfl : l.flags = flags0) {G : Gl} : MT l G yX6_init cX6_init 2 none rm_X6_init [.ref x0, .int x1] M none r.2 := by
  unfold f_X6_init at h
  refine zt_start hfl (lv := [(0, .ref x0), (1, .int x1)]) (by decide) (Nat.le_of_ble_eq_true rfl) rfl wd_46 (fun X hC _ => ?_)
  refine zt_aload_n hC rfl dX6_init_0 ?_
  refine zt_objI (rest := []) hC wd_47 wd_28 wd_29 rfl (Nat.le_of_ble_eq_true rfl) (Nat.le_of_ble_eq_true rfl) dX6_init_1 ?_
  refine zt_aload_n hC rfl dX6_init_4 ?_
  refine zt_iload_n hC rfl dX6_init_5 ?_
  refine zt_pF hC h rfl rfl wd_48 dX6_init_6 (fun M1 h => ?_)
  obtain rfl := Option.some.inj h
  exact zt_vret hC rfl rfl (Nat.le_of_ble_eq_true rfl) (Nat.le_of_ble_eq_true rfl) dX6_init_9
def rm_X4_init : Room := { frames := 2, cells := 0, slots := 0, locals := 45 }
theorem hd_X4_init : yX4_init.cls ≠ "java/lang/invoke/MethodHandle" ∧ yX4_init.cls ≠ "java/lang/invoke/VarHandle" ∧ (parseMethodDescriptor yX4_init.desc).map (fun d => d.parameters.length) = some 1 := by decide +kernel
def f_X4_init (N : Nat) (x0 : Nat) (x1 : Int32) (M : Mm) : Option (Unit × Mm) :=
bnd (f_X6_init N x0 x1 M) (fun v1 M2 =>
some ((), M2))
set_option maxRecDepth 100000 in
set_option maxHeartbeats 4000000 in
theorem c_X4_init (N : Nat) (x0 : Nat) (x1 : Int32) (M : Mm) (r : (Unit × Mm)) (h : f_X4_init N x0 x1 M = some r) (l : Launch) (hfl : l.flags = flags0) {G : Gl} : MT l G yX4_init cX4_init 2 none rm_X4_init [.ref x0, .int x1] M none r.2 := by
  unfold f_X4_init at h
  refine zt_start hfl (lv := [(0, .ref x0), (1, .int x1)]) (by decide) (Nat.le_of_ble_eq_true rfl) rfl wd_644 (fun X hC _ => ?_)
  refine zt_aload_n hC rfl dX4_init_0 ?_
  refine zt_iload_n hC rfl dX4_init_1 ?_
  obtain ⟨v1, M2, h3, h⟩ := bnd_some h
  refine zt_callI (z := yX6_init) (As := [.int x1]) (rest := []) hC 1 (fun l hl => c_X6_init N x0 x1 M (v1, M2) h3 l hl) wd_46 wd_645 wd_45 wd_4 rfl hd_X6_init rfl ⟨⟨(Nat.le_of_ble_eq_true rfl), (Nat.le_of_ble_eq_true rfl)⟩, (Nat.le_of_ble_eq_true rfl), (Nat.le_of_ble_eq_true rfl)⟩ rfl (Nat.le_of_ble_eq_true rfl) dX4_init_2 ?_
  obtain rfl := Option.some.inj h
  exact zt_vret hC rfl rfl (Nat.le_of_ble_eq_true rfl) (Nat.le_of_ble_eq_true rfl) dX4_init_5
def rm_X2_init : Room := { frames := 3, cells := 0, slots := 0, locals := 66 }
theorem hd_X2_init : yX2_init.cls ≠ "java/lang/invoke/MethodHandle" ∧ yX2_init.cls ≠ "java/lang/invoke/VarHandle" ∧ (parseMethodDescriptor yX2_init.desc).map (fun d => d.parameters.length) = some 1 := by decide +kernel
def f_X2_init (N : Nat) (x0 : Nat) (x1 : Int32) (M : Mm) : Option (Unit × Mm) :=
bnd (f_X4_init N x0 x1 M) (fun v1 M2 =>
some ((), M2))
set_option maxRecDepth 100000 in
set_option maxHeartbeats 4000000 in
theorem c_X2_init (N : Nat) (x0 : Nat) (x1 : Int32) (M : Mm) (r : (Unit × Mm)) (h : f_X2_init N x0 x1 M = some r) (l : Launch) (hfl : l.flags = flags0) {G : Gl} : MT l G yX2_init cX2_init 2 none rm_X2_init [.ref x0, .int x1] M none r.2 := by
  unfold f_X2_init at h
  refine zt_start hfl (lv := [(0, .ref x0), (1, .int x1)]) (by decide) (Nat.le_of_ble_eq_true rfl) rfl wd_651 (fun X hC _ => ?_)
  refine zt_aload_n hC rfl dX2_init_0 ?_
  refine zt_iload_n hC rfl dX2_init_1 ?_
  obtain ⟨v1, M2, h3, h⟩ := bnd_some h
  refine zt_callI (z := yX4_init) (As := [.int x1]) (rest := []) hC 1 (fun l hl => c_X4_init N x0 x1 M (v1, M2) h3 l hl) wd_644 wd_652 wd_643 wd_10 rfl hd_X4_init rfl ⟨⟨(Nat.le_of_ble_eq_true rfl), (Nat.le_of_ble_eq_true rfl)⟩, (Nat.le_of_ble_eq_true rfl), (Nat.le_of_ble_eq_true rfl)⟩ rfl (Nat.le_of_ble_eq_true rfl) dX2_init_2 ?_
  obtain rfl := Option.some.inj h
  exact zt_vret hC rfl rfl (Nat.le_of_ble_eq_true rfl) (Nat.le_of_ble_eq_true rfl) dX2_init_5
def rm_X0_init : Room := { frames := 4, cells := 0, slots := 0, locals := 87 }
theorem hd_X0_init : yX0_init.cls ≠ "java/lang/invoke/MethodHandle" ∧ yX0_init.cls ≠ "java/lang/invoke/VarHandle" ∧ (parseMethodDescriptor yX0_init.desc).map (fun d => d.parameters.length) = some 1 := by decide +kernel
def f_X0_init (N : Nat) (x0 : Nat) (x1 : Int32) (M : Mm) : Option (Unit × Mm) :=
bnd (f_X2_init N x0 x1 M) (fun v1 M2 =>
some ((), M2))
set_option maxRecDepth 100000 in
set_option maxHeartbeats 4000000 in
theorem c_X0_init (N : Nat) (x0 : Nat) (x1 : Int32) (M : Mm) (r : (Unit × Mm)) (h : f_X0_init N x0 x1 M = some r) (l : Launch) (hfl : l.flags = flags0) {G : Gl} : MT l G yX0_init cX0_init 2 none rm_X0_init [.ref x0, .int x1] M none r.2 := by
  unfold f_X0_init at h
  refine zt_start hfl (lv := [(0, .ref x0), (1, .int x1)]) (by decide) (Nat.le_of_ble_eq_true rfl) rfl wd_666 (fun X hC _ => ?_)
  refine zt_aload_n hC rfl dX0_init_0 ?_
  refine zt_iload_n hC rfl dX0_init_1 ?_
  obtain ⟨v1, M2, h3, h⟩ := bnd_some h
  refine zt_callI (z := yX2_init) (As := [.int x1]) (rest := []) hC 1 (fun l hl => c_X2_init N x0 x1 M (v1, M2) h3 l hl) wd_651 wd_667 wd_650 wd_11 rfl hd_X2_init rfl ⟨⟨(Nat.le_of_ble_eq_true rfl), (Nat.le_of_ble_eq_true rfl)⟩, (Nat.le_of_ble_eq_true rfl), (Nat.le_of_ble_eq_true rfl)⟩ rfl (Nat.le_of_ble_eq_true rfl) dX0_init_2 ?_
  obtain rfl := Option.some.inj h
  exact zt_vret hC rfl rfl (Nat.le_of_ble_eq_true rfl) (Nat.le_of_ble_eq_true rfl) dX0_init_5
def rm_X0_kind : Room := { frames := 0, cells := 0, slots := 0, locals := 0 }
theorem hd_X0_kind : yX0_kind.cls ≠ "java/lang/invoke/MethodHandle" ∧ yX0_kind.cls ≠ "java/lang/invoke/VarHandle" ∧ (parseMethodDescriptor yX0_kind.desc).map (fun d => d.parameters.length) = some 0 := by decide +kernel
def f_X0_kind (N : Nat) (x0 : Nat) (M : Mm) : Option (Int32 × Mm) :=
some ((5 : Int32), M)
set_option maxRecDepth 100000 in
set_option maxHeartbeats 4000000 in
theorem c_X0_kind (N : Nat) (x0 : Nat) (M : Mm) (r : (Int32 × Mm)) (h : f_X0_kind N x0 M = some r) (l : Launch) (hfl : l.flags = flags0) {G : Gl} : MT l G yX0_kind cX0_kind 1 (some .int) rm_X0_kind [.ref x0] M (some (.int r.1)) r.2 := by
  unfold f_X0_kind at h
  refine zt_start hfl (lv := [(0, .ref x0)]) (by decide) (Nat.le_of_ble_eq_true rfl) rfl wd_417 (fun X hC _ => ?_)
  refine zt_iconst hC ki_5 dX0_kind_0 ?_
  obtain rfl := Option.some.inj h
  exact zt_iret hC rfl rfl (Nat.le_of_ble_eq_true rfl) (Nat.le_of_ble_eq_true rfl) dX0_kind_1
def rm_X10_ofSort : Room := { frames := 0, cells := 0, slots := 0, locals := 0 }
theorem hd_X10_ofSort : yX10_ofSort.cls ≠ "java/lang/invoke/MethodHandle" ∧ yX10_ofSort.cls ≠ "java/lang/invoke/VarHandle" ∧ (parseMethodDescriptor yX10_ofSort.desc).map (fun d => d.parameters.length) = some 2 := by decide +kernel
def f_X10_ofSort (N : Nat) (x0 : Nat) (x1 : Int32) (x2 : Int32) (M : Mm) : Option (Int32 × Mm) :=
(if ((x1 * (5 : Int32)) + x2) < 0 then
some ((0 : Int32), M)
else
gR 10 M x0 3 (fun v1 =>
alen M v1 (fun v2 =>
(if v2 ≤ ((x1 * (5 : Int32)) + x2) then
some ((0 : Int32), M)
else
gR 10 M x0 3 (fun v3 =>
ald M v3 ((x1 * (5 : Int32)) + x2) (fun v4 =>
some (v4, M)))))))
set_option maxRecDepth 100000 in
set_option maxHeartbeats 4000000 in
theorem c_X10_ofSort (N : Nat) (x0 : Nat) (x1 : Int32) (x2 : Int32) (M : Mm) (r : (Int32 × Mm)) (h : f_X10_ofSort N x0 x1 x2 M = some r) (l : Launch) (hfl : l.flags = flags0) {G : Gl} : MT l G yX10_ofSort cX10_ofSort 4 (some .int) rm_X10_ofSort [.ref x0, .int x1, .int x2] M (some (.int r.1)) r.2 := by
  unfold f_X10_ofSort at h
  refine zt_start hfl (lv := [(0, .ref x0), (1, .int x1), (2, .int x2)]) (by decide) (Nat.le_of_ble_eq_true rfl) rfl wd_346 (fun X hC _ => ?_)
  refine zt_iload_n hC rfl dX10_ofSort_0 ?_
  refine zt_iconst hC ki_5 dX10_ofSort_1 ?_
  refine zt_imul hC dX10_ofSort_2 ?_
  refine zt_iload_n hC rfl dX10_ofSort_3 ?_
  refine zt_iadd hC dX10_ofSort_4 ?_
  refine zt_istore_n (lv' := [(3, .int ((x1 * (5 : Int32)) + x2)), (0, .ref x0), (1, .int x1), (2, .int x2)]) hC (by decide) rfl dX10_ofSort_5 ?_
  refine zt_iload_n hC rfl dX10_ofSort_6 ?_
  refine zt_if_lt (tgt := 28) hC h (by decide) dX10_ofSort_7 (fun h => ?_) (fun h => ?_)
  · refine zt_iconst hC ki_0 dX10_ofSort_28 ?_
    obtain rfl := Option.some.inj h
    exact zt_iret hC rfl rfl (Nat.le_of_ble_eq_true rfl) (Nat.le_of_ble_eq_true rfl) dX10_ofSort_29
  · refine zt_iload_n hC rfl dX10_ofSort_10 ?_
    refine zt_aload_n hC rfl dX10_ofSort_11 ?_
    refine zt_gR hC h cl10 (k := 3) (by decide) rfl wd_112 (Or.inl rfl) dX10_ofSort_12 (fun v1 h => ?_)
    refine zt_alen hC h dX10_ofSort_15 (fun v2 h => ?_)
    refine zt_icmp_ge (tgt := 28) hC h (by decide) dX10_ofSort_16 (fun h => ?_) (fun h => ?_)
    · refine zt_iconst hC ki_0 dX10_ofSort_28 ?_
      obtain rfl := Option.some.inj h
      exact zt_iret hC rfl rfl (Nat.le_of_ble_eq_true rfl) (Nat.le_of_ble_eq_true rfl) dX10_ofSort_29
    · refine zt_aload_n hC rfl dX10_ofSort_19 ?_
      refine zt_gR hC h cl10 (k := 3) (by decide) rfl wd_112 (Or.inl rfl) dX10_ofSort_20 (fun v3 h => ?_)
      refine zt_iload_n hC rfl dX10_ofSort_23 ?_
      refine zt_ald hC h dX10_ofSort_24 (fun v4 h => ?_)
      refine zt_goto (tgt := 29) hC (by decide) dX10_ofSort_25 ?_
      obtain rfl := Option.some.inj h
      exact zt_iret hC rfl rfl (Nat.le_of_ble_eq_true rfl) (Nat.le_of_ble_eq_true rfl) dX10_ofSort_29
def rm_X11_at : Room := { frames := 0, cells := 0, slots := 0, locals := 0 }
theorem hd_X11_at : yX11_at.cls ≠ "java/lang/invoke/MethodHandle" ∧ yX11_at.cls ≠ "java/lang/invoke/VarHandle" ∧ (parseMethodDescriptor yX11_at.desc).map (fun d => d.parameters.length) = some 2 := by decide +kernel
def f_X11_at (N : Nat) (x0 : Nat) (x1 : Int32) (M : Mm) : Option (Int32 × Mm) :=
(if x1 < 0 then
some ((0 : Int32), M)
else
alen M x0 (fun v1 =>
(if v1 ≤ x1 then
some ((0 : Int32), M)
else
ald M x0 x1 (fun v2 =>
some (v2, M)))))
set_option maxRecDepth 100000 in
set_option maxHeartbeats 4000000 in
theorem c_X11_at (N : Nat) (x0 : Nat) (x1 : Int32) (M : Mm) (r : (Int32 × Mm)) (h : f_X11_at N x0 x1 M = some r) (l : Launch) (hfl : l.flags = flags0) {G : Gl} : MT l G yX11_at cX11_at 2 (some .int) rm_X11_at [.ref x0, .int x1] M (some (.int r.1)) r.2 := by
  unfold f_X11_at at h
  refine zt_start hfl (lv := [(0, .ref x0), (1, .int x1)]) (by decide) (Nat.le_of_ble_eq_true rfl) rfl wd_379 (fun X hC _ => ?_)
  refine zt_iload_n hC rfl dX11_at_0 ?_
  refine zt_if_lt (tgt := 16) hC h (by decide) dX11_at_1 (fun h => ?_) (fun h => ?_)
  · refine zt_iconst hC ki_0 dX11_at_16 ?_
    obtain rfl := Option.some.inj h
    exact zt_iret hC rfl rfl (Nat.le_of_ble_eq_true rfl) (Nat.le_of_ble_eq_true rfl) dX11_at_17
  · refine zt_iload_n hC rfl dX11_at_4 ?_
    refine zt_aload_n hC rfl dX11_at_5 ?_
    refine zt_alen hC h dX11_at_6 (fun v1 h => ?_)
    refine zt_icmp_ge (tgt := 16) hC h (by decide) dX11_at_7 (fun h => ?_) (fun h => ?_)
    · refine zt_iconst hC ki_0 dX11_at_16 ?_
      obtain rfl := Option.some.inj h
      exact zt_iret hC rfl rfl (Nat.le_of_ble_eq_true rfl) (Nat.le_of_ble_eq_true rfl) dX11_at_17
    · refine zt_aload_n hC rfl dX11_at_10 ?_
      refine zt_iload_n hC rfl dX11_at_11 ?_
      refine zt_ald hC h dX11_at_12 (fun v2 h => ?_)
      refine zt_goto (tgt := 17) hC (by decide) dX11_at_13 ?_
      obtain rfl := Option.some.inj h
      exact zt_iret hC rfl rfl (Nat.le_of_ble_eq_true rfl) (Nat.le_of_ble_eq_true rfl) dX11_at_17
def rm_X0_boundFor : Room := { frames := 1, cells := 0, slots := 0, locals := 23 }
theorem hd_X0_boundFor : yX0_boundFor.cls ≠ "java/lang/invoke/MethodHandle" ∧ yX0_boundFor.cls ≠ "java/lang/invoke/VarHandle" ∧ (parseMethodDescriptor yX0_boundFor.desc).map (fun d => d.parameters.length) = some 3 := by decide +kernel
def b_X0_boundFor_5 (N : Nat) (k5 : Nat → Nat → Int32 → Int32 → Int32 → Mm → Option (Int32 × Mm)) (x0 : Nat) (x1 : Nat) (x2 : Int32) (x3 : Int32) (x4 : Int32) (M : Mm) : Option (Int32 × Mm) :=
gI 1 M x1 2 (fun v1 =>
(if v1 ≤ x4 then
some (x3, M)
else
gR 1 M x1 3 (fun v2 =>
bnd (f_X11_at N v2 x4 M) (fun v3 M4 =>
ck 10 M4 x0 (bnd (f_X10_ofSort N x0 v3 (1 : Int32) M4) (fun v6 M7 =>
(if v6 = x2 then
k5 x0 x1 x2 (x3 + (1 : Int32)) (x4 + (1 : Int32)) M7
else
k5 x0 x1 x2 x3 (x4 + (1 : Int32)) M7)))))))
def l_X0_boundFor_5 (N : Nat) : Nat → Nat → Nat → Int32 → Int32 → Int32 → Mm → Option (Int32 × Mm)
  | 0 => fun _ _ _ _ _ _ => none
  | n + 1 => b_X0_boundFor_5 N (l_X0_boundFor_5 N n)
set_option maxRecDepth 100000 in
set_option maxHeartbeats 4000000 in
theorem v_X0_boundFor_5 {X : Cx} {G : Gl} {r : (Int32 × Mm)} (N : Nat) (hC : CX X G yX0_boundFor cX0_boundFor 5 (some .int) rm_X0_boundFor) (k5 : Nat → Nat → Int32 → Int32 → Int32 → Mm → Option (Int32 × Mm)) (hk5 : ∀ (x0 : Nat) (x1 : Nat) (x2 : Int32) (x3 : Int32) (x4 : Int32) (M : Mm), k5 x0 x1 x2 x3 x4 M = some r → TW X G 5 (RQ X G (some (.int r.1)) r.2 rm_X0_boundFor) 0 0 M 5 [(0, .ref x0), (1, .ref x1), (2, .int x2), (3, .int x3), (4, .int x4)] []) (x0 : Nat) (x1 : Nat) (x2 : Int32) (x3 : Int32) (x4 : Int32) (M : Mm) (h : b_X0_boundFor_5 N k5 x0 x1 x2 x3 x4 M = some r) : TW X G 5 (RQ X G (some (.int r.1)) r.2 rm_X0_boundFor) 0 0 M 5 [(0, .ref x0), (1, .ref x1), (2, .int x2), (3, .int x3), (4, .int x4)] [] := by
  unfold b_X0_boundFor_5 at h
  refine zt_iload hC rfl dX0_boundFor_5 ?_
  refine zt_aload_n hC rfl dX0_boundFor_7 ?_
  refine zt_gI hC h cl1 (k := 2) (by decide) rfl wd_78 (Or.inl rfl) dX0_boundFor_8 (fun v1 h => ?_)
  refine zt_icmp_ge (tgt := 41) hC h (by decide) dX0_boundFor_11 (fun h => ?_) (fun h => ?_)
  · refine zt_iload_n hC rfl dX0_boundFor_41 ?_
    obtain rfl := Option.some.inj h
    exact zt_iret hC rfl rfl (Nat.le_of_ble_eq_true rfl) (Nat.le_of_ble_eq_true rfl) dX0_boundFor_42
  · refine zt_aload_n hC rfl dX0_boundFor_14 ?_
    refine zt_aload_n hC rfl dX0_boundFor_15 ?_
    refine zt_gR hC h cl1 (k := 3) (by decide) rfl wd_85 (Or.inl rfl) dX0_boundFor_16 (fun v2 h => ?_)
    refine zt_iload hC rfl dX0_boundFor_19 ?_
    obtain ⟨v3, M4, h5, h⟩ := bnd_some h
    refine zt_callSN (z := yX11_at) (As := [.ref v2, .int x4]) (rest := [.ref x0]) (st1 := (.int v3 :: [.ref x0])) hC 2 (fun l hl => c_X11_at N v2 x4 M (v3, M4) h5 l hl) wd_379 (by decide) wd_378 wd_1 hd_X11_at rfl ⟨⟨(Nat.le_of_ble_eq_true rfl), (Nat.le_of_ble_eq_true rfl)⟩, (Nat.le_of_ble_eq_true rfl), (Nat.le_of_ble_eq_true rfl)⟩ rfl (Nat.le_of_ble_eq_true rfl) rfl dX0_boundFor_21 ?_
    refine zt_iconst hC ki_1 dX0_boundFor_24 ?_
    obtain ⟨hk, h⟩ := ck_some h
    obtain ⟨v6, M7, h8, h⟩ := bnd_some h
    refine zt_callV (z := yX10_ofSort) (As := [.int v3, .int (1 : Int32)]) (rest := []) (st1 := (.int v6 :: [])) hC 2 hk cl10 (fun l hl => c_X10_ofSort N x0 v3 (1 : Int32) M4 (v6, M7) h8 l hl) rfl wd_346 wd_491 wd_344 wd_345 wd_2 hd_X10_ofSort rfl ⟨⟨(Nat.le_of_ble_eq_true rfl), (Nat.le_of_ble_eq_true rfl)⟩, (Nat.le_of_ble_eq_true rfl), (Nat.le_of_ble_eq_true rfl)⟩ rfl (Nat.le_of_ble_eq_true rfl) rfl dX0_boundFor_25 ?_
    refine zt_iload_n hC rfl dX0_boundFor_28 ?_
    refine zt_icmp_ne (tgt := 35) hC h (by decide) dX0_boundFor_29 (fun h => ?_) (fun h => ?_)
    · refine zt_iinc (v := (x4 + (1 : Int32))) (lv' := [(4, .int (x4 + (1 : Int32))), (0, .ref x0), (1, .ref x1), (2, .int x2), (3, .int x3)]) hC rfl (by rw [ki_1]) (by decide) rfl dX0_boundFor_35 ?_
      refine zt_goto (tgt := 5) hC (by decide) dX0_boundFor_38 ?_
      refine zt_keep [0, 1, 2, 3, 4] rfl ?_
      exact hk5 x0 x1 x2 x3 (x4 + (1 : Int32)) M7 h
    · refine zt_iinc (v := (x3 + (1 : Int32))) (lv' := [(3, .int (x3 + (1 : Int32))), (0, .ref x0), (1, .ref x1), (2, .int x2), (4, .int x4)]) hC rfl (by rw [ki_1]) (by decide) rfl dX0_boundFor_32 ?_
      refine zt_iinc (v := (x4 + (1 : Int32))) (lv' := [(4, .int (x4 + (1 : Int32))), (3, .int (x3 + (1 : Int32))), (0, .ref x0), (1, .ref x1), (2, .int x2)]) hC rfl (by rw [ki_1]) (by decide) rfl dX0_boundFor_35 ?_
      refine zt_goto (tgt := 5) hC (by decide) dX0_boundFor_38 ?_
      refine zt_keep [0, 1, 2, 3, 4] rfl ?_
      exact hk5 x0 x1 x2 (x3 + (1 : Int32)) (x4 + (1 : Int32)) M7 h
theorem w_X0_boundFor_5 {X : Cx} {G : Gl} {r : (Int32 × Mm)} (N : Nat) (hC : CX X G yX0_boundFor cX0_boundFor 5 (some .int) rm_X0_boundFor) (n : Nat) : ∀ (x0 : Nat) (x1 : Nat) (x2 : Int32) (x3 : Int32) (x4 : Int32) (M : Mm), l_X0_boundFor_5 N n x0 x1 x2 x3 x4 M = some r → TW X G 5 (RQ X G (some (.int r.1)) r.2 rm_X0_boundFor) 0 0 M 5 [(0, .ref x0), (1, .ref x1), (2, .int x2), (3, .int x3), (4, .int x4)] [] := by
  induction n with
  | zero => intro  x0 x1 x2 x3 x4 M h; cases (show none = some r from h)
  | succ n ih => intro  x0 x1 x2 x3 x4 M h; exact v_X0_boundFor_5 N hC (l_X0_boundFor_5 N n) ih x0 x1 x2 x3 x4 M h
def f_X0_boundFor (N : Nat) (x0 : Nat) (x1 : Nat) (x2 : Int32) (M : Mm) : Option (Int32 × Mm) :=
l_X0_boundFor_5 N N x0 x1 x2 (0 : Int32) (0 : Int32) M
set_option maxRecDepth 100000 in
set_option maxHeartbeats 4000000 in
theorem c_X0_boundFor (N : Nat) (x0 : Nat) (x1 : Nat) (x2 : Int32) (M : Mm) (r : (Int32 × Mm)) (h : f_X0_boundFor N x0 x1 x2 M = some r) (l : Launch) (hfl : l.flags = flags0) {G : Gl} : MT l G yX0_boundFor cX0_boundFor 5 (some .int) rm_X0_boundFor [.ref x0, .ref x1, .int x2] M (some (.int r.1)) r.2 := by
  unfold f_X0_boundFor at h
  refine zt_start hfl (lv := [(0, .ref x0), (1, .ref x1), (2, .int x2)]) (by decide) (Nat.le_of_ble_eq_true rfl) rfl wd_489 (fun X hC _ => ?_)
  refine zt_iconst hC ki_0 dX0_boundFor_0 ?_
  refine zt_istore_n (lv' := [(3, .int (0 : Int32)), (0, .ref x0), (1, .ref x1), (2, .int x2)]) hC (by decide) rfl dX0_boundFor_1 ?_
  refine zt_iconst hC ki_0 dX0_boundFor_2 ?_
  refine zt_istore (lv' := [(4, .int (0 : Int32)), (3, .int (0 : Int32)), (0, .ref x0), (1, .ref x1), (2, .int x2)]) hC (by decide) rfl dX0_boundFor_3 ?_
  refine zt_keep [0, 1, 2, 3, 4] rfl ?_
  exact w_X0_boundFor_5 N hC N x0 x1 x2 (0 : Int32) (0 : Int32) M h
def rm_X10_standingAt : Room := { frames := 0, cells := 0, slots := 0, locals := 0 }
theorem hd_X10_standingAt : yX10_standingAt.cls ≠ "java/lang/invoke/MethodHandle" ∧ yX10_standingAt.cls ≠ "java/lang/invoke/VarHandle" ∧ (parseMethodDescriptor yX10_standingAt.desc).map (fun d => d.parameters.length) = some 1 := by decide +kernel
def f_X10_standingAt (N : Nat) (x0 : Nat) (x1 : Int32) (M : Mm) : Option (Int32 × Mm) :=
(if x1 < 0 then
some ((0 : Int32), M)
else
gR 10 M x0 10 (fun v1 =>
alen M v1 (fun v2 =>
(if v2 ≤ x1 then
some ((0 : Int32), M)
else
gR 10 M x0 10 (fun v3 =>
ald M v3 x1 (fun v4 =>
some (v4, M)))))))
set_option maxRecDepth 100000 in
set_option maxHeartbeats 4000000 in
theorem c_X10_standingAt (N : Nat) (x0 : Nat) (x1 : Int32) (M : Mm) (r : (Int32 × Mm)) (h : f_X10_standingAt N x0 x1 M = some r) (l : Launch) (hfl : l.flags = flags0) {G : Gl} : MT l G yX10_standingAt cX10_standingAt 2 (some .int) rm_X10_standingAt [.ref x0, .int x1] M (some (.int r.1)) r.2 := by
  unfold f_X10_standingAt at h
  refine zt_start hfl (lv := [(0, .ref x0), (1, .int x1)]) (by decide) (Nat.le_of_ble_eq_true rfl) rfl wd_456 (fun X hC _ => ?_)
  refine zt_iload_n hC rfl dX10_standingAt_0 ?_
  refine zt_if_lt (tgt := 22) hC h (by decide) dX10_standingAt_1 (fun h => ?_) (fun h => ?_)
  · refine zt_iconst hC ki_0 dX10_standingAt_22 ?_
    obtain rfl := Option.some.inj h
    exact zt_iret hC rfl rfl (Nat.le_of_ble_eq_true rfl) (Nat.le_of_ble_eq_true rfl) dX10_standingAt_23
  · refine zt_iload_n hC rfl dX10_standingAt_4 ?_
    refine zt_aload_n hC rfl dX10_standingAt_5 ?_
    refine zt_gR hC h cl10 (k := 10) (by decide) rfl wd_127 (Or.inl rfl) dX10_standingAt_6 (fun v1 h => ?_)
    refine zt_alen hC h dX10_standingAt_9 (fun v2 h => ?_)
    refine zt_icmp_ge (tgt := 22) hC h (by decide) dX10_standingAt_10 (fun h => ?_) (fun h => ?_)
    · refine zt_iconst hC ki_0 dX10_standingAt_22 ?_
      obtain rfl := Option.some.inj h
      exact zt_iret hC rfl rfl (Nat.le_of_ble_eq_true rfl) (Nat.le_of_ble_eq_true rfl) dX10_standingAt_23
    · refine zt_aload_n hC rfl dX10_standingAt_13 ?_
      refine zt_gR hC h cl10 (k := 10) (by decide) rfl wd_127 (Or.inl rfl) dX10_standingAt_14 (fun v3 h => ?_)
      refine zt_iload_n hC rfl dX10_standingAt_17 ?_
      refine zt_ald hC h dX10_standingAt_18 (fun v4 h => ?_)
      refine zt_goto (tgt := 23) hC (by decide) dX10_standingAt_19 ?_
      obtain rfl := Option.some.inj h
      exact zt_iret hC rfl rfl (Nat.le_of_ble_eq_true rfl) (Nat.le_of_ble_eq_true rfl) dX10_standingAt_23
def rm_X2_calling : Room := { frames := 1, cells := 0, slots := 0, locals := 21 }
theorem hd_X2_calling : yX2_calling.cls ≠ "java/lang/invoke/MethodHandle" ∧ yX2_calling.cls ≠ "java/lang/invoke/VarHandle" ∧ (parseMethodDescriptor yX2_calling.desc).map (fun d => d.parameters.length) = some 2 := by decide +kernel
theorem hds_X2_calling : yX2_calling.name ≠ "<init>" ∧ (parseMethodDescriptor yX2_calling.desc).map (fun d => d.parameters.length) = some 2 := by decide +kernel
def b_X2_calling_11 (N : Nat) (k11 : Nat → Nat → Int32 → Int32 → Int32 → Mm → Option (Int32 × Mm)) (x1 : Nat) (x2 : Nat) (x3 : Int32) (x4 : Int32) (x5 : Int32) (M : Mm) : Option (Int32 × Mm) :=
gI 10 M x1 0 (fun v1 =>
(if v1 ≤ x5 then
some (x3, M)
else
gI 1 M x2 0 (fun v2 =>
(if x5 = v2 then
k11 x1 x2 x3 x4 (x5 + (1 : Int32)) M
else
ck 10 M x1 (bnd (f_X10_standingAt N x1 x5 M) (fun v3 M4 =>
(if v3 ≤ x4 then
k11 x1 x2 x3 x4 (x5 + (1 : Int32)) M4
else
ck 10 M4 x1 (bnd (f_X10_standingAt N x1 x5 M4) (fun v6 M7 =>
k11 x1 x2 x5 v6 (x5 + (1 : Int32)) M7)))))))))
def l_X2_calling_11 (N : Nat) : Nat → Nat → Nat → Int32 → Int32 → Int32 → Mm → Option (Int32 × Mm)
  | 0 => fun _ _ _ _ _ _ => none
  | n + 1 => b_X2_calling_11 N (l_X2_calling_11 N n)
set_option maxRecDepth 100000 in
set_option maxHeartbeats 4000000 in
theorem v_X2_calling_11 {X : Cx} {G : Gl} {r : (Int32 × Mm)} (N : Nat) (hC : CX X G yX2_calling cX2_calling 6 (some .int) rm_X2_calling) (k11 : Nat → Nat → Int32 → Int32 → Int32 → Mm → Option (Int32 × Mm)) (hk11 : ∀ (x1 : Nat) (x2 : Nat) (x3 : Int32) (x4 : Int32) (x5 : Int32) (M : Mm), k11 x1 x2 x3 x4 x5 M = some r → TW X G 6 (RQ X G (some (.int r.1)) r.2 rm_X2_calling) 0 0 M 11 [(1, .ref x1), (2, .ref x2), (3, .int x3), (4, .int x4), (5, .int x5)] []) (x1 : Nat) (x2 : Nat) (x3 : Int32) (x4 : Int32) (x5 : Int32) (M : Mm) (h : b_X2_calling_11 N k11 x1 x2 x3 x4 x5 M = some r) : TW X G 6 (RQ X G (some (.int r.1)) r.2 rm_X2_calling) 0 0 M 11 [(1, .ref x1), (2, .ref x2), (3, .int x3), (4, .int x4), (5, .int x5)] [] := by
  unfold b_X2_calling_11 at h
  refine zt_iload hC rfl dX2_calling_11 ?_
  refine zt_aload_n hC rfl dX2_calling_13 ?_
  refine zt_gI hC h cl10 (k := 0) (by decide) rfl wd_104 (Or.inl rfl) dX2_calling_14 (fun v1 h => ?_)
  refine zt_icmp_ge (tgt := 57) hC h (by decide) dX2_calling_17 (fun h => ?_) (fun h => ?_)
  · refine zt_iload_n hC rfl dX2_calling_57 ?_
    obtain rfl := Option.some.inj h
    exact zt_iret hC rfl rfl (Nat.le_of_ble_eq_true rfl) (Nat.le_of_ble_eq_true rfl) dX2_calling_58
  · refine zt_iload hC rfl dX2_calling_20 ?_
    refine zt_aload_n hC rfl dX2_calling_22 ?_
    refine zt_gI hC h cl1 (k := 0) (by decide) rfl wd_67 (Or.inl rfl) dX2_calling_23 (fun v2 h => ?_)
    refine zt_icmp_eq (tgt := 51) hC h (by decide) dX2_calling_26 (fun h => ?_) (fun h => ?_)
    · refine zt_iinc (v := (x5 + (1 : Int32))) (lv' := [(5, .int (x5 + (1 : Int32))), (1, .ref x1), (2, .ref x2), (3, .int x3), (4, .int x4)]) hC rfl (by rw [ki_1]) (by decide) rfl dX2_calling_51 ?_
      refine zt_goto (tgt := 11) hC (by decide) dX2_calling_54 ?_
      refine zt_keep [1, 2, 3, 4, 5] rfl ?_
      exact hk11 x1 x2 x3 x4 (x5 + (1 : Int32)) M h
    · refine zt_aload_n hC rfl dX2_calling_29 ?_
      refine zt_iload hC rfl dX2_calling_30 ?_
      obtain ⟨hk, h⟩ := ck_some h
      obtain ⟨v3, M4, h5, h⟩ := bnd_some h
      refine zt_callV (z := yX10_standingAt) (As := [.int x5]) (rest := []) (st1 := (.int v3 :: [])) hC 1 hk cl10 (fun l hl => c_X10_standingAt N x1 x5 M (v3, M4) h5 l hl) rfl wd_456 wd_486 wd_454 wd_455 wd_2 hd_X10_standingAt rfl ⟨⟨(Nat.le_of_ble_eq_true rfl), (Nat.le_of_ble_eq_true rfl)⟩, (Nat.le_of_ble_eq_true rfl), (Nat.le_of_ble_eq_true rfl)⟩ rfl (Nat.le_of_ble_eq_true rfl) rfl dX2_calling_32 ?_
      refine zt_iload hC rfl dX2_calling_35 ?_
      refine zt_icmp_le (tgt := 51) hC h (by decide) dX2_calling_37 (fun h => ?_) (fun h => ?_)
      · refine zt_iinc (v := (x5 + (1 : Int32))) (lv' := [(5, .int (x5 + (1 : Int32))), (1, .ref x1), (2, .ref x2), (3, .int x3), (4, .int x4)]) hC rfl (by rw [ki_1]) (by decide) rfl dX2_calling_51 ?_
        refine zt_goto (tgt := 11) hC (by decide) dX2_calling_54 ?_
        refine zt_keep [1, 2, 3, 4, 5] rfl ?_
        exact hk11 x1 x2 x3 x4 (x5 + (1 : Int32)) M4 h
      · refine zt_aload_n hC rfl dX2_calling_40 ?_
        refine zt_iload hC rfl dX2_calling_41 ?_
        obtain ⟨hk, h⟩ := ck_some h
        obtain ⟨v6, M7, h8, h⟩ := bnd_some h
        refine zt_callV (z := yX10_standingAt) (As := [.int x5]) (rest := []) (st1 := (.int v6 :: [])) hC 1 hk cl10 (fun l hl => c_X10_standingAt N x1 x5 M4 (v6, M7) h8 l hl) rfl wd_456 wd_486 wd_454 wd_455 wd_2 hd_X10_standingAt rfl ⟨⟨(Nat.le_of_ble_eq_true rfl), (Nat.le_of_ble_eq_true rfl)⟩, (Nat.le_of_ble_eq_true rfl), (Nat.le_of_ble_eq_true rfl)⟩ rfl (Nat.le_of_ble_eq_true rfl) rfl dX2_calling_43 ?_
        refine zt_istore (lv' := [(4, .int v6), (1, .ref x1), (2, .ref x2), (3, .int x3), (5, .int x5)]) hC (by decide) rfl dX2_calling_46 ?_
        refine zt_iload hC rfl dX2_calling_48 ?_
        refine zt_istore_n (lv' := [(3, .int x5), (4, .int v6), (1, .ref x1), (2, .ref x2), (5, .int x5)]) hC (by decide) rfl dX2_calling_50 ?_
        refine zt_iinc (v := (x5 + (1 : Int32))) (lv' := [(5, .int (x5 + (1 : Int32))), (3, .int x5), (4, .int v6), (1, .ref x1), (2, .ref x2)]) hC rfl (by rw [ki_1]) (by decide) rfl dX2_calling_51 ?_
        refine zt_goto (tgt := 11) hC (by decide) dX2_calling_54 ?_
        refine zt_keep [1, 2, 3, 4, 5] rfl ?_
        exact hk11 x1 x2 x5 v6 (x5 + (1 : Int32)) M7 h
theorem w_X2_calling_11 {X : Cx} {G : Gl} {r : (Int32 × Mm)} (N : Nat) (hC : CX X G yX2_calling cX2_calling 6 (some .int) rm_X2_calling) (n : Nat) : ∀ (x1 : Nat) (x2 : Nat) (x3 : Int32) (x4 : Int32) (x5 : Int32) (M : Mm), l_X2_calling_11 N n x1 x2 x3 x4 x5 M = some r → TW X G 6 (RQ X G (some (.int r.1)) r.2 rm_X2_calling) 0 0 M 11 [(1, .ref x1), (2, .ref x2), (3, .int x3), (4, .int x4), (5, .int x5)] [] := by
  induction n with
  | zero => intro  x1 x2 x3 x4 x5 M h; cases (show none = some r from h)
  | succ n ih => intro  x1 x2 x3 x4 x5 M h; exact v_X2_calling_11 N hC (l_X2_calling_11 N n) ih x1 x2 x3 x4 x5 M h
def f_X2_calling (N : Nat) (x0 : Nat) (x1 : Nat) (x2 : Nat) (M : Mm) : Option (Int32 × Mm) :=
gF M x0 (fun v1 =>
l_X2_calling_11 N N x1 x2 (-1 : Int32) v1 (0 : Int32) M)
set_option maxRecDepth 100000 in
set_option maxHeartbeats 4000000 in
theorem c_X2_calling (N : Nat) (x0 : Nat) (x1 : Nat) (x2 : Nat) (M : Mm) (r : (Int32 × Mm)) (h : f_X2_calling N x0 x1 x2 M = some r) (l : Launch) (hfl : l.flags = flags0) {G : Gl} : MT l G yX2_calling cX2_calling 6 (some .int) rm_X2_calling [.ref x0, .ref x1, .ref x2] M (some (.int r.1)) r.2 := by
  unfold f_X2_calling at h
  refine zt_start hfl (lv := [(0, .ref x0), (1, .ref x1), (2, .ref x2)]) (by decide) (Nat.le_of_ble_eq_true rfl) rfl wd_485 (fun X hC _ => ?_)
  refine zt_iconst hC ki_m1 dX2_calling_0 ?_
  refine zt_istore_n (lv' := [(3, .int (-1 : Int32)), (0, .ref x0), (1, .ref x1), (2, .ref x2)]) hC (by decide) rfl dX2_calling_1 ?_
  refine zt_aload_n hC rfl dX2_calling_2 ?_
  refine zt_gF hC h wd_51 (Or.inr wd_52) dX2_calling_3 (fun v1 h => ?_)
  refine zt_istore (lv' := [(4, .int v1), (3, .int (-1 : Int32)), (0, .ref x0), (1, .ref x1), (2, .ref x2)]) hC (by decide) rfl dX2_calling_6 ?_
  refine zt_iconst hC ki_0 dX2_calling_8 ?_
  refine zt_istore (lv' := [(5, .int (0 : Int32)), (4, .int v1), (3, .int (-1 : Int32)), (0, .ref x0), (1, .ref x1), (2, .ref x2)]) hC (by decide) rfl dX2_calling_9 ?_
  refine zt_keep [1, 2, 3, 4, 5] rfl ?_
  exact w_X2_calling_11 N hC N x1 x2 (-1 : Int32) v1 (0 : Int32) M h
def d_Best_calling (N : Nat) (a : Nat) (p0 : Nat) (p1 : Nat) (M : Mm) : Option (Int32 × Mm) := (if (M.1 a).1 = 0 + 4 then f_X2_calling N a p0 p1 M else none)
theorem d_Best_calling_some {N : Nat} {a : Nat} {p0 : Nat} {p1 : Nat} {M : Mm} {r : Int32 × Mm} (h : d_Best_calling N a p0 p1 M = some r) : ((M.1 a).1 = 0 + 4 ∧ f_X2_calling N a p0 p1 M = some r) := by
  unfold d_Best_calling at h
  rcases ite_or h with ⟨c, h⟩ | ⟨c, h⟩
  · exact ⟨c, h⟩
  · cases h
theorem hdo_d_Best_calling : ("FerryBells$Busy" : String) ≠ "java/lang/invoke/MethodHandle" ∧ ("FerryBells$Busy" : String) ≠ "java/lang/invoke/VarHandle" ∧ (parseMethodDescriptor "(LFerryBells$World;LFerryBells$Boat;)I").map (fun d => d.parameters.length) = some 2 := by decide +kernel
def rm_X0_choose : Room := { frames := 2, cells := 0, slots := 0, locals := 47 }
theorem hd_X0_choose : yX0_choose.cls ≠ "java/lang/invoke/MethodHandle" ∧ yX0_choose.cls ≠ "java/lang/invoke/VarHandle" ∧ (parseMethodDescriptor yX0_choose.desc).map (fun d => d.parameters.length) = some 2 := by decide +kernel
def b_X0_choose_22 (N : Nat) (k22 : Nat → Nat → Int32 → Int32 → Int32 → Mm → Option (Int32 × Mm)) (x1 : Nat) (x2 : Nat) (x3 : Int32) (x4 : Int32) (x5 : Int32) (M : Mm) : Option (Int32 × Mm) :=
gI 10 M x1 0 (fun v1 =>
(if v1 ≤ x5 then
some (x3, M)
else
bnd (f_X0_boundFor N x1 x2 x5 M) (fun v2 M3 =>
(if v2 ≤ x4 then
k22 x1 x2 x3 x4 (x5 + (1 : Int32)) M3
else
k22 x1 x2 x5 v2 (x5 + (1 : Int32)) M3))))
def l_X0_choose_22 (N : Nat) : Nat → Nat → Nat → Int32 → Int32 → Int32 → Mm → Option (Int32 × Mm)
  | 0 => fun _ _ _ _ _ _ => none
  | n + 1 => b_X0_choose_22 N (l_X0_choose_22 N n)
set_option maxRecDepth 100000 in
set_option maxHeartbeats 4000000 in
theorem v_X0_choose_22 {X : Cx} {G : Gl} {r : (Int32 × Mm)} (N : Nat) (hC : CX X G yX0_choose cX0_choose 7 (some .int) rm_X0_choose) (k22 : Nat → Nat → Int32 → Int32 → Int32 → Mm → Option (Int32 × Mm)) (hk22 : ∀ (x1 : Nat) (x2 : Nat) (x3 : Int32) (x4 : Int32) (x5 : Int32) (M : Mm), k22 x1 x2 x3 x4 x5 M = some r → TW X G 7 (RQ X G (some (.int r.1)) r.2 rm_X0_choose) 0 0 M 22 [(1, .ref x1), (2, .ref x2), (3, .int x3), (4, .int x4), (5, .int x5)] []) (x1 : Nat) (x2 : Nat) (x3 : Int32) (x4 : Int32) (x5 : Int32) (M : Mm) (h : b_X0_choose_22 N k22 x1 x2 x3 x4 x5 M = some r) : TW X G 7 (RQ X G (some (.int r.1)) r.2 rm_X0_choose) 0 0 M 22 [(1, .ref x1), (2, .ref x2), (3, .int x3), (4, .int x4), (5, .int x5)] [] := by
  unfold b_X0_choose_22 at h
  refine zt_iload hC rfl dX0_choose_22 ?_
  refine zt_aload_n hC rfl dX0_choose_24 ?_
  refine zt_gI hC h cl10 (k := 0) (by decide) rfl wd_105 (Or.inl rfl) dX0_choose_25 (fun v1 h => ?_)
  refine zt_icmp_ge (tgt := 60) hC h (by decide) dX0_choose_28 (fun h => ?_) (fun h => ?_)
  · refine zt_iload_n hC rfl dX0_choose_60 ?_
    obtain rfl := Option.some.inj h
    exact zt_iret hC rfl rfl (Nat.le_of_ble_eq_true rfl) (Nat.le_of_ble_eq_true rfl) dX0_choose_61
  · refine zt_aload_n hC rfl dX0_choose_31 ?_
    refine zt_aload_n hC rfl dX0_choose_32 ?_
    refine zt_iload hC rfl dX0_choose_33 ?_
    obtain ⟨v2, M3, h4, h⟩ := bnd_some h
    refine zt_callS (z := yX0_boundFor) (As := [.ref x1, .ref x2, .int x5]) (rest := []) (st1 := (.int v2 :: [])) hC 3 (fun l hl => c_X0_boundFor N x1 x2 x5 M (v2, M3) h4 l hl) rfl wd_489 wd_487 wd_488 wd_12 hd_X0_boundFor rfl ⟨⟨(Nat.le_of_ble_eq_true rfl), (Nat.le_of_ble_eq_true rfl)⟩, (Nat.le_of_ble_eq_true rfl), (Nat.le_of_ble_eq_true rfl)⟩ rfl (Nat.le_of_ble_eq_true rfl) rfl dX0_choose_35 ?_
    refine zt_istore (lv' := [(6, .int v2), (1, .ref x1), (2, .ref x2), (3, .int x3), (4, .int x4), (5, .int x5)]) hC (by decide) rfl dX0_choose_38 ?_
    refine zt_iload hC rfl dX0_choose_40 ?_
    refine zt_iload hC rfl dX0_choose_42 ?_
    refine zt_icmp_le (tgt := 54) hC h (by decide) dX0_choose_44 (fun h => ?_) (fun h => ?_)
    · refine zt_iinc (v := (x5 + (1 : Int32))) (lv' := [(5, .int (x5 + (1 : Int32))), (6, .int v2), (1, .ref x1), (2, .ref x2), (3, .int x3), (4, .int x4)]) hC rfl (by rw [ki_1]) (by decide) rfl dX0_choose_54 ?_
      refine zt_goto (tgt := 22) hC (by decide) dX0_choose_57 ?_
      refine zt_keep [1, 2, 3, 4, 5] rfl ?_
      exact hk22 x1 x2 x3 x4 (x5 + (1 : Int32)) M3 h
    · refine zt_iload hC rfl dX0_choose_47 ?_
      refine zt_istore (lv' := [(4, .int v2), (6, .int v2), (1, .ref x1), (2, .ref x2), (3, .int x3), (5, .int x5)]) hC (by decide) rfl dX0_choose_49 ?_
      refine zt_iload hC rfl dX0_choose_51 ?_
      refine zt_istore_n (lv' := [(3, .int x5), (4, .int v2), (6, .int v2), (1, .ref x1), (2, .ref x2), (5, .int x5)]) hC (by decide) rfl dX0_choose_53 ?_
      refine zt_iinc (v := (x5 + (1 : Int32))) (lv' := [(5, .int (x5 + (1 : Int32))), (3, .int x5), (4, .int v2), (6, .int v2), (1, .ref x1), (2, .ref x2)]) hC rfl (by rw [ki_1]) (by decide) rfl dX0_choose_54 ?_
      refine zt_goto (tgt := 22) hC (by decide) dX0_choose_57 ?_
      refine zt_keep [1, 2, 3, 4, 5] rfl ?_
      exact hk22 x1 x2 x5 v2 (x5 + (1 : Int32)) M3 h
theorem w_X0_choose_22 {X : Cx} {G : Gl} {r : (Int32 × Mm)} (N : Nat) (hC : CX X G yX0_choose cX0_choose 7 (some .int) rm_X0_choose) (n : Nat) : ∀ (x1 : Nat) (x2 : Nat) (x3 : Int32) (x4 : Int32) (x5 : Int32) (M : Mm), l_X0_choose_22 N n x1 x2 x3 x4 x5 M = some r → TW X G 7 (RQ X G (some (.int r.1)) r.2 rm_X0_choose) 0 0 M 22 [(1, .ref x1), (2, .ref x2), (3, .int x3), (4, .int x4), (5, .int x5)] [] := by
  induction n with
  | zero => intro  x1 x2 x3 x4 x5 M h; cases (show none = some r from h)
  | succ n ih => intro  x1 x2 x3 x4 x5 M h; exact v_X0_choose_22 N hC (l_X0_choose_22 N n) ih x1 x2 x3 x4 x5 M h
def f_X0_choose (N : Nat) (x0 : Nat) (x1 : Nat) (x2 : Nat) (M : Mm) : Option (Int32 × Mm) :=
gI 1 M x2 2 (fun v1 =>
(if v1 = 0 then
bnd (d_Best_calling N x0 x1 x2 M) (fun v2 M3 =>
some (v2, M3))
else
l_X0_choose_22 N N x1 x2 (-1 : Int32) (0 : Int32) (0 : Int32) M))
set_option maxRecDepth 100000 in
set_option maxHeartbeats 4000000 in
theorem c_X0_choose (N : Nat) (x0 : Nat) (x1 : Nat) (x2 : Nat) (M : Mm) (r : (Int32 × Mm)) (h : f_X0_choose N x0 x1 x2 M = some r) (l : Launch) (hfl : l.flags = flags0) {G : Gl} : MT l G yX0_choose cX0_choose 7 (some .int) rm_X0_choose [.ref x0, .ref x1, .ref x2] M (some (.int r.1)) r.2 := by
  unfold f_X0_choose at h
  refine zt_start hfl (lv := [(0, .ref x0), (1, .ref x1), (2, .ref x2)]) (by decide) (Nat.le_of_ble_eq_true rfl) rfl wd_479 (fun X hC _ => ?_)
  refine zt_aload_n hC rfl dX0_choose_0 ?_
  refine zt_gI hC h cl1 (k := 2) (by decide) rfl wd_78 (Or.inl rfl) dX0_choose_1 (fun v1 h => ?_)
  refine zt_if_ne (tgt := 14) hC h (by decide) dX0_choose_4 (fun h => ?_) (fun h => ?_)
  · refine zt_iconst hC ki_m1 dX0_choose_14 ?_
    refine zt_istore_n (lv' := [(3, .int (-1 : Int32)), (0, .ref x0), (1, .ref x1), (2, .ref x2)]) hC (by decide) rfl dX0_choose_15 ?_
    refine zt_iconst hC ki_0 dX0_choose_16 ?_
    refine zt_istore (lv' := [(4, .int (0 : Int32)), (3, .int (-1 : Int32)), (0, .ref x0), (1, .ref x1), (2, .ref x2)]) hC (by decide) rfl dX0_choose_17 ?_
    refine zt_iconst hC ki_0 dX0_choose_19 ?_
    refine zt_istore (lv' := [(5, .int (0 : Int32)), (4, .int (0 : Int32)), (3, .int (-1 : Int32)), (0, .ref x0), (1, .ref x1), (2, .ref x2)]) hC (by decide) rfl dX0_choose_20 ?_
    refine zt_keep [1, 2, 3, 4, 5] rfl ?_
    exact w_X0_choose_22 N hC N x1 x2 (-1 : Int32) (0 : Int32) (0 : Int32) M h
  · refine zt_aload_n hC rfl dX0_choose_7 ?_
    refine zt_aload_n hC rfl dX0_choose_8 ?_
    refine zt_aload_n hC rfl dX0_choose_9 ?_
    obtain ⟨v2, M3, h4, h⟩ := bnd_some h
    have kk : TW X G 7 (RQ X G (some (.int r.1)) r.2 rm_X0_choose) 0 0 M3 13 [(0, .ref x0), (1, .ref x1), (2, .ref x2)] (.int v2 :: []) := by
      obtain rfl := Option.some.inj h
      exact zt_iret hC rfl rfl (Nat.le_of_ble_eq_true rfl) (Nat.le_of_ble_eq_true rfl) dX0_choose_13
    rcases d_Best_calling_some h4 with ⟨hk, h4⟩
    · exact zt_callO (z := yX2_calling) (As := [.ref x1, .ref x2]) (rest := []) (st1 := (.int v2 :: [])) hC 2 hk cl0 (fun l hl => c_X2_calling N x0 x1 x2 M (v2, M3) h4 l hl) wd_485 wd_480 wd_481 wd_484 wd_485 wd_483 wd_484 wd_11 hdo_d_Best_calling rfl ⟨⟨(Nat.le_of_ble_eq_true rfl), (Nat.le_of_ble_eq_true rfl)⟩, (Nat.le_of_ble_eq_true rfl), (Nat.le_of_ble_eq_true rfl)⟩ rfl (Nat.le_of_ble_eq_true rfl) rfl dX0_choose_10 kk
def rm_X6_cost : Room := { frames := 0, cells := 0, slots := 0, locals := 0 }
theorem hd_X6_cost : yX6_cost.cls ≠ "java/lang/invoke/MethodHandle" ∧ yX6_cost.cls ≠ "java/lang/invoke/VarHandle" ∧ (parseMethodDescriptor yX6_cost.desc).map (fun d => d.parameters.length) = some 0 := by decide +kernel
theorem hds_X6_cost : yX6_cost.name ≠ "<init>" ∧ (parseMethodDescriptor yX6_cost.desc).map (fun d => d.parameters.length) = some 0 := by decide +kernel
def f_X6_cost (N : Nat) (x0 : Nat) (M : Mm) : Option (Int32 × Mm) :=
some ((5 : Int32), M)
set_option maxRecDepth 100000 in
set_option maxHeartbeats 4000000 in
theorem c_X6_cost (N : Nat) (x0 : Nat) (M : Mm) (r : (Int32 × Mm)) (h : f_X6_cost N x0 M = some r) (l : Launch) (hfl : l.flags = flags0) {G : Gl} : MT l G yX6_cost cX6_cost 1 (some .int) rm_X6_cost [.ref x0] M (some (.int r.1)) r.2 := by
  unfold f_X6_cost at h
  refine zt_start hfl (lv := [(0, .ref x0)]) (by decide) (Nat.le_of_ble_eq_true rfl) rfl wd_830 (fun X hC _ => ?_)
  refine zt_iconst hC ki_5 dX6_cost_0 ?_
  obtain rfl := Option.some.inj h
  exact zt_iret hC rfl rfl (Nat.le_of_ble_eq_true rfl) (Nat.le_of_ble_eq_true rfl) dX6_cost_1
def rm_X4_cost : Room := { frames := 1, cells := 0, slots := 0, locals := 20 }
theorem hd_X4_cost : yX4_cost.cls ≠ "java/lang/invoke/MethodHandle" ∧ yX4_cost.cls ≠ "java/lang/invoke/VarHandle" ∧ (parseMethodDescriptor yX4_cost.desc).map (fun d => d.parameters.length) = some 0 := by decide +kernel
theorem hds_X4_cost : yX4_cost.name ≠ "<init>" ∧ (parseMethodDescriptor yX4_cost.desc).map (fun d => d.parameters.length) = some 0 := by decide +kernel
def f_X4_cost (N : Nat) (x0 : Nat) (M : Mm) : Option (Int32 × Mm) :=
rq (isRule (M.1 x0).1 = true) (bnd (f_X6_cost N x0 M) (fun v1 M2 =>
some (((2 : Int32) * v1), M2)))
set_option maxRecDepth 100000 in
set_option maxHeartbeats 4000000 in
theorem c_X4_cost (N : Nat) (x0 : Nat) (M : Mm) (r : (Int32 × Mm)) (h : f_X4_cost N x0 M = some r) (l : Launch) (hfl : l.flags = flags0) {G : Gl} : MT l G yX4_cost cX4_cost 1 (some .int) rm_X4_cost [.ref x0] M (some (.int r.1)) r.2 := by
  unfold f_X4_cost at h
  refine zt_start hfl (lv := [(0, .ref x0)]) (by decide) (Nat.le_of_ble_eq_true rfl) rfl wd_814 (fun X hC _ => ?_)
  refine zt_iconst hC ki_2 dX4_cost_0 ?_
  refine zt_aload_n hC rfl dX4_cost_1 ?_
  obtain ⟨hk, h⟩ := rq_some h
  obtain ⟨ci, C, T, hk, hcl, -, -, -⟩ := rule_cl hk
  obtain ⟨v1, M2, h3, h⟩ := bnd_some h
  refine zt_callSU (z := yX6_cost) (As := []) (rest := [.int (2 : Int32)]) (st1 := (.int v1 :: [.int (2 : Int32)])) hC 0 hk hcl (fun l hl => c_X6_cost N x0 M (v1, M2) h3 l hl) wd_830 wd_815 wd_805 wd_496 wd_803 wd_4 hds_X6_cost rfl ⟨⟨(Nat.le_of_ble_eq_true rfl), (Nat.le_of_ble_eq_true rfl)⟩, (Nat.le_of_ble_eq_true rfl), (Nat.le_of_ble_eq_true rfl)⟩ rfl (Nat.le_of_ble_eq_true rfl) rfl dX4_cost_2 ?_
  refine zt_imul hC dX4_cost_5 ?_
  obtain rfl := Option.some.inj h
  exact zt_iret hC rfl rfl (Nat.le_of_ble_eq_true rfl) (Nat.le_of_ble_eq_true rfl) dX4_cost_6
def rm_X2_cost : Room := { frames := 2, cells := 0, slots := 0, locals := 40 }
theorem hd_X2_cost : yX2_cost.cls ≠ "java/lang/invoke/MethodHandle" ∧ yX2_cost.cls ≠ "java/lang/invoke/VarHandle" ∧ (parseMethodDescriptor yX2_cost.desc).map (fun d => d.parameters.length) = some 0 := by decide +kernel
theorem hds_X2_cost : yX2_cost.name ≠ "<init>" ∧ (parseMethodDescriptor yX2_cost.desc).map (fun d => d.parameters.length) = some 0 := by decide +kernel
def f_X2_cost (N : Nat) (x0 : Nat) (M : Mm) : Option (Int32 × Mm) :=
rq (isRule (M.1 x0).1 = true) (bnd (f_X4_cost N x0 M) (fun v1 M2 =>
some ((v1 + (1 : Int32)), M2)))
set_option maxRecDepth 100000 in
set_option maxHeartbeats 4000000 in
theorem c_X2_cost (N : Nat) (x0 : Nat) (M : Mm) (r : (Int32 × Mm)) (h : f_X2_cost N x0 M = some r) (l : Launch) (hfl : l.flags = flags0) {G : Gl} : MT l G yX2_cost cX2_cost 1 (some .int) rm_X2_cost [.ref x0] M (some (.int r.1)) r.2 := by
  unfold f_X2_cost at h
  refine zt_start hfl (lv := [(0, .ref x0)]) (by decide) (Nat.le_of_ble_eq_true rfl) rfl wd_811 (fun X hC _ => ?_)
  refine zt_aload_n hC rfl dX2_cost_0 ?_
  obtain ⟨hk, h⟩ := rq_some h
  obtain ⟨ci, C, T, hk, hcl, -, -, -⟩ := rule_cl hk
  obtain ⟨v1, M2, h3, h⟩ := bnd_some h
  refine zt_callSU (z := yX4_cost) (As := []) (rest := []) (st1 := (.int v1 :: [])) hC 0 hk hcl (fun l hl => c_X4_cost N x0 M (v1, M2) h3 l hl) wd_814 wd_812 wd_1374 wd_654 wd_813 wd_10 hds_X4_cost rfl ⟨⟨(Nat.le_of_ble_eq_true rfl), (Nat.le_of_ble_eq_true rfl)⟩, (Nat.le_of_ble_eq_true rfl), (Nat.le_of_ble_eq_true rfl)⟩ rfl (Nat.le_of_ble_eq_true rfl) rfl dX2_cost_1 ?_
  refine zt_iconst hC ki_1 dX2_cost_4 ?_
  refine zt_iadd hC dX2_cost_5 ?_
  obtain rfl := Option.some.inj h
  exact zt_iret hC rfl rfl (Nat.le_of_ble_eq_true rfl) (Nat.le_of_ble_eq_true rfl) dX2_cost_6
def rm_X0_cost : Room := { frames := 3, cells := 0, slots := 0, locals := 60 }
theorem hd_X0_cost : yX0_cost.cls ≠ "java/lang/invoke/MethodHandle" ∧ yX0_cost.cls ≠ "java/lang/invoke/VarHandle" ∧ (parseMethodDescriptor yX0_cost.desc).map (fun d => d.parameters.length) = some 0 := by decide +kernel
def f_X0_cost (N : Nat) (x0 : Nat) (M : Mm) : Option (Int32 × Mm) :=
rq (isRule (M.1 x0).1 = true) (bnd (f_X2_cost N x0 M) (fun v1 M2 =>
gF M2 x0 (fun v4 =>
some ((v1 + v4), M2))))
set_option maxRecDepth 100000 in
set_option maxHeartbeats 4000000 in
theorem c_X0_cost (N : Nat) (x0 : Nat) (M : Mm) (r : (Int32 × Mm)) (h : f_X0_cost N x0 M = some r) (l : Launch) (hfl : l.flags = flags0) {G : Gl} : MT l G yX0_cost cX0_cost 1 (some .int) rm_X0_cost [.ref x0] M (some (.int r.1)) r.2 := by
  unfold f_X0_cost at h
  refine zt_start hfl (lv := [(0, .ref x0)]) (by decide) (Nat.le_of_ble_eq_true rfl) rfl wd_808 (fun X hC _ => ?_)
  refine zt_aload_n hC rfl dX0_cost_0 ?_
  obtain ⟨hk, h⟩ := rq_some h
  obtain ⟨ci, C, T, hk, hcl, -, -, -⟩ := rule_cl hk
  obtain ⟨v1, M2, h3, h⟩ := bnd_some h
  refine zt_callSU (z := yX2_cost) (As := []) (rest := []) (st1 := (.int v1 :: [])) hC 0 hk hcl (fun l hl => c_X2_cost N x0 M (v1, M2) h3 l hl) wd_811 wd_809 wd_1373 wd_669 wd_810 wd_11 hds_X2_cost rfl ⟨⟨(Nat.le_of_ble_eq_true rfl), (Nat.le_of_ble_eq_true rfl)⟩, (Nat.le_of_ble_eq_true rfl), (Nat.le_of_ble_eq_true rfl)⟩ rfl (Nat.le_of_ble_eq_true rfl) rfl dX0_cost_1 ?_
  refine zt_aload_n hC rfl dX0_cost_4 ?_
  refine zt_gF hC h wd_59 (Or.inr wd_60) dX0_cost_5 (fun v4 h => ?_)
  refine zt_iadd hC dX0_cost_8 ?_
  obtain rfl := Option.some.inj h
  exact zt_iret hC rfl rfl (Nat.le_of_ble_eq_true rfl) (Nat.le_of_ble_eq_true rfl) dX0_cost_9
def rm_X1_init : Room := { frames := 2, cells := 2, slots := 7, locals := 45 }
theorem hd_X1_init : yX1_init.cls ≠ "java/lang/invoke/MethodHandle" ∧ yX1_init.cls ≠ "java/lang/invoke/VarHandle" ∧ (parseMethodDescriptor yX1_init.desc).map (fun d => d.parameters.length) = some 0 := by decide +kernel
def f_X1_init (N : Nat) (x0 : Nat) (M : Mm) : Option (Unit × Mm) :=
pI 1 M x0 0 (0 : Int32) (fun M1 =>
pI 1 M1 x0 1 (0 : Int32) (fun M2 =>
pI 1 M2 x0 2 (0 : Int32) (fun M3 =>
nwo 1 6 M3 (fun a5 M4 =>
pR 1 M4 x0 3 (some a5) (fun M6 =>
nwo 10 0 M6 (fun a8 M7 =>
bnd (f_X6_init N a8 (0 : Int32) M7) (fun v9 M10 =>
pR 1 M10 x0 4 (some a8) (fun M12 =>
some ((), M12)))))))))
set_option maxRecDepth 100000 in
set_option maxHeartbeats 4000000 in
theorem c_X1_init (N : Nat) (x0 : Nat) (M : Mm) (r : (Unit × Mm)) (h : f_X1_init N x0 M = some r) (l : Launch) (hfl : l.flags = flags0) {G : Gl} : MT l G yX1_init cX1_init 1 none rm_X1_init [.ref x0] M none r.2 := by
  unfold f_X1_init at h
  refine zt_start hfl (lv := [(0, .ref x0)]) (by decide) (Nat.le_of_ble_eq_true rfl) rfl wd_40 (fun X hC _ => ?_)
  refine zt_aload_n hC rfl dX1_init_0 ?_
  refine zt_objI (rest := []) hC wd_41 wd_28 wd_29 rfl (Nat.le_of_ble_eq_true rfl) (Nat.le_of_ble_eq_true rfl) dX1_init_1 ?_
  refine zt_aload_n hC rfl dX1_init_4 ?_
  refine zt_iconst hC ki_0 dX1_init_5 ?_
  refine zt_pI hC h cl1 (k := 0) (by decide) rfl wd_66 (Or.inl rfl) (Or.inl rfl) dX1_init_6 (fun M1 h => ?_)
  refine zt_aload_n hC rfl dX1_init_9 ?_
  refine zt_iconst hC ki_0 dX1_init_10 ?_
  refine zt_pI hC h cl1 (k := 1) (by decide) rfl wd_73 (Or.inl rfl) (Or.inl rfl) dX1_init_11 (fun M2 h => ?_)
  refine zt_aload_n hC rfl dX1_init_14 ?_
  refine zt_iconst hC ki_0 dX1_init_15 ?_
  refine zt_pI hC h cl1 (k := 2) (by decide) rfl wd_76 (Or.inl rfl) (Or.inl rfl) dX1_init_16 (fun M3 h => ?_)
  refine zt_aload_n hC rfl dX1_init_19 ?_
  refine zt_bipush hC kb_6 dX1_init_20 ?_
  refine zt_newao (N := 6) hC h wd_65 (by decide) (by decide) (by decide) (Nat.le_of_ble_eq_true rfl) (Nat.le_of_ble_eq_true rfl) dX1_init_22 (fun a5 M4 h => ?_)
  refine zt_pR hC h rfl cl1 (k := 3) (by decide) rfl wd_83 (Or.inl rfl) (Or.inr ⟨rfl, rfl, rfl⟩) dX1_init_24 (fun M6 h => ?_)
  refine zt_aload_n hC rfl dX1_init_27 ?_
  refine zt_newo hC h cl6 wd_42 wd_43 wd_4 (Nat.le_of_ble_eq_true rfl) (Nat.le_of_ble_eq_true rfl) dX1_init_28 (fun a8 M7 h => ?_)
  refine zt_dup hC rfl dX1_init_31 ?_
  refine zt_iconst hC ki_0 dX1_init_32 ?_
  obtain ⟨v9, M10, h11, h⟩ := bnd_some h
  refine zt_callI (z := yX6_init) (As := [.int (0 : Int32)]) (rest := [.ref a8, .ref x0]) hC 1 (fun l hl => c_X6_init N a8 (0 : Int32) M7 (v9, M10) h11 l hl) wd_46 wd_44 wd_45 wd_4 rfl hd_X6_init rfl ⟨⟨(Nat.le_of_ble_eq_true rfl), (Nat.le_of_ble_eq_true rfl)⟩, (Nat.le_of_ble_eq_true rfl), (Nat.le_of_ble_eq_true rfl)⟩ rfl (Nat.le_of_ble_eq_true rfl) dX1_init_33 ?_
  refine zt_pR hC h rfl cl1 (k := 4) (by decide) rfl wd_88 (Or.inl rfl) (Or.inl rfl) dX1_init_36 (fun M12 h => ?_)
  obtain rfl := Option.some.inj h
  exact zt_vret hC rfl rfl (Nat.le_of_ble_eq_true rfl) (Nat.le_of_ble_eq_true rfl) dX1_init_39
def rm_X1_begin : Room := { frames := 0, cells := 0, slots := 0, locals := 0 }
theorem hd_X1_begin : yX1_begin.cls ≠ "java/lang/invoke/MethodHandle" ∧ yX1_begin.cls ≠ "java/lang/invoke/VarHandle" ∧ (parseMethodDescriptor yX1_begin.desc).map (fun d => d.parameters.length) = some 2 := by decide +kernel
def f_X1_begin (N : Nat) (x0 : Nat) (x1 : Nat) (x2 : Int32) (M : Mm) : Option (Unit × Mm) :=
pI 1 M x0 0 x2 (fun M1 =>
pI 1 M1 x0 1 (0 : Int32) (fun M2 =>
pI 1 M2 x0 2 (0 : Int32) (fun M3 =>
pR 1 M3 x0 4 (some x1) (fun M4 =>
some ((), M4)))))
set_option maxRecDepth 100000 in
set_option maxHeartbeats 4000000 in
theorem c_X1_begin (N : Nat) (x0 : Nat) (x1 : Nat) (x2 : Int32) (M : Mm) (r : (Unit × Mm)) (h : f_X1_begin N x0 x1 x2 M = some r) (l : Launch) (hfl : l.flags = flags0) {G : Gl} : MT l G yX1_begin cX1_begin 3 none rm_X1_begin [.ref x0, .ref x1, .int x2] M none r.2 := by
  unfold f_X1_begin at h
  refine zt_start hfl (lv := [(0, .ref x0), (1, .ref x1), (2, .int x2)]) (by decide) (Nat.le_of_ble_eq_true rfl) rfl wd_597 (fun X hC _ => ?_)
  refine zt_aload_n hC rfl dX1_begin_0 ?_
  refine zt_iload_n hC rfl dX1_begin_1 ?_
  refine zt_pI hC h cl1 (k := 0) (by decide) rfl wd_66 (Or.inl rfl) (Or.inl rfl) dX1_begin_2 (fun M1 h => ?_)
  refine zt_aload_n hC rfl dX1_begin_5 ?_
  refine zt_iconst hC ki_0 dX1_begin_6 ?_
  refine zt_pI hC h cl1 (k := 1) (by decide) rfl wd_73 (Or.inl rfl) (Or.inl rfl) dX1_begin_7 (fun M2 h => ?_)
  refine zt_aload_n hC rfl dX1_begin_10 ?_
  refine zt_iconst hC ki_0 dX1_begin_11 ?_
  refine zt_pI hC h cl1 (k := 2) (by decide) rfl wd_76 (Or.inl rfl) (Or.inl rfl) dX1_begin_12 (fun M3 h => ?_)
  refine zt_aload_n hC rfl dX1_begin_15 ?_
  refine zt_aload_n hC rfl dX1_begin_16 ?_
  refine zt_pR hC h rfl cl1 (k := 4) (by decide) rfl wd_88 (Or.inl rfl) (Or.inl rfl) dX1_begin_17 (fun M4 h => ?_)
  obtain rfl := Option.some.inj h
  exact zt_vret hC rfl rfl (Nat.le_of_ble_eq_true rfl) (Nat.le_of_ble_eq_true rfl) dX1_begin_20
def rm_X11_copyAll : Room := { frames := 1, cells := 0, slots := 0, locals := 80 }
theorem hd_X11_copyAll : yX11_copyAll.cls ≠ "java/lang/invoke/MethodHandle" ∧ yX11_copyAll.cls ≠ "java/lang/invoke/VarHandle" ∧ (parseMethodDescriptor yX11_copyAll.desc).map (fun d => d.parameters.length) = some 2 := by decide +kernel
def f_X11_copyAll (N : Nat) (x0 : Nat) (x1 : Nat) (M : Mm) : Option (Unit × Mm) :=
alen M x0 (fun v1 =>
alen M x1 (fun v2 =>
acp M x0 (0 : Int32) x1 (0 : Int32) (if v2 < v1 then v2 else v1) (fun M3 =>
some ((), M3))))
set_option maxRecDepth 100000 in
set_option maxHeartbeats 4000000 in
theorem c_X11_copyAll (N : Nat) (x0 : Nat) (x1 : Nat) (M : Mm) (r : (Unit × Mm)) (h : f_X11_copyAll N x0 x1 M = some r) (l : Launch) (hfl : l.flags = flags0) {G : Gl} : MT l G yX11_copyAll cX11_copyAll 2 none rm_X11_copyAll [.ref x0, .ref x1] M none r.2 := by
  unfold f_X11_copyAll at h
  refine zt_start hfl (lv := [(0, .ref x0), (1, .ref x1)]) (by decide) (Nat.le_of_ble_eq_true rfl) rfl wd_318 (fun X hC _ => ?_)
  refine zt_aload_n hC rfl dX11_copyAll_0 ?_
  refine zt_iconst hC ki_0 dX11_copyAll_1 ?_
  refine zt_aload_n hC rfl dX11_copyAll_2 ?_
  refine zt_iconst hC ki_0 dX11_copyAll_3 ?_
  refine zt_aload_n hC rfl dX11_copyAll_4 ?_
  refine zt_alen hC h dX11_copyAll_5 (fun v1 h => ?_)
  refine zt_aload_n hC rfl dX11_copyAll_6 ?_
  refine zt_alen hC h dX11_copyAll_7 (fun v2 h => ?_)
  refine zt_mmin hC wd_319 wd_320 wd_8 wd_321 (Nat.le_of_ble_eq_true rfl) (Nat.le_of_ble_eq_true rfl) (Nat.le_of_ble_eq_true rfl) (Nat.le_of_ble_eq_true rfl) dX11_copyAll_8 ?_
  refine zt_acp hC h wd_322 wd_324 wd_323 wd_9 (Nat.le_of_ble_eq_true rfl) (Nat.le_of_ble_eq_true rfl) dX11_copyAll_11 (fun M3 h => ?_)
  obtain rfl := Option.some.inj h
  exact zt_vret hC rfl rfl (Nat.le_of_ble_eq_true rfl) (Nat.le_of_ble_eq_true rfl) dX11_copyAll_14
def rm_X1_become : Room := { frames := 2, cells := 0, slots := 0, locals := 101 }
theorem hd_X1_become : yX1_become.cls ≠ "java/lang/invoke/MethodHandle" ∧ yX1_become.cls ≠ "java/lang/invoke/VarHandle" ∧ (parseMethodDescriptor yX1_become.desc).map (fun d => d.parameters.length) = some 1 := by decide +kernel
def f_X1_become (N : Nat) (x0 : Nat) (x1 : Nat) (M : Mm) : Option (Unit × Mm) :=
gI 1 M x1 0 (fun v1 =>
pI 1 M x0 0 v1 (fun M2 =>
gI 1 M2 x1 1 (fun v3 =>
pI 1 M2 x0 1 v3 (fun M4 =>
gI 1 M4 x1 2 (fun v5 =>
pI 1 M4 x0 2 v5 (fun M6 =>
gR 1 M6 x1 4 (fun v7 =>
pR 1 M6 x0 4 (some v7) (fun M8 =>
gR 1 M8 x1 3 (fun v9 =>
gR 1 M8 x0 3 (fun v10 =>
bnd (f_X11_copyAll N v9 v10 M8) (fun v11 M12 =>
some ((), M12))))))))))))
set_option maxRecDepth 100000 in
set_option maxHeartbeats 4000000 in
theorem c_X1_become (N : Nat) (x0 : Nat) (x1 : Nat) (M : Mm) (r : (Unit × Mm)) (h : f_X1_become N x0 x1 M = some r) (l : Launch) (hfl : l.flags = flags0) {G : Gl} : MT l G yX1_become cX1_become 2 none rm_X1_become [.ref x0, .ref x1] M none r.2 := by
  unfold f_X1_become at h
  refine zt_start hfl (lv := [(0, .ref x0), (1, .ref x1)]) (by decide) (Nat.le_of_ble_eq_true rfl) rfl wd_328 (fun X hC _ => ?_)
  refine zt_aload_n hC rfl dX1_become_0 ?_
  refine zt_aload_n hC rfl dX1_become_1 ?_
  refine zt_gI hC h cl1 (k := 0) (by decide) rfl wd_66 (Or.inl rfl) dX1_become_2 (fun v1 h => ?_)
  refine zt_pI hC h cl1 (k := 0) (by decide) rfl wd_66 (Or.inl rfl) (Or.inl rfl) dX1_become_5 (fun M2 h => ?_)
  refine zt_aload_n hC rfl dX1_become_8 ?_
  refine zt_aload_n hC rfl dX1_become_9 ?_
  refine zt_gI hC h cl1 (k := 1) (by decide) rfl wd_73 (Or.inl rfl) dX1_become_10 (fun v3 h => ?_)
  refine zt_pI hC h cl1 (k := 1) (by decide) rfl wd_73 (Or.inl rfl) (Or.inl rfl) dX1_become_13 (fun M4 h => ?_)
  refine zt_aload_n hC rfl dX1_become_16 ?_
  refine zt_aload_n hC rfl dX1_become_17 ?_
  refine zt_gI hC h cl1 (k := 2) (by decide) rfl wd_76 (Or.inl rfl) dX1_become_18 (fun v5 h => ?_)
  refine zt_pI hC h cl1 (k := 2) (by decide) rfl wd_76 (Or.inl rfl) (Or.inl rfl) dX1_become_21 (fun M6 h => ?_)
  refine zt_aload_n hC rfl dX1_become_24 ?_
  refine zt_aload_n hC rfl dX1_become_25 ?_
  refine zt_gR hC h cl1 (k := 4) (by decide) rfl wd_88 (Or.inl rfl) dX1_become_26 (fun v7 h => ?_)
  refine zt_pR hC h rfl cl1 (k := 4) (by decide) rfl wd_88 (Or.inl rfl) (Or.inl rfl) dX1_become_29 (fun M8 h => ?_)
  refine zt_aload_n hC rfl dX1_become_32 ?_
  refine zt_gR hC h cl1 (k := 3) (by decide) rfl wd_83 (Or.inl rfl) dX1_become_33 (fun v9 h => ?_)
  refine zt_aload_n hC rfl dX1_become_36 ?_
  refine zt_gR hC h cl1 (k := 3) (by decide) rfl wd_83 (Or.inl rfl) dX1_become_37 (fun v10 h => ?_)
  obtain ⟨v11, M12, h13, h⟩ := bnd_some h
  refine zt_callSN (z := yX11_copyAll) (As := [.ref v9, .ref v10]) (rest := []) (st1 := []) hC 2 (fun l hl => c_X11_copyAll N v9 v10 M8 (v11, M12) h13 l hl) wd_318 (by decide) wd_317 wd_1 hd_X11_copyAll rfl ⟨⟨(Nat.le_of_ble_eq_true rfl), (Nat.le_of_ble_eq_true rfl)⟩, (Nat.le_of_ble_eq_true rfl), (Nat.le_of_ble_eq_true rfl)⟩ rfl (Nat.le_of_ble_eq_true rfl) rfl dX1_become_40 ?_
  obtain rfl := Option.some.inj h
  exact zt_vret hC rfl rfl (Nat.le_of_ble_eq_true rfl) (Nat.le_of_ble_eq_true rfl) dX1_become_43
def rm_X2_kind : Room := { frames := 0, cells := 0, slots := 0, locals := 0 }
theorem hd_X2_kind : yX2_kind.cls ≠ "java/lang/invoke/MethodHandle" ∧ yX2_kind.cls ≠ "java/lang/invoke/VarHandle" ∧ (parseMethodDescriptor yX2_kind.desc).map (fun d => d.parameters.length) = some 0 := by decide +kernel
theorem hds_X2_kind : yX2_kind.name ≠ "<init>" ∧ (parseMethodDescriptor yX2_kind.desc).map (fun d => d.parameters.length) = some 0 := by decide +kernel
def f_X2_kind (N : Nat) (x0 : Nat) (M : Mm) : Option (Int32 × Mm) :=
some ((3 : Int32), M)
set_option maxRecDepth 100000 in
set_option maxHeartbeats 4000000 in
theorem c_X2_kind (N : Nat) (x0 : Nat) (M : Mm) (r : (Int32 × Mm)) (h : f_X2_kind N x0 M = some r) (l : Launch) (hfl : l.flags = flags0) {G : Gl} : MT l G yX2_kind cX2_kind 1 (some .int) rm_X2_kind [.ref x0] M (some (.int r.1)) r.2 := by
  unfold f_X2_kind at h
  refine zt_start hfl (lv := [(0, .ref x0)]) (by decide) (Nat.le_of_ble_eq_true rfl) rfl wd_420 (fun X hC _ => ?_)
  refine zt_iconst hC ki_3 dX2_kind_0 ?_
  obtain rfl := Option.some.inj h
  exact zt_iret hC rfl rfl (Nat.le_of_ble_eq_true rfl) (Nat.le_of_ble_eq_true rfl) dX2_kind_1
def rm_X3_init : Room := { frames := 2, cells := 0, slots := 0, locals := 45 }
theorem hd_X3_init : yX3_init.cls ≠ "java/lang/invoke/MethodHandle" ∧ yX3_init.cls ≠ "java/lang/invoke/VarHandle" ∧ (parseMethodDescriptor yX3_init.desc).map (fun d => d.parameters.length) = some 1 := by decide +kernel
def f_X3_init (N : Nat) (x0 : Nat) (x1 : Int32) (M : Mm) : Option (Unit × Mm) :=
bnd (f_X6_init N x0 x1 M) (fun v1 M2 =>
some ((), M2))
set_option maxRecDepth 100000 in
set_option maxHeartbeats 4000000 in
theorem c_X3_init (N : Nat) (x0 : Nat) (x1 : Int32) (M : Mm) (r : (Unit × Mm)) (h : f_X3_init N x0 x1 M = some r) (l : Launch) (hfl : l.flags = flags0) {G : Gl} : MT l G yX3_init cX3_init 2 none rm_X3_init [.ref x0, .int x1] M none r.2 := by
  unfold f_X3_init at h
  refine zt_start hfl (lv := [(0, .ref x0), (1, .int x1)]) (by decide) (Nat.le_of_ble_eq_true rfl) rfl wd_659 (fun X hC _ => ?_)
  refine zt_aload_n hC rfl dX3_init_0 ?_
  refine zt_iload_n hC rfl dX3_init_1 ?_
  obtain ⟨v1, M2, h3, h⟩ := bnd_some h
  refine zt_callI (z := yX6_init) (As := [.int x1]) (rest := []) hC 1 (fun l hl => c_X6_init N x0 x1 M (v1, M2) h3 l hl) wd_46 wd_660 wd_45 wd_4 rfl hd_X6_init rfl ⟨⟨(Nat.le_of_ble_eq_true rfl), (Nat.le_of_ble_eq_true rfl)⟩, (Nat.le_of_ble_eq_true rfl), (Nat.le_of_ble_eq_true rfl)⟩ rfl (Nat.le_of_ble_eq_true rfl) dX3_init_2 ?_
  obtain rfl := Option.some.inj h
  exact zt_vret hC rfl rfl (Nat.le_of_ble_eq_true rfl) (Nat.le_of_ble_eq_true rfl) dX3_init_5
def rm_X3_kind : Room := { frames := 0, cells := 0, slots := 0, locals := 0 }
theorem hd_X3_kind : yX3_kind.cls ≠ "java/lang/invoke/MethodHandle" ∧ yX3_kind.cls ≠ "java/lang/invoke/VarHandle" ∧ (parseMethodDescriptor yX3_kind.desc).map (fun d => d.parameters.length) = some 0 := by decide +kernel
def f_X3_kind (N : Nat) (x0 : Nat) (M : Mm) : Option (Int32 × Mm) :=
some ((4 : Int32), M)
set_option maxRecDepth 100000 in
set_option maxHeartbeats 4000000 in
theorem c_X3_kind (N : Nat) (x0 : Nat) (M : Mm) (r : (Int32 × Mm)) (h : f_X3_kind N x0 M = some r) (l : Launch) (hfl : l.flags = flags0) {G : Gl} : MT l G yX3_kind cX3_kind 1 (some .int) rm_X3_kind [.ref x0] M (some (.int r.1)) r.2 := by
  unfold f_X3_kind at h
  refine zt_start hfl (lv := [(0, .ref x0)]) (by decide) (Nat.le_of_ble_eq_true rfl) rfl wd_423 (fun X hC _ => ?_)
  refine zt_iconst hC ki_4 dX3_kind_0 ?_
  obtain rfl := Option.some.inj h
  exact zt_iret hC rfl rfl (Nat.le_of_ble_eq_true rfl) (Nat.le_of_ble_eq_true rfl) dX3_kind_1
def rm_X10_canComeTo : Room := { frames := 1, cells := 0, slots := 0, locals := 23 }
theorem hd_X10_canComeTo : yX10_canComeTo.cls ≠ "java/lang/invoke/MethodHandle" ∧ yX10_canComeTo.cls ≠ "java/lang/invoke/VarHandle" ∧ (parseMethodDescriptor yX10_canComeTo.desc).map (fun d => d.parameters.length) = some 1 := by decide +kernel
def b_X10_canComeTo_2 (N : Nat) (k2 : Nat → Int32 → Int32 → Mm → Option (Int32 × Mm)) (x0 : Nat) (x1 : Int32) (x2 : Int32) (M : Mm) : Option (Int32 × Mm) :=
gI 10 M x0 2 (fun v1 =>
(if v1 ≤ x2 then
some ((0 : Int32), M)
else
ck 10 M x0 (bnd (f_X10_ofSort N x0 x2 (0 : Int32) M) (fun v2 M3 =>
(if v2 = x1 then
ck 10 M3 x0 (bnd (f_X10_ofSort N x0 x2 (2 : Int32) M3) (fun v5 M6 =>
(if v5 ≤ 0 then
k2 x0 x1 (x2 + (1 : Int32)) M6
else
some ((1 : Int32), M6))))
else
k2 x0 x1 (x2 + (1 : Int32)) M3)))))
def l_X10_canComeTo_2 (N : Nat) : Nat → Nat → Int32 → Int32 → Mm → Option (Int32 × Mm)
  | 0 => fun _ _ _ _ => none
  | n + 1 => b_X10_canComeTo_2 N (l_X10_canComeTo_2 N n)
set_option maxRecDepth 100000 in
set_option maxHeartbeats 4000000 in
theorem v_X10_canComeTo_2 {X : Cx} {G : Gl} {r : (Int32 × Mm)} (N : Nat) (hC : CX X G yX10_canComeTo cX10_canComeTo 3 (some .boolean) rm_X10_canComeTo) (k2 : Nat → Int32 → Int32 → Mm → Option (Int32 × Mm)) (hk2 : ∀ (x0 : Nat) (x1 : Int32) (x2 : Int32) (M : Mm), k2 x0 x1 x2 M = some r → TW X G 3 (RQ X G (some (.int r.1)) r.2 rm_X10_canComeTo) 0 0 M 2 [(0, .ref x0), (1, .int x1), (2, .int x2)] []) (x0 : Nat) (x1 : Int32) (x2 : Int32) (M : Mm) (h : b_X10_canComeTo_2 N k2 x0 x1 x2 M = some r) : TW X G 3 (RQ X G (some (.int r.1)) r.2 rm_X10_canComeTo) 0 0 M 2 [(0, .ref x0), (1, .int x1), (2, .int x2)] [] := by
  unfold b_X10_canComeTo_2 at h
  refine zt_iload_n hC rfl dX10_canComeTo_2 ?_
  refine zt_aload_n hC rfl dX10_canComeTo_3 ?_
  refine zt_gI hC h cl10 (k := 2) (by decide) rfl wd_110 (Or.inl rfl) dX10_canComeTo_4 (fun v1 h => ?_)
  refine zt_icmp_ge (tgt := 37) hC h (by decide) dX10_canComeTo_7 (fun h => ?_) (fun h => ?_)
  · refine zt_iconst hC ki_0 dX10_canComeTo_37 ?_
    obtain rfl := Option.some.inj h
    exact zt_zret hC rfl rfl (Or.inl rfl) (Nat.le_of_ble_eq_true rfl) (Nat.le_of_ble_eq_true rfl) dX10_canComeTo_38
  · refine zt_aload_n hC rfl dX10_canComeTo_10 ?_
    refine zt_iload_n hC rfl dX10_canComeTo_11 ?_
    refine zt_iconst hC ki_0 dX10_canComeTo_12 ?_
    obtain ⟨hk, h⟩ := ck_some h
    obtain ⟨v2, M3, h4, h⟩ := bnd_some h
    refine zt_callV (z := yX10_ofSort) (As := [.int x2, .int (0 : Int32)]) (rest := []) (st1 := (.int v2 :: [])) hC 2 hk cl10 (fun l hl => c_X10_ofSort N x0 x2 (0 : Int32) M (v2, M3) h4 l hl) rfl wd_346 wd_343 wd_344 wd_345 wd_2 hd_X10_ofSort rfl ⟨⟨(Nat.le_of_ble_eq_true rfl), (Nat.le_of_ble_eq_true rfl)⟩, (Nat.le_of_ble_eq_true rfl), (Nat.le_of_ble_eq_true rfl)⟩ rfl (Nat.le_of_ble_eq_true rfl) rfl dX10_canComeTo_13 ?_
    refine zt_iload_n hC rfl dX10_canComeTo_16 ?_
    refine zt_icmp_ne (tgt := 31) hC h (by decide) dX10_canComeTo_17 (fun h => ?_) (fun h => ?_)
    · refine zt_iinc (v := (x2 + (1 : Int32))) (lv' := [(2, .int (x2 + (1 : Int32))), (0, .ref x0), (1, .int x1)]) hC rfl (by rw [ki_1]) (by decide) rfl dX10_canComeTo_31 ?_
      refine zt_goto (tgt := 2) hC (by decide) dX10_canComeTo_34 ?_
      refine zt_keep [0, 1, 2] rfl ?_
      exact hk2 x0 x1 (x2 + (1 : Int32)) M3 h
    · refine zt_aload_n hC rfl dX10_canComeTo_20 ?_
      refine zt_iload_n hC rfl dX10_canComeTo_21 ?_
      refine zt_iconst hC ki_2 dX10_canComeTo_22 ?_
      obtain ⟨hk, h⟩ := ck_some h
      obtain ⟨v5, M6, h7, h⟩ := bnd_some h
      refine zt_callV (z := yX10_ofSort) (As := [.int x2, .int (2 : Int32)]) (rest := []) (st1 := (.int v5 :: [])) hC 2 hk cl10 (fun l hl => c_X10_ofSort N x0 x2 (2 : Int32) M3 (v5, M6) h7 l hl) rfl wd_346 wd_343 wd_344 wd_345 wd_2 hd_X10_ofSort rfl ⟨⟨(Nat.le_of_ble_eq_true rfl), (Nat.le_of_ble_eq_true rfl)⟩, (Nat.le_of_ble_eq_true rfl), (Nat.le_of_ble_eq_true rfl)⟩ rfl (Nat.le_of_ble_eq_true rfl) rfl dX10_canComeTo_23 ?_
      refine zt_if_le (tgt := 31) hC h (by decide) dX10_canComeTo_26 (fun h => ?_) (fun h => ?_)
      · refine zt_iinc (v := (x2 + (1 : Int32))) (lv' := [(2, .int (x2 + (1 : Int32))), (0, .ref x0), (1, .int x1)]) hC rfl (by rw [ki_1]) (by decide) rfl dX10_canComeTo_31 ?_
        refine zt_goto (tgt := 2) hC (by decide) dX10_canComeTo_34 ?_
        refine zt_keep [0, 1, 2] rfl ?_
        exact hk2 x0 x1 (x2 + (1 : Int32)) M6 h
      · refine zt_iconst hC ki_1 dX10_canComeTo_29 ?_
        obtain rfl := Option.some.inj h
        exact zt_zret hC rfl rfl (Or.inr rfl) (Nat.le_of_ble_eq_true rfl) (Nat.le_of_ble_eq_true rfl) dX10_canComeTo_30
theorem w_X10_canComeTo_2 {X : Cx} {G : Gl} {r : (Int32 × Mm)} (N : Nat) (hC : CX X G yX10_canComeTo cX10_canComeTo 3 (some .boolean) rm_X10_canComeTo) (n : Nat) : ∀ (x0 : Nat) (x1 : Int32) (x2 : Int32) (M : Mm), l_X10_canComeTo_2 N n x0 x1 x2 M = some r → TW X G 3 (RQ X G (some (.int r.1)) r.2 rm_X10_canComeTo) 0 0 M 2 [(0, .ref x0), (1, .int x1), (2, .int x2)] [] := by
  induction n with
  | zero => intro  x0 x1 x2 M h; cases (show none = some r from h)
  | succ n ih => intro  x0 x1 x2 M h; exact v_X10_canComeTo_2 N hC (l_X10_canComeTo_2 N n) ih x0 x1 x2 M h
def f_X10_canComeTo (N : Nat) (x0 : Nat) (x1 : Int32) (M : Mm) : Option (Int32 × Mm) :=
l_X10_canComeTo_2 N N x0 x1 (0 : Int32) M
set_option maxRecDepth 100000 in
set_option maxHeartbeats 4000000 in
theorem c_X10_canComeTo (N : Nat) (x0 : Nat) (x1 : Int32) (M : Mm) (r : (Int32 × Mm)) (h : f_X10_canComeTo N x0 x1 M = some r) (l : Launch) (hfl : l.flags = flags0) {G : Gl} : MT l G yX10_canComeTo cX10_canComeTo 3 (some .boolean) rm_X10_canComeTo [.ref x0, .int x1] M (some (.int r.1)) r.2 := by
  unfold f_X10_canComeTo at h
  refine zt_start hfl (lv := [(0, .ref x0), (1, .int x1)]) (by decide) (Nat.le_of_ble_eq_true rfl) rfl wd_515 (fun X hC _ => ?_)
  refine zt_iconst hC ki_0 dX10_canComeTo_0 ?_
  refine zt_istore_n (lv' := [(2, .int (0 : Int32)), (0, .ref x0), (1, .int x1)]) hC (by decide) rfl dX10_canComeTo_1 ?_
  refine zt_keep [0, 1, 2] rfl ?_
  exact w_X10_canComeTo_2 N hC N x0 x1 (0 : Int32) M h
def rm_X6_choose : Room := { frames := 1, cells := 0, slots := 0, locals := 23 }
theorem hd_X6_choose : yX6_choose.cls ≠ "java/lang/invoke/MethodHandle" ∧ yX6_choose.cls ≠ "java/lang/invoke/VarHandle" ∧ (parseMethodDescriptor yX6_choose.desc).map (fun d => d.parameters.length) = some 2 := by decide +kernel
theorem hds_X6_choose : yX6_choose.name ≠ "<init>" ∧ (parseMethodDescriptor yX6_choose.desc).map (fun d => d.parameters.length) = some 2 := by decide +kernel
def f_X6_choose (N : Nat) (x0 : Nat) (x1 : Nat) (x2 : Nat) (M : Mm) : Option (Int32 × Mm) :=
gI 1 M x2 2 (fun v1 =>
(if v1 ≤ 0 then
some ((-1 : Int32), M)
else
gR 1 M x2 3 (fun v2 =>
bnd (f_X11_at N v2 (0 : Int32) M) (fun v3 M4 =>
ck 10 M4 x1 (bnd (f_X10_ofSort N x1 v3 (1 : Int32) M4) (fun v6 M7 =>
some (v6, M7)))))))
set_option maxRecDepth 100000 in
set_option maxHeartbeats 4000000 in
theorem c_X6_choose (N : Nat) (x0 : Nat) (x1 : Nat) (x2 : Nat) (M : Mm) (r : (Int32 × Mm)) (h : f_X6_choose N x0 x1 x2 M = some r) (l : Launch) (hfl : l.flags = flags0) {G : Gl} : MT l G yX6_choose cX6_choose 3 (some .int) rm_X6_choose [.ref x0, .ref x1, .ref x2] M (some (.int r.1)) r.2 := by
  unfold f_X6_choose at h
  refine zt_start hfl (lv := [(0, .ref x0), (1, .ref x1), (2, .ref x2)]) (by decide) (Nat.le_of_ble_eq_true rfl) rfl wd_531 (fun X hC _ => ?_)
  refine zt_aload_n hC rfl dX6_choose_0 ?_
  refine zt_gI hC h cl1 (k := 2) (by decide) rfl wd_77 (Or.inl rfl) dX6_choose_1 (fun v1 h => ?_)
  refine zt_if_le (tgt := 23) hC h (by decide) dX6_choose_4 (fun h => ?_) (fun h => ?_)
  · refine zt_iconst hC ki_m1 dX6_choose_23 ?_
    obtain rfl := Option.some.inj h
    exact zt_iret hC rfl rfl (Nat.le_of_ble_eq_true rfl) (Nat.le_of_ble_eq_true rfl) dX6_choose_24
  · refine zt_aload_n hC rfl dX6_choose_7 ?_
    refine zt_aload_n hC rfl dX6_choose_8 ?_
    refine zt_gR hC h cl1 (k := 3) (by decide) rfl wd_84 (Or.inl rfl) dX6_choose_9 (fun v2 h => ?_)
    refine zt_iconst hC ki_0 dX6_choose_12 ?_
    obtain ⟨v3, M4, h5, h⟩ := bnd_some h
    refine zt_callSN (z := yX11_at) (As := [.ref v2, .int (0 : Int32)]) (rest := [.ref x1]) (st1 := (.int v3 :: [.ref x1])) hC 2 (fun l hl => c_X11_at N v2 (0 : Int32) M (v3, M4) h5 l hl) wd_379 (by decide) wd_378 wd_1 hd_X11_at rfl ⟨⟨(Nat.le_of_ble_eq_true rfl), (Nat.le_of_ble_eq_true rfl)⟩, (Nat.le_of_ble_eq_true rfl), (Nat.le_of_ble_eq_true rfl)⟩ rfl (Nat.le_of_ble_eq_true rfl) rfl dX6_choose_13 ?_
    refine zt_iconst hC ki_1 dX6_choose_16 ?_
    obtain ⟨hk, h⟩ := ck_some h
    obtain ⟨v6, M7, h8, h⟩ := bnd_some h
    refine zt_callV (z := yX10_ofSort) (As := [.int v3, .int (1 : Int32)]) (rest := []) (st1 := (.int v6 :: [])) hC 2 hk cl10 (fun l hl => c_X10_ofSort N x1 v3 (1 : Int32) M4 (v6, M7) h8 l hl) rfl wd_346 wd_533 wd_344 wd_345 wd_2 hd_X10_ofSort rfl ⟨⟨(Nat.le_of_ble_eq_true rfl), (Nat.le_of_ble_eq_true rfl)⟩, (Nat.le_of_ble_eq_true rfl), (Nat.le_of_ble_eq_true rfl)⟩ rfl (Nat.le_of_ble_eq_true rfl) rfl dX6_choose_17 ?_
    refine zt_goto (tgt := 24) hC (by decide) dX6_choose_20 ?_
    obtain rfl := Option.some.inj h
    exact zt_iret hC rfl rfl (Nat.le_of_ble_eq_true rfl) (Nat.le_of_ble_eq_true rfl) dX6_choose_24
def rm_X3_choose : Room := { frames := 2, cells := 0, slots := 0, locals := 45 }
theorem hd_X3_choose : yX3_choose.cls ≠ "java/lang/invoke/MethodHandle" ∧ yX3_choose.cls ≠ "java/lang/invoke/VarHandle" ∧ (parseMethodDescriptor yX3_choose.desc).map (fun d => d.parameters.length) = some 2 := by decide +kernel
def j_X3_choose_38 (N : Nat) (x0 : Nat) (x1 : Nat) (x2 : Nat) (s0 : Int32) (M : Mm) : Option (Int32 × Mm) :=
(if s0 = 0 then
some ((-1 : Int32), M)
else
rq (isRule (M.1 x0).1 = true) (bnd (f_X6_choose N x0 x1 x2 M) (fun v1 M2 =>
some (v1, M2))))
set_option maxRecDepth 100000 in
set_option maxHeartbeats 4000000 in
theorem w_X3_choose_38 {X : Cx} {G : Gl} {r : (Int32 × Mm)} (N : Nat) (hC : CX X G yX3_choose cX3_choose 4 (some .int) rm_X3_choose) (x0 : Nat) (x1 : Nat) (x2 : Nat) (s0 : Int32) (M : Mm) (h : j_X3_choose_38 N x0 x1 x2 s0 M = some r) : TW X G 4 (RQ X G (some (.int r.1)) r.2 rm_X3_choose) 0 0 M 38 [(0, .ref x0), (1, .ref x1), (2, .ref x2)] [.int s0] := by
  unfold j_X3_choose_38 at h
  refine zt_istore_n (lv' := [(3, .int s0), (0, .ref x0), (1, .ref x1), (2, .ref x2)]) hC (by decide) rfl dX3_choose_38 ?_
  refine zt_iload_n hC rfl dX3_choose_39 ?_
  refine zt_if_eq (tgt := 52) hC h (by decide) dX3_choose_40 (fun h => ?_) (fun h => ?_)
  · refine zt_iconst hC ki_m1 dX3_choose_52 ?_
    obtain rfl := Option.some.inj h
    exact zt_iret hC rfl rfl (Nat.le_of_ble_eq_true rfl) (Nat.le_of_ble_eq_true rfl) dX3_choose_53
  · refine zt_aload_n hC rfl dX3_choose_43 ?_
    refine zt_aload_n hC rfl dX3_choose_44 ?_
    refine zt_aload_n hC rfl dX3_choose_45 ?_
    obtain ⟨hk, h⟩ := rq_some h
    obtain ⟨ci, C, T, hk, hcl, -, -, -⟩ := rule_cl hk
    obtain ⟨v1, M2, h3, h⟩ := bnd_some h
    refine zt_callSU (z := yX6_choose) (As := [.ref x1, .ref x2]) (rest := []) (st1 := (.int v1 :: [])) hC 2 hk hcl (fun l hl => c_X6_choose N x0 x1 x2 M (v1, M2) h3 l hl) wd_531 wd_516 wd_476 wd_517 wd_474 wd_4 hds_X6_choose rfl ⟨⟨(Nat.le_of_ble_eq_true rfl), (Nat.le_of_ble_eq_true rfl)⟩, (Nat.le_of_ble_eq_true rfl), (Nat.le_of_ble_eq_true rfl)⟩ rfl (Nat.le_of_ble_eq_true rfl) rfl dX3_choose_46 ?_
    refine zt_goto (tgt := 53) hC (by decide) dX3_choose_49 ?_
    obtain rfl := Option.some.inj h
    exact zt_iret hC rfl rfl (Nat.le_of_ble_eq_true rfl) (Nat.le_of_ble_eq_true rfl) dX3_choose_53
def j_X3_choose_33 (N : Nat) (x0 : Nat) (x1 : Nat) (x2 : Nat) (M : Mm) : Option (Int32 × Mm) :=
j_X3_choose_38 N x0 x1 x2 (1 : Int32) M
set_option maxRecDepth 100000 in
set_option maxHeartbeats 4000000 in
theorem w_X3_choose_33 {X : Cx} {G : Gl} {r : (Int32 × Mm)} (N : Nat) (hC : CX X G yX3_choose cX3_choose 4 (some .int) rm_X3_choose) (x0 : Nat) (x1 : Nat) (x2 : Nat) (M : Mm) (h : j_X3_choose_33 N x0 x1 x2 M = some r) : TW X G 4 (RQ X G (some (.int r.1)) r.2 rm_X3_choose) 0 0 M 33 [(0, .ref x0), (1, .ref x1), (2, .ref x2)] [] := by
  unfold j_X3_choose_33 at h
  refine zt_iconst hC ki_1 dX3_choose_33 ?_
  refine zt_goto (tgt := 38) hC (by decide) dX3_choose_34 ?_
  refine zt_keep [0, 1, 2] rfl ?_
  exact w_X3_choose_38 N hC x0 x1 x2 (1 : Int32) M h
def f_X3_choose (N : Nat) (x0 : Nat) (x1 : Nat) (x2 : Nat) (M : Mm) : Option (Int32 × Mm) :=
gI 1 M x2 2 (fun v1 =>
gF M x0 (fun v2 =>
(if v2 < v1 then
j_X3_choose_33 N x0 x1 x2 M
else
gI 1 M x2 2 (fun v3 =>
gI 10 M x1 4 (fun v4 =>
(if v4 ≤ v3 then
j_X3_choose_33 N x0 x1 x2 M
else
gI 1 M x2 0 (fun v5 =>
ck 10 M x1 (bnd (f_X10_canComeTo N x1 v5 M) (fun v6 M7 =>
(if v6 = 0 then
j_X3_choose_33 N x0 x1 x2 M7
else
j_X3_choose_38 N x0 x1 x2 (0 : Int32) M7))))))))))
set_option maxRecDepth 100000 in
set_option maxHeartbeats 4000000 in
theorem c_X3_choose (N : Nat) (x0 : Nat) (x1 : Nat) (x2 : Nat) (M : Mm) (r : (Int32 × Mm)) (h : f_X3_choose N x0 x1 x2 M = some r) (l : Launch) (hfl : l.flags = flags0) {G : Gl} : MT l G yX3_choose cX3_choose 4 (some .int) rm_X3_choose [.ref x0, .ref x1, .ref x2] M (some (.int r.1)) r.2 := by
  unfold f_X3_choose at h
  refine zt_start hfl (lv := [(0, .ref x0), (1, .ref x1), (2, .ref x2)]) (by decide) (Nat.le_of_ble_eq_true rfl) rfl wd_511 (fun X hC _ => ?_)
  refine zt_aload_n hC rfl dX3_choose_0 ?_
  refine zt_gI hC h cl1 (k := 2) (by decide) rfl wd_80 (Or.inl rfl) dX3_choose_1 (fun v1 h => ?_)
  refine zt_aload_n hC rfl dX3_choose_4 ?_
  refine zt_gF hC h wd_53 (Or.inr wd_54) dX3_choose_5 (fun v2 h => ?_)
  refine zt_icmp_gt (tgt := 33) hC h (by decide) dX3_choose_8 (fun h => ?_) (fun h => ?_)
  · refine zt_keep [0, 1, 2] rfl ?_
    exact w_X3_choose_33 N hC x0 x1 x2 M h
  · refine zt_aload_n hC rfl dX3_choose_11 ?_
    refine zt_gI hC h cl1 (k := 2) (by decide) rfl wd_80 (Or.inl rfl) dX3_choose_12 (fun v3 h => ?_)
    refine zt_aload_n hC rfl dX3_choose_15 ?_
    refine zt_gI hC h cl10 (k := 4) (by decide) rfl wd_114 (Or.inl rfl) dX3_choose_16 (fun v4 h => ?_)
    refine zt_icmp_ge (tgt := 33) hC h (by decide) dX3_choose_19 (fun h => ?_) (fun h => ?_)
    · refine zt_keep [0, 1, 2] rfl ?_
      exact w_X3_choose_33 N hC x0 x1 x2 M h
    · refine zt_aload_n hC rfl dX3_choose_22 ?_
      refine zt_aload_n hC rfl dX3_choose_23 ?_
      refine zt_gI hC h cl1 (k := 0) (by decide) rfl wd_68 (Or.inl rfl) dX3_choose_24 (fun v5 h => ?_)
      obtain ⟨hk, h⟩ := ck_some h
      obtain ⟨v6, M7, h8, h⟩ := bnd_some h
      refine zt_callV (z := yX10_canComeTo) (As := [.int v5]) (rest := []) (st1 := (.int v6 :: [])) hC 1 hk cl10 (fun l hl => c_X10_canComeTo N x1 v5 M (v6, M7) h8 l hl) rfl wd_515 wd_512 wd_513 wd_514 wd_2 hd_X10_canComeTo rfl ⟨⟨(Nat.le_of_ble_eq_true rfl), (Nat.le_of_ble_eq_true rfl)⟩, (Nat.le_of_ble_eq_true rfl), (Nat.le_of_ble_eq_true rfl)⟩ rfl (Nat.le_of_ble_eq_true rfl) rfl dX3_choose_27 ?_
      refine zt_if_ne (tgt := 37) hC h (by decide) dX3_choose_30 (fun h => ?_) (fun h => ?_)
      · refine zt_iconst hC ki_0 dX3_choose_37 ?_
        refine zt_keep [0, 1, 2] rfl ?_
        exact w_X3_choose_38 N hC x0 x1 x2 (0 : Int32) M7 h
      · refine zt_keep [0, 1, 2] rfl ?_
        exact w_X3_choose_33 N hC x0 x1 x2 M7 h
def rm_X3_cost : Room := { frames := 1, cells := 0, slots := 0, locals := 20 }
theorem hd_X3_cost : yX3_cost.cls ≠ "java/lang/invoke/MethodHandle" ∧ yX3_cost.cls ≠ "java/lang/invoke/VarHandle" ∧ (parseMethodDescriptor yX3_cost.desc).map (fun d => d.parameters.length) = some 0 := by decide +kernel
def f_X3_cost (N : Nat) (x0 : Nat) (M : Mm) : Option (Int32 × Mm) :=
rq (isRule (M.1 x0).1 = true) (bnd (f_X6_cost N x0 M) (fun v1 M2 =>
gF M2 x0 (fun v4 =>
some ((v1 - v4), M2))))
set_option maxRecDepth 100000 in
set_option maxHeartbeats 4000000 in
theorem c_X3_cost (N : Nat) (x0 : Nat) (M : Mm) (r : (Int32 × Mm)) (h : f_X3_cost N x0 M = some r) (l : Launch) (hfl : l.flags = flags0) {G : Gl} : MT l G yX3_cost cX3_cost 1 (some .int) rm_X3_cost [.ref x0] M (some (.int r.1)) r.2 := by
  unfold f_X3_cost at h
  refine zt_start hfl (lv := [(0, .ref x0)]) (by decide) (Nat.le_of_ble_eq_true rfl) rfl wd_819 (fun X hC _ => ?_)
  refine zt_aload_n hC rfl dX3_cost_0 ?_
  obtain ⟨hk, h⟩ := rq_some h
  obtain ⟨ci, C, T, hk, hcl, -, -, -⟩ := rule_cl hk
  obtain ⟨v1, M2, h3, h⟩ := bnd_some h
  refine zt_callSU (z := yX6_cost) (As := []) (rest := []) (st1 := (.int v1 :: [])) hC 0 hk hcl (fun l hl => c_X6_cost N x0 M (v1, M2) h3 l hl) wd_830 wd_820 wd_805 wd_517 wd_803 wd_4 hds_X6_cost rfl ⟨⟨(Nat.le_of_ble_eq_true rfl), (Nat.le_of_ble_eq_true rfl)⟩, (Nat.le_of_ble_eq_true rfl), (Nat.le_of_ble_eq_true rfl)⟩ rfl (Nat.le_of_ble_eq_true rfl) rfl dX3_cost_1 ?_
  refine zt_aload_n hC rfl dX3_cost_4 ?_
  refine zt_gF hC h wd_53 (Or.inr wd_54) dX3_cost_5 (fun v4 h => ?_)
  refine zt_isub hC dX3_cost_8 ?_
  obtain rfl := Option.some.inj h
  exact zt_iret hC rfl rfl (Nat.le_of_ble_eq_true rfl) (Nat.le_of_ble_eq_true rfl) dX3_cost_9
def rm_X3_canFail : Room := { frames := 0, cells := 0, slots := 0, locals := 0 }
theorem hd_X3_canFail : yX3_canFail.cls ≠ "java/lang/invoke/MethodHandle" ∧ yX3_canFail.cls ≠ "java/lang/invoke/VarHandle" ∧ (parseMethodDescriptor yX3_canFail.desc).map (fun d => d.parameters.length) = some 0 := by decide +kernel
def f_X3_canFail (N : Nat) (x0 : Nat) (M : Mm) : Option (Int32 × Mm) :=
some ((0 : Int32), M)
set_option maxRecDepth 100000 in
set_option maxHeartbeats 4000000 in
theorem c_X3_canFail (N : Nat) (x0 : Nat) (M : Mm) (r : (Int32 × Mm)) (h : f_X3_canFail N x0 M = some r) (l : Launch) (hfl : l.flags = flags0) {G : Gl} : MT l G yX3_canFail cX3_canFail 1 (some .boolean) rm_X3_canFail [.ref x0] M (some (.int r.1)) r.2 := by
  unfold f_X3_canFail at h
  refine zt_start hfl (lv := [(0, .ref x0)]) (by decide) (Nat.le_of_ble_eq_true rfl) rfl wd_846 (fun X hC _ => ?_)
  refine zt_iconst hC ki_0 dX3_canFail_0 ?_
  obtain rfl := Option.some.inj h
  exact zt_zret hC rfl rfl (Or.inl rfl) (Nat.le_of_ble_eq_true rfl) (Nat.le_of_ble_eq_true rfl) dX3_canFail_1
def rm_X4_kind : Room := { frames := 0, cells := 0, slots := 0, locals := 0 }
theorem hd_X4_kind : yX4_kind.cls ≠ "java/lang/invoke/MethodHandle" ∧ yX4_kind.cls ≠ "java/lang/invoke/VarHandle" ∧ (parseMethodDescriptor yX4_kind.desc).map (fun d => d.parameters.length) = some 0 := by decide +kernel
theorem hds_X4_kind : yX4_kind.name ≠ "<init>" ∧ (parseMethodDescriptor yX4_kind.desc).map (fun d => d.parameters.length) = some 0 := by decide +kernel
def f_X4_kind (N : Nat) (x0 : Nat) (M : Mm) : Option (Int32 × Mm) :=
some ((2 : Int32), M)
set_option maxRecDepth 100000 in
set_option maxHeartbeats 4000000 in
theorem c_X4_kind (N : Nat) (x0 : Nat) (M : Mm) (r : (Int32 × Mm)) (h : f_X4_kind N x0 M = some r) (l : Launch) (hfl : l.flags = flags0) {G : Gl} : MT l G yX4_kind cX4_kind 1 (some .int) rm_X4_kind [.ref x0] M (some (.int r.1)) r.2 := by
  unfold f_X4_kind at h
  refine zt_start hfl (lv := [(0, .ref x0)]) (by decide) (Nat.le_of_ble_eq_true rfl) rfl wd_426 (fun X hC _ => ?_)
  refine zt_iconst hC ki_2 dX4_kind_0 ?_
  obtain rfl := Option.some.inj h
  exact zt_iret hC rfl rfl (Nat.le_of_ble_eq_true rfl) (Nat.le_of_ble_eq_true rfl) dX4_kind_1
def rm_X10_sinceStands : Room := { frames := 1, cells := 0, slots := 0, locals := 23 }
theorem hd_X10_sinceStands : yX10_sinceStands.cls ≠ "java/lang/invoke/MethodHandle" ∧ yX10_sinceStands.cls ≠ "java/lang/invoke/VarHandle" ∧ (parseMethodDescriptor yX10_sinceStands.desc).map (fun d => d.parameters.length) = some 2 := by decide +kernel
def f_X10_sinceStands (N : Nat) (x0 : Nat) (x1 : Int32) (x2 : Int32) (M : Mm) : Option (Int32 × Mm) :=
gI 10 M x0 6 (fun v1 =>
gR 10 M x0 11 (fun v2 =>
bnd (f_X11_at N v2 ((x1 * (12 : Int32)) + x2) M) (fun v3 M4 =>
ck 10 M4 x0 (bnd (f_X10_ofSort N x0 v3 (3 : Int32) M4) (fun v6 M7 =>
gR 10 M7 x0 12 (fun v9 =>
bnd (f_X11_at N v9 ((x1 * (12 : Int32)) + x2) M7) (fun v10 M11 =>
some (((v1 + v6) - v10), M11))))))))
set_option maxRecDepth 100000 in
set_option maxHeartbeats 4000000 in
theorem c_X10_sinceStands (N : Nat) (x0 : Nat) (x1 : Int32) (x2 : Int32) (M : Mm) (r : (Int32 × Mm)) (h : f_X10_sinceStands N x0 x1 x2 M = some r) (l : Launch) (hfl : l.flags = flags0) {G : Gl} : MT l G yX10_sinceStands cX10_sinceStands 4 (some .int) rm_X10_sinceStands [.ref x0, .int x1, .int x2] M (some (.int r.1)) r.2 := by
  unfold f_X10_sinceStands at h
  refine zt_start hfl (lv := [(0, .ref x0), (1, .int x1), (2, .int x2)]) (by decide) (Nat.le_of_ble_eq_true rfl) rfl wd_508 (fun X hC _ => ?_)
  refine zt_iload_n hC rfl dX10_sinceStands_0 ?_
  refine zt_bipush hC kb_12 dX10_sinceStands_1 ?_
  refine zt_imul hC dX10_sinceStands_3 ?_
  refine zt_iload_n hC rfl dX10_sinceStands_4 ?_
  refine zt_iadd hC dX10_sinceStands_5 ?_
  refine zt_istore_n (lv' := [(3, .int ((x1 * (12 : Int32)) + x2)), (0, .ref x0), (1, .int x1), (2, .int x2)]) hC (by decide) rfl dX10_sinceStands_6 ?_
  refine zt_aload_n hC rfl dX10_sinceStands_7 ?_
  refine zt_gI hC h cl10 (k := 6) (by decide) rfl wd_118 (Or.inl rfl) dX10_sinceStands_8 (fun v1 h => ?_)
  refine zt_aload_n hC rfl dX10_sinceStands_11 ?_
  refine zt_aload_n hC rfl dX10_sinceStands_12 ?_
  refine zt_gR hC h cl10 (k := 11) (by decide) rfl wd_128 (Or.inl rfl) dX10_sinceStands_13 (fun v2 h => ?_)
  refine zt_iload_n hC rfl dX10_sinceStands_16 ?_
  obtain ⟨v3, M4, h5, h⟩ := bnd_some h
  refine zt_callSN (z := yX11_at) (As := [.ref v2, .int ((x1 * (12 : Int32)) + x2)]) (rest := [.ref x0, .int v1]) (st1 := (.int v3 :: [.ref x0, .int v1])) hC 2 (fun l hl => c_X11_at N v2 ((x1 * (12 : Int32)) + x2) M (v3, M4) h5 l hl) wd_379 (by decide) wd_378 wd_1 hd_X11_at rfl ⟨⟨(Nat.le_of_ble_eq_true rfl), (Nat.le_of_ble_eq_true rfl)⟩, (Nat.le_of_ble_eq_true rfl), (Nat.le_of_ble_eq_true rfl)⟩ rfl (Nat.le_of_ble_eq_true rfl) rfl dX10_sinceStands_17 ?_
  refine zt_iconst hC ki_3 dX10_sinceStands_20 ?_
  obtain ⟨hk, h⟩ := ck_some h
  obtain ⟨v6, M7, h8, h⟩ := bnd_some h
  refine zt_callV (z := yX10_ofSort) (As := [.int v3, .int (3 : Int32)]) (rest := [.int v1]) (st1 := (.int v6 :: [.int v1])) hC 2 hk cl10 (fun l hl => c_X10_ofSort N x0 v3 (3 : Int32) M4 (v6, M7) h8 l hl) rfl wd_346 wd_343 wd_344 wd_345 wd_2 hd_X10_ofSort rfl ⟨⟨(Nat.le_of_ble_eq_true rfl), (Nat.le_of_ble_eq_true rfl)⟩, (Nat.le_of_ble_eq_true rfl), (Nat.le_of_ble_eq_true rfl)⟩ rfl (Nat.le_of_ble_eq_true rfl) rfl dX10_sinceStands_21 ?_
  refine zt_iadd hC dX10_sinceStands_24 ?_
  refine zt_aload_n hC rfl dX10_sinceStands_25 ?_
  refine zt_gR hC h cl10 (k := 12) (by decide) rfl wd_129 (Or.inl rfl) dX10_sinceStands_26 (fun v9 h => ?_)
  refine zt_iload_n hC rfl dX10_sinceStands_29 ?_
  obtain ⟨v10, M11, h12, h⟩ := bnd_some h
  refine zt_callSN (z := yX11_at) (As := [.ref v9, .int ((x1 * (12 : Int32)) + x2)]) (rest := [.int (v1 + v6)]) (st1 := (.int v10 :: [.int (v1 + v6)])) hC 2 (fun l hl => c_X11_at N v9 ((x1 * (12 : Int32)) + x2) M7 (v10, M11) h12 l hl) wd_379 (by decide) wd_378 wd_1 hd_X11_at rfl ⟨⟨(Nat.le_of_ble_eq_true rfl), (Nat.le_of_ble_eq_true rfl)⟩, (Nat.le_of_ble_eq_true rfl), (Nat.le_of_ble_eq_true rfl)⟩ rfl (Nat.le_of_ble_eq_true rfl) rfl dX10_sinceStands_30 ?_
  refine zt_isub hC dX10_sinceStands_33 ?_
  obtain rfl := Option.some.inj h
  exact zt_iret hC rfl rfl (Nat.le_of_ble_eq_true rfl) (Nat.le_of_ble_eq_true rfl) dX10_sinceStands_34
def rm_X4_calling : Room := { frames := 2, cells := 0, slots := 0, locals := 46 }
theorem hd_X4_calling : yX4_calling.cls ≠ "java/lang/invoke/MethodHandle" ∧ yX4_calling.cls ≠ "java/lang/invoke/VarHandle" ∧ (parseMethodDescriptor yX4_calling.desc).map (fun d => d.parameters.length) = some 2 := by decide +kernel
theorem hds_X4_calling : yX4_calling.name ≠ "<init>" ∧ (parseMethodDescriptor yX4_calling.desc).map (fun d => d.parameters.length) = some 2 := by decide +kernel
def b_X4_calling_13 (N : Nat) (k13 : Nat → Nat → Int32 → Int32 → Int32 → Mm → Option (Int32 × Mm)) (x1 : Nat) (x2 : Nat) (x3 : Int32) (x4 : Int32) (x5 : Int32) (M : Mm) : Option (Int32 × Mm) :=
gI 10 M x1 0 (fun v1 =>
(if v1 ≤ x5 then
some (x3, M)
else
gI 1 M x2 0 (fun v2 =>
(if x5 = v2 then
k13 x1 x2 x3 x4 (x5 + (1 : Int32)) M
else
ck 10 M x1 (bnd (f_X10_standingAt N x1 x5 M) (fun v3 M4 =>
(if v3 ≤ 0 then
k13 x1 x2 x3 x4 (x5 + (1 : Int32)) M4
else
ck 10 M4 x1 (bnd (f_X10_sinceStands N x1 x5 (0 : Int32) M4) (fun v6 M7 =>
(if v6 ≤ x4 then
k13 x1 x2 x3 x4 (x5 + (1 : Int32)) M7
else
ck 10 M7 x1 (bnd (f_X10_sinceStands N x1 x5 (0 : Int32) M7) (fun v9 M10 =>
k13 x1 x2 x5 v9 (x5 + (1 : Int32)) M10))))))))))))
def l_X4_calling_13 (N : Nat) : Nat → Nat → Nat → Int32 → Int32 → Int32 → Mm → Option (Int32 × Mm)
  | 0 => fun _ _ _ _ _ _ => none
  | n + 1 => b_X4_calling_13 N (l_X4_calling_13 N n)
set_option maxRecDepth 100000 in
set_option maxHeartbeats 4000000 in
theorem v_X4_calling_13 {X : Cx} {G : Gl} {r : (Int32 × Mm)} (N : Nat) (hC : CX X G yX4_calling cX4_calling 6 (some .int) rm_X4_calling) (k13 : Nat → Nat → Int32 → Int32 → Int32 → Mm → Option (Int32 × Mm)) (hk13 : ∀ (x1 : Nat) (x2 : Nat) (x3 : Int32) (x4 : Int32) (x5 : Int32) (M : Mm), k13 x1 x2 x3 x4 x5 M = some r → TW X G 6 (RQ X G (some (.int r.1)) r.2 rm_X4_calling) 0 0 M 13 [(1, .ref x1), (2, .ref x2), (3, .int x3), (4, .int x4), (5, .int x5)] []) (x1 : Nat) (x2 : Nat) (x3 : Int32) (x4 : Int32) (x5 : Int32) (M : Mm) (h : b_X4_calling_13 N k13 x1 x2 x3 x4 x5 M = some r) : TW X G 6 (RQ X G (some (.int r.1)) r.2 rm_X4_calling) 0 0 M 13 [(1, .ref x1), (2, .ref x2), (3, .int x3), (4, .int x4), (5, .int x5)] [] := by
  unfold b_X4_calling_13 at h
  refine zt_iload hC rfl dX4_calling_13 ?_
  refine zt_aload_n hC rfl dX4_calling_15 ?_
  refine zt_gI hC h cl10 (k := 0) (by decide) rfl wd_107 (Or.inl rfl) dX4_calling_16 (fun v1 h => ?_)
  refine zt_icmp_ge (tgt := 70) hC h (by decide) dX4_calling_19 (fun h => ?_) (fun h => ?_)
  · refine zt_iload_n hC rfl dX4_calling_70 ?_
    obtain rfl := Option.some.inj h
    exact zt_iret hC rfl rfl (Nat.le_of_ble_eq_true rfl) (Nat.le_of_ble_eq_true rfl) dX4_calling_71
  · refine zt_iload hC rfl dX4_calling_22 ?_
    refine zt_aload_n hC rfl dX4_calling_24 ?_
    refine zt_gI hC h cl1 (k := 0) (by decide) rfl wd_70 (Or.inl rfl) dX4_calling_25 (fun v2 h => ?_)
    refine zt_icmp_eq (tgt := 64) hC h (by decide) dX4_calling_28 (fun h => ?_) (fun h => ?_)
    · refine zt_iinc (v := (x5 + (1 : Int32))) (lv' := [(5, .int (x5 + (1 : Int32))), (1, .ref x1), (2, .ref x2), (3, .int x3), (4, .int x4)]) hC rfl (by rw [ki_1]) (by decide) rfl dX4_calling_64 ?_
      refine zt_goto (tgt := 13) hC (by decide) dX4_calling_67 ?_
      refine zt_keep [1, 2, 3, 4, 5] rfl ?_
      exact hk13 x1 x2 x3 x4 (x5 + (1 : Int32)) M h
    · refine zt_aload_n hC rfl dX4_calling_31 ?_
      refine zt_iload hC rfl dX4_calling_32 ?_
      obtain ⟨hk, h⟩ := ck_some h
      obtain ⟨v3, M4, h5, h⟩ := bnd_some h
      refine zt_callV (z := yX10_standingAt) (As := [.int x5]) (rest := []) (st1 := (.int v3 :: [])) hC 1 hk cl10 (fun l hl => c_X10_standingAt N x1 x5 M (v3, M4) h5 l hl) rfl wd_456 wd_504 wd_454 wd_455 wd_2 hd_X10_standingAt rfl ⟨⟨(Nat.le_of_ble_eq_true rfl), (Nat.le_of_ble_eq_true rfl)⟩, (Nat.le_of_ble_eq_true rfl), (Nat.le_of_ble_eq_true rfl)⟩ rfl (Nat.le_of_ble_eq_true rfl) rfl dX4_calling_34 ?_
      refine zt_if_le (tgt := 64) hC h (by decide) dX4_calling_37 (fun h => ?_) (fun h => ?_)
      · refine zt_iinc (v := (x5 + (1 : Int32))) (lv' := [(5, .int (x5 + (1 : Int32))), (1, .ref x1), (2, .ref x2), (3, .int x3), (4, .int x4)]) hC rfl (by rw [ki_1]) (by decide) rfl dX4_calling_64 ?_
        refine zt_goto (tgt := 13) hC (by decide) dX4_calling_67 ?_
        refine zt_keep [1, 2, 3, 4, 5] rfl ?_
        exact hk13 x1 x2 x3 x4 (x5 + (1 : Int32)) M4 h
      · refine zt_aload_n hC rfl dX4_calling_40 ?_
        refine zt_iload hC rfl dX4_calling_41 ?_
        refine zt_iconst hC ki_0 dX4_calling_43 ?_
        obtain ⟨hk, h⟩ := ck_some h
        obtain ⟨v6, M7, h8, h⟩ := bnd_some h
        refine zt_callV (z := yX10_sinceStands) (As := [.int x5, .int (0 : Int32)]) (rest := []) (st1 := (.int v6 :: [])) hC 2 hk cl10 (fun l hl => c_X10_sinceStands N x1 x5 (0 : Int32) M4 (v6, M7) h8 l hl) rfl wd_508 wd_505 wd_506 wd_507 wd_2 hd_X10_sinceStands rfl ⟨⟨(Nat.le_of_ble_eq_true rfl), (Nat.le_of_ble_eq_true rfl)⟩, (Nat.le_of_ble_eq_true rfl), (Nat.le_of_ble_eq_true rfl)⟩ rfl (Nat.le_of_ble_eq_true rfl) rfl dX4_calling_44 ?_
        refine zt_iload hC rfl dX4_calling_47 ?_
        refine zt_icmp_le (tgt := 64) hC h (by decide) dX4_calling_49 (fun h => ?_) (fun h => ?_)
        · refine zt_iinc (v := (x5 + (1 : Int32))) (lv' := [(5, .int (x5 + (1 : Int32))), (1, .ref x1), (2, .ref x2), (3, .int x3), (4, .int x4)]) hC rfl (by rw [ki_1]) (by decide) rfl dX4_calling_64 ?_
          refine zt_goto (tgt := 13) hC (by decide) dX4_calling_67 ?_
          refine zt_keep [1, 2, 3, 4, 5] rfl ?_
          exact hk13 x1 x2 x3 x4 (x5 + (1 : Int32)) M7 h
        · refine zt_aload_n hC rfl dX4_calling_52 ?_
          refine zt_iload hC rfl dX4_calling_53 ?_
          refine zt_iconst hC ki_0 dX4_calling_55 ?_
          obtain ⟨hk, h⟩ := ck_some h
          obtain ⟨v9, M10, h11, h⟩ := bnd_some h
          refine zt_callV (z := yX10_sinceStands) (As := [.int x5, .int (0 : Int32)]) (rest := []) (st1 := (.int v9 :: [])) hC 2 hk cl10 (fun l hl => c_X10_sinceStands N x1 x5 (0 : Int32) M7 (v9, M10) h11 l hl) rfl wd_508 wd_505 wd_506 wd_507 wd_2 hd_X10_sinceStands rfl ⟨⟨(Nat.le_of_ble_eq_true rfl), (Nat.le_of_ble_eq_true rfl)⟩, (Nat.le_of_ble_eq_true rfl), (Nat.le_of_ble_eq_true rfl)⟩ rfl (Nat.le_of_ble_eq_true rfl) rfl dX4_calling_56 ?_
          refine zt_istore (lv' := [(4, .int v9), (1, .ref x1), (2, .ref x2), (3, .int x3), (5, .int x5)]) hC (by decide) rfl dX4_calling_59 ?_
          refine zt_iload hC rfl dX4_calling_61 ?_
          refine zt_istore_n (lv' := [(3, .int x5), (4, .int v9), (1, .ref x1), (2, .ref x2), (5, .int x5)]) hC (by decide) rfl dX4_calling_63 ?_
          refine zt_iinc (v := (x5 + (1 : Int32))) (lv' := [(5, .int (x5 + (1 : Int32))), (3, .int x5), (4, .int v9), (1, .ref x1), (2, .ref x2)]) hC rfl (by rw [ki_1]) (by decide) rfl dX4_calling_64 ?_
          refine zt_goto (tgt := 13) hC (by decide) dX4_calling_67 ?_
          refine zt_keep [1, 2, 3, 4, 5] rfl ?_
          exact hk13 x1 x2 x5 v9 (x5 + (1 : Int32)) M10 h
theorem w_X4_calling_13 {X : Cx} {G : Gl} {r : (Int32 × Mm)} (N : Nat) (hC : CX X G yX4_calling cX4_calling 6 (some .int) rm_X4_calling) (n : Nat) : ∀ (x1 : Nat) (x2 : Nat) (x3 : Int32) (x4 : Int32) (x5 : Int32) (M : Mm), l_X4_calling_13 N n x1 x2 x3 x4 x5 M = some r → TW X G 6 (RQ X G (some (.int r.1)) r.2 rm_X4_calling) 0 0 M 13 [(1, .ref x1), (2, .ref x2), (3, .int x3), (4, .int x4), (5, .int x5)] [] := by
  induction n with
  | zero => intro  x1 x2 x3 x4 x5 M h; cases (show none = some r from h)
  | succ n ih => intro  x1 x2 x3 x4 x5 M h; exact v_X4_calling_13 N hC (l_X4_calling_13 N n) ih x1 x2 x3 x4 x5 M h
def f_X4_calling (N : Nat) (x0 : Nat) (x1 : Nat) (x2 : Nat) (M : Mm) : Option (Int32 × Mm) :=
gF M x0 (fun v1 =>
l_X4_calling_13 N N x1 x2 (-1 : Int32) (v1 - (1 : Int32)) (0 : Int32) M)
set_option maxRecDepth 100000 in
set_option maxHeartbeats 4000000 in
theorem c_X4_calling (N : Nat) (x0 : Nat) (x1 : Nat) (x2 : Nat) (M : Mm) (r : (Int32 × Mm)) (h : f_X4_calling N x0 x1 x2 M = some r) (l : Launch) (hfl : l.flags = flags0) {G : Gl} : MT l G yX4_calling cX4_calling 6 (some .int) rm_X4_calling [.ref x0, .ref x1, .ref x2] M (some (.int r.1)) r.2 := by
  unfold f_X4_calling at h
  refine zt_start hfl (lv := [(0, .ref x0), (1, .ref x1), (2, .ref x2)]) (by decide) (Nat.le_of_ble_eq_true rfl) rfl wd_503 (fun X hC _ => ?_)
  refine zt_iconst hC ki_m1 dX4_calling_0 ?_
  refine zt_istore_n (lv' := [(3, .int (-1 : Int32)), (0, .ref x0), (1, .ref x1), (2, .ref x2)]) hC (by decide) rfl dX4_calling_1 ?_
  refine zt_aload_n hC rfl dX4_calling_2 ?_
  refine zt_gF hC h wd_57 (Or.inr wd_58) dX4_calling_3 (fun v1 h => ?_)
  refine zt_iconst hC ki_1 dX4_calling_6 ?_
  refine zt_isub hC dX4_calling_7 ?_
  refine zt_istore (lv' := [(4, .int (v1 - (1 : Int32))), (3, .int (-1 : Int32)), (0, .ref x0), (1, .ref x1), (2, .ref x2)]) hC (by decide) rfl dX4_calling_8 ?_
  refine zt_iconst hC ki_0 dX4_calling_10 ?_
  refine zt_istore (lv' := [(5, .int (0 : Int32)), (4, .int (v1 - (1 : Int32))), (3, .int (-1 : Int32)), (0, .ref x0), (1, .ref x1), (2, .ref x2)]) hC (by decide) rfl dX4_calling_11 ?_
  refine zt_keep [1, 2, 3, 4, 5] rfl ?_
  exact w_X4_calling_13 N hC N x1 x2 (-1 : Int32) (v1 - (1 : Int32)) (0 : Int32) M h
def d_Lie_calling (N : Nat) (a : Nat) (p0 : Nat) (p1 : Nat) (M : Mm) : Option (Int32 × Mm) := (if (M.1 a).1 = 4 + 4 then f_X4_calling N a p0 p1 M else (if (M.1 a).1 = 0 + 4 then f_X2_calling N a p0 p1 M else (if (M.1 a).1 = 2 + 4 then f_X2_calling N a p0 p1 M else none)))
theorem d_Lie_calling_some {N : Nat} {a : Nat} {p0 : Nat} {p1 : Nat} {M : Mm} {r : Int32 × Mm} (h : d_Lie_calling N a p0 p1 M = some r) : ((M.1 a).1 = 4 + 4 ∧ f_X4_calling N a p0 p1 M = some r) ∨ ((M.1 a).1 = 0 + 4 ∧ f_X2_calling N a p0 p1 M = some r) ∨ ((M.1 a).1 = 2 + 4 ∧ f_X2_calling N a p0 p1 M = some r) := by
  unfold d_Lie_calling at h
  rcases ite_or h with ⟨c, h⟩ | ⟨c, h⟩
  · exact Or.inl ⟨c, h⟩
  · clear c
    rcases ite_or h with ⟨c, h⟩ | ⟨c, h⟩
    · exact Or.inr (Or.inl ⟨c, h⟩)
    · clear c
      rcases ite_or h with ⟨c, h⟩ | ⟨c, h⟩
      · exact Or.inr (Or.inr (⟨c, h⟩))
      · cases h
theorem hdo_d_Lie_calling : ("FerryBells$Lie" : String) ≠ "java/lang/invoke/MethodHandle" ∧ ("FerryBells$Lie" : String) ≠ "java/lang/invoke/VarHandle" ∧ (parseMethodDescriptor "(LFerryBells$World;LFerryBells$Boat;)I").map (fun d => d.parameters.length) = some 2 := by decide +kernel
def rm_X4_choose : Room := { frames := 3, cells := 0, slots := 0, locals := 71 }
theorem hd_X4_choose : yX4_choose.cls ≠ "java/lang/invoke/MethodHandle" ∧ yX4_choose.cls ≠ "java/lang/invoke/VarHandle" ∧ (parseMethodDescriptor yX4_choose.desc).map (fun d => d.parameters.length) = some 2 := by decide +kernel
theorem hds_X4_choose : yX4_choose.name ≠ "<init>" ∧ (parseMethodDescriptor yX4_choose.desc).map (fun d => d.parameters.length) = some 2 := by decide +kernel
def f_X4_choose (N : Nat) (x0 : Nat) (x1 : Nat) (x2 : Nat) (M : Mm) : Option (Int32 × Mm) :=
gI 1 M x2 2 (fun v1 =>
(if v1 ≤ 0 then
bnd (d_Lie_calling N x0 x1 x2 M) (fun v2 M3 =>
some (v2, M3))
else
rq (isRule (M.1 x0).1 = true) (bnd (f_X6_choose N x0 x1 x2 M) (fun v5 M6 =>
some (v5, M6)))))
set_option maxRecDepth 100000 in
set_option maxHeartbeats 4000000 in
theorem c_X4_choose (N : Nat) (x0 : Nat) (x1 : Nat) (x2 : Nat) (M : Mm) (r : (Int32 × Mm)) (h : f_X4_choose N x0 x1 x2 M = some r) (l : Launch) (hfl : l.flags = flags0) {G : Gl} : MT l G yX4_choose cX4_choose 3 (some .int) rm_X4_choose [.ref x0, .ref x1, .ref x2] M (some (.int r.1)) r.2 := by
  unfold f_X4_choose at h
  refine zt_start hfl (lv := [(0, .ref x0), (1, .ref x1), (2, .ref x2)]) (by decide) (Nat.le_of_ble_eq_true rfl) rfl wd_494 (fun X hC _ => ?_)
  refine zt_aload_n hC rfl dX4_choose_0 ?_
  refine zt_gI hC h cl1 (k := 2) (by decide) rfl wd_79 (Or.inl rfl) dX4_choose_1 (fun v1 h => ?_)
  refine zt_if_le (tgt := 16) hC h (by decide) dX4_choose_4 (fun h => ?_) (fun h => ?_)
  · refine zt_aload_n hC rfl dX4_choose_16 ?_
    refine zt_aload_n hC rfl dX4_choose_17 ?_
    refine zt_aload_n hC rfl dX4_choose_18 ?_
    obtain ⟨v2, M3, h4, h⟩ := bnd_some h
    have kk : TW X G 3 (RQ X G (some (.int r.1)) r.2 rm_X4_choose) 0 0 M3 22 [(0, .ref x0), (1, .ref x1), (2, .ref x2)] (.int v2 :: []) := by
      obtain rfl := Option.some.inj h
      exact zt_iret hC rfl rfl (Nat.le_of_ble_eq_true rfl) (Nat.le_of_ble_eq_true rfl) dX4_choose_22
    rcases d_Lie_calling_some h4 with ⟨hk, h4⟩ | ⟨hk, h4⟩ | ⟨hk, h4⟩
    · exact zt_callO (z := yX4_calling) (As := [.ref x1, .ref x2]) (rest := []) (st1 := (.int v2 :: [])) hC 2 hk cl4 (fun l hl => c_X4_calling N x0 x1 x2 M (v2, M3) h4 l hl) wd_503 wd_497 wd_500 wd_498 wd_503 wd_499 wd_498 wd_10 hdo_d_Lie_calling rfl ⟨⟨(Nat.le_of_ble_eq_true rfl), (Nat.le_of_ble_eq_true rfl)⟩, (Nat.le_of_ble_eq_true rfl), (Nat.le_of_ble_eq_true rfl)⟩ rfl (Nat.le_of_ble_eq_true rfl) rfl dX4_choose_19 kk
    · exact zt_callO (z := yX2_calling) (As := [.ref x1, .ref x2]) (rest := []) (st1 := (.int v2 :: [])) hC 2 hk cl0 (fun l hl => c_X2_calling N x0 x1 x2 M (v2, M3) h4 l hl) wd_485 wd_497 wd_500 wd_498 wd_503 wd_501 wd_484 wd_11 hdo_d_Lie_calling rfl ⟨⟨(Nat.le_of_ble_eq_true rfl), (Nat.le_of_ble_eq_true rfl)⟩, (Nat.le_of_ble_eq_true rfl), (Nat.le_of_ble_eq_true rfl)⟩ rfl (Nat.le_of_ble_eq_true rfl) rfl dX4_choose_19 kk
    · exact zt_callO (z := yX2_calling) (As := [.ref x1, .ref x2]) (rest := []) (st1 := (.int v2 :: [])) hC 2 hk cl2 (fun l hl => c_X2_calling N x0 x1 x2 M (v2, M3) h4 l hl) wd_485 wd_497 wd_500 wd_498 wd_503 wd_502 wd_484 wd_11 hdo_d_Lie_calling rfl ⟨⟨(Nat.le_of_ble_eq_true rfl), (Nat.le_of_ble_eq_true rfl)⟩, (Nat.le_of_ble_eq_true rfl), (Nat.le_of_ble_eq_true rfl)⟩ rfl (Nat.le_of_ble_eq_true rfl) rfl dX4_choose_19 kk
  · refine zt_aload_n hC rfl dX4_choose_7 ?_
    refine zt_aload_n hC rfl dX4_choose_8 ?_
    refine zt_aload_n hC rfl dX4_choose_9 ?_
    obtain ⟨hk, h⟩ := rq_some h
    obtain ⟨ci, C, T, hk, hcl, -, -, -⟩ := rule_cl hk
    obtain ⟨v5, M6, h7, h⟩ := bnd_some h
    refine zt_callSU (z := yX6_choose) (As := [.ref x1, .ref x2]) (rest := []) (st1 := (.int v5 :: [])) hC 2 hk hcl (fun l hl => c_X6_choose N x0 x1 x2 M (v5, M6) h7 l hl) wd_531 wd_495 wd_476 wd_496 wd_474 wd_4 hds_X6_choose rfl ⟨⟨(Nat.le_of_ble_eq_true rfl), (Nat.le_of_ble_eq_true rfl)⟩, (Nat.le_of_ble_eq_true rfl), (Nat.le_of_ble_eq_true rfl)⟩ rfl (Nat.le_of_ble_eq_true rfl) rfl dX4_choose_10 ?_
    refine zt_goto (tgt := 22) hC (by decide) dX4_choose_13 ?_
    obtain rfl := Option.some.inj h
    exact zt_iret hC rfl rfl (Nat.le_of_ble_eq_true rfl) (Nat.le_of_ble_eq_true rfl) dX4_choose_22
def rm_X5_init : Room := { frames := 1, cells := 1, slots := 5, locals := 24 }
theorem hd_X5_init : yX5_init.cls ≠ "java/lang/invoke/MethodHandle" ∧ yX5_init.cls ≠ "java/lang/invoke/VarHandle" ∧ (parseMethodDescriptor yX5_init.desc).map (fun d => d.parameters.length) = some 0 := by decide +kernel
def f_X5_init (N : Nat) (x0 : Nat) (M : Mm) : Option (Unit × Mm) :=
pR 5 M x0 0 none (fun M1 =>
pI 5 M1 x0 1 (0 : Int32) (fun M2 =>
pI 5 M2 x0 2 (0 : Int32) (fun M3 =>
pI 5 M3 x0 3 (0 : Int32) (fun M4 =>
pI 5 M4 x0 4 (0 : Int32) (fun M5 =>
nwo 1 5 M5 (fun a7 M6 =>
pR 5 M6 x0 5 (some a7) (fun M8 =>
some ((), M8))))))))
set_option maxRecDepth 100000 in
set_option maxHeartbeats 4000000 in
theorem c_X5_init (N : Nat) (x0 : Nat) (M : Mm) (r : (Unit × Mm)) (h : f_X5_init N x0 M = some r) (l : Launch) (hfl : l.flags = flags0) {G : Gl} : MT l G yX5_init cX5_init 1 none rm_X5_init [.ref x0] M none r.2 := by
  unfold f_X5_init at h
  refine zt_start hfl (lv := [(0, .ref x0)]) (by decide) (Nat.le_of_ble_eq_true rfl) rfl wd_180 (fun X hC _ => ?_)
  refine zt_aload_n hC rfl dX5_init_0 ?_
  refine zt_objI (rest := []) hC wd_181 wd_28 wd_29 rfl (Nat.le_of_ble_eq_true rfl) (Nat.le_of_ble_eq_true rfl) dX5_init_1 ?_
  refine zt_aload_n hC rfl dX5_init_4 ?_
  refine zt_null hC dX5_init_5 ?_
  refine zt_pR hC h rfl cl5 (k := 0) (by decide) rfl wd_182 (Or.inl rfl) (Or.inl rfl) dX5_init_6 (fun M1 h => ?_)
  refine zt_aload_n hC rfl dX5_init_9 ?_
  refine zt_iconst hC ki_0 dX5_init_10 ?_
  refine zt_pI hC h cl5 (k := 1) (by decide) rfl wd_183 (Or.inl rfl) (Or.inl rfl) dX5_init_11 (fun M2 h => ?_)
  refine zt_aload_n hC rfl dX5_init_14 ?_
  refine zt_iconst hC ki_0 dX5_init_15 ?_
  refine zt_pI hC h cl5 (k := 2) (by decide) rfl wd_184 (Or.inl rfl) (Or.inl rfl) dX5_init_16 (fun M3 h => ?_)
  refine zt_aload_n hC rfl dX5_init_19 ?_
  refine zt_iconst hC ki_0 dX5_init_20 ?_
  refine zt_pI hC h cl5 (k := 3) (by decide) rfl wd_186 (Or.inl rfl) (Or.inl rfl) dX5_init_21 (fun M4 h => ?_)
  refine zt_aload_n hC rfl dX5_init_24 ?_
  refine zt_iconst hC ki_0 dX5_init_25 ?_
  refine zt_pI hC h cl5 (k := 4) (by decide) rfl wd_188 (Or.inl rfl) (Or.inl rfl) dX5_init_26 (fun M5 h => ?_)
  refine zt_aload_n hC rfl dX5_init_29 ?_
  refine zt_iconst hC ki_5 dX5_init_30 ?_
  refine zt_newao (N := 5) hC h wd_65 (by decide) (by decide) (by decide) (Nat.le_of_ble_eq_true rfl) (Nat.le_of_ble_eq_true rfl) dX5_init_31 (fun a7 M6 h => ?_)
  refine zt_pR hC h rfl cl5 (k := 5) (by decide) rfl wd_189 (Or.inl rfl) (Or.inr ⟨rfl, rfl, rfl⟩) dX5_init_33 (fun M8 h => ?_)
  obtain rfl := Option.some.inj h
  exact zt_vret hC rfl rfl (Nat.le_of_ble_eq_true rfl) (Nat.le_of_ble_eq_true rfl) dX5_init_36
def rm_X5_open : Room := { frames := 0, cells := 0, slots := 0, locals := 0 }
theorem hd_X5_open : yX5_open.cls ≠ "java/lang/invoke/MethodHandle" ∧ yX5_open.cls ≠ "java/lang/invoke/VarHandle" ∧ (parseMethodDescriptor yX5_open.desc).map (fun d => d.parameters.length) = some 2 := by decide +kernel
def f_X5_open (N : Nat) (x0 : Nat) (x1 : Nat) (x2 : Int32) (M : Mm) : Option (Unit × Mm) :=
pR 5 M x0 0 (some x1) (fun M1 =>
pI 5 M1 x0 1 x2 (fun M2 =>
pI 5 M2 x0 2 (0 : Int32) (fun M3 =>
pI 5 M3 x0 3 (0 : Int32) (fun M4 =>
some ((), M4)))))
set_option maxRecDepth 100000 in
set_option maxHeartbeats 4000000 in
theorem c_X5_open (N : Nat) (x0 : Nat) (x1 : Nat) (x2 : Int32) (M : Mm) (r : (Unit × Mm)) (h : f_X5_open N x0 x1 x2 M = some r) (l : Launch) (hfl : l.flags = flags0) {G : Gl} : MT l G yX5_open cX5_open 3 none rm_X5_open [.ref x0, .ref x1, .int x2] M none r.2 := by
  unfold f_X5_open at h
  refine zt_start hfl (lv := [(0, .ref x0), (1, .ref x1), (2, .int x2)]) (by decide) (Nat.le_of_ble_eq_true rfl) rfl wd_276 (fun X hC _ => ?_)
  refine zt_aload_n hC rfl dX5_open_0 ?_
  refine zt_aload_n hC rfl dX5_open_1 ?_
  refine zt_pR hC h rfl cl5 (k := 0) (by decide) rfl wd_182 (Or.inl rfl) (Or.inl rfl) dX5_open_2 (fun M1 h => ?_)
  refine zt_aload_n hC rfl dX5_open_5 ?_
  refine zt_iload_n hC rfl dX5_open_6 ?_
  refine zt_pI hC h cl5 (k := 1) (by decide) rfl wd_183 (Or.inl rfl) (Or.inl rfl) dX5_open_7 (fun M2 h => ?_)
  refine zt_aload_n hC rfl dX5_open_10 ?_
  refine zt_iconst hC ki_0 dX5_open_11 ?_
  refine zt_pI hC h cl5 (k := 2) (by decide) rfl wd_184 (Or.inl rfl) (Or.inl rfl) dX5_open_12 (fun M3 h => ?_)
  refine zt_aload_n hC rfl dX5_open_15 ?_
  refine zt_iconst hC ki_0 dX5_open_16 ?_
  refine zt_pI hC h cl5 (k := 3) (by decide) rfl wd_186 (Or.inl rfl) (Or.inl rfl) dX5_open_17 (fun M4 h => ?_)
  obtain rfl := Option.some.inj h
  exact zt_vret hC rfl rfl (Nat.le_of_ble_eq_true rfl) (Nat.le_of_ble_eq_true rfl) dX5_open_20
def rm_X5_peek : Room := { frames := 0, cells := 0, slots := 0, locals := 0 }
theorem hd_X5_peek : yX5_peek.cls ≠ "java/lang/invoke/MethodHandle" ∧ yX5_peek.cls ≠ "java/lang/invoke/VarHandle" ∧ (parseMethodDescriptor yX5_peek.desc).map (fun d => d.parameters.length) = some 0 := by decide +kernel
def f_X5_peek (N : Nat) (x0 : Nat) (M : Mm) : Option (Int32 × Mm) :=
(gN 5 M x0 0
(some ((-1 : Int32), M))
(fun v1 =>
gI 5 M x0 2 (fun v2 =>
(if v2 < 0 then
some ((-1 : Int32), M)
else
gI 5 M x0 2 (fun v3 =>
gI 5 M x0 1 (fun v4 =>
(if v4 ≤ v3 then
some ((-1 : Int32), M)
else
gI 5 M x0 2 (fun v5 =>
(gN 5 M x0 0
(none)
(fun v6 =>
alen M v6 (fun v7 =>
(if v7 ≤ v5 then
some ((-1 : Int32), M)
else
(gN 5 M x0 0
(gI 5 M x0 2 (fun v9 =>
none))
(fun v8 =>
gI 5 M x0 2 (fun v10 =>
ald M v8 v10 (fun v11 =>
some (v11, M)))))))))))))))))
set_option maxRecDepth 100000 in
set_option maxHeartbeats 4000000 in
theorem c_X5_peek (N : Nat) (x0 : Nat) (M : Mm) (r : (Int32 × Mm)) (h : f_X5_peek N x0 M = some r) (l : Launch) (hfl : l.flags = flags0) {G : Gl} : MT l G yX5_peek cX5_peek 1 (some .int) rm_X5_peek [.ref x0] M (some (.int r.1)) r.2 := by
  unfold f_X5_peek at h
  refine zt_start hfl (lv := [(0, .ref x0)]) (by decide) (Nat.le_of_ble_eq_true rfl) rfl wd_288 (fun X hC _ => ?_)
  refine zt_aload_n hC rfl dX5_peek_0 ?_
  refine zt_gN hC h cl5 (k := 0) (by decide) rfl wd_182 (Or.inl rfl) dX5_peek_1 (fun h => ?_) (fun v1 h => ?_)
  · refine zt_ifnullN (tgt := 49) hC (by decide) dX5_peek_4 ?_
    refine zt_iconst hC ki_m1 dX5_peek_49 ?_
    obtain rfl := Option.some.inj h
    exact zt_iret hC rfl rfl (Nat.le_of_ble_eq_true rfl) (Nat.le_of_ble_eq_true rfl) dX5_peek_50
  · refine zt_ifnull hC dX5_peek_4 ?_
    refine zt_aload_n hC rfl dX5_peek_7 ?_
    refine zt_gI hC h cl5 (k := 2) (by decide) rfl wd_184 (Or.inl rfl) dX5_peek_8 (fun v2 h => ?_)
    refine zt_if_lt (tgt := 49) hC h (by decide) dX5_peek_11 (fun h => ?_) (fun h => ?_)
    · refine zt_iconst hC ki_m1 dX5_peek_49 ?_
      obtain rfl := Option.some.inj h
      exact zt_iret hC rfl rfl (Nat.le_of_ble_eq_true rfl) (Nat.le_of_ble_eq_true rfl) dX5_peek_50
    · refine zt_aload_n hC rfl dX5_peek_14 ?_
      refine zt_gI hC h cl5 (k := 2) (by decide) rfl wd_184 (Or.inl rfl) dX5_peek_15 (fun v3 h => ?_)
      refine zt_aload_n hC rfl dX5_peek_18 ?_
      refine zt_gI hC h cl5 (k := 1) (by decide) rfl wd_183 (Or.inl rfl) dX5_peek_19 (fun v4 h => ?_)
      refine zt_icmp_ge (tgt := 49) hC h (by decide) dX5_peek_22 (fun h => ?_) (fun h => ?_)
      · refine zt_iconst hC ki_m1 dX5_peek_49 ?_
        obtain rfl := Option.some.inj h
        exact zt_iret hC rfl rfl (Nat.le_of_ble_eq_true rfl) (Nat.le_of_ble_eq_true rfl) dX5_peek_50
      · refine zt_aload_n hC rfl dX5_peek_25 ?_
        refine zt_gI hC h cl5 (k := 2) (by decide) rfl wd_184 (Or.inl rfl) dX5_peek_26 (fun v5 h => ?_)
        refine zt_aload_n hC rfl dX5_peek_29 ?_
        refine zt_gN hC h cl5 (k := 0) (by decide) rfl wd_182 (Or.inl rfl) dX5_peek_30 (fun h => ?_) (fun v6 h => ?_)
        · cases h
        · refine zt_alen hC h dX5_peek_33 (fun v7 h => ?_)
          refine zt_icmp_ge (tgt := 49) hC h (by decide) dX5_peek_34 (fun h => ?_) (fun h => ?_)
          · refine zt_iconst hC ki_m1 dX5_peek_49 ?_
            obtain rfl := Option.some.inj h
            exact zt_iret hC rfl rfl (Nat.le_of_ble_eq_true rfl) (Nat.le_of_ble_eq_true rfl) dX5_peek_50
          · refine zt_aload_n hC rfl dX5_peek_37 ?_
            refine zt_gN hC h cl5 (k := 0) (by decide) rfl wd_182 (Or.inl rfl) dX5_peek_38 (fun h => ?_) (fun v8 h => ?_)
            · refine zt_aload_n hC rfl dX5_peek_41 ?_
              refine zt_gI hC h cl5 (k := 2) (by decide) rfl wd_184 (Or.inl rfl) dX5_peek_42 (fun v9 h => ?_)
              cases h
            · refine zt_aload_n hC rfl dX5_peek_41 ?_
              refine zt_gI hC h cl5 (k := 2) (by decide) rfl wd_184 (Or.inl rfl) dX5_peek_42 (fun v10 h => ?_)
              refine zt_ald hC h dX5_peek_45 (fun v11 h => ?_)
              refine zt_goto (tgt := 50) hC (by decide) dX5_peek_46 ?_
              obtain rfl := Option.some.inj h
              exact zt_iret hC rfl rfl (Nat.le_of_ble_eq_true rfl) (Nat.le_of_ble_eq_true rfl) dX5_peek_50
def rm_X11_change : Room := { frames := 0, cells := 0, slots := 0, locals := 0 }
theorem hd_X11_change : yX11_change.cls ≠ "java/lang/invoke/MethodHandle" ∧ yX11_change.cls ≠ "java/lang/invoke/VarHandle" ∧ (parseMethodDescriptor yX11_change.desc).map (fun d => d.parameters.length) = some 3 := by decide +kernel
def f_X11_change (N : Nat) (x0 : Nat) (x1 : Int32) (x2 : Int32) (M : Mm) : Option (Unit × Mm) :=
(if x1 < 0 then
some ((), M)
else
alen M x0 (fun v1 =>
(if v1 ≤ x1 then
some ((), M)
else
ast M x0 x1 x2 (fun M2 =>
some ((), M2)))))
set_option maxRecDepth 100000 in
set_option maxHeartbeats 4000000 in
theorem c_X11_change (N : Nat) (x0 : Nat) (x1 : Int32) (x2 : Int32) (M : Mm) (r : (Unit × Mm)) (h : f_X11_change N x0 x1 x2 M = some r) (l : Launch) (hfl : l.flags = flags0) {G : Gl} : MT l G yX11_change cX11_change 3 none rm_X11_change [.ref x0, .int x1, .int x2] M none r.2 := by
  unfold f_X11_change at h
  refine zt_start hfl (lv := [(0, .ref x0), (1, .int x1), (2, .int x2)]) (by decide) (Nat.le_of_ble_eq_true rfl) rfl wd_299 (fun X hC _ => ?_)
  refine zt_iload_n hC rfl dX11_change_0 ?_
  refine zt_if_lt (tgt := 14) hC h (by decide) dX11_change_1 (fun h => ?_) (fun h => ?_)
  · obtain rfl := Option.some.inj h
    exact zt_vret hC rfl rfl (Nat.le_of_ble_eq_true rfl) (Nat.le_of_ble_eq_true rfl) dX11_change_14
  · refine zt_iload_n hC rfl dX11_change_4 ?_
    refine zt_aload_n hC rfl dX11_change_5 ?_
    refine zt_alen hC h dX11_change_6 (fun v1 h => ?_)
    refine zt_icmp_ge (tgt := 14) hC h (by decide) dX11_change_7 (fun h => ?_) (fun h => ?_)
    · obtain rfl := Option.some.inj h
      exact zt_vret hC rfl rfl (Nat.le_of_ble_eq_true rfl) (Nat.le_of_ble_eq_true rfl) dX11_change_14
    · refine zt_aload_n hC rfl dX11_change_10 ?_
      refine zt_iload_n hC rfl dX11_change_11 ?_
      refine zt_iload_n hC rfl dX11_change_12 ?_
      refine zt_ast hC h dX11_change_13 (fun M2 h => ?_)
      obtain rfl := Option.some.inj h
      exact zt_vret hC rfl rfl (Nat.le_of_ble_eq_true rfl) (Nat.le_of_ble_eq_true rfl) dX11_change_14
def rm_X5_atDigit : Room := { frames := 1, cells := 0, slots := 0, locals := 20 }
theorem hd_X5_atDigit : yX5_atDigit.cls ≠ "java/lang/invoke/MethodHandle" ∧ yX5_atDigit.cls ≠ "java/lang/invoke/VarHandle" ∧ (parseMethodDescriptor yX5_atDigit.desc).map (fun d => d.parameters.length) = some 0 := by decide +kernel
def f_X5_atDigit (N : Nat) (x0 : Nat) (M : Mm) : Option (Int32 × Mm) :=
ck 5 M x0 (bnd (f_X5_peek N x0 M) (fun v1 M2 =>
(if v1 < (48 : Int32) then
some ((0 : Int32), M2)
else
ck 5 M2 x0 (bnd (f_X5_peek N x0 M2) (fun v4 M5 =>
(if (57 : Int32) < v4 then
some ((0 : Int32), M5)
else
some ((1 : Int32), M5)))))))
set_option maxRecDepth 100000 in
set_option maxHeartbeats 4000000 in
theorem c_X5_atDigit (N : Nat) (x0 : Nat) (M : Mm) (r : (Int32 × Mm)) (h : f_X5_atDigit N x0 M = some r) (l : Launch) (hfl : l.flags = flags0) {G : Gl} : MT l G yX5_atDigit cX5_atDigit 1 (some .boolean) rm_X5_atDigit [.ref x0] M (some (.int r.1)) r.2 := by
  unfold f_X5_atDigit at h
  refine zt_start hfl (lv := [(0, .ref x0)]) (by decide) (Nat.le_of_ble_eq_true rfl) rfl wd_296 (fun X hC _ => ?_)
  refine zt_aload_n hC rfl dX5_atDigit_0 ?_
  obtain ⟨hk, h⟩ := ck_some h
  obtain ⟨v1, M2, h3, h⟩ := bnd_some h
  refine zt_callV (z := yX5_peek) (As := []) (rest := []) (st1 := (.int v1 :: [])) hC 0 hk cl5 (fun l hl => c_X5_peek N x0 M (v1, M2) h3 l hl) rfl wd_288 wd_285 wd_287 ws_2 wd_5 hd_X5_peek rfl ⟨⟨(Nat.le_of_ble_eq_true rfl), (Nat.le_of_ble_eq_true rfl)⟩, (Nat.le_of_ble_eq_true rfl), (Nat.le_of_ble_eq_true rfl)⟩ rfl (Nat.le_of_ble_eq_true rfl) rfl dX5_atDigit_1 ?_
  refine zt_bipush hC kb_48 dX5_atDigit_4 ?_
  refine zt_icmp_lt (tgt := 22) hC h (by decide) dX5_atDigit_6 (fun h => ?_) (fun h => ?_)
  · refine zt_iconst hC ki_0 dX5_atDigit_22 ?_
    obtain rfl := Option.some.inj h
    exact zt_zret hC rfl rfl (Or.inl rfl) (Nat.le_of_ble_eq_true rfl) (Nat.le_of_ble_eq_true rfl) dX5_atDigit_23
  · refine zt_aload_n hC rfl dX5_atDigit_9 ?_
    obtain ⟨hk, h⟩ := ck_some h
    obtain ⟨v4, M5, h6, h⟩ := bnd_some h
    refine zt_callV (z := yX5_peek) (As := []) (rest := []) (st1 := (.int v4 :: [])) hC 0 hk cl5 (fun l hl => c_X5_peek N x0 M2 (v4, M5) h6 l hl) rfl wd_288 wd_285 wd_287 ws_2 wd_5 hd_X5_peek rfl ⟨⟨(Nat.le_of_ble_eq_true rfl), (Nat.le_of_ble_eq_true rfl)⟩, (Nat.le_of_ble_eq_true rfl), (Nat.le_of_ble_eq_true rfl)⟩ rfl (Nat.le_of_ble_eq_true rfl) rfl dX5_atDigit_10 ?_
    refine zt_bipush hC kb_57 dX5_atDigit_13 ?_
    refine zt_icmp_gt (tgt := 22) hC h (by decide) dX5_atDigit_15 (fun h => ?_) (fun h => ?_)
    · refine zt_iconst hC ki_0 dX5_atDigit_22 ?_
      obtain rfl := Option.some.inj h
      exact zt_zret hC rfl rfl (Or.inl rfl) (Nat.le_of_ble_eq_true rfl) (Nat.le_of_ble_eq_true rfl) dX5_atDigit_23
    · refine zt_iconst hC ki_1 dX5_atDigit_18 ?_
      refine zt_goto (tgt := 23) hC (by decide) dX5_atDigit_19 ?_
      obtain rfl := Option.some.inj h
      exact zt_zret hC rfl rfl (Or.inr rfl) (Nat.le_of_ble_eq_true rfl) (Nat.le_of_ble_eq_true rfl) dX5_atDigit_23
def rm_X5_readDigit : Room := { frames := 2, cells := 0, slots := 0, locals := 40 }
theorem hd_X5_readDigit : yX5_readDigit.cls ≠ "java/lang/invoke/MethodHandle" ∧ yX5_readDigit.cls ≠ "java/lang/invoke/VarHandle" ∧ (parseMethodDescriptor yX5_readDigit.desc).map (fun d => d.parameters.length) = some 1 := by decide +kernel
def f_X5_readDigit (N : Nat) (x0 : Nat) (x1 : Int32) (M : Mm) : Option (Int32 × Mm) :=
ck 5 M x0 (bnd (f_X5_atDigit N x0 M) (fun v1 M2 =>
(if v1 = 0 then
some ((0 : Int32), M2)
else
gR 5 M2 x0 5 (fun v4 =>
ck 5 M2 x0 (bnd (f_X5_peek N x0 M2) (fun v5 M6 =>
bnd (f_X11_change N v4 x1 (v5 - (48 : Int32)) M6) (fun v8 M9 =>
gI 5 M9 x0 2 (fun v11 =>
pI 5 M9 x0 2 (v11 + (1 : Int32)) (fun M12 =>
some ((1 : Int32), M12))))))))))
set_option maxRecDepth 100000 in
set_option maxHeartbeats 4000000 in
theorem c_X5_readDigit (N : Nat) (x0 : Nat) (x1 : Int32) (M : Mm) (r : (Int32 × Mm)) (h : f_X5_readDigit N x0 x1 M = some r) (l : Launch) (hfl : l.flags = flags0) {G : Gl} : MT l G yX5_readDigit cX5_readDigit 2 (some .boolean) rm_X5_readDigit [.ref x0, .int x1] M (some (.int r.1)) r.2 := by
  unfold f_X5_readDigit at h
  refine zt_start hfl (lv := [(0, .ref x0), (1, .int x1)]) (by decide) (Nat.le_of_ble_eq_true rfl) rfl wd_292 (fun X hC _ => ?_)
  refine zt_aload_n hC rfl dX5_readDigit_0 ?_
  obtain ⟨hk, h⟩ := ck_some h
  obtain ⟨v1, M2, h3, h⟩ := bnd_some h
  refine zt_callV (z := yX5_atDigit) (As := []) (rest := []) (st1 := (.int v1 :: [])) hC 0 hk cl5 (fun l hl => c_X5_atDigit N x0 M (v1, M2) h3 l hl) rfl wd_296 wd_293 wd_295 ws_4 wd_5 hd_X5_atDigit rfl ⟨⟨(Nat.le_of_ble_eq_true rfl), (Nat.le_of_ble_eq_true rfl)⟩, (Nat.le_of_ble_eq_true rfl), (Nat.le_of_ble_eq_true rfl)⟩ rfl (Nat.le_of_ble_eq_true rfl) rfl dX5_readDigit_1 ?_
  refine zt_if_ne (tgt := 9) hC h (by decide) dX5_readDigit_4 (fun h => ?_) (fun h => ?_)
  · refine zt_aload_n hC rfl dX5_readDigit_9 ?_
    refine zt_gR hC h cl5 (k := 5) (by decide) rfl wd_189 (Or.inl rfl) dX5_readDigit_10 (fun v4 h => ?_)
    refine zt_iload_n hC rfl dX5_readDigit_13 ?_
    refine zt_aload_n hC rfl dX5_readDigit_14 ?_
    obtain ⟨hk, h⟩ := ck_some h
    obtain ⟨v5, M6, h7, h⟩ := bnd_some h
    refine zt_callV (z := yX5_peek) (As := []) (rest := [.int x1, .ref v4]) (st1 := (.int v5 :: [.int x1, .ref v4])) hC 0 hk cl5 (fun l hl => c_X5_peek N x0 M2 (v5, M6) h7 l hl) rfl wd_288 wd_285 wd_287 ws_2 wd_5 hd_X5_peek rfl ⟨⟨(Nat.le_of_ble_eq_true rfl), (Nat.le_of_ble_eq_true rfl)⟩, (Nat.le_of_ble_eq_true rfl), (Nat.le_of_ble_eq_true rfl)⟩ rfl (Nat.le_of_ble_eq_true rfl) rfl dX5_readDigit_15 ?_
    refine zt_bipush hC kb_48 dX5_readDigit_18 ?_
    refine zt_isub hC dX5_readDigit_20 ?_
    obtain ⟨v8, M9, h10, h⟩ := bnd_some h
    refine zt_callSN (z := yX11_change) (As := [.ref v4, .int x1, .int (v5 - (48 : Int32))]) (rest := []) (st1 := []) hC 3 (fun l hl => c_X11_change N v4 x1 (v5 - (48 : Int32)) M6 (v8, M9) h10 l hl) wd_299 (by decide) wd_298 wd_1 hd_X11_change rfl ⟨⟨(Nat.le_of_ble_eq_true rfl), (Nat.le_of_ble_eq_true rfl)⟩, (Nat.le_of_ble_eq_true rfl), (Nat.le_of_ble_eq_true rfl)⟩ rfl (Nat.le_of_ble_eq_true rfl) rfl dX5_readDigit_21 ?_
    refine zt_aload_n hC rfl dX5_readDigit_24 ?_
    refine zt_dup hC rfl dX5_readDigit_25 ?_
    refine zt_gI hC h cl5 (k := 2) (by decide) rfl wd_184 (Or.inl rfl) dX5_readDigit_26 (fun v11 h => ?_)
    refine zt_iconst hC ki_1 dX5_readDigit_29 ?_
    refine zt_iadd hC dX5_readDigit_30 ?_
    refine zt_pI hC h cl5 (k := 2) (by decide) rfl wd_184 (Or.inl rfl) (Or.inl rfl) dX5_readDigit_31 (fun M12 h => ?_)
    refine zt_iconst hC ki_1 dX5_readDigit_34 ?_
    obtain rfl := Option.some.inj h
    exact zt_zret hC rfl rfl (Or.inr rfl) (Nat.le_of_ble_eq_true rfl) (Nat.le_of_ble_eq_true rfl) dX5_readDigit_35
  · refine zt_iconst hC ki_0 dX5_readDigit_7 ?_
    obtain rfl := Option.some.inj h
    exact zt_zret hC rfl rfl (Or.inl rfl) (Nat.le_of_ble_eq_true rfl) (Nat.le_of_ble_eq_true rfl) dX5_readDigit_8
def rm_X5_readNumber : Room := { frames := 2, cells := 0, slots := 0, locals := 40 }
theorem hd_X5_readNumber : yX5_readNumber.cls ≠ "java/lang/invoke/MethodHandle" ∧ yX5_readNumber.cls ≠ "java/lang/invoke/VarHandle" ∧ (parseMethodDescriptor yX5_readNumber.desc).map (fun d => d.parameters.length) = some 1 := by decide +kernel
def j_X5_readNumber_53 (N : Nat) (x0 : Nat) (x1 : Int32) (x2 : Int32) (x3 : Int32) (M : Mm) : Option (Int32 × Mm) :=
gR 5 M x0 5 (fun v1 =>
bnd (f_X11_change N v1 x1 x2 M) (fun v2 M3 =>
(if x3 ≤ 0 then
some ((0 : Int32), M3)
else
some ((1 : Int32), M3))))
set_option maxRecDepth 100000 in
set_option maxHeartbeats 4000000 in
theorem w_X5_readNumber_53 {X : Cx} {G : Gl} {r : (Int32 × Mm)} (N : Nat) (hC : CX X G yX5_readNumber cX5_readNumber 4 (some .boolean) rm_X5_readNumber) (x0 : Nat) (x1 : Int32) (x2 : Int32) (x3 : Int32) (M : Mm) (h : j_X5_readNumber_53 N x0 x1 x2 x3 M = some r) : TW X G 4 (RQ X G (some (.int r.1)) r.2 rm_X5_readNumber) 0 0 M 53 [(0, .ref x0), (1, .int x1), (2, .int x2), (3, .int x3)] [] := by
  unfold j_X5_readNumber_53 at h
  refine zt_aload_n hC rfl dX5_readNumber_53 ?_
  refine zt_gR hC h cl5 (k := 5) (by decide) rfl wd_189 (Or.inl rfl) dX5_readNumber_54 (fun v1 h => ?_)
  refine zt_iload_n hC rfl dX5_readNumber_57 ?_
  refine zt_iload_n hC rfl dX5_readNumber_58 ?_
  obtain ⟨v2, M3, h4, h⟩ := bnd_some h
  refine zt_callSN (z := yX11_change) (As := [.ref v1, .int x1, .int x2]) (rest := []) (st1 := []) hC 3 (fun l hl => c_X11_change N v1 x1 x2 M (v2, M3) h4 l hl) wd_299 (by decide) wd_298 wd_1 hd_X11_change rfl ⟨⟨(Nat.le_of_ble_eq_true rfl), (Nat.le_of_ble_eq_true rfl)⟩, (Nat.le_of_ble_eq_true rfl), (Nat.le_of_ble_eq_true rfl)⟩ rfl (Nat.le_of_ble_eq_true rfl) rfl dX5_readNumber_59 ?_
  refine zt_iload_n hC rfl dX5_readNumber_62 ?_
  refine zt_if_le (tgt := 70) hC h (by decide) dX5_readNumber_63 (fun h => ?_) (fun h => ?_)
  · refine zt_iconst hC ki_0 dX5_readNumber_70 ?_
    obtain rfl := Option.some.inj h
    exact zt_zret hC rfl rfl (Or.inl rfl) (Nat.le_of_ble_eq_true rfl) (Nat.le_of_ble_eq_true rfl) dX5_readNumber_71
  · refine zt_iconst hC ki_1 dX5_readNumber_66 ?_
    refine zt_goto (tgt := 71) hC (by decide) dX5_readNumber_67 ?_
    obtain rfl := Option.some.inj h
    exact zt_zret hC rfl rfl (Or.inr rfl) (Nat.le_of_ble_eq_true rfl) (Nat.le_of_ble_eq_true rfl) dX5_readNumber_71
def j_X5_readNumber_24 (N : Nat) (k4 : Nat → Int32 → Int32 → Int32 → Mm → Option (Int32 × Mm)) (x0 : Nat) (x1 : Int32) (x2 : Int32) (x3 : Int32) (M : Mm) : Option (Int32 × Mm) :=
ck 5 M x0 (bnd (f_X5_peek N x0 M) (fun v1 M2 =>
gI 5 M2 x0 2 (fun v4 =>
pI 5 M2 x0 2 (v4 + (1 : Int32)) (fun M5 =>
k4 x0 x1 (((x2 * (10 : Int32)) + v1) - (48 : Int32)) (x3 + (1 : Int32)) M5))))
set_option maxRecDepth 100000 in
set_option maxHeartbeats 4000000 in
theorem w_X5_readNumber_24 {X : Cx} {G : Gl} {r : (Int32 × Mm)} (N : Nat) (hC : CX X G yX5_readNumber cX5_readNumber 4 (some .boolean) rm_X5_readNumber) (k4 : Nat → Int32 → Int32 → Int32 → Mm → Option (Int32 × Mm)) (hk4 : ∀ (x0 : Nat) (x1 : Int32) (x2 : Int32) (x3 : Int32) (M : Mm), k4 x0 x1 x2 x3 M = some r → TW X G 4 (RQ X G (some (.int r.1)) r.2 rm_X5_readNumber) 0 0 M 4 [(0, .ref x0), (1, .int x1), (2, .int x2), (3, .int x3)] []) (x0 : Nat) (x1 : Int32) (x2 : Int32) (x3 : Int32) (M : Mm) (h : j_X5_readNumber_24 N k4 x0 x1 x2 x3 M = some r) : TW X G 4 (RQ X G (some (.int r.1)) r.2 rm_X5_readNumber) 0 0 M 24 [(0, .ref x0), (1, .int x1), (2, .int x2), (3, .int x3)] [] := by
  unfold j_X5_readNumber_24 at h
  refine zt_iload_n hC rfl dX5_readNumber_24 ?_
  refine zt_bipush hC kb_10 dX5_readNumber_25 ?_
  refine zt_imul hC dX5_readNumber_27 ?_
  refine zt_aload_n hC rfl dX5_readNumber_28 ?_
  obtain ⟨hk, h⟩ := ck_some h
  obtain ⟨v1, M2, h3, h⟩ := bnd_some h
  refine zt_callV (z := yX5_peek) (As := []) (rest := [.int (x2 * (10 : Int32))]) (st1 := (.int v1 :: [.int (x2 * (10 : Int32))])) hC 0 hk cl5 (fun l hl => c_X5_peek N x0 M (v1, M2) h3 l hl) rfl wd_288 wd_285 wd_287 ws_2 wd_5 hd_X5_peek rfl ⟨⟨(Nat.le_of_ble_eq_true rfl), (Nat.le_of_ble_eq_true rfl)⟩, (Nat.le_of_ble_eq_true rfl), (Nat.le_of_ble_eq_true rfl)⟩ rfl (Nat.le_of_ble_eq_true rfl) rfl dX5_readNumber_29 ?_
  refine zt_iadd hC dX5_readNumber_32 ?_
  refine zt_bipush hC kb_48 dX5_readNumber_33 ?_
  refine zt_isub hC dX5_readNumber_35 ?_
  refine zt_istore_n (lv' := [(2, .int (((x2 * (10 : Int32)) + v1) - (48 : Int32))), (0, .ref x0), (1, .int x1), (3, .int x3)]) hC (by decide) rfl dX5_readNumber_36 ?_
  refine zt_aload_n hC rfl dX5_readNumber_37 ?_
  refine zt_dup hC rfl dX5_readNumber_38 ?_
  refine zt_gI hC h cl5 (k := 2) (by decide) rfl wd_184 (Or.inl rfl) dX5_readNumber_39 (fun v4 h => ?_)
  refine zt_iconst hC ki_1 dX5_readNumber_42 ?_
  refine zt_iadd hC dX5_readNumber_43 ?_
  refine zt_pI hC h cl5 (k := 2) (by decide) rfl wd_184 (Or.inl rfl) (Or.inl rfl) dX5_readNumber_44 (fun M5 h => ?_)
  refine zt_iinc (v := (x3 + (1 : Int32))) (lv' := [(3, .int (x3 + (1 : Int32))), (2, .int (((x2 * (10 : Int32)) + v1) - (48 : Int32))), (0, .ref x0), (1, .int x1)]) hC rfl (by rw [ki_1]) (by decide) rfl dX5_readNumber_47 ?_
  refine zt_goto (tgt := 4) hC (by decide) dX5_readNumber_50 ?_
  refine zt_keep [0, 1, 2, 3] rfl ?_
  exact hk4 x0 x1 (((x2 * (10 : Int32)) + v1) - (48 : Int32)) (x3 + (1 : Int32)) M5 h
def b_X5_readNumber_4 (N : Nat) (k4 : Nat → Int32 → Int32 → Int32 → Mm → Option (Int32 × Mm)) (x0 : Nat) (x1 : Int32) (x2 : Int32) (x3 : Int32) (M : Mm) : Option (Int32 × Mm) :=
(if (3 : Int32) ≤ x3 then
j_X5_readNumber_53 N x0 x1 x2 x3 M
else
ck 5 M x0 (bnd (f_X5_atDigit N x0 M) (fun v1 M2 =>
(if v1 = 0 then
j_X5_readNumber_53 N x0 x1 x2 x3 M2
else
(if x3 = 0 then
j_X5_readNumber_24 N k4 x0 x1 x2 x3 M2
else
(if x2 ≤ 0 then
j_X5_readNumber_53 N x0 x1 x2 x3 M2
else
j_X5_readNumber_24 N k4 x0 x1 x2 x3 M2))))))
def l_X5_readNumber_4 (N : Nat) : Nat → Nat → Int32 → Int32 → Int32 → Mm → Option (Int32 × Mm)
  | 0 => fun _ _ _ _ _ => none
  | n + 1 => b_X5_readNumber_4 N (l_X5_readNumber_4 N n)
set_option maxRecDepth 100000 in
set_option maxHeartbeats 4000000 in
theorem v_X5_readNumber_4 {X : Cx} {G : Gl} {r : (Int32 × Mm)} (N : Nat) (hC : CX X G yX5_readNumber cX5_readNumber 4 (some .boolean) rm_X5_readNumber) (k4 : Nat → Int32 → Int32 → Int32 → Mm → Option (Int32 × Mm)) (hk4 : ∀ (x0 : Nat) (x1 : Int32) (x2 : Int32) (x3 : Int32) (M : Mm), k4 x0 x1 x2 x3 M = some r → TW X G 4 (RQ X G (some (.int r.1)) r.2 rm_X5_readNumber) 0 0 M 4 [(0, .ref x0), (1, .int x1), (2, .int x2), (3, .int x3)] []) (x0 : Nat) (x1 : Int32) (x2 : Int32) (x3 : Int32) (M : Mm) (h : b_X5_readNumber_4 N k4 x0 x1 x2 x3 M = some r) : TW X G 4 (RQ X G (some (.int r.1)) r.2 rm_X5_readNumber) 0 0 M 4 [(0, .ref x0), (1, .int x1), (2, .int x2), (3, .int x3)] [] := by
  unfold b_X5_readNumber_4 at h
  refine zt_iload_n hC rfl dX5_readNumber_4 ?_
  refine zt_iconst hC ki_3 dX5_readNumber_5 ?_
  refine zt_icmp_ge (tgt := 53) hC h (by decide) dX5_readNumber_6 (fun h => ?_) (fun h => ?_)
  · refine zt_keep [0, 1, 2, 3] rfl ?_
    exact w_X5_readNumber_53 N hC x0 x1 x2 x3 M h
  · refine zt_aload_n hC rfl dX5_readNumber_9 ?_
    obtain ⟨hk, h⟩ := ck_some h
    obtain ⟨v1, M2, h3, h⟩ := bnd_some h
    refine zt_callV (z := yX5_atDigit) (As := []) (rest := []) (st1 := (.int v1 :: [])) hC 0 hk cl5 (fun l hl => c_X5_atDigit N x0 M (v1, M2) h3 l hl) rfl wd_296 wd_293 wd_295 ws_4 wd_5 hd_X5_atDigit rfl ⟨⟨(Nat.le_of_ble_eq_true rfl), (Nat.le_of_ble_eq_true rfl)⟩, (Nat.le_of_ble_eq_true rfl), (Nat.le_of_ble_eq_true rfl)⟩ rfl (Nat.le_of_ble_eq_true rfl) rfl dX5_readNumber_10 ?_
    refine zt_if_eq (tgt := 53) hC h (by decide) dX5_readNumber_13 (fun h => ?_) (fun h => ?_)
    · refine zt_keep [0, 1, 2, 3] rfl ?_
      exact w_X5_readNumber_53 N hC x0 x1 x2 x3 M2 h
    · refine zt_iload_n hC rfl dX5_readNumber_16 ?_
      refine zt_if_eq (tgt := 24) hC h (by decide) dX5_readNumber_17 (fun h => ?_) (fun h => ?_)
      · refine zt_keep [0, 1, 2, 3] rfl ?_
        exact w_X5_readNumber_24 N hC k4 hk4 x0 x1 x2 x3 M2 h
      · refine zt_iload_n hC rfl dX5_readNumber_20 ?_
        refine zt_if_le (tgt := 53) hC h (by decide) dX5_readNumber_21 (fun h => ?_) (fun h => ?_)
        · refine zt_keep [0, 1, 2, 3] rfl ?_
          exact w_X5_readNumber_53 N hC x0 x1 x2 x3 M2 h
        · refine zt_keep [0, 1, 2, 3] rfl ?_
          exact w_X5_readNumber_24 N hC k4 hk4 x0 x1 x2 x3 M2 h
theorem w_X5_readNumber_4 {X : Cx} {G : Gl} {r : (Int32 × Mm)} (N : Nat) (hC : CX X G yX5_readNumber cX5_readNumber 4 (some .boolean) rm_X5_readNumber) (n : Nat) : ∀ (x0 : Nat) (x1 : Int32) (x2 : Int32) (x3 : Int32) (M : Mm), l_X5_readNumber_4 N n x0 x1 x2 x3 M = some r → TW X G 4 (RQ X G (some (.int r.1)) r.2 rm_X5_readNumber) 0 0 M 4 [(0, .ref x0), (1, .int x1), (2, .int x2), (3, .int x3)] [] := by
  induction n with
  | zero => intro  x0 x1 x2 x3 M h; cases (show none = some r from h)
  | succ n ih => intro  x0 x1 x2 x3 M h; exact v_X5_readNumber_4 N hC (l_X5_readNumber_4 N n) ih x0 x1 x2 x3 M h
def f_X5_readNumber (N : Nat) (x0 : Nat) (x1 : Int32) (M : Mm) : Option (Int32 × Mm) :=
l_X5_readNumber_4 N N x0 x1 (0 : Int32) (0 : Int32) M
set_option maxRecDepth 100000 in
set_option maxHeartbeats 4000000 in
theorem c_X5_readNumber (N : Nat) (x0 : Nat) (x1 : Int32) (M : Mm) (r : (Int32 × Mm)) (h : f_X5_readNumber N x0 x1 M = some r) (l : Launch) (hfl : l.flags = flags0) {G : Gl} : MT l G yX5_readNumber cX5_readNumber 4 (some .boolean) rm_X5_readNumber [.ref x0, .int x1] M (some (.int r.1)) r.2 := by
  unfold f_X5_readNumber at h
  refine zt_start hfl (lv := [(0, .ref x0), (1, .int x1)]) (by decide) (Nat.le_of_ble_eq_true rfl) rfl wd_307 (fun X hC _ => ?_)
  refine zt_iconst hC ki_0 dX5_readNumber_0 ?_
  refine zt_istore_n (lv' := [(2, .int (0 : Int32)), (0, .ref x0), (1, .int x1)]) hC (by decide) rfl dX5_readNumber_1 ?_
  refine zt_iconst hC ki_0 dX5_readNumber_2 ?_
  refine zt_istore_n (lv' := [(3, .int (0 : Int32)), (2, .int (0 : Int32)), (0, .ref x0), (1, .int x1)]) hC (by decide) rfl dX5_readNumber_3 ?_
  refine zt_keep [0, 1, 2, 3] rfl ?_
  exact w_X5_readNumber_4 N hC N x0 x1 (0 : Int32) (0 : Int32) M h
def rm_X5_readSign : Room := { frames := 1, cells := 0, slots := 0, locals := 20 }
theorem hd_X5_readSign : yX5_readSign.cls ≠ "java/lang/invoke/MethodHandle" ∧ yX5_readSign.cls ≠ "java/lang/invoke/VarHandle" ∧ (parseMethodDescriptor yX5_readSign.desc).map (fun d => d.parameters.length) = some 1 := by decide +kernel
def f_X5_readSign (N : Nat) (x0 : Nat) (x1 : Int32) (M : Mm) : Option (Int32 × Mm) :=
ck 5 M x0 (bnd (f_X5_peek N x0 M) (fun v1 M2 =>
(if v1 = x1 then
gI 5 M2 x0 2 (fun v4 =>
pI 5 M2 x0 2 (v4 + (1 : Int32)) (fun M5 =>
some ((1 : Int32), M5)))
else
some ((0 : Int32), M2))))
set_option maxRecDepth 100000 in
set_option maxHeartbeats 4000000 in
theorem c_X5_readSign (N : Nat) (x0 : Nat) (x1 : Int32) (M : Mm) (r : (Int32 × Mm)) (h : f_X5_readSign N x0 x1 M = some r) (l : Launch) (hfl : l.flags = flags0) {G : Gl} : MT l G yX5_readSign cX5_readSign 2 (some .boolean) rm_X5_readSign [.ref x0, .int x1] M (some (.int r.1)) r.2 := by
  unfold f_X5_readSign at h
  refine zt_start hfl (lv := [(0, .ref x0), (1, .int x1)]) (by decide) (Nat.le_of_ble_eq_true rfl) rfl wd_303 (fun X hC _ => ?_)
  refine zt_aload_n hC rfl dX5_readSign_0 ?_
  obtain ⟨hk, h⟩ := ck_some h
  obtain ⟨v1, M2, h3, h⟩ := bnd_some h
  refine zt_callV (z := yX5_peek) (As := []) (rest := []) (st1 := (.int v1 :: [])) hC 0 hk cl5 (fun l hl => c_X5_peek N x0 M (v1, M2) h3 l hl) rfl wd_288 wd_285 wd_287 ws_2 wd_5 hd_X5_peek rfl ⟨⟨(Nat.le_of_ble_eq_true rfl), (Nat.le_of_ble_eq_true rfl)⟩, (Nat.le_of_ble_eq_true rfl), (Nat.le_of_ble_eq_true rfl)⟩ rfl (Nat.le_of_ble_eq_true rfl) rfl dX5_readSign_1 ?_
  refine zt_iload_n hC rfl dX5_readSign_4 ?_
  refine zt_icmp_eq (tgt := 10) hC h (by decide) dX5_readSign_5 (fun h => ?_) (fun h => ?_)
  · refine zt_aload_n hC rfl dX5_readSign_10 ?_
    refine zt_dup hC rfl dX5_readSign_11 ?_
    refine zt_gI hC h cl5 (k := 2) (by decide) rfl wd_184 (Or.inl rfl) dX5_readSign_12 (fun v4 h => ?_)
    refine zt_iconst hC ki_1 dX5_readSign_15 ?_
    refine zt_iadd hC dX5_readSign_16 ?_
    refine zt_pI hC h cl5 (k := 2) (by decide) rfl wd_184 (Or.inl rfl) (Or.inl rfl) dX5_readSign_17 (fun M5 h => ?_)
    refine zt_iconst hC ki_1 dX5_readSign_20 ?_
    obtain rfl := Option.some.inj h
    exact zt_zret hC rfl rfl (Or.inr rfl) (Nat.le_of_ble_eq_true rfl) (Nat.le_of_ble_eq_true rfl) dX5_readSign_21
  · refine zt_iconst hC ki_0 dX5_readSign_8 ?_
    obtain rfl := Option.some.inj h
    exact zt_zret hC rfl rfl (Or.inl rfl) (Nat.le_of_ble_eq_true rfl) (Nat.le_of_ble_eq_true rfl) dX5_readSign_9
def rm_X5_next : Room := { frames := 3, cells := 0, slots := 0, locals := 63 }
theorem hd_X5_next : yX5_next.cls ≠ "java/lang/invoke/MethodHandle" ∧ yX5_next.cls ≠ "java/lang/invoke/VarHandle" ∧ (parseMethodDescriptor yX5_next.desc).map (fun d => d.parameters.length) = some 0 := by decide +kernel
def f_X5_next (N : Nat) (x0 : Nat) (M : Mm) : Option (Int32 × Mm) :=
gI 5 M x0 2 (fun v1 =>
pI 5 M x0 3 v1 (fun M2 =>
ck 5 M2 x0 (bnd (f_X5_peek N x0 M2) (fun v3 M4 =>
pI 5 M4 x0 4 v3 (fun M6 =>
gI 5 M6 x0 4 (fun v7 =>
(if v7 = (98 : Int32) then
gI 5 M6 x0 2 (fun v8 =>
pI 5 M6 x0 2 (v8 + (1 : Int32)) (fun M9 =>
ck 5 M9 x0 (bnd (f_X5_readDigit N x0 (0 : Int32) M9) (fun v10 M11 =>
(if v10 = 0 then
some ((0 : Int32), M11)
else
ck 5 M11 x0 (bnd (f_X5_readSign N x0 (59 : Int32) M11) (fun v13 M14 =>
(if v13 = 0 then
some ((0 : Int32), M14)
else
some ((1 : Int32), M14)))))))))
else
(if v7 = (109 : Int32) then
gI 5 M6 x0 2 (fun v16 =>
pI 5 M6 x0 2 (v16 + (1 : Int32)) (fun M17 =>
ck 5 M17 x0 (bnd (f_X5_readDigit N x0 (0 : Int32) M17) (fun v18 M19 =>
(if v18 = 0 then
some ((0 : Int32), M19)
else
ck 5 M19 x0 (bnd (f_X5_readDigit N x0 (1 : Int32) M19) (fun v21 M22 =>
(if v21 = 0 then
some ((0 : Int32), M22)
else
ck 5 M22 x0 (bnd (f_X5_readSign N x0 (32 : Int32) M22) (fun v24 M25 =>
(if v24 = 0 then
some ((0 : Int32), M25)
else
ck 5 M25 x0 (bnd (f_X5_readDigit N x0 (2 : Int32) M25) (fun v27 M28 =>
(if v27 = 0 then
some ((0 : Int32), M28)
else
ck 5 M28 x0 (bnd (f_X5_readSign N x0 (59 : Int32) M28) (fun v30 M31 =>
(if v30 = 0 then
some ((0 : Int32), M31)
else
some ((1 : Int32), M31))))))))))))))))))
else
(if v7 = (110 : Int32) then
gI 5 M6 x0 2 (fun v33 =>
pI 5 M6 x0 2 (v33 + (1 : Int32)) (fun M34 =>
ck 5 M34 x0 (bnd (f_X5_readDigit N x0 (0 : Int32) M34) (fun v35 M36 =>
(if v35 = 0 then
some ((0 : Int32), M36)
else
ck 5 M36 x0 (bnd (f_X5_readSign N x0 (59 : Int32) M36) (fun v38 M39 =>
(if v38 = 0 then
some ((0 : Int32), M39)
else
some ((1 : Int32), M39)))))))))
else
(if v7 = (115 : Int32) then
gI 5 M6 x0 2 (fun v41 =>
pI 5 M6 x0 2 (v41 + (1 : Int32)) (fun M42 =>
ck 5 M42 x0 (bnd (f_X5_readDigit N x0 (0 : Int32) M42) (fun v43 M44 =>
(if v43 = 0 then
some ((0 : Int32), M44)
else
ck 5 M44 x0 (bnd (f_X5_readDigit N x0 (1 : Int32) M44) (fun v46 M47 =>
(if v46 = 0 then
some ((0 : Int32), M47)
else
ck 5 M47 x0 (bnd (f_X5_readSign N x0 (32 : Int32) M47) (fun v49 M50 =>
(if v49 = 0 then
some ((0 : Int32), M50)
else
ck 5 M50 x0 (bnd (f_X5_readNumber N x0 (2 : Int32) M50) (fun v52 M53 =>
(if v52 = 0 then
some ((0 : Int32), M53)
else
ck 5 M53 x0 (bnd (f_X5_readSign N x0 (32 : Int32) M53) (fun v55 M56 =>
(if v55 = 0 then
some ((0 : Int32), M56)
else
ck 5 M56 x0 (bnd (f_X5_readNumber N x0 (3 : Int32) M56) (fun v58 M59 =>
(if v58 = 0 then
some ((0 : Int32), M59)
else
ck 5 M59 x0 (bnd (f_X5_readSign N x0 (32 : Int32) M59) (fun v61 M62 =>
(if v61 = 0 then
some ((0 : Int32), M62)
else
ck 5 M62 x0 (bnd (f_X5_readNumber N x0 (4 : Int32) M62) (fun v64 M65 =>
(if v64 = 0 then
some ((0 : Int32), M65)
else
ck 5 M65 x0 (bnd (f_X5_readSign N x0 (59 : Int32) M65) (fun v67 M68 =>
(if v67 = 0 then
some ((0 : Int32), M68)
else
some ((1 : Int32), M68))))))))))))))))))))))))))))))
else
some ((0 : Int32), M6)))))))))))
set_option maxRecDepth 100000 in
set_option maxHeartbeats 4000000 in
theorem c_X5_next (N : Nat) (x0 : Nat) (M : Mm) (r : (Int32 × Mm)) (h : f_X5_next N x0 M = some r) (l : Launch) (hfl : l.flags = flags0) {G : Gl} : MT l G yX5_next cX5_next 1 (some .boolean) rm_X5_next [.ref x0] M (some (.int r.1)) r.2 := by
  unfold f_X5_next at h
  refine zt_start hfl (lv := [(0, .ref x0)]) (by decide) (Nat.le_of_ble_eq_true rfl) rfl wd_284 (fun X hC _ => ?_)
  refine zt_aload_n hC rfl dX5_next_0 ?_
  refine zt_aload_n hC rfl dX5_next_1 ?_
  refine zt_gI hC h cl5 (k := 2) (by decide) rfl wd_184 (Or.inl rfl) dX5_next_2 (fun v1 h => ?_)
  refine zt_pI hC h cl5 (k := 3) (by decide) rfl wd_186 (Or.inl rfl) (Or.inl rfl) dX5_next_5 (fun M2 h => ?_)
  refine zt_aload_n hC rfl dX5_next_8 ?_
  refine zt_aload_n hC rfl dX5_next_9 ?_
  obtain ⟨hk, h⟩ := ck_some h
  obtain ⟨v3, M4, h5, h⟩ := bnd_some h
  refine zt_callV (z := yX5_peek) (As := []) (rest := [.ref x0]) (st1 := (.int v3 :: [.ref x0])) hC 0 hk cl5 (fun l hl => c_X5_peek N x0 M2 (v3, M4) h5 l hl) rfl wd_288 wd_285 wd_287 ws_2 wd_5 hd_X5_peek rfl ⟨⟨(Nat.le_of_ble_eq_true rfl), (Nat.le_of_ble_eq_true rfl)⟩, (Nat.le_of_ble_eq_true rfl), (Nat.le_of_ble_eq_true rfl)⟩ rfl (Nat.le_of_ble_eq_true rfl) rfl dX5_next_10 ?_
  refine zt_pI hC h cl5 (k := 4) (by decide) rfl wd_188 (Or.inl rfl) (Or.inl rfl) dX5_next_13 (fun M6 h => ?_)
  refine zt_aload_n hC rfl dX5_next_16 ?_
  refine zt_gI hC h cl5 (k := 4) (by decide) rfl wd_188 (Or.inl rfl) dX5_next_17 (fun v7 h => ?_)
  rcases ite_or h with ⟨c98, h⟩ | ⟨c98, h⟩
  · refine zt_lsw (tgt := 64) hC rfl (off := 44) (by rw [c98]; rfl) (by decide) dX5_next_20 ?_
    refine zt_aload_n hC rfl dX5_next_64 ?_
    refine zt_dup hC rfl dX5_next_65 ?_
    refine zt_gI hC h cl5 (k := 2) (by decide) rfl wd_184 (Or.inl rfl) dX5_next_66 (fun v8 h => ?_)
    refine zt_iconst hC ki_1 dX5_next_69 ?_
    refine zt_iadd hC dX5_next_70 ?_
    refine zt_pI hC h cl5 (k := 2) (by decide) rfl wd_184 (Or.inl rfl) (Or.inl rfl) dX5_next_71 (fun M9 h => ?_)
    refine zt_aload_n hC rfl dX5_next_74 ?_
    refine zt_iconst hC ki_0 dX5_next_75 ?_
    obtain ⟨hk, h⟩ := ck_some h
    obtain ⟨v10, M11, h12, h⟩ := bnd_some h
    refine zt_callV (z := yX5_readDigit) (As := [.int (0 : Int32)]) (rest := []) (st1 := (.int v10 :: [])) hC 1 hk cl5 (fun l hl => c_X5_readDigit N x0 (0 : Int32) M9 (v10, M11) h12 l hl) rfl wd_292 wd_289 wd_291 ws_3 wd_5 hd_X5_readDigit rfl ⟨⟨(Nat.le_of_ble_eq_true rfl), (Nat.le_of_ble_eq_true rfl)⟩, (Nat.le_of_ble_eq_true rfl), (Nat.le_of_ble_eq_true rfl)⟩ rfl (Nat.le_of_ble_eq_true rfl) rfl dX5_next_76 ?_
    refine zt_if_eq (tgt := 95) hC h (by decide) dX5_next_79 (fun h => ?_) (fun h => ?_)
    · refine zt_iconst hC ki_0 dX5_next_95 ?_
      obtain rfl := Option.some.inj h
      exact zt_zret hC rfl rfl (Or.inl rfl) (Nat.le_of_ble_eq_true rfl) (Nat.le_of_ble_eq_true rfl) dX5_next_96
    · refine zt_aload_n hC rfl dX5_next_82 ?_
      refine zt_bipush hC kb_59 dX5_next_83 ?_
      obtain ⟨hk, h⟩ := ck_some h
      obtain ⟨v13, M14, h15, h⟩ := bnd_some h
      refine zt_callV (z := yX5_readSign) (As := [.int (59 : Int32)]) (rest := []) (st1 := (.int v13 :: [])) hC 1 hk cl5 (fun l hl => c_X5_readSign N x0 (59 : Int32) M11 (v13, M14) h15 l hl) rfl wd_303 wd_300 wd_302 ws_5 wd_5 hd_X5_readSign rfl ⟨⟨(Nat.le_of_ble_eq_true rfl), (Nat.le_of_ble_eq_true rfl)⟩, (Nat.le_of_ble_eq_true rfl), (Nat.le_of_ble_eq_true rfl)⟩ rfl (Nat.le_of_ble_eq_true rfl) rfl dX5_next_85 ?_
      refine zt_if_eq (tgt := 95) hC h (by decide) dX5_next_88 (fun h => ?_) (fun h => ?_)
      · refine zt_iconst hC ki_0 dX5_next_95 ?_
        obtain rfl := Option.some.inj h
        exact zt_zret hC rfl rfl (Or.inl rfl) (Nat.le_of_ble_eq_true rfl) (Nat.le_of_ble_eq_true rfl) dX5_next_96
      · refine zt_iconst hC ki_1 dX5_next_91 ?_
        refine zt_goto (tgt := 96) hC (by decide) dX5_next_92 ?_
        obtain rfl := Option.some.inj h
        exact zt_zret hC rfl rfl (Or.inr rfl) (Nat.le_of_ble_eq_true rfl) (Nat.le_of_ble_eq_true rfl) dX5_next_96
  · rcases ite_or h with ⟨c109, h⟩ | ⟨c109, h⟩
    · refine zt_lsw (tgt := 97) hC rfl (off := 77) (by rw [c109]; rfl) (by decide) dX5_next_20 ?_
      refine zt_aload_n hC rfl dX5_next_97 ?_
      refine zt_dup hC rfl dX5_next_98 ?_
      refine zt_gI hC h cl5 (k := 2) (by decide) rfl wd_184 (Or.inl rfl) dX5_next_99 (fun v16 h => ?_)
      refine zt_iconst hC ki_1 dX5_next_102 ?_
      refine zt_iadd hC dX5_next_103 ?_
      refine zt_pI hC h cl5 (k := 2) (by decide) rfl wd_184 (Or.inl rfl) (Or.inl rfl) dX5_next_104 (fun M17 h => ?_)
      refine zt_aload_n hC rfl dX5_next_107 ?_
      refine zt_iconst hC ki_0 dX5_next_108 ?_
      obtain ⟨hk, h⟩ := ck_some h
      obtain ⟨v18, M19, h20, h⟩ := bnd_some h
      refine zt_callV (z := yX5_readDigit) (As := [.int (0 : Int32)]) (rest := []) (st1 := (.int v18 :: [])) hC 1 hk cl5 (fun l hl => c_X5_readDigit N x0 (0 : Int32) M17 (v18, M19) h20 l hl) rfl wd_292 wd_289 wd_291 ws_3 wd_5 hd_X5_readDigit rfl ⟨⟨(Nat.le_of_ble_eq_true rfl), (Nat.le_of_ble_eq_true rfl)⟩, (Nat.le_of_ble_eq_true rfl), (Nat.le_of_ble_eq_true rfl)⟩ rfl (Nat.le_of_ble_eq_true rfl) rfl dX5_next_109 ?_
      refine zt_if_eq (tgt := 153) hC h (by decide) dX5_next_112 (fun h => ?_) (fun h => ?_)
      · refine zt_iconst hC ki_0 dX5_next_153 ?_
        obtain rfl := Option.some.inj h
        exact zt_zret hC rfl rfl (Or.inl rfl) (Nat.le_of_ble_eq_true rfl) (Nat.le_of_ble_eq_true rfl) dX5_next_154
      · refine zt_aload_n hC rfl dX5_next_115 ?_
        refine zt_iconst hC ki_1 dX5_next_116 ?_
        obtain ⟨hk, h⟩ := ck_some h
        obtain ⟨v21, M22, h23, h⟩ := bnd_some h
        refine zt_callV (z := yX5_readDigit) (As := [.int (1 : Int32)]) (rest := []) (st1 := (.int v21 :: [])) hC 1 hk cl5 (fun l hl => c_X5_readDigit N x0 (1 : Int32) M19 (v21, M22) h23 l hl) rfl wd_292 wd_289 wd_291 ws_3 wd_5 hd_X5_readDigit rfl ⟨⟨(Nat.le_of_ble_eq_true rfl), (Nat.le_of_ble_eq_true rfl)⟩, (Nat.le_of_ble_eq_true rfl), (Nat.le_of_ble_eq_true rfl)⟩ rfl (Nat.le_of_ble_eq_true rfl) rfl dX5_next_117 ?_
        refine zt_if_eq (tgt := 153) hC h (by decide) dX5_next_120 (fun h => ?_) (fun h => ?_)
        · refine zt_iconst hC ki_0 dX5_next_153 ?_
          obtain rfl := Option.some.inj h
          exact zt_zret hC rfl rfl (Or.inl rfl) (Nat.le_of_ble_eq_true rfl) (Nat.le_of_ble_eq_true rfl) dX5_next_154
        · refine zt_aload_n hC rfl dX5_next_123 ?_
          refine zt_bipush hC kb_32 dX5_next_124 ?_
          obtain ⟨hk, h⟩ := ck_some h
          obtain ⟨v24, M25, h26, h⟩ := bnd_some h
          refine zt_callV (z := yX5_readSign) (As := [.int (32 : Int32)]) (rest := []) (st1 := (.int v24 :: [])) hC 1 hk cl5 (fun l hl => c_X5_readSign N x0 (32 : Int32) M22 (v24, M25) h26 l hl) rfl wd_303 wd_300 wd_302 ws_5 wd_5 hd_X5_readSign rfl ⟨⟨(Nat.le_of_ble_eq_true rfl), (Nat.le_of_ble_eq_true rfl)⟩, (Nat.le_of_ble_eq_true rfl), (Nat.le_of_ble_eq_true rfl)⟩ rfl (Nat.le_of_ble_eq_true rfl) rfl dX5_next_126 ?_
          refine zt_if_eq (tgt := 153) hC h (by decide) dX5_next_129 (fun h => ?_) (fun h => ?_)
          · refine zt_iconst hC ki_0 dX5_next_153 ?_
            obtain rfl := Option.some.inj h
            exact zt_zret hC rfl rfl (Or.inl rfl) (Nat.le_of_ble_eq_true rfl) (Nat.le_of_ble_eq_true rfl) dX5_next_154
          · refine zt_aload_n hC rfl dX5_next_132 ?_
            refine zt_iconst hC ki_2 dX5_next_133 ?_
            obtain ⟨hk, h⟩ := ck_some h
            obtain ⟨v27, M28, h29, h⟩ := bnd_some h
            refine zt_callV (z := yX5_readDigit) (As := [.int (2 : Int32)]) (rest := []) (st1 := (.int v27 :: [])) hC 1 hk cl5 (fun l hl => c_X5_readDigit N x0 (2 : Int32) M25 (v27, M28) h29 l hl) rfl wd_292 wd_289 wd_291 ws_3 wd_5 hd_X5_readDigit rfl ⟨⟨(Nat.le_of_ble_eq_true rfl), (Nat.le_of_ble_eq_true rfl)⟩, (Nat.le_of_ble_eq_true rfl), (Nat.le_of_ble_eq_true rfl)⟩ rfl (Nat.le_of_ble_eq_true rfl) rfl dX5_next_134 ?_
            refine zt_if_eq (tgt := 153) hC h (by decide) dX5_next_137 (fun h => ?_) (fun h => ?_)
            · refine zt_iconst hC ki_0 dX5_next_153 ?_
              obtain rfl := Option.some.inj h
              exact zt_zret hC rfl rfl (Or.inl rfl) (Nat.le_of_ble_eq_true rfl) (Nat.le_of_ble_eq_true rfl) dX5_next_154
            · refine zt_aload_n hC rfl dX5_next_140 ?_
              refine zt_bipush hC kb_59 dX5_next_141 ?_
              obtain ⟨hk, h⟩ := ck_some h
              obtain ⟨v30, M31, h32, h⟩ := bnd_some h
              refine zt_callV (z := yX5_readSign) (As := [.int (59 : Int32)]) (rest := []) (st1 := (.int v30 :: [])) hC 1 hk cl5 (fun l hl => c_X5_readSign N x0 (59 : Int32) M28 (v30, M31) h32 l hl) rfl wd_303 wd_300 wd_302 ws_5 wd_5 hd_X5_readSign rfl ⟨⟨(Nat.le_of_ble_eq_true rfl), (Nat.le_of_ble_eq_true rfl)⟩, (Nat.le_of_ble_eq_true rfl), (Nat.le_of_ble_eq_true rfl)⟩ rfl (Nat.le_of_ble_eq_true rfl) rfl dX5_next_143 ?_
              refine zt_if_eq (tgt := 153) hC h (by decide) dX5_next_146 (fun h => ?_) (fun h => ?_)
              · refine zt_iconst hC ki_0 dX5_next_153 ?_
                obtain rfl := Option.some.inj h
                exact zt_zret hC rfl rfl (Or.inl rfl) (Nat.le_of_ble_eq_true rfl) (Nat.le_of_ble_eq_true rfl) dX5_next_154
              · refine zt_iconst hC ki_1 dX5_next_149 ?_
                refine zt_goto (tgt := 154) hC (by decide) dX5_next_150 ?_
                obtain rfl := Option.some.inj h
                exact zt_zret hC rfl rfl (Or.inr rfl) (Nat.le_of_ble_eq_true rfl) (Nat.le_of_ble_eq_true rfl) dX5_next_154
    · rcases ite_or h with ⟨c110, h⟩ | ⟨c110, h⟩
      · refine zt_lsw (tgt := 64) hC rfl (off := 44) (by rw [c110]; rfl) (by decide) dX5_next_20 ?_
        refine zt_aload_n hC rfl dX5_next_64 ?_
        refine zt_dup hC rfl dX5_next_65 ?_
        refine zt_gI hC h cl5 (k := 2) (by decide) rfl wd_184 (Or.inl rfl) dX5_next_66 (fun v33 h => ?_)
        refine zt_iconst hC ki_1 dX5_next_69 ?_
        refine zt_iadd hC dX5_next_70 ?_
        refine zt_pI hC h cl5 (k := 2) (by decide) rfl wd_184 (Or.inl rfl) (Or.inl rfl) dX5_next_71 (fun M34 h => ?_)
        refine zt_aload_n hC rfl dX5_next_74 ?_
        refine zt_iconst hC ki_0 dX5_next_75 ?_
        obtain ⟨hk, h⟩ := ck_some h
        obtain ⟨v35, M36, h37, h⟩ := bnd_some h
        refine zt_callV (z := yX5_readDigit) (As := [.int (0 : Int32)]) (rest := []) (st1 := (.int v35 :: [])) hC 1 hk cl5 (fun l hl => c_X5_readDigit N x0 (0 : Int32) M34 (v35, M36) h37 l hl) rfl wd_292 wd_289 wd_291 ws_3 wd_5 hd_X5_readDigit rfl ⟨⟨(Nat.le_of_ble_eq_true rfl), (Nat.le_of_ble_eq_true rfl)⟩, (Nat.le_of_ble_eq_true rfl), (Nat.le_of_ble_eq_true rfl)⟩ rfl (Nat.le_of_ble_eq_true rfl) rfl dX5_next_76 ?_
        refine zt_if_eq (tgt := 95) hC h (by decide) dX5_next_79 (fun h => ?_) (fun h => ?_)
        · refine zt_iconst hC ki_0 dX5_next_95 ?_
          obtain rfl := Option.some.inj h
          exact zt_zret hC rfl rfl (Or.inl rfl) (Nat.le_of_ble_eq_true rfl) (Nat.le_of_ble_eq_true rfl) dX5_next_96
        · refine zt_aload_n hC rfl dX5_next_82 ?_
          refine zt_bipush hC kb_59 dX5_next_83 ?_
          obtain ⟨hk, h⟩ := ck_some h
          obtain ⟨v38, M39, h40, h⟩ := bnd_some h
          refine zt_callV (z := yX5_readSign) (As := [.int (59 : Int32)]) (rest := []) (st1 := (.int v38 :: [])) hC 1 hk cl5 (fun l hl => c_X5_readSign N x0 (59 : Int32) M36 (v38, M39) h40 l hl) rfl wd_303 wd_300 wd_302 ws_5 wd_5 hd_X5_readSign rfl ⟨⟨(Nat.le_of_ble_eq_true rfl), (Nat.le_of_ble_eq_true rfl)⟩, (Nat.le_of_ble_eq_true rfl), (Nat.le_of_ble_eq_true rfl)⟩ rfl (Nat.le_of_ble_eq_true rfl) rfl dX5_next_85 ?_
          refine zt_if_eq (tgt := 95) hC h (by decide) dX5_next_88 (fun h => ?_) (fun h => ?_)
          · refine zt_iconst hC ki_0 dX5_next_95 ?_
            obtain rfl := Option.some.inj h
            exact zt_zret hC rfl rfl (Or.inl rfl) (Nat.le_of_ble_eq_true rfl) (Nat.le_of_ble_eq_true rfl) dX5_next_96
          · refine zt_iconst hC ki_1 dX5_next_91 ?_
            refine zt_goto (tgt := 96) hC (by decide) dX5_next_92 ?_
            obtain rfl := Option.some.inj h
            exact zt_zret hC rfl rfl (Or.inr rfl) (Nat.le_of_ble_eq_true rfl) (Nat.le_of_ble_eq_true rfl) dX5_next_96
      · rcases ite_or h with ⟨c115, h⟩ | ⟨c115, h⟩
        · refine zt_lsw (tgt := 155) hC rfl (off := 135) (by rw [c115]; rfl) (by decide) dX5_next_20 ?_
          refine zt_aload_n hC rfl dX5_next_155 ?_
          refine zt_dup hC rfl dX5_next_156 ?_
          refine zt_gI hC h cl5 (k := 2) (by decide) rfl wd_184 (Or.inl rfl) dX5_next_157 (fun v41 h => ?_)
          refine zt_iconst hC ki_1 dX5_next_160 ?_
          refine zt_iadd hC dX5_next_161 ?_
          refine zt_pI hC h cl5 (k := 2) (by decide) rfl wd_184 (Or.inl rfl) (Or.inl rfl) dX5_next_162 (fun M42 h => ?_)
          refine zt_aload_n hC rfl dX5_next_165 ?_
          refine zt_iconst hC ki_0 dX5_next_166 ?_
          obtain ⟨hk, h⟩ := ck_some h
          obtain ⟨v43, M44, h45, h⟩ := bnd_some h
          refine zt_callV (z := yX5_readDigit) (As := [.int (0 : Int32)]) (rest := []) (st1 := (.int v43 :: [])) hC 1 hk cl5 (fun l hl => c_X5_readDigit N x0 (0 : Int32) M42 (v43, M44) h45 l hl) rfl wd_292 wd_289 wd_291 ws_3 wd_5 hd_X5_readDigit rfl ⟨⟨(Nat.le_of_ble_eq_true rfl), (Nat.le_of_ble_eq_true rfl)⟩, (Nat.le_of_ble_eq_true rfl), (Nat.le_of_ble_eq_true rfl)⟩ rfl (Nat.le_of_ble_eq_true rfl) rfl dX5_next_167 ?_
          refine zt_if_eq (tgt := 245) hC h (by decide) dX5_next_170 (fun h => ?_) (fun h => ?_)
          · refine zt_iconst hC ki_0 dX5_next_245 ?_
            obtain rfl := Option.some.inj h
            exact zt_zret hC rfl rfl (Or.inl rfl) (Nat.le_of_ble_eq_true rfl) (Nat.le_of_ble_eq_true rfl) dX5_next_246
          · refine zt_aload_n hC rfl dX5_next_173 ?_
            refine zt_iconst hC ki_1 dX5_next_174 ?_
            obtain ⟨hk, h⟩ := ck_some h
            obtain ⟨v46, M47, h48, h⟩ := bnd_some h
            refine zt_callV (z := yX5_readDigit) (As := [.int (1 : Int32)]) (rest := []) (st1 := (.int v46 :: [])) hC 1 hk cl5 (fun l hl => c_X5_readDigit N x0 (1 : Int32) M44 (v46, M47) h48 l hl) rfl wd_292 wd_289 wd_291 ws_3 wd_5 hd_X5_readDigit rfl ⟨⟨(Nat.le_of_ble_eq_true rfl), (Nat.le_of_ble_eq_true rfl)⟩, (Nat.le_of_ble_eq_true rfl), (Nat.le_of_ble_eq_true rfl)⟩ rfl (Nat.le_of_ble_eq_true rfl) rfl dX5_next_175 ?_
            refine zt_if_eq (tgt := 245) hC h (by decide) dX5_next_178 (fun h => ?_) (fun h => ?_)
            · refine zt_iconst hC ki_0 dX5_next_245 ?_
              obtain rfl := Option.some.inj h
              exact zt_zret hC rfl rfl (Or.inl rfl) (Nat.le_of_ble_eq_true rfl) (Nat.le_of_ble_eq_true rfl) dX5_next_246
            · refine zt_aload_n hC rfl dX5_next_181 ?_
              refine zt_bipush hC kb_32 dX5_next_182 ?_
              obtain ⟨hk, h⟩ := ck_some h
              obtain ⟨v49, M50, h51, h⟩ := bnd_some h
              refine zt_callV (z := yX5_readSign) (As := [.int (32 : Int32)]) (rest := []) (st1 := (.int v49 :: [])) hC 1 hk cl5 (fun l hl => c_X5_readSign N x0 (32 : Int32) M47 (v49, M50) h51 l hl) rfl wd_303 wd_300 wd_302 ws_5 wd_5 hd_X5_readSign rfl ⟨⟨(Nat.le_of_ble_eq_true rfl), (Nat.le_of_ble_eq_true rfl)⟩, (Nat.le_of_ble_eq_true rfl), (Nat.le_of_ble_eq_true rfl)⟩ rfl (Nat.le_of_ble_eq_true rfl) rfl dX5_next_184 ?_
              refine zt_if_eq (tgt := 245) hC h (by decide) dX5_next_187 (fun h => ?_) (fun h => ?_)
              · refine zt_iconst hC ki_0 dX5_next_245 ?_
                obtain rfl := Option.some.inj h
                exact zt_zret hC rfl rfl (Or.inl rfl) (Nat.le_of_ble_eq_true rfl) (Nat.le_of_ble_eq_true rfl) dX5_next_246
              · refine zt_aload_n hC rfl dX5_next_190 ?_
                refine zt_iconst hC ki_2 dX5_next_191 ?_
                obtain ⟨hk, h⟩ := ck_some h
                obtain ⟨v52, M53, h54, h⟩ := bnd_some h
                refine zt_callV (z := yX5_readNumber) (As := [.int (2 : Int32)]) (rest := []) (st1 := (.int v52 :: [])) hC 1 hk cl5 (fun l hl => c_X5_readNumber N x0 (2 : Int32) M50 (v52, M53) h54 l hl) rfl wd_307 wd_304 wd_306 ws_6 wd_5 hd_X5_readNumber rfl ⟨⟨(Nat.le_of_ble_eq_true rfl), (Nat.le_of_ble_eq_true rfl)⟩, (Nat.le_of_ble_eq_true rfl), (Nat.le_of_ble_eq_true rfl)⟩ rfl (Nat.le_of_ble_eq_true rfl) rfl dX5_next_192 ?_
                refine zt_if_eq (tgt := 245) hC h (by decide) dX5_next_195 (fun h => ?_) (fun h => ?_)
                · refine zt_iconst hC ki_0 dX5_next_245 ?_
                  obtain rfl := Option.some.inj h
                  exact zt_zret hC rfl rfl (Or.inl rfl) (Nat.le_of_ble_eq_true rfl) (Nat.le_of_ble_eq_true rfl) dX5_next_246
                · refine zt_aload_n hC rfl dX5_next_198 ?_
                  refine zt_bipush hC kb_32 dX5_next_199 ?_
                  obtain ⟨hk, h⟩ := ck_some h
                  obtain ⟨v55, M56, h57, h⟩ := bnd_some h
                  refine zt_callV (z := yX5_readSign) (As := [.int (32 : Int32)]) (rest := []) (st1 := (.int v55 :: [])) hC 1 hk cl5 (fun l hl => c_X5_readSign N x0 (32 : Int32) M53 (v55, M56) h57 l hl) rfl wd_303 wd_300 wd_302 ws_5 wd_5 hd_X5_readSign rfl ⟨⟨(Nat.le_of_ble_eq_true rfl), (Nat.le_of_ble_eq_true rfl)⟩, (Nat.le_of_ble_eq_true rfl), (Nat.le_of_ble_eq_true rfl)⟩ rfl (Nat.le_of_ble_eq_true rfl) rfl dX5_next_201 ?_
                  refine zt_if_eq (tgt := 245) hC h (by decide) dX5_next_204 (fun h => ?_) (fun h => ?_)
                  · refine zt_iconst hC ki_0 dX5_next_245 ?_
                    obtain rfl := Option.some.inj h
                    exact zt_zret hC rfl rfl (Or.inl rfl) (Nat.le_of_ble_eq_true rfl) (Nat.le_of_ble_eq_true rfl) dX5_next_246
                  · refine zt_aload_n hC rfl dX5_next_207 ?_
                    refine zt_iconst hC ki_3 dX5_next_208 ?_
                    obtain ⟨hk, h⟩ := ck_some h
                    obtain ⟨v58, M59, h60, h⟩ := bnd_some h
                    refine zt_callV (z := yX5_readNumber) (As := [.int (3 : Int32)]) (rest := []) (st1 := (.int v58 :: [])) hC 1 hk cl5 (fun l hl => c_X5_readNumber N x0 (3 : Int32) M56 (v58, M59) h60 l hl) rfl wd_307 wd_304 wd_306 ws_6 wd_5 hd_X5_readNumber rfl ⟨⟨(Nat.le_of_ble_eq_true rfl), (Nat.le_of_ble_eq_true rfl)⟩, (Nat.le_of_ble_eq_true rfl), (Nat.le_of_ble_eq_true rfl)⟩ rfl (Nat.le_of_ble_eq_true rfl) rfl dX5_next_209 ?_
                    refine zt_if_eq (tgt := 245) hC h (by decide) dX5_next_212 (fun h => ?_) (fun h => ?_)
                    · refine zt_iconst hC ki_0 dX5_next_245 ?_
                      obtain rfl := Option.some.inj h
                      exact zt_zret hC rfl rfl (Or.inl rfl) (Nat.le_of_ble_eq_true rfl) (Nat.le_of_ble_eq_true rfl) dX5_next_246
                    · refine zt_aload_n hC rfl dX5_next_215 ?_
                      refine zt_bipush hC kb_32 dX5_next_216 ?_
                      obtain ⟨hk, h⟩ := ck_some h
                      obtain ⟨v61, M62, h63, h⟩ := bnd_some h
                      refine zt_callV (z := yX5_readSign) (As := [.int (32 : Int32)]) (rest := []) (st1 := (.int v61 :: [])) hC 1 hk cl5 (fun l hl => c_X5_readSign N x0 (32 : Int32) M59 (v61, M62) h63 l hl) rfl wd_303 wd_300 wd_302 ws_5 wd_5 hd_X5_readSign rfl ⟨⟨(Nat.le_of_ble_eq_true rfl), (Nat.le_of_ble_eq_true rfl)⟩, (Nat.le_of_ble_eq_true rfl), (Nat.le_of_ble_eq_true rfl)⟩ rfl (Nat.le_of_ble_eq_true rfl) rfl dX5_next_218 ?_
                      refine zt_if_eq (tgt := 245) hC h (by decide) dX5_next_221 (fun h => ?_) (fun h => ?_)
                      · refine zt_iconst hC ki_0 dX5_next_245 ?_
                        obtain rfl := Option.some.inj h
                        exact zt_zret hC rfl rfl (Or.inl rfl) (Nat.le_of_ble_eq_true rfl) (Nat.le_of_ble_eq_true rfl) dX5_next_246
                      · refine zt_aload_n hC rfl dX5_next_224 ?_
                        refine zt_iconst hC ki_4 dX5_next_225 ?_
                        obtain ⟨hk, h⟩ := ck_some h
                        obtain ⟨v64, M65, h66, h⟩ := bnd_some h
                        refine zt_callV (z := yX5_readNumber) (As := [.int (4 : Int32)]) (rest := []) (st1 := (.int v64 :: [])) hC 1 hk cl5 (fun l hl => c_X5_readNumber N x0 (4 : Int32) M62 (v64, M65) h66 l hl) rfl wd_307 wd_304 wd_306 ws_6 wd_5 hd_X5_readNumber rfl ⟨⟨(Nat.le_of_ble_eq_true rfl), (Nat.le_of_ble_eq_true rfl)⟩, (Nat.le_of_ble_eq_true rfl), (Nat.le_of_ble_eq_true rfl)⟩ rfl (Nat.le_of_ble_eq_true rfl) rfl dX5_next_226 ?_
                        refine zt_if_eq (tgt := 245) hC h (by decide) dX5_next_229 (fun h => ?_) (fun h => ?_)
                        · refine zt_iconst hC ki_0 dX5_next_245 ?_
                          obtain rfl := Option.some.inj h
                          exact zt_zret hC rfl rfl (Or.inl rfl) (Nat.le_of_ble_eq_true rfl) (Nat.le_of_ble_eq_true rfl) dX5_next_246
                        · refine zt_aload_n hC rfl dX5_next_232 ?_
                          refine zt_bipush hC kb_59 dX5_next_233 ?_
                          obtain ⟨hk, h⟩ := ck_some h
                          obtain ⟨v67, M68, h69, h⟩ := bnd_some h
                          refine zt_callV (z := yX5_readSign) (As := [.int (59 : Int32)]) (rest := []) (st1 := (.int v67 :: [])) hC 1 hk cl5 (fun l hl => c_X5_readSign N x0 (59 : Int32) M65 (v67, M68) h69 l hl) rfl wd_303 wd_300 wd_302 ws_5 wd_5 hd_X5_readSign rfl ⟨⟨(Nat.le_of_ble_eq_true rfl), (Nat.le_of_ble_eq_true rfl)⟩, (Nat.le_of_ble_eq_true rfl), (Nat.le_of_ble_eq_true rfl)⟩ rfl (Nat.le_of_ble_eq_true rfl) rfl dX5_next_235 ?_
                          refine zt_if_eq (tgt := 245) hC h (by decide) dX5_next_238 (fun h => ?_) (fun h => ?_)
                          · refine zt_iconst hC ki_0 dX5_next_245 ?_
                            obtain rfl := Option.some.inj h
                            exact zt_zret hC rfl rfl (Or.inl rfl) (Nat.le_of_ble_eq_true rfl) (Nat.le_of_ble_eq_true rfl) dX5_next_246
                          · refine zt_iconst hC ki_1 dX5_next_241 ?_
                            refine zt_goto (tgt := 246) hC (by decide) dX5_next_242 ?_
                            obtain rfl := Option.some.inj h
                            exact zt_zret hC rfl rfl (Or.inr rfl) (Nat.le_of_ble_eq_true rfl) (Nat.le_of_ble_eq_true rfl) dX5_next_246
        · refine zt_lsw (tgt := 247) hC rfl (off := 227) (by rw [lv_osw c98 (by decide : Int32.toInt (98 : Int32) = 98), lv_osw c109 (by decide : Int32.toInt (109 : Int32) = 109), lv_osw c110 (by decide : Int32.toInt (110 : Int32) = 110), lv_osw c115 (by decide : Int32.toInt (115 : Int32) = 115)]; rfl) (by decide) dX5_next_20 ?_
          refine zt_iconst hC ki_0 dX5_next_247 ?_
          obtain rfl := Option.some.inj h
          exact zt_zret hC rfl rfl (Or.inl rfl) (Nat.le_of_ble_eq_true rfl) (Nat.le_of_ble_eq_true rfl) dX5_next_248
def rm_X5_countStatements : Room := { frames := 4, cells := 0, slots := 0, locals := 83 }
theorem hd_X5_countStatements : yX5_countStatements.cls ≠ "java/lang/invoke/MethodHandle" ∧ yX5_countStatements.cls ≠ "java/lang/invoke/VarHandle" ∧ (parseMethodDescriptor yX5_countStatements.desc).map (fun d => d.parameters.length) = some 0 := by decide +kernel
def b_X5_countStatements_4 (N : Nat) (k4 : Nat → Int32 → Int32 → Mm → Option (Int32 × Mm)) (x0 : Nat) (x1 : Int32) (x2 : Int32) (M : Mm) : Option (Int32 × Mm) :=
gI 5 M x0 1 (fun v1 =>
(if v1 ≤ x2 then
some (x1, M)
else
gI 5 M x0 2 (fun v2 =>
gI 5 M x0 1 (fun v3 =>
(if v3 ≤ v2 then
some (x1, M)
else
ck 5 M x0 (bnd (f_X5_next N x0 M) (fun v4 M5 =>
(if v4 = 0 then
some ((0 : Int32), M5)
else
k4 x0 (x1 + (1 : Int32)) (x2 + (1 : Int32)) M5))))))))
def l_X5_countStatements_4 (N : Nat) : Nat → Nat → Int32 → Int32 → Mm → Option (Int32 × Mm)
  | 0 => fun _ _ _ _ => none
  | n + 1 => b_X5_countStatements_4 N (l_X5_countStatements_4 N n)
set_option maxRecDepth 100000 in
set_option maxHeartbeats 4000000 in
theorem v_X5_countStatements_4 {X : Cx} {G : Gl} {r : (Int32 × Mm)} (N : Nat) (hC : CX X G yX5_countStatements cX5_countStatements 3 (some .int) rm_X5_countStatements) (k4 : Nat → Int32 → Int32 → Mm → Option (Int32 × Mm)) (hk4 : ∀ (x0 : Nat) (x1 : Int32) (x2 : Int32) (M : Mm), k4 x0 x1 x2 M = some r → TW X G 3 (RQ X G (some (.int r.1)) r.2 rm_X5_countStatements) 0 0 M 4 [(0, .ref x0), (1, .int x1), (2, .int x2)] []) (x0 : Nat) (x1 : Int32) (x2 : Int32) (M : Mm) (h : b_X5_countStatements_4 N k4 x0 x1 x2 M = some r) : TW X G 3 (RQ X G (some (.int r.1)) r.2 rm_X5_countStatements) 0 0 M 4 [(0, .ref x0), (1, .int x1), (2, .int x2)] [] := by
  unfold b_X5_countStatements_4 at h
  refine zt_iload_n hC rfl dX5_countStatements_4 ?_
  refine zt_aload_n hC rfl dX5_countStatements_5 ?_
  refine zt_gI hC h cl5 (k := 1) (by decide) rfl wd_183 (Or.inl rfl) dX5_countStatements_6 (fun v1 h => ?_)
  refine zt_icmp_ge (tgt := 41) hC h (by decide) dX5_countStatements_9 (fun h => ?_) (fun h => ?_)
  · refine zt_iload_n hC rfl dX5_countStatements_41 ?_
    obtain rfl := Option.some.inj h
    exact zt_iret hC rfl rfl (Nat.le_of_ble_eq_true rfl) (Nat.le_of_ble_eq_true rfl) dX5_countStatements_42
  · refine zt_aload_n hC rfl dX5_countStatements_12 ?_
    refine zt_gI hC h cl5 (k := 2) (by decide) rfl wd_184 (Or.inl rfl) dX5_countStatements_13 (fun v2 h => ?_)
    refine zt_aload_n hC rfl dX5_countStatements_16 ?_
    refine zt_gI hC h cl5 (k := 1) (by decide) rfl wd_183 (Or.inl rfl) dX5_countStatements_17 (fun v3 h => ?_)
    refine zt_icmp_ge (tgt := 41) hC h (by decide) dX5_countStatements_20 (fun h => ?_) (fun h => ?_)
    · refine zt_iload_n hC rfl dX5_countStatements_41 ?_
      obtain rfl := Option.some.inj h
      exact zt_iret hC rfl rfl (Nat.le_of_ble_eq_true rfl) (Nat.le_of_ble_eq_true rfl) dX5_countStatements_42
    · refine zt_aload_n hC rfl dX5_countStatements_23 ?_
      obtain ⟨hk, h⟩ := ck_some h
      obtain ⟨v4, M5, h6, h⟩ := bnd_some h
      refine zt_callV (z := yX5_next) (As := []) (rest := []) (st1 := (.int v4 :: [])) hC 0 hk cl5 (fun l hl => c_X5_next N x0 M (v4, M5) h6 l hl) rfl wd_284 wd_281 wd_282 wd_283 wd_5 hd_X5_next rfl ⟨⟨(Nat.le_of_ble_eq_true rfl), (Nat.le_of_ble_eq_true rfl)⟩, (Nat.le_of_ble_eq_true rfl), (Nat.le_of_ble_eq_true rfl)⟩ rfl (Nat.le_of_ble_eq_true rfl) rfl dX5_countStatements_24 ?_
      refine zt_if_ne (tgt := 32) hC h (by decide) dX5_countStatements_27 (fun h => ?_) (fun h => ?_)
      · refine zt_iinc (v := (x1 + (1 : Int32))) (lv' := [(1, .int (x1 + (1 : Int32))), (0, .ref x0), (2, .int x2)]) hC rfl (by rw [ki_1]) (by decide) rfl dX5_countStatements_32 ?_
        refine zt_iinc (v := (x2 + (1 : Int32))) (lv' := [(2, .int (x2 + (1 : Int32))), (1, .int (x1 + (1 : Int32))), (0, .ref x0)]) hC rfl (by rw [ki_1]) (by decide) rfl dX5_countStatements_35 ?_
        refine zt_goto (tgt := 4) hC (by decide) dX5_countStatements_38 ?_
        refine zt_keep [0, 1, 2] rfl ?_
        exact hk4 x0 (x1 + (1 : Int32)) (x2 + (1 : Int32)) M5 h
      · refine zt_iconst hC ki_0 dX5_countStatements_30 ?_
        obtain rfl := Option.some.inj h
        exact zt_iret hC rfl rfl (Nat.le_of_ble_eq_true rfl) (Nat.le_of_ble_eq_true rfl) dX5_countStatements_31
theorem w_X5_countStatements_4 {X : Cx} {G : Gl} {r : (Int32 × Mm)} (N : Nat) (hC : CX X G yX5_countStatements cX5_countStatements 3 (some .int) rm_X5_countStatements) (n : Nat) : ∀ (x0 : Nat) (x1 : Int32) (x2 : Int32) (M : Mm), l_X5_countStatements_4 N n x0 x1 x2 M = some r → TW X G 3 (RQ X G (some (.int r.1)) r.2 rm_X5_countStatements) 0 0 M 4 [(0, .ref x0), (1, .int x1), (2, .int x2)] [] := by
  induction n with
  | zero => intro  x0 x1 x2 M h; cases (show none = some r from h)
  | succ n ih => intro  x0 x1 x2 M h; exact v_X5_countStatements_4 N hC (l_X5_countStatements_4 N n) ih x0 x1 x2 M h
def f_X5_countStatements (N : Nat) (x0 : Nat) (M : Mm) : Option (Int32 × Mm) :=
l_X5_countStatements_4 N N x0 (0 : Int32) (0 : Int32) M
set_option maxRecDepth 100000 in
set_option maxHeartbeats 4000000 in
theorem c_X5_countStatements (N : Nat) (x0 : Nat) (M : Mm) (r : (Int32 × Mm)) (h : f_X5_countStatements N x0 M = some r) (l : Launch) (hfl : l.flags = flags0) {G : Gl} : MT l G yX5_countStatements cX5_countStatements 3 (some .int) rm_X5_countStatements [.ref x0] M (some (.int r.1)) r.2 := by
  unfold f_X5_countStatements at h
  refine zt_start hfl (lv := [(0, .ref x0)]) (by decide) (Nat.le_of_ble_eq_true rfl) rfl wd_280 (fun X hC _ => ?_)
  refine zt_iconst hC ki_0 dX5_countStatements_0 ?_
  refine zt_istore_n (lv' := [(1, .int (0 : Int32)), (0, .ref x0)]) hC (by decide) rfl dX5_countStatements_1 ?_
  refine zt_iconst hC ki_0 dX5_countStatements_2 ?_
  refine zt_istore_n (lv' := [(2, .int (0 : Int32)), (1, .int (0 : Int32)), (0, .ref x0)]) hC (by decide) rfl dX5_countStatements_3 ?_
  refine zt_keep [0, 1, 2] rfl ?_
  exact w_X5_countStatements_4 N hC N x0 (0 : Int32) (0 : Int32) M h
def rm_X10_standingInAll : Room := { frames := 0, cells := 0, slots := 0, locals := 0 }
theorem hd_X10_standingInAll : yX10_standingInAll.cls ≠ "java/lang/invoke/MethodHandle" ∧ yX10_standingInAll.cls ≠ "java/lang/invoke/VarHandle" ∧ (parseMethodDescriptor yX10_standingInAll.desc).map (fun d => d.parameters.length) = some 0 := by decide +kernel
def b_X10_standingInAll_13 (N : Nat) (k13 : Int32 → Nat → Int32 → Int32 → Mm → Option (Int32 × Mm)) (x1 : Int32) (x2 : Nat) (x3 : Int32) (x4 : Int32) (M : Mm) : Option (Int32 × Mm) :=
(if x3 ≤ x4 then
some (x1, M)
else
ald M x2 x4 (fun v1 =>
k13 (x1 + v1) x2 x3 (x4 + (1 : Int32)) M))
def l_X10_standingInAll_13 (N : Nat) : Nat → Int32 → Nat → Int32 → Int32 → Mm → Option (Int32 × Mm)
  | 0 => fun _ _ _ _ _ => none
  | n + 1 => b_X10_standingInAll_13 N (l_X10_standingInAll_13 N n)
set_option maxRecDepth 100000 in
set_option maxHeartbeats 4000000 in
theorem v_X10_standingInAll_13 {X : Cx} {G : Gl} {r : (Int32 × Mm)} (N : Nat) (hC : CX X G yX10_standingInAll cX10_standingInAll 6 (some .int) rm_X10_standingInAll) (k13 : Int32 → Nat → Int32 → Int32 → Mm → Option (Int32 × Mm)) (hk13 : ∀ (x1 : Int32) (x2 : Nat) (x3 : Int32) (x4 : Int32) (M : Mm), k13 x1 x2 x3 x4 M = some r → TW X G 6 (RQ X G (some (.int r.1)) r.2 rm_X10_standingInAll) 0 0 M 13 [(1, .int x1), (2, .ref x2), (3, .int x3), (4, .int x4)] []) (x1 : Int32) (x2 : Nat) (x3 : Int32) (x4 : Int32) (M : Mm) (h : b_X10_standingInAll_13 N k13 x1 x2 x3 x4 M = some r) : TW X G 6 (RQ X G (some (.int r.1)) r.2 rm_X10_standingInAll) 0 0 M 13 [(1, .int x1), (2, .ref x2), (3, .int x3), (4, .int x4)] [] := by
  unfold b_X10_standingInAll_13 at h
  refine zt_iload hC rfl dX10_standingInAll_13 ?_
  refine zt_iload_n hC rfl dX10_standingInAll_15 ?_
  refine zt_icmp_ge (tgt := 36) hC h (by decide) dX10_standingInAll_16 (fun h => ?_) (fun h => ?_)
  · refine zt_iload_n hC rfl dX10_standingInAll_36 ?_
    obtain rfl := Option.some.inj h
    exact zt_iret hC rfl rfl (Nat.le_of_ble_eq_true rfl) (Nat.le_of_ble_eq_true rfl) dX10_standingInAll_37
  · refine zt_aload_n hC rfl dX10_standingInAll_19 ?_
    refine zt_iload hC rfl dX10_standingInAll_20 ?_
    refine zt_ald hC h dX10_standingInAll_22 (fun v1 h => ?_)
    refine zt_istore (lv' := [(5, .int v1), (1, .int x1), (2, .ref x2), (3, .int x3), (4, .int x4)]) hC (by decide) rfl dX10_standingInAll_23 ?_
    refine zt_iload_n hC rfl dX10_standingInAll_25 ?_
    refine zt_iload hC rfl dX10_standingInAll_26 ?_
    refine zt_iadd hC dX10_standingInAll_28 ?_
    refine zt_istore_n (lv' := [(1, .int (x1 + v1)), (5, .int v1), (2, .ref x2), (3, .int x3), (4, .int x4)]) hC (by decide) rfl dX10_standingInAll_29 ?_
    refine zt_iinc (v := (x4 + (1 : Int32))) (lv' := [(4, .int (x4 + (1 : Int32))), (1, .int (x1 + v1)), (5, .int v1), (2, .ref x2), (3, .int x3)]) hC rfl (by rw [ki_1]) (by decide) rfl dX10_standingInAll_30 ?_
    refine zt_goto (tgt := 13) hC (by decide) dX10_standingInAll_33 ?_
    refine zt_keep [1, 2, 3, 4] rfl ?_
    exact hk13 (x1 + v1) x2 x3 (x4 + (1 : Int32)) M h
theorem w_X10_standingInAll_13 {X : Cx} {G : Gl} {r : (Int32 × Mm)} (N : Nat) (hC : CX X G yX10_standingInAll cX10_standingInAll 6 (some .int) rm_X10_standingInAll) (n : Nat) : ∀ (x1 : Int32) (x2 : Nat) (x3 : Int32) (x4 : Int32) (M : Mm), l_X10_standingInAll_13 N n x1 x2 x3 x4 M = some r → TW X G 6 (RQ X G (some (.int r.1)) r.2 rm_X10_standingInAll) 0 0 M 13 [(1, .int x1), (2, .ref x2), (3, .int x3), (4, .int x4)] [] := by
  induction n with
  | zero => intro  x1 x2 x3 x4 M h; cases (show none = some r from h)
  | succ n ih => intro  x1 x2 x3 x4 M h; exact v_X10_standingInAll_13 N hC (l_X10_standingInAll_13 N n) ih x1 x2 x3 x4 M h
def f_X10_standingInAll (N : Nat) (x0 : Nat) (M : Mm) : Option (Int32 × Mm) :=
gR 10 M x0 10 (fun v1 =>
alen M v1 (fun v2 =>
l_X10_standingInAll_13 N N (0 : Int32) v1 v2 (0 : Int32) M))
set_option maxRecDepth 100000 in
set_option maxHeartbeats 4000000 in
theorem c_X10_standingInAll (N : Nat) (x0 : Nat) (M : Mm) (r : (Int32 × Mm)) (h : f_X10_standingInAll N x0 M = some r) (l : Launch) (hfl : l.flags = flags0) {G : Gl} : MT l G yX10_standingInAll cX10_standingInAll 6 (some .int) rm_X10_standingInAll [.ref x0] M (some (.int r.1)) r.2 := by
  unfold f_X10_standingInAll at h
  refine zt_start hfl (lv := [(0, .ref x0)]) (by decide) (Nat.le_of_ble_eq_true rfl) rfl wd_342 (fun X hC _ => ?_)
  refine zt_iconst hC ki_0 dX10_standingInAll_0 ?_
  refine zt_istore_n (lv' := [(1, .int (0 : Int32)), (0, .ref x0)]) hC (by decide) rfl dX10_standingInAll_1 ?_
  refine zt_aload_n hC rfl dX10_standingInAll_2 ?_
  refine zt_gR hC h cl10 (k := 10) (by decide) rfl wd_127 (Or.inl rfl) dX10_standingInAll_3 (fun v1 h => ?_)
  refine zt_astore_n (lv' := [(2, .ref v1), (1, .int (0 : Int32)), (0, .ref x0)]) hC (by decide) rfl dX10_standingInAll_6 ?_
  refine zt_aload_n hC rfl dX10_standingInAll_7 ?_
  refine zt_alen hC h dX10_standingInAll_8 (fun v2 h => ?_)
  refine zt_istore_n (lv' := [(3, .int v2), (2, .ref v1), (1, .int (0 : Int32)), (0, .ref x0)]) hC (by decide) rfl dX10_standingInAll_9 ?_
  refine zt_iconst hC ki_0 dX10_standingInAll_10 ?_
  refine zt_istore (lv' := [(4, .int (0 : Int32)), (3, .int v2), (2, .ref v1), (1, .int (0 : Int32)), (0, .ref x0)]) hC (by decide) rfl dX10_standingInAll_11 ?_
  refine zt_keep [1, 2, 3, 4] rfl ?_
  exact w_X10_standingInAll_13 N hC N (0 : Int32) v1 v2 (0 : Int32) M h
