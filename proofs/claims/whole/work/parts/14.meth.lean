def rm_X11_weigh : Room := { frames := 0, cells := 0, slots := 0, locals := 0 }
theorem hd_X11_weigh : yX11_weigh.cls ≠ "java/lang/invoke/MethodHandle" ∧ yX11_weigh.cls ≠ "java/lang/invoke/VarHandle" ∧ (parseMethodDescriptor yX11_weigh.desc).map (fun d => d.parameters.length) = some 2 := by decide +kernel
def j_X11_weigh_31 (N : Nat) (x0 : Nat) (x1 : Int32) (x2 : Int32) (M : Mm) : Option (Unit × Mm) :=
pI 11 M x0 6 x1 (fun M1 =>
pI 11 M1 x0 7 x2 (fun M2 =>
some ((), M2)))
set_option maxRecDepth 100000 in
set_option maxHeartbeats 4000000 in
theorem w_X11_weigh_31 {X : Cx} {G : Gl} {r : (Unit × Mm)} (N : Nat) (hC : CX X G yX11_weigh cX11_weigh 3 none rm_X11_weigh) (x0 : Nat) (x1 : Int32) (x2 : Int32) (M : Mm) (h : j_X11_weigh_31 N x0 x1 x2 M = some r) : TW X G 3 (RQ X G none r.2 rm_X11_weigh) 0 0 M 31 [(0, .ref x0), (1, .int x1), (2, .int x2)] [] := by
  unfold j_X11_weigh_31 at h
  refine zt_aload_n hC rfl dX11_weigh_31 ?_
  refine zt_iload_n hC rfl dX11_weigh_32 ?_
  refine zt_pI hC h cl11 (k := 6) (by decide) rfl wd_233 (Or.inl rfl) (Or.inl rfl) dX11_weigh_33 (fun M1 h => ?_)
  refine zt_aload_n hC rfl dX11_weigh_36 ?_
  refine zt_iload_n hC rfl dX11_weigh_37 ?_
  refine zt_pI hC h cl11 (k := 7) (by decide) rfl wd_234 (Or.inl rfl) (Or.inl rfl) dX11_weigh_38 (fun M2 h => ?_)
  obtain rfl := Option.some.inj h
  exact zt_vret hC rfl rfl (Nat.le_of_ble_eq_true rfl) (Nat.le_of_ble_eq_true rfl) dX11_weigh_41
def f_X11_weigh (N : Nat) (x0 : Nat) (x1 : Int32) (x2 : Int32) (M : Mm) : Option (Unit × Mm) :=
gI 11 M x0 7 (fun v1 =>
(if v1 < 0 then
j_X11_weigh_31 N x0 x1 x2 M
else
gI 11 M x0 6 (fun v2 =>
(if v2 < x1 then
j_X11_weigh_31 N x0 x1 x2 M
else
gI 11 M x0 6 (fun v3 =>
(if x1 = v3 then
gI 11 M x0 7 (fun v4 =>
(if v4 ≤ x2 then
some ((), M)
else
j_X11_weigh_31 N x0 x1 x2 M))
else
some ((), M)))))))
set_option maxRecDepth 100000 in
set_option maxHeartbeats 4000000 in
theorem c_X11_weigh (N : Nat) (x0 : Nat) (x1 : Int32) (x2 : Int32) (M : Mm) (r : (Unit × Mm)) (h : f_X11_weigh N x0 x1 x2 M = some r) (l : Launch) (hfl : l.flags = flags0) {G : Gl} : MT l G yX11_weigh cX11_weigh 3 none rm_X11_weigh [.ref x0, .int x1, .int x2] M none r.2 := by
  unfold f_X11_weigh at h
  refine zt_start hfl (lv := [(0, .ref x0), (1, .int x1), (2, .int x2)]) (by decide) (Nat.le_of_ble_eq_true rfl) rfl wd_724 (fun X hC _ => ?_)
  refine zt_aload_n hC rfl dX11_weigh_0 ?_
  refine zt_gI hC h cl11 (k := 7) (by decide) rfl wd_234 (Or.inl rfl) dX11_weigh_1 (fun v1 h => ?_)
  refine zt_if_lt (tgt := 31) hC h (by decide) dX11_weigh_4 (fun h => ?_) (fun h => ?_)
  · refine zt_keep [0, 1, 2] rfl ?_
    exact w_X11_weigh_31 N hC x0 x1 x2 M h
  · refine zt_iload_n hC rfl dX11_weigh_7 ?_
    refine zt_aload_n hC rfl dX11_weigh_8 ?_
    refine zt_gI hC h cl11 (k := 6) (by decide) rfl wd_233 (Or.inl rfl) dX11_weigh_9 (fun v2 h => ?_)
    refine zt_icmp_gt (tgt := 31) hC h (by decide) dX11_weigh_12 (fun h => ?_) (fun h => ?_)
    · refine zt_keep [0, 1, 2] rfl ?_
      exact w_X11_weigh_31 N hC x0 x1 x2 M h
    · refine zt_iload_n hC rfl dX11_weigh_15 ?_
      refine zt_aload_n hC rfl dX11_weigh_16 ?_
      refine zt_gI hC h cl11 (k := 6) (by decide) rfl wd_233 (Or.inl rfl) dX11_weigh_17 (fun v3 h => ?_)
      refine zt_icmp_ne (tgt := 41) hC h (by decide) dX11_weigh_20 (fun h => ?_) (fun h => ?_)
      · obtain rfl := Option.some.inj h
        exact zt_vret hC rfl rfl (Nat.le_of_ble_eq_true rfl) (Nat.le_of_ble_eq_true rfl) dX11_weigh_41
      · refine zt_iload_n hC rfl dX11_weigh_23 ?_
        refine zt_aload_n hC rfl dX11_weigh_24 ?_
        refine zt_gI hC h cl11 (k := 7) (by decide) rfl wd_234 (Or.inl rfl) dX11_weigh_25 (fun v4 h => ?_)
        refine zt_icmp_ge (tgt := 41) hC h (by decide) dX11_weigh_28 (fun h => ?_) (fun h => ?_)
        · obtain rfl := Option.some.inj h
          exact zt_vret hC rfl rfl (Nat.le_of_ble_eq_true rfl) (Nat.le_of_ble_eq_true rfl) dX11_weigh_41
        · refine zt_keep [0, 1, 2] rfl ?_
          exact w_X11_weigh_31 N hC x0 x1 x2 M h
def rm_X11_explore0 : Room := { frames := 5, cells := 0, slots := 0, locals := 114 }
theorem hd_X11_explore : yX11_explore.cls ≠ "java/lang/invoke/MethodHandle" ∧ yX11_explore.cls ≠ "java/lang/invoke/VarHandle" ∧ (parseMethodDescriptor yX11_explore.desc).map (fun d => d.parameters.length) = some 4 := by decide +kernel
def j_X11_explore0_51 (N : Nat) (k4 : Nat → Nat → Int32 → Int32 → Int32 → Mm → Option (Unit × Mm)) (x0 : Nat) (x1 : Nat) (x2 : Int32) (x3 : Int32) (x5 : Int32) (M : Mm) : Option (Unit × Mm) :=
gR 10 M x1 7 (fun v1 =>
ck 10 M x1 (bnd (f_X10_ask N x1 v1 M) (fun v2 M3 =>
ck 10 M3 x1 (bnd (f_X10_close N x1 M3) (fun v5 M6 =>
k4 x0 x1 x2 x3 (x5 + (-1 : Int32)) M6)))))
set_option maxRecDepth 100000 in
set_option maxHeartbeats 4000000 in
theorem w_X11_explore0_51 {X : Cx} {G : Gl} {r : (Unit × Mm)} (N : Nat) (hC : CX X G yX11_explore cX11_explore 6 none rm_X11_explore0) (k4 : Nat → Nat → Int32 → Int32 → Int32 → Mm → Option (Unit × Mm)) (hk4 : ∀ (x0 : Nat) (x1 : Nat) (x2 : Int32) (x3 : Int32) (x5 : Int32) (M : Mm), k4 x0 x1 x2 x3 x5 M = some r → TW X G 6 (RQ X G none r.2 rm_X11_explore0) 0 0 M 4 [(0, .ref x0), (1, .ref x1), (2, .int x2), (3, .int x3), (5, .int x5)] []) (x0 : Nat) (x1 : Nat) (x2 : Int32) (x3 : Int32) (x5 : Int32) (M : Mm) (h : j_X11_explore0_51 N k4 x0 x1 x2 x3 x5 M = some r) : TW X G 6 (RQ X G none r.2 rm_X11_explore0) 0 0 M 51 [(0, .ref x0), (1, .ref x1), (2, .int x2), (3, .int x3), (5, .int x5)] [] := by
  unfold j_X11_explore0_51 at h
  refine zt_aload_n hC rfl dX11_explore_51 ?_
  refine zt_aload_n hC rfl dX11_explore_52 ?_
  refine zt_gR hC h cl10 (k := 7) (by decide) rfl wd_122 (Or.inl rfl) dX11_explore_53 (fun v1 h => ?_)
  obtain ⟨hk, h⟩ := ck_some h
  obtain ⟨v2, M3, h4, h⟩ := bnd_some h
  refine zt_callV (z := yX10_ask) (As := [.ref v1]) (rest := []) (st1 := []) hC 1 hk cl10 (fun l hl => c_X10_ask N x1 v1 M (v2, M3) h4 l hl) rfl wd_472 wd_707 wd_470 wd_471 wd_2 hd_X10_ask rfl ⟨⟨(Nat.le_of_ble_eq_true rfl), (Nat.le_of_ble_eq_true rfl)⟩, (Nat.le_of_ble_eq_true rfl), (Nat.le_of_ble_eq_true rfl)⟩ rfl (Nat.le_of_ble_eq_true rfl) rfl dX11_explore_56 ?_
  refine zt_aload_n hC rfl dX11_explore_59 ?_
  obtain ⟨hk, h⟩ := ck_some h
  obtain ⟨v5, M6, h7, h⟩ := bnd_some h
  refine zt_callV (z := yX10_close) (As := []) (rest := []) (st1 := []) hC 0 hk cl10 (fun l hl => c_X10_close N x1 M3 (v5, M6) h7 l hl) rfl wd_542 wd_708 wd_540 wd_541 wd_2 hd_X10_close rfl ⟨⟨(Nat.le_of_ble_eq_true rfl), (Nat.le_of_ble_eq_true rfl)⟩, (Nat.le_of_ble_eq_true rfl), (Nat.le_of_ble_eq_true rfl)⟩ rfl (Nat.le_of_ble_eq_true rfl) rfl dX11_explore_60 ?_
  refine zt_iinc (v := (x5 + (-1 : Int32))) (lv' := [(5, .int (x5 + (-1 : Int32))), (0, .ref x0), (1, .ref x1), (2, .int x2), (3, .int x3)]) hC rfl (by rw [ki_m1]) (by decide) rfl dX11_explore_63 ?_
  refine zt_goto (tgt := 4) hC (by decide) dX11_explore_66 ?_
  refine zt_keep [0, 1, 2, 3, 5] rfl ?_
  exact hk4 x0 x1 x2 x3 (x5 + (-1 : Int32)) M6 h
def b_X11_explore0_4 (N : Nat) (k4 : Nat → Nat → Int32 → Int32 → Int32 → Mm → Option (Unit × Mm)) (x0 : Nat) (x1 : Nat) (x2 : Int32) (x3 : Int32) (x5 : Int32) (M : Mm) : Option (Unit × Mm) :=
(if x5 ≤ 0 then
ck 10 M x1 (bnd (f_X10_gain N x1 M) (fun v1 M2 =>
ck 11 M2 x0 (bnd (f_X11_weigh N x0 v1 x3 M2) (fun v4 M5 =>
some ((), M5)))))
else
ck 10 M x1 (bnd (f_X10_bring N x1 M) (fun v7 M8 =>
gR 10 M8 x1 7 (fun v10 =>
gI 1 M8 v10 1 (fun v11 =>
(if v11 = 0 then
(if (625 : Int32) ≤ x2 then
j_X11_explore0_51 N k4 x0 x1 x2 x3 x5 M8
else
(gN 10 M8 x1 17
(j_X11_explore0_51 N k4 x0 x1 x2 x3 x5 M8)
(fun v12 =>
(gN 10 M8 x1 17
(none)
(fun v13 =>
none)))))
else
j_X11_explore0_51 N k4 x0 x1 x2 x3 x5 M8))))))
def l_X11_explore0_4 (N : Nat) : Nat → Nat → Nat → Int32 → Int32 → Int32 → Mm → Option (Unit × Mm)
  | 0 => fun _ _ _ _ _ _ => none
  | n + 1 => b_X11_explore0_4 N (l_X11_explore0_4 N n)
set_option maxRecDepth 100000 in
set_option maxHeartbeats 4000000 in
theorem v_X11_explore0_4 {X : Cx} {G : Gl} {r : (Unit × Mm)} (N : Nat) (hC : CX X G yX11_explore cX11_explore 6 none rm_X11_explore0) (k4 : Nat → Nat → Int32 → Int32 → Int32 → Mm → Option (Unit × Mm)) (hk4 : ∀ (x0 : Nat) (x1 : Nat) (x2 : Int32) (x3 : Int32) (x5 : Int32) (M : Mm), k4 x0 x1 x2 x3 x5 M = some r → TW X G 6 (RQ X G none r.2 rm_X11_explore0) 0 0 M 4 [(0, .ref x0), (1, .ref x1), (2, .int x2), (3, .int x3), (5, .int x5)] []) (x0 : Nat) (x1 : Nat) (x2 : Int32) (x3 : Int32) (x5 : Int32) (M : Mm) (h : b_X11_explore0_4 N k4 x0 x1 x2 x3 x5 M = some r) : TW X G 6 (RQ X G none r.2 rm_X11_explore0) 0 0 M 4 [(0, .ref x0), (1, .ref x1), (2, .int x2), (3, .int x3), (5, .int x5)] [] := by
  unfold b_X11_explore0_4 at h
  refine zt_iload hC rfl dX11_explore_4 ?_
  refine zt_if_le (tgt := 69) hC h (by decide) dX11_explore_6 (fun h => ?_) (fun h => ?_)
  · refine zt_aload_n hC rfl dX11_explore_69 ?_
    refine zt_aload_n hC rfl dX11_explore_70 ?_
    obtain ⟨hk, h⟩ := ck_some h
    obtain ⟨v1, M2, h3, h⟩ := bnd_some h
    refine zt_callV (z := yX10_gain) (As := []) (rest := [.ref x0]) (st1 := (.int v1 :: [.ref x0])) hC 0 hk cl10 (fun l hl => c_X10_gain N x1 M (v1, M2) h3 l hl) rfl wd_614 wd_611 wd_612 wd_613 wd_2 hd_X10_gain rfl ⟨⟨(Nat.le_of_ble_eq_true rfl), (Nat.le_of_ble_eq_true rfl)⟩, (Nat.le_of_ble_eq_true rfl), (Nat.le_of_ble_eq_true rfl)⟩ rfl (Nat.le_of_ble_eq_true rfl) rfl dX11_explore_71 ?_
    refine zt_iload_n hC rfl dX11_explore_74 ?_
    obtain ⟨hk, h⟩ := ck_some h
    obtain ⟨v4, M5, h6, h⟩ := bnd_some h
    refine zt_callV (z := yX11_weigh) (As := [.int v1, .int x3]) (rest := []) (st1 := []) hC 2 hk cl11 (fun l hl => c_X11_weigh N x0 v1 x3 M2 (v4, M5) h6 l hl) rfl wd_724 wd_721 wd_723 ws_18 wd_1 hd_X11_weigh rfl ⟨⟨(Nat.le_of_ble_eq_true rfl), (Nat.le_of_ble_eq_true rfl)⟩, (Nat.le_of_ble_eq_true rfl), (Nat.le_of_ble_eq_true rfl)⟩ rfl (Nat.le_of_ble_eq_true rfl) rfl dX11_explore_75 ?_
    obtain rfl := Option.some.inj h
    exact zt_vret hC rfl rfl (Nat.le_of_ble_eq_true rfl) (Nat.le_of_ble_eq_true rfl) dX11_explore_78
  · refine zt_aload_n hC rfl dX11_explore_9 ?_
    obtain ⟨hk, h⟩ := ck_some h
    obtain ⟨v7, M8, h9, h⟩ := bnd_some h
    refine zt_callV (z := yX10_bring) (As := []) (rest := []) (st1 := []) hC 0 hk cl10 (fun l hl => c_X10_bring N x1 M (v7, M8) h9 l hl) rfl wd_445 wd_706 wd_443 wd_444 wd_2 hd_X10_bring rfl ⟨⟨(Nat.le_of_ble_eq_true rfl), (Nat.le_of_ble_eq_true rfl)⟩, (Nat.le_of_ble_eq_true rfl), (Nat.le_of_ble_eq_true rfl)⟩ rfl (Nat.le_of_ble_eq_true rfl) rfl dX11_explore_10 ?_
    refine zt_aload_n hC rfl dX11_explore_13 ?_
    refine zt_gR hC h cl10 (k := 7) (by decide) rfl wd_122 (Or.inl rfl) dX11_explore_14 (fun v10 h => ?_)
    refine zt_gI hC h cl1 (k := 1) (by decide) rfl wd_74 (Or.inl rfl) dX11_explore_17 (fun v11 h => ?_)
    refine zt_if_ne (tgt := 51) hC h (by decide) dX11_explore_20 (fun h => ?_) (fun h => ?_)
    · refine zt_keep [0, 1, 2, 3, 5] rfl ?_
      exact w_X11_explore0_51 N hC k4 hk4 x0 x1 x2 x3 x5 M8 h
    · refine zt_iload_n hC rfl dX11_explore_23 ?_
      refine zt_sipush hC ks_625 dX11_explore_24 ?_
      refine zt_icmp_ge (tgt := 51) hC h (by decide) dX11_explore_27 (fun h => ?_) (fun h => ?_)
      · refine zt_keep [0, 1, 2, 3, 5] rfl ?_
        exact w_X11_explore0_51 N hC k4 hk4 x0 x1 x2 x3 x5 M8 h
      · refine zt_aload_n hC rfl dX11_explore_30 ?_
        refine zt_gN hC h cl10 (k := 17) (by decide) rfl wd_138 (Or.inl rfl) dX11_explore_31 (fun h => ?_) (fun v12 h => ?_)
        · refine zt_ifnullN (tgt := 51) hC (by decide) dX11_explore_34 ?_
          refine zt_keep [0, 1, 2, 3, 5] rfl ?_
          exact w_X11_explore0_51 N hC k4 hk4 x0 x1 x2 x3 x5 M8 h
        · refine zt_ifnull hC dX11_explore_34 ?_
          refine zt_aload_n hC rfl dX11_explore_37 ?_
          refine zt_aload_n hC rfl dX11_explore_38 ?_
          refine zt_aload_n hC rfl dX11_explore_39 ?_
          refine zt_gN hC h cl10 (k := 17) (by decide) rfl wd_138 (Or.inl rfl) dX11_explore_40 (fun h => ?_) (fun v13 h => ?_)
          · refine zt_iload_n hC rfl dX11_explore_43 ?_
            refine zt_iload_n hC rfl dX11_explore_44 ?_
            refine zt_iload hC rfl dX11_explore_45 ?_
            cases h
          · refine zt_iload_n hC rfl dX11_explore_43 ?_
            refine zt_iload_n hC rfl dX11_explore_44 ?_
            refine zt_iload hC rfl dX11_explore_45 ?_
            cases h
theorem w_X11_explore0_4 {X : Cx} {G : Gl} {r : (Unit × Mm)} (N : Nat) (hC : CX X G yX11_explore cX11_explore 6 none rm_X11_explore0) (n : Nat) : ∀ (x0 : Nat) (x1 : Nat) (x2 : Int32) (x3 : Int32) (x5 : Int32) (M : Mm), l_X11_explore0_4 N n x0 x1 x2 x3 x5 M = some r → TW X G 6 (RQ X G none r.2 rm_X11_explore0) 0 0 M 4 [(0, .ref x0), (1, .ref x1), (2, .int x2), (3, .int x3), (5, .int x5)] [] := by
  induction n with
  | zero => intro  x0 x1 x2 x3 x5 M h; cases (show none = some r from h)
  | succ n ih => intro  x0 x1 x2 x3 x5 M h; exact v_X11_explore0_4 N hC (l_X11_explore0_4 N n) ih x0 x1 x2 x3 x5 M h
def f_X11_explore0 (N : Nat) (x0 : Nat) (x1 : Nat) (x2 : Int32) (x3 : Int32) (x4 : Int32) (M : Mm) : Option (Unit × Mm) :=
l_X11_explore0_4 N N x0 x1 x2 x3 x4 M
set_option maxRecDepth 100000 in
set_option maxHeartbeats 4000000 in
theorem c_X11_explore0 (N : Nat) (x0 : Nat) (x1 : Nat) (x2 : Int32) (x3 : Int32) (x4 : Int32) (M : Mm) (r : (Unit × Mm)) (h : f_X11_explore0 N x0 x1 x2 x3 x4 M = some r) (l : Launch) (hfl : l.flags = flags0) {G : Gl} : MT l G yX11_explore cX11_explore 6 none rm_X11_explore0 [.ref x0, .ref x1, .int x2, .int x3, .int x4] M none r.2 := by
  unfold f_X11_explore0 at h
  refine zt_start hfl (lv := [(0, .ref x0), (1, .ref x1), (2, .int x2), (3, .int x3), (4, .int x4)]) (by decide) (Nat.le_of_ble_eq_true rfl) rfl wd_716 (fun X hC _ => ?_)
  refine zt_iload hC rfl dX11_explore_0 ?_
  refine zt_istore (lv' := [(5, .int x4), (0, .ref x0), (1, .ref x1), (2, .int x2), (3, .int x3), (4, .int x4)]) hC (by decide) rfl dX11_explore_2 ?_
  refine zt_keep [0, 1, 2, 3, 5] rfl ?_
  exact w_X11_explore0_4 N hC N x0 x1 x2 x3 x4 M h
def rm_X11_branch1 : Room := { frames := 6, cells := 0, slots := 0, locals := 143 }
theorem hd_X11_branch : yX11_branch.cls ≠ "java/lang/invoke/MethodHandle" ∧ yX11_branch.cls ≠ "java/lang/invoke/VarHandle" ∧ (parseMethodDescriptor yX11_branch.desc).map (fun d => d.parameters.length) = some 5 := by decide +kernel
def b_X11_branch1_3 (N : Nat) (k3 : Nat → Nat → Nat → Int32 → Int32 → Int32 → Int32 → Mm → Option (Unit × Mm)) (x0 : Nat) (x1 : Nat) (x2 : Nat) (x3 : Int32) (x4 : Int32) (x5 : Int32) (x6 : Int32) (M : Mm) : Option (Unit × Mm) :=
gI 10 M x1 0 (fun v1 =>
(if v1 < x6 then
some ((), M)
else
gR 10 M x1 7 (fun v2 =>
gI 1 M v2 0 (fun v3 =>
(if (x6 - (1 : Int32)) = v3 then
k3 x0 x1 x2 x3 x4 x5 (x6 + (1 : Int32)) M
else
ck 10 M x2 (bnd (f_X10_become N x2 x1 M) (fun v4 M5 =>
gR 10 M5 x2 7 (fun v7 =>
ck 10 M5 x2 (bnd (f_X10_send N x2 v7 (x6 - (1 : Int32)) M5) (fun v8 M9 =>
ck 10 M9 x2 (bnd (f_X10_close N x2 M9) (fun v11 M12 =>
ck 11 M12 x0 (bnd (f_X11_explore0 N x0 x2 (x3 * (5 : Int32)) (x4 + (x6 * x3)) (x5 - (1 : Int32)) M12) (fun v14 M15 =>
k3 x0 x1 x2 x3 x4 x5 (x6 + (1 : Int32)) M15))))))))))))))
def l_X11_branch1_3 (N : Nat) : Nat → Nat → Nat → Nat → Int32 → Int32 → Int32 → Int32 → Mm → Option (Unit × Mm)
  | 0 => fun _ _ _ _ _ _ _ _ => none
  | n + 1 => b_X11_branch1_3 N (l_X11_branch1_3 N n)
set_option maxRecDepth 100000 in
set_option maxHeartbeats 4000000 in
theorem v_X11_branch1_3 {X : Cx} {G : Gl} {r : (Unit × Mm)} (N : Nat) (hC : CX X G yX11_branch cX11_branch 7 none rm_X11_branch1) (k3 : Nat → Nat → Nat → Int32 → Int32 → Int32 → Int32 → Mm → Option (Unit × Mm)) (hk3 : ∀ (x0 : Nat) (x1 : Nat) (x2 : Nat) (x3 : Int32) (x4 : Int32) (x5 : Int32) (x6 : Int32) (M : Mm), k3 x0 x1 x2 x3 x4 x5 x6 M = some r → TW X G 7 (RQ X G none r.2 rm_X11_branch1) 0 0 M 3 [(0, .ref x0), (1, .ref x1), (2, .ref x2), (3, .int x3), (4, .int x4), (5, .int x5), (6, .int x6)] []) (x0 : Nat) (x1 : Nat) (x2 : Nat) (x3 : Int32) (x4 : Int32) (x5 : Int32) (x6 : Int32) (M : Mm) (h : b_X11_branch1_3 N k3 x0 x1 x2 x3 x4 x5 x6 M = some r) : TW X G 7 (RQ X G none r.2 rm_X11_branch1) 0 0 M 3 [(0, .ref x0), (1, .ref x1), (2, .ref x2), (3, .int x3), (4, .int x4), (5, .int x5), (6, .int x6)] [] := by
  unfold b_X11_branch1_3 at h
  refine zt_iload hC rfl dX11_branch_3 ?_
  refine zt_aload_n hC rfl dX11_branch_5 ?_
  refine zt_gI hC h cl10 (k := 0) (by decide) rfl wd_108 (Or.inl rfl) dX11_branch_6 (fun v1 h => ?_)
  refine zt_icmp_gt (tgt := 72) hC h (by decide) dX11_branch_9 (fun h => ?_) (fun h => ?_)
  · obtain rfl := Option.some.inj h
    exact zt_vret hC rfl rfl (Nat.le_of_ble_eq_true rfl) (Nat.le_of_ble_eq_true rfl) dX11_branch_72
  · refine zt_iload hC rfl dX11_branch_12 ?_
    refine zt_iconst hC ki_1 dX11_branch_14 ?_
    refine zt_isub hC dX11_branch_15 ?_
    refine zt_aload_n hC rfl dX11_branch_16 ?_
    refine zt_gR hC h cl10 (k := 7) (by decide) rfl wd_122 (Or.inl rfl) dX11_branch_17 (fun v2 h => ?_)
    refine zt_gI hC h cl1 (k := 0) (by decide) rfl wd_71 (Or.inl rfl) dX11_branch_20 (fun v3 h => ?_)
    refine zt_icmp_eq (tgt := 66) hC h (by decide) dX11_branch_23 (fun h => ?_) (fun h => ?_)
    · refine zt_iinc (v := (x6 + (1 : Int32))) (lv' := [(6, .int (x6 + (1 : Int32))), (0, .ref x0), (1, .ref x1), (2, .ref x2), (3, .int x3), (4, .int x4), (5, .int x5)]) hC rfl (by rw [ki_1]) (by decide) rfl dX11_branch_66 ?_
      refine zt_goto (tgt := 3) hC (by decide) dX11_branch_69 ?_
      refine zt_keep [0, 1, 2, 3, 4, 5, 6] rfl ?_
      exact hk3 x0 x1 x2 x3 x4 x5 (x6 + (1 : Int32)) M h
    · refine zt_aload_n hC rfl dX11_branch_26 ?_
      refine zt_aload_n hC rfl dX11_branch_27 ?_
      obtain ⟨hk, h⟩ := ck_some h
      obtain ⟨v4, M5, h6, h⟩ := bnd_some h
      refine zt_callV (z := yX10_become) (As := [.ref x1]) (rest := []) (st1 := []) hC 1 hk cl10 (fun l hl => c_X10_become N x2 x1 M (v4, M5) h6 l hl) rfl wd_311 wd_308 wd_309 wd_310 wd_2 hd_X10_become rfl ⟨⟨(Nat.le_of_ble_eq_true rfl), (Nat.le_of_ble_eq_true rfl)⟩, (Nat.le_of_ble_eq_true rfl), (Nat.le_of_ble_eq_true rfl)⟩ rfl (Nat.le_of_ble_eq_true rfl) rfl dX11_branch_28 ?_
      refine zt_aload_n hC rfl dX11_branch_31 ?_
      refine zt_aload_n hC rfl dX11_branch_32 ?_
      refine zt_gR hC h cl10 (k := 7) (by decide) rfl wd_122 (Or.inl rfl) dX11_branch_33 (fun v7 h => ?_)
      refine zt_iload hC rfl dX11_branch_36 ?_
      refine zt_iconst hC ki_1 dX11_branch_38 ?_
      refine zt_isub hC dX11_branch_39 ?_
      obtain ⟨hk, h⟩ := ck_some h
      obtain ⟨v8, M9, h10, h⟩ := bnd_some h
      refine zt_callV (z := yX10_send) (As := [.ref v7, .int (x6 - (1 : Int32))]) (rest := []) (st1 := []) hC 2 hk cl10 (fun l hl => c_X10_send N x2 v7 (x6 - (1 : Int32)) M5 (v8, M9) h10 l hl) rfl wd_537 wd_551 wd_535 wd_536 wd_2 hd_X10_send rfl ⟨⟨(Nat.le_of_ble_eq_true rfl), (Nat.le_of_ble_eq_true rfl)⟩, (Nat.le_of_ble_eq_true rfl), (Nat.le_of_ble_eq_true rfl)⟩ rfl (Nat.le_of_ble_eq_true rfl) rfl dX11_branch_40 ?_
      refine zt_aload_n hC rfl dX11_branch_43 ?_
      obtain ⟨hk, h⟩ := ck_some h
      obtain ⟨v11, M12, h13, h⟩ := bnd_some h
      refine zt_callV (z := yX10_close) (As := []) (rest := []) (st1 := []) hC 0 hk cl10 (fun l hl => c_X10_close N x2 M9 (v11, M12) h13 l hl) rfl wd_542 wd_708 wd_540 wd_541 wd_2 hd_X10_close rfl ⟨⟨(Nat.le_of_ble_eq_true rfl), (Nat.le_of_ble_eq_true rfl)⟩, (Nat.le_of_ble_eq_true rfl), (Nat.le_of_ble_eq_true rfl)⟩ rfl (Nat.le_of_ble_eq_true rfl) rfl dX11_branch_44 ?_
      refine zt_aload_n hC rfl dX11_branch_47 ?_
      refine zt_aload_n hC rfl dX11_branch_48 ?_
      refine zt_iload_n hC rfl dX11_branch_49 ?_
      refine zt_iconst hC ki_5 dX11_branch_50 ?_
      refine zt_imul hC dX11_branch_51 ?_
      refine zt_iload hC rfl dX11_branch_52 ?_
      refine zt_iload hC rfl dX11_branch_54 ?_
      refine zt_iload_n hC rfl dX11_branch_56 ?_
      refine zt_imul hC dX11_branch_57 ?_
      refine zt_iadd hC dX11_branch_58 ?_
      refine zt_iload hC rfl dX11_branch_59 ?_
      refine zt_iconst hC ki_1 dX11_branch_61 ?_
      refine zt_isub hC dX11_branch_62 ?_
      obtain ⟨hk, h⟩ := ck_some h
      obtain ⟨v14, M15, h16, h⟩ := bnd_some h
      refine zt_callV (z := yX11_explore) (As := [.ref x2, .int (x3 * (5 : Int32)), .int (x4 + (x6 * x3)), .int (x5 - (1 : Int32))]) (rest := []) (st1 := []) hC 4 hk cl11 (fun l hl => c_X11_explore0 N x0 x2 (x3 * (5 : Int32)) (x4 + (x6 * x3)) (x5 - (1 : Int32)) M12 (v14, M15) h16 l hl) rfl wd_716 wd_713 wd_715 ws_16 wd_1 hd_X11_explore rfl ⟨⟨(Nat.le_of_ble_eq_true rfl), (Nat.le_of_ble_eq_true rfl)⟩, (Nat.le_of_ble_eq_true rfl), (Nat.le_of_ble_eq_true rfl)⟩ rfl (Nat.le_of_ble_eq_true rfl) rfl dX11_branch_63 ?_
      refine zt_iinc (v := (x6 + (1 : Int32))) (lv' := [(6, .int (x6 + (1 : Int32))), (0, .ref x0), (1, .ref x1), (2, .ref x2), (3, .int x3), (4, .int x4), (5, .int x5)]) hC rfl (by rw [ki_1]) (by decide) rfl dX11_branch_66 ?_
      refine zt_goto (tgt := 3) hC (by decide) dX11_branch_69 ?_
      refine zt_keep [0, 1, 2, 3, 4, 5, 6] rfl ?_
      exact hk3 x0 x1 x2 x3 x4 x5 (x6 + (1 : Int32)) M15 h
theorem w_X11_branch1_3 {X : Cx} {G : Gl} {r : (Unit × Mm)} (N : Nat) (hC : CX X G yX11_branch cX11_branch 7 none rm_X11_branch1) (n : Nat) : ∀ (x0 : Nat) (x1 : Nat) (x2 : Nat) (x3 : Int32) (x4 : Int32) (x5 : Int32) (x6 : Int32) (M : Mm), l_X11_branch1_3 N n x0 x1 x2 x3 x4 x5 x6 M = some r → TW X G 7 (RQ X G none r.2 rm_X11_branch1) 0 0 M 3 [(0, .ref x0), (1, .ref x1), (2, .ref x2), (3, .int x3), (4, .int x4), (5, .int x5), (6, .int x6)] [] := by
  induction n with
  | zero => intro  x0 x1 x2 x3 x4 x5 x6 M h; cases (show none = some r from h)
  | succ n ih => intro  x0 x1 x2 x3 x4 x5 x6 M h; exact v_X11_branch1_3 N hC (l_X11_branch1_3 N n) ih x0 x1 x2 x3 x4 x5 x6 M h
def f_X11_branch1 (N : Nat) (x0 : Nat) (x1 : Nat) (x2 : Nat) (x3 : Int32) (x4 : Int32) (x5 : Int32) (M : Mm) : Option (Unit × Mm) :=
l_X11_branch1_3 N N x0 x1 x2 x3 x4 x5 (0 : Int32) M
set_option maxRecDepth 100000 in
set_option maxHeartbeats 4000000 in
theorem c_X11_branch1 (N : Nat) (x0 : Nat) (x1 : Nat) (x2 : Nat) (x3 : Int32) (x4 : Int32) (x5 : Int32) (M : Mm) (r : (Unit × Mm)) (h : f_X11_branch1 N x0 x1 x2 x3 x4 x5 M = some r) (l : Launch) (hfl : l.flags = flags0) {G : Gl} : MT l G yX11_branch cX11_branch 7 none rm_X11_branch1 [.ref x0, .ref x1, .ref x2, .int x3, .int x4, .int x5] M none r.2 := by
  unfold f_X11_branch1 at h
  refine zt_start hfl (lv := [(0, .ref x0), (1, .ref x1), (2, .ref x2), (3, .int x3), (4, .int x4), (5, .int x5)]) (by decide) (Nat.le_of_ble_eq_true rfl) rfl wd_720 (fun X hC _ => ?_)
  refine zt_iconst hC ki_0 dX11_branch_0 ?_
  refine zt_istore (lv' := [(6, .int (0 : Int32)), (0, .ref x0), (1, .ref x1), (2, .ref x2), (3, .int x3), (4, .int x4), (5, .int x5)]) hC (by decide) rfl dX11_branch_1 ?_
  refine zt_keep [0, 1, 2, 3, 4, 5, 6] rfl ?_
  exact w_X11_branch1_3 N hC N x0 x1 x2 x3 x4 x5 (0 : Int32) M h
def rm_X11_explore1 : Room := { frames := 7, cells := 0, slots := 0, locals := 169 }
def j_X11_explore1_51 (N : Nat) (k4 : Nat → Nat → Int32 → Int32 → Int32 → Mm → Option (Unit × Mm)) (x0 : Nat) (x1 : Nat) (x2 : Int32) (x3 : Int32) (x5 : Int32) (M : Mm) : Option (Unit × Mm) :=
gR 10 M x1 7 (fun v1 =>
ck 10 M x1 (bnd (f_X10_ask N x1 v1 M) (fun v2 M3 =>
ck 10 M3 x1 (bnd (f_X10_close N x1 M3) (fun v5 M6 =>
k4 x0 x1 x2 x3 (x5 + (-1 : Int32)) M6)))))
set_option maxRecDepth 100000 in
set_option maxHeartbeats 4000000 in
theorem w_X11_explore1_51 {X : Cx} {G : Gl} {r : (Unit × Mm)} (N : Nat) (hC : CX X G yX11_explore cX11_explore 6 none rm_X11_explore1) (k4 : Nat → Nat → Int32 → Int32 → Int32 → Mm → Option (Unit × Mm)) (hk4 : ∀ (x0 : Nat) (x1 : Nat) (x2 : Int32) (x3 : Int32) (x5 : Int32) (M : Mm), k4 x0 x1 x2 x3 x5 M = some r → TW X G 6 (RQ X G none r.2 rm_X11_explore1) 0 0 M 4 [(0, .ref x0), (1, .ref x1), (2, .int x2), (3, .int x3), (5, .int x5)] []) (x0 : Nat) (x1 : Nat) (x2 : Int32) (x3 : Int32) (x5 : Int32) (M : Mm) (h : j_X11_explore1_51 N k4 x0 x1 x2 x3 x5 M = some r) : TW X G 6 (RQ X G none r.2 rm_X11_explore1) 0 0 M 51 [(0, .ref x0), (1, .ref x1), (2, .int x2), (3, .int x3), (5, .int x5)] [] := by
  unfold j_X11_explore1_51 at h
  refine zt_aload_n hC rfl dX11_explore_51 ?_
  refine zt_aload_n hC rfl dX11_explore_52 ?_
  refine zt_gR hC h cl10 (k := 7) (by decide) rfl wd_122 (Or.inl rfl) dX11_explore_53 (fun v1 h => ?_)
  obtain ⟨hk, h⟩ := ck_some h
  obtain ⟨v2, M3, h4, h⟩ := bnd_some h
  refine zt_callV (z := yX10_ask) (As := [.ref v1]) (rest := []) (st1 := []) hC 1 hk cl10 (fun l hl => c_X10_ask N x1 v1 M (v2, M3) h4 l hl) rfl wd_472 wd_707 wd_470 wd_471 wd_2 hd_X10_ask rfl ⟨⟨(Nat.le_of_ble_eq_true rfl), (Nat.le_of_ble_eq_true rfl)⟩, (Nat.le_of_ble_eq_true rfl), (Nat.le_of_ble_eq_true rfl)⟩ rfl (Nat.le_of_ble_eq_true rfl) rfl dX11_explore_56 ?_
  refine zt_aload_n hC rfl dX11_explore_59 ?_
  obtain ⟨hk, h⟩ := ck_some h
  obtain ⟨v5, M6, h7, h⟩ := bnd_some h
  refine zt_callV (z := yX10_close) (As := []) (rest := []) (st1 := []) hC 0 hk cl10 (fun l hl => c_X10_close N x1 M3 (v5, M6) h7 l hl) rfl wd_542 wd_708 wd_540 wd_541 wd_2 hd_X10_close rfl ⟨⟨(Nat.le_of_ble_eq_true rfl), (Nat.le_of_ble_eq_true rfl)⟩, (Nat.le_of_ble_eq_true rfl), (Nat.le_of_ble_eq_true rfl)⟩ rfl (Nat.le_of_ble_eq_true rfl) rfl dX11_explore_60 ?_
  refine zt_iinc (v := (x5 + (-1 : Int32))) (lv' := [(5, .int (x5 + (-1 : Int32))), (0, .ref x0), (1, .ref x1), (2, .int x2), (3, .int x3)]) hC rfl (by rw [ki_m1]) (by decide) rfl dX11_explore_63 ?_
  refine zt_goto (tgt := 4) hC (by decide) dX11_explore_66 ?_
  refine zt_keep [0, 1, 2, 3, 5] rfl ?_
  exact hk4 x0 x1 x2 x3 (x5 + (-1 : Int32)) M6 h
def b_X11_explore1_4 (N : Nat) (k4 : Nat → Nat → Int32 → Int32 → Int32 → Mm → Option (Unit × Mm)) (x0 : Nat) (x1 : Nat) (x2 : Int32) (x3 : Int32) (x5 : Int32) (M : Mm) : Option (Unit × Mm) :=
(if x5 ≤ 0 then
ck 10 M x1 (bnd (f_X10_gain N x1 M) (fun v1 M2 =>
ck 11 M2 x0 (bnd (f_X11_weigh N x0 v1 x3 M2) (fun v4 M5 =>
some ((), M5)))))
else
ck 10 M x1 (bnd (f_X10_bring N x1 M) (fun v7 M8 =>
gR 10 M8 x1 7 (fun v10 =>
gI 1 M8 v10 1 (fun v11 =>
(if v11 = 0 then
(if (625 : Int32) ≤ x2 then
j_X11_explore1_51 N k4 x0 x1 x2 x3 x5 M8
else
(gN 10 M8 x1 17
(j_X11_explore1_51 N k4 x0 x1 x2 x3 x5 M8)
(fun v12 =>
(gN 10 M8 x1 17
(none)
(fun v13 =>
ck 11 M8 x0 (bnd (f_X11_branch1 N x0 x1 v13 x2 x3 x5 M8) (fun v14 M15 =>
some ((), M15))))))))
else
j_X11_explore1_51 N k4 x0 x1 x2 x3 x5 M8))))))
def l_X11_explore1_4 (N : Nat) : Nat → Nat → Nat → Int32 → Int32 → Int32 → Mm → Option (Unit × Mm)
  | 0 => fun _ _ _ _ _ _ => none
  | n + 1 => b_X11_explore1_4 N (l_X11_explore1_4 N n)
set_option maxRecDepth 100000 in
set_option maxHeartbeats 4000000 in
theorem v_X11_explore1_4 {X : Cx} {G : Gl} {r : (Unit × Mm)} (N : Nat) (hC : CX X G yX11_explore cX11_explore 6 none rm_X11_explore1) (k4 : Nat → Nat → Int32 → Int32 → Int32 → Mm → Option (Unit × Mm)) (hk4 : ∀ (x0 : Nat) (x1 : Nat) (x2 : Int32) (x3 : Int32) (x5 : Int32) (M : Mm), k4 x0 x1 x2 x3 x5 M = some r → TW X G 6 (RQ X G none r.2 rm_X11_explore1) 0 0 M 4 [(0, .ref x0), (1, .ref x1), (2, .int x2), (3, .int x3), (5, .int x5)] []) (x0 : Nat) (x1 : Nat) (x2 : Int32) (x3 : Int32) (x5 : Int32) (M : Mm) (h : b_X11_explore1_4 N k4 x0 x1 x2 x3 x5 M = some r) : TW X G 6 (RQ X G none r.2 rm_X11_explore1) 0 0 M 4 [(0, .ref x0), (1, .ref x1), (2, .int x2), (3, .int x3), (5, .int x5)] [] := by
  unfold b_X11_explore1_4 at h
  refine zt_iload hC rfl dX11_explore_4 ?_
  refine zt_if_le (tgt := 69) hC h (by decide) dX11_explore_6 (fun h => ?_) (fun h => ?_)
  · refine zt_aload_n hC rfl dX11_explore_69 ?_
    refine zt_aload_n hC rfl dX11_explore_70 ?_
    obtain ⟨hk, h⟩ := ck_some h
    obtain ⟨v1, M2, h3, h⟩ := bnd_some h
    refine zt_callV (z := yX10_gain) (As := []) (rest := [.ref x0]) (st1 := (.int v1 :: [.ref x0])) hC 0 hk cl10 (fun l hl => c_X10_gain N x1 M (v1, M2) h3 l hl) rfl wd_614 wd_611 wd_612 wd_613 wd_2 hd_X10_gain rfl ⟨⟨(Nat.le_of_ble_eq_true rfl), (Nat.le_of_ble_eq_true rfl)⟩, (Nat.le_of_ble_eq_true rfl), (Nat.le_of_ble_eq_true rfl)⟩ rfl (Nat.le_of_ble_eq_true rfl) rfl dX11_explore_71 ?_
    refine zt_iload_n hC rfl dX11_explore_74 ?_
    obtain ⟨hk, h⟩ := ck_some h
    obtain ⟨v4, M5, h6, h⟩ := bnd_some h
    refine zt_callV (z := yX11_weigh) (As := [.int v1, .int x3]) (rest := []) (st1 := []) hC 2 hk cl11 (fun l hl => c_X11_weigh N x0 v1 x3 M2 (v4, M5) h6 l hl) rfl wd_724 wd_721 wd_723 ws_18 wd_1 hd_X11_weigh rfl ⟨⟨(Nat.le_of_ble_eq_true rfl), (Nat.le_of_ble_eq_true rfl)⟩, (Nat.le_of_ble_eq_true rfl), (Nat.le_of_ble_eq_true rfl)⟩ rfl (Nat.le_of_ble_eq_true rfl) rfl dX11_explore_75 ?_
    obtain rfl := Option.some.inj h
    exact zt_vret hC rfl rfl (Nat.le_of_ble_eq_true rfl) (Nat.le_of_ble_eq_true rfl) dX11_explore_78
  · refine zt_aload_n hC rfl dX11_explore_9 ?_
    obtain ⟨hk, h⟩ := ck_some h
    obtain ⟨v7, M8, h9, h⟩ := bnd_some h
    refine zt_callV (z := yX10_bring) (As := []) (rest := []) (st1 := []) hC 0 hk cl10 (fun l hl => c_X10_bring N x1 M (v7, M8) h9 l hl) rfl wd_445 wd_706 wd_443 wd_444 wd_2 hd_X10_bring rfl ⟨⟨(Nat.le_of_ble_eq_true rfl), (Nat.le_of_ble_eq_true rfl)⟩, (Nat.le_of_ble_eq_true rfl), (Nat.le_of_ble_eq_true rfl)⟩ rfl (Nat.le_of_ble_eq_true rfl) rfl dX11_explore_10 ?_
    refine zt_aload_n hC rfl dX11_explore_13 ?_
    refine zt_gR hC h cl10 (k := 7) (by decide) rfl wd_122 (Or.inl rfl) dX11_explore_14 (fun v10 h => ?_)
    refine zt_gI hC h cl1 (k := 1) (by decide) rfl wd_74 (Or.inl rfl) dX11_explore_17 (fun v11 h => ?_)
    refine zt_if_ne (tgt := 51) hC h (by decide) dX11_explore_20 (fun h => ?_) (fun h => ?_)
    · refine zt_keep [0, 1, 2, 3, 5] rfl ?_
      exact w_X11_explore1_51 N hC k4 hk4 x0 x1 x2 x3 x5 M8 h
    · refine zt_iload_n hC rfl dX11_explore_23 ?_
      refine zt_sipush hC ks_625 dX11_explore_24 ?_
      refine zt_icmp_ge (tgt := 51) hC h (by decide) dX11_explore_27 (fun h => ?_) (fun h => ?_)
      · refine zt_keep [0, 1, 2, 3, 5] rfl ?_
        exact w_X11_explore1_51 N hC k4 hk4 x0 x1 x2 x3 x5 M8 h
      · refine zt_aload_n hC rfl dX11_explore_30 ?_
        refine zt_gN hC h cl10 (k := 17) (by decide) rfl wd_138 (Or.inl rfl) dX11_explore_31 (fun h => ?_) (fun v12 h => ?_)
        · refine zt_ifnullN (tgt := 51) hC (by decide) dX11_explore_34 ?_
          refine zt_keep [0, 1, 2, 3, 5] rfl ?_
          exact w_X11_explore1_51 N hC k4 hk4 x0 x1 x2 x3 x5 M8 h
        · refine zt_ifnull hC dX11_explore_34 ?_
          refine zt_aload_n hC rfl dX11_explore_37 ?_
          refine zt_aload_n hC rfl dX11_explore_38 ?_
          refine zt_aload_n hC rfl dX11_explore_39 ?_
          refine zt_gN hC h cl10 (k := 17) (by decide) rfl wd_138 (Or.inl rfl) dX11_explore_40 (fun h => ?_) (fun v13 h => ?_)
          · refine zt_iload_n hC rfl dX11_explore_43 ?_
            refine zt_iload_n hC rfl dX11_explore_44 ?_
            refine zt_iload hC rfl dX11_explore_45 ?_
            cases h
          · refine zt_iload_n hC rfl dX11_explore_43 ?_
            refine zt_iload_n hC rfl dX11_explore_44 ?_
            refine zt_iload hC rfl dX11_explore_45 ?_
            obtain ⟨hk, h⟩ := ck_some h
            obtain ⟨v14, M15, h16, h⟩ := bnd_some h
            refine zt_callV (z := yX11_branch) (As := [.ref x1, .ref v13, .int x2, .int x3, .int x5]) (rest := []) (st1 := []) hC 5 hk cl11 (fun l hl => c_X11_branch1 N x0 x1 v13 x2 x3 x5 M8 (v14, M15) h16 l hl) rfl wd_720 wd_717 wd_719 ws_17 wd_1 hd_X11_branch rfl ⟨⟨(Nat.le_of_ble_eq_true rfl), (Nat.le_of_ble_eq_true rfl)⟩, (Nat.le_of_ble_eq_true rfl), (Nat.le_of_ble_eq_true rfl)⟩ rfl (Nat.le_of_ble_eq_true rfl) rfl dX11_explore_47 ?_
            obtain rfl := Option.some.inj h
            exact zt_vret hC rfl rfl (Nat.le_of_ble_eq_true rfl) (Nat.le_of_ble_eq_true rfl) dX11_explore_50
theorem w_X11_explore1_4 {X : Cx} {G : Gl} {r : (Unit × Mm)} (N : Nat) (hC : CX X G yX11_explore cX11_explore 6 none rm_X11_explore1) (n : Nat) : ∀ (x0 : Nat) (x1 : Nat) (x2 : Int32) (x3 : Int32) (x5 : Int32) (M : Mm), l_X11_explore1_4 N n x0 x1 x2 x3 x5 M = some r → TW X G 6 (RQ X G none r.2 rm_X11_explore1) 0 0 M 4 [(0, .ref x0), (1, .ref x1), (2, .int x2), (3, .int x3), (5, .int x5)] [] := by
  induction n with
  | zero => intro  x0 x1 x2 x3 x5 M h; cases (show none = some r from h)
  | succ n ih => intro  x0 x1 x2 x3 x5 M h; exact v_X11_explore1_4 N hC (l_X11_explore1_4 N n) ih x0 x1 x2 x3 x5 M h
def f_X11_explore1 (N : Nat) (x0 : Nat) (x1 : Nat) (x2 : Int32) (x3 : Int32) (x4 : Int32) (M : Mm) : Option (Unit × Mm) :=
l_X11_explore1_4 N N x0 x1 x2 x3 x4 M
set_option maxRecDepth 100000 in
set_option maxHeartbeats 4000000 in
theorem c_X11_explore1 (N : Nat) (x0 : Nat) (x1 : Nat) (x2 : Int32) (x3 : Int32) (x4 : Int32) (M : Mm) (r : (Unit × Mm)) (h : f_X11_explore1 N x0 x1 x2 x3 x4 M = some r) (l : Launch) (hfl : l.flags = flags0) {G : Gl} : MT l G yX11_explore cX11_explore 6 none rm_X11_explore1 [.ref x0, .ref x1, .int x2, .int x3, .int x4] M none r.2 := by
  unfold f_X11_explore1 at h
  refine zt_start hfl (lv := [(0, .ref x0), (1, .ref x1), (2, .int x2), (3, .int x3), (4, .int x4)]) (by decide) (Nat.le_of_ble_eq_true rfl) rfl wd_716 (fun X hC _ => ?_)
  refine zt_iload hC rfl dX11_explore_0 ?_
  refine zt_istore (lv' := [(5, .int x4), (0, .ref x0), (1, .ref x1), (2, .int x2), (3, .int x3), (4, .int x4)]) hC (by decide) rfl dX11_explore_2 ?_
  refine zt_keep [0, 1, 2, 3, 5] rfl ?_
  exact w_X11_explore1_4 N hC N x0 x1 x2 x3 x4 M h
def rm_X11_branch2 : Room := { frames := 8, cells := 0, slots := 0, locals := 194 }
def b_X11_branch2_3 (N : Nat) (k3 : Nat → Nat → Nat → Int32 → Int32 → Int32 → Int32 → Mm → Option (Unit × Mm)) (x0 : Nat) (x1 : Nat) (x2 : Nat) (x3 : Int32) (x4 : Int32) (x5 : Int32) (x6 : Int32) (M : Mm) : Option (Unit × Mm) :=
gI 10 M x1 0 (fun v1 =>
(if v1 < x6 then
some ((), M)
else
gR 10 M x1 7 (fun v2 =>
gI 1 M v2 0 (fun v3 =>
(if (x6 - (1 : Int32)) = v3 then
k3 x0 x1 x2 x3 x4 x5 (x6 + (1 : Int32)) M
else
ck 10 M x2 (bnd (f_X10_become N x2 x1 M) (fun v4 M5 =>
gR 10 M5 x2 7 (fun v7 =>
ck 10 M5 x2 (bnd (f_X10_send N x2 v7 (x6 - (1 : Int32)) M5) (fun v8 M9 =>
ck 10 M9 x2 (bnd (f_X10_close N x2 M9) (fun v11 M12 =>
ck 11 M12 x0 (bnd (f_X11_explore1 N x0 x2 (x3 * (5 : Int32)) (x4 + (x6 * x3)) (x5 - (1 : Int32)) M12) (fun v14 M15 =>
k3 x0 x1 x2 x3 x4 x5 (x6 + (1 : Int32)) M15))))))))))))))
def l_X11_branch2_3 (N : Nat) : Nat → Nat → Nat → Nat → Int32 → Int32 → Int32 → Int32 → Mm → Option (Unit × Mm)
  | 0 => fun _ _ _ _ _ _ _ _ => none
  | n + 1 => b_X11_branch2_3 N (l_X11_branch2_3 N n)
set_option maxRecDepth 100000 in
set_option maxHeartbeats 4000000 in
theorem v_X11_branch2_3 {X : Cx} {G : Gl} {r : (Unit × Mm)} (N : Nat) (hC : CX X G yX11_branch cX11_branch 7 none rm_X11_branch2) (k3 : Nat → Nat → Nat → Int32 → Int32 → Int32 → Int32 → Mm → Option (Unit × Mm)) (hk3 : ∀ (x0 : Nat) (x1 : Nat) (x2 : Nat) (x3 : Int32) (x4 : Int32) (x5 : Int32) (x6 : Int32) (M : Mm), k3 x0 x1 x2 x3 x4 x5 x6 M = some r → TW X G 7 (RQ X G none r.2 rm_X11_branch2) 0 0 M 3 [(0, .ref x0), (1, .ref x1), (2, .ref x2), (3, .int x3), (4, .int x4), (5, .int x5), (6, .int x6)] []) (x0 : Nat) (x1 : Nat) (x2 : Nat) (x3 : Int32) (x4 : Int32) (x5 : Int32) (x6 : Int32) (M : Mm) (h : b_X11_branch2_3 N k3 x0 x1 x2 x3 x4 x5 x6 M = some r) : TW X G 7 (RQ X G none r.2 rm_X11_branch2) 0 0 M 3 [(0, .ref x0), (1, .ref x1), (2, .ref x2), (3, .int x3), (4, .int x4), (5, .int x5), (6, .int x6)] [] := by
  unfold b_X11_branch2_3 at h
  refine zt_iload hC rfl dX11_branch_3 ?_
  refine zt_aload_n hC rfl dX11_branch_5 ?_
  refine zt_gI hC h cl10 (k := 0) (by decide) rfl wd_108 (Or.inl rfl) dX11_branch_6 (fun v1 h => ?_)
  refine zt_icmp_gt (tgt := 72) hC h (by decide) dX11_branch_9 (fun h => ?_) (fun h => ?_)
  · obtain rfl := Option.some.inj h
    exact zt_vret hC rfl rfl (Nat.le_of_ble_eq_true rfl) (Nat.le_of_ble_eq_true rfl) dX11_branch_72
  · refine zt_iload hC rfl dX11_branch_12 ?_
    refine zt_iconst hC ki_1 dX11_branch_14 ?_
    refine zt_isub hC dX11_branch_15 ?_
    refine zt_aload_n hC rfl dX11_branch_16 ?_
    refine zt_gR hC h cl10 (k := 7) (by decide) rfl wd_122 (Or.inl rfl) dX11_branch_17 (fun v2 h => ?_)
    refine zt_gI hC h cl1 (k := 0) (by decide) rfl wd_71 (Or.inl rfl) dX11_branch_20 (fun v3 h => ?_)
    refine zt_icmp_eq (tgt := 66) hC h (by decide) dX11_branch_23 (fun h => ?_) (fun h => ?_)
    · refine zt_iinc (v := (x6 + (1 : Int32))) (lv' := [(6, .int (x6 + (1 : Int32))), (0, .ref x0), (1, .ref x1), (2, .ref x2), (3, .int x3), (4, .int x4), (5, .int x5)]) hC rfl (by rw [ki_1]) (by decide) rfl dX11_branch_66 ?_
      refine zt_goto (tgt := 3) hC (by decide) dX11_branch_69 ?_
      refine zt_keep [0, 1, 2, 3, 4, 5, 6] rfl ?_
      exact hk3 x0 x1 x2 x3 x4 x5 (x6 + (1 : Int32)) M h
    · refine zt_aload_n hC rfl dX11_branch_26 ?_
      refine zt_aload_n hC rfl dX11_branch_27 ?_
      obtain ⟨hk, h⟩ := ck_some h
      obtain ⟨v4, M5, h6, h⟩ := bnd_some h
      refine zt_callV (z := yX10_become) (As := [.ref x1]) (rest := []) (st1 := []) hC 1 hk cl10 (fun l hl => c_X10_become N x2 x1 M (v4, M5) h6 l hl) rfl wd_311 wd_308 wd_309 wd_310 wd_2 hd_X10_become rfl ⟨⟨(Nat.le_of_ble_eq_true rfl), (Nat.le_of_ble_eq_true rfl)⟩, (Nat.le_of_ble_eq_true rfl), (Nat.le_of_ble_eq_true rfl)⟩ rfl (Nat.le_of_ble_eq_true rfl) rfl dX11_branch_28 ?_
      refine zt_aload_n hC rfl dX11_branch_31 ?_
      refine zt_aload_n hC rfl dX11_branch_32 ?_
      refine zt_gR hC h cl10 (k := 7) (by decide) rfl wd_122 (Or.inl rfl) dX11_branch_33 (fun v7 h => ?_)
      refine zt_iload hC rfl dX11_branch_36 ?_
      refine zt_iconst hC ki_1 dX11_branch_38 ?_
      refine zt_isub hC dX11_branch_39 ?_
      obtain ⟨hk, h⟩ := ck_some h
      obtain ⟨v8, M9, h10, h⟩ := bnd_some h
      refine zt_callV (z := yX10_send) (As := [.ref v7, .int (x6 - (1 : Int32))]) (rest := []) (st1 := []) hC 2 hk cl10 (fun l hl => c_X10_send N x2 v7 (x6 - (1 : Int32)) M5 (v8, M9) h10 l hl) rfl wd_537 wd_551 wd_535 wd_536 wd_2 hd_X10_send rfl ⟨⟨(Nat.le_of_ble_eq_true rfl), (Nat.le_of_ble_eq_true rfl)⟩, (Nat.le_of_ble_eq_true rfl), (Nat.le_of_ble_eq_true rfl)⟩ rfl (Nat.le_of_ble_eq_true rfl) rfl dX11_branch_40 ?_
      refine zt_aload_n hC rfl dX11_branch_43 ?_
      obtain ⟨hk, h⟩ := ck_some h
      obtain ⟨v11, M12, h13, h⟩ := bnd_some h
      refine zt_callV (z := yX10_close) (As := []) (rest := []) (st1 := []) hC 0 hk cl10 (fun l hl => c_X10_close N x2 M9 (v11, M12) h13 l hl) rfl wd_542 wd_708 wd_540 wd_541 wd_2 hd_X10_close rfl ⟨⟨(Nat.le_of_ble_eq_true rfl), (Nat.le_of_ble_eq_true rfl)⟩, (Nat.le_of_ble_eq_true rfl), (Nat.le_of_ble_eq_true rfl)⟩ rfl (Nat.le_of_ble_eq_true rfl) rfl dX11_branch_44 ?_
      refine zt_aload_n hC rfl dX11_branch_47 ?_
      refine zt_aload_n hC rfl dX11_branch_48 ?_
      refine zt_iload_n hC rfl dX11_branch_49 ?_
      refine zt_iconst hC ki_5 dX11_branch_50 ?_
      refine zt_imul hC dX11_branch_51 ?_
      refine zt_iload hC rfl dX11_branch_52 ?_
      refine zt_iload hC rfl dX11_branch_54 ?_
      refine zt_iload_n hC rfl dX11_branch_56 ?_
      refine zt_imul hC dX11_branch_57 ?_
      refine zt_iadd hC dX11_branch_58 ?_
      refine zt_iload hC rfl dX11_branch_59 ?_
      refine zt_iconst hC ki_1 dX11_branch_61 ?_
      refine zt_isub hC dX11_branch_62 ?_
      obtain ⟨hk, h⟩ := ck_some h
      obtain ⟨v14, M15, h16, h⟩ := bnd_some h
      refine zt_callV (z := yX11_explore) (As := [.ref x2, .int (x3 * (5 : Int32)), .int (x4 + (x6 * x3)), .int (x5 - (1 : Int32))]) (rest := []) (st1 := []) hC 4 hk cl11 (fun l hl => c_X11_explore1 N x0 x2 (x3 * (5 : Int32)) (x4 + (x6 * x3)) (x5 - (1 : Int32)) M12 (v14, M15) h16 l hl) rfl wd_716 wd_713 wd_715 ws_16 wd_1 hd_X11_explore rfl ⟨⟨(Nat.le_of_ble_eq_true rfl), (Nat.le_of_ble_eq_true rfl)⟩, (Nat.le_of_ble_eq_true rfl), (Nat.le_of_ble_eq_true rfl)⟩ rfl (Nat.le_of_ble_eq_true rfl) rfl dX11_branch_63 ?_
      refine zt_iinc (v := (x6 + (1 : Int32))) (lv' := [(6, .int (x6 + (1 : Int32))), (0, .ref x0), (1, .ref x1), (2, .ref x2), (3, .int x3), (4, .int x4), (5, .int x5)]) hC rfl (by rw [ki_1]) (by decide) rfl dX11_branch_66 ?_
      refine zt_goto (tgt := 3) hC (by decide) dX11_branch_69 ?_
      refine zt_keep [0, 1, 2, 3, 4, 5, 6] rfl ?_
      exact hk3 x0 x1 x2 x3 x4 x5 (x6 + (1 : Int32)) M15 h
theorem w_X11_branch2_3 {X : Cx} {G : Gl} {r : (Unit × Mm)} (N : Nat) (hC : CX X G yX11_branch cX11_branch 7 none rm_X11_branch2) (n : Nat) : ∀ (x0 : Nat) (x1 : Nat) (x2 : Nat) (x3 : Int32) (x4 : Int32) (x5 : Int32) (x6 : Int32) (M : Mm), l_X11_branch2_3 N n x0 x1 x2 x3 x4 x5 x6 M = some r → TW X G 7 (RQ X G none r.2 rm_X11_branch2) 0 0 M 3 [(0, .ref x0), (1, .ref x1), (2, .ref x2), (3, .int x3), (4, .int x4), (5, .int x5), (6, .int x6)] [] := by
  induction n with
  | zero => intro  x0 x1 x2 x3 x4 x5 x6 M h; cases (show none = some r from h)
  | succ n ih => intro  x0 x1 x2 x3 x4 x5 x6 M h; exact v_X11_branch2_3 N hC (l_X11_branch2_3 N n) ih x0 x1 x2 x3 x4 x5 x6 M h
def f_X11_branch2 (N : Nat) (x0 : Nat) (x1 : Nat) (x2 : Nat) (x3 : Int32) (x4 : Int32) (x5 : Int32) (M : Mm) : Option (Unit × Mm) :=
l_X11_branch2_3 N N x0 x1 x2 x3 x4 x5 (0 : Int32) M
set_option maxRecDepth 100000 in
set_option maxHeartbeats 4000000 in
theorem c_X11_branch2 (N : Nat) (x0 : Nat) (x1 : Nat) (x2 : Nat) (x3 : Int32) (x4 : Int32) (x5 : Int32) (M : Mm) (r : (Unit × Mm)) (h : f_X11_branch2 N x0 x1 x2 x3 x4 x5 M = some r) (l : Launch) (hfl : l.flags = flags0) {G : Gl} : MT l G yX11_branch cX11_branch 7 none rm_X11_branch2 [.ref x0, .ref x1, .ref x2, .int x3, .int x4, .int x5] M none r.2 := by
  unfold f_X11_branch2 at h
  refine zt_start hfl (lv := [(0, .ref x0), (1, .ref x1), (2, .ref x2), (3, .int x3), (4, .int x4), (5, .int x5)]) (by decide) (Nat.le_of_ble_eq_true rfl) rfl wd_720 (fun X hC _ => ?_)
  refine zt_iconst hC ki_0 dX11_branch_0 ?_
  refine zt_istore (lv' := [(6, .int (0 : Int32)), (0, .ref x0), (1, .ref x1), (2, .ref x2), (3, .int x3), (4, .int x4), (5, .int x5)]) hC (by decide) rfl dX11_branch_1 ?_
  refine zt_keep [0, 1, 2, 3, 4, 5, 6] rfl ?_
  exact w_X11_branch2_3 N hC N x0 x1 x2 x3 x4 x5 (0 : Int32) M h
def rm_X11_explore2 : Room := { frames := 9, cells := 0, slots := 0, locals := 220 }
def j_X11_explore2_51 (N : Nat) (k4 : Nat → Nat → Int32 → Int32 → Int32 → Mm → Option (Unit × Mm)) (x0 : Nat) (x1 : Nat) (x2 : Int32) (x3 : Int32) (x5 : Int32) (M : Mm) : Option (Unit × Mm) :=
gR 10 M x1 7 (fun v1 =>
ck 10 M x1 (bnd (f_X10_ask N x1 v1 M) (fun v2 M3 =>
ck 10 M3 x1 (bnd (f_X10_close N x1 M3) (fun v5 M6 =>
k4 x0 x1 x2 x3 (x5 + (-1 : Int32)) M6)))))
set_option maxRecDepth 100000 in
set_option maxHeartbeats 4000000 in
theorem w_X11_explore2_51 {X : Cx} {G : Gl} {r : (Unit × Mm)} (N : Nat) (hC : CX X G yX11_explore cX11_explore 6 none rm_X11_explore2) (k4 : Nat → Nat → Int32 → Int32 → Int32 → Mm → Option (Unit × Mm)) (hk4 : ∀ (x0 : Nat) (x1 : Nat) (x2 : Int32) (x3 : Int32) (x5 : Int32) (M : Mm), k4 x0 x1 x2 x3 x5 M = some r → TW X G 6 (RQ X G none r.2 rm_X11_explore2) 0 0 M 4 [(0, .ref x0), (1, .ref x1), (2, .int x2), (3, .int x3), (5, .int x5)] []) (x0 : Nat) (x1 : Nat) (x2 : Int32) (x3 : Int32) (x5 : Int32) (M : Mm) (h : j_X11_explore2_51 N k4 x0 x1 x2 x3 x5 M = some r) : TW X G 6 (RQ X G none r.2 rm_X11_explore2) 0 0 M 51 [(0, .ref x0), (1, .ref x1), (2, .int x2), (3, .int x3), (5, .int x5)] [] := by
  unfold j_X11_explore2_51 at h
  refine zt_aload_n hC rfl dX11_explore_51 ?_
  refine zt_aload_n hC rfl dX11_explore_52 ?_
  refine zt_gR hC h cl10 (k := 7) (by decide) rfl wd_122 (Or.inl rfl) dX11_explore_53 (fun v1 h => ?_)
  obtain ⟨hk, h⟩ := ck_some h
  obtain ⟨v2, M3, h4, h⟩ := bnd_some h
  refine zt_callV (z := yX10_ask) (As := [.ref v1]) (rest := []) (st1 := []) hC 1 hk cl10 (fun l hl => c_X10_ask N x1 v1 M (v2, M3) h4 l hl) rfl wd_472 wd_707 wd_470 wd_471 wd_2 hd_X10_ask rfl ⟨⟨(Nat.le_of_ble_eq_true rfl), (Nat.le_of_ble_eq_true rfl)⟩, (Nat.le_of_ble_eq_true rfl), (Nat.le_of_ble_eq_true rfl)⟩ rfl (Nat.le_of_ble_eq_true rfl) rfl dX11_explore_56 ?_
  refine zt_aload_n hC rfl dX11_explore_59 ?_
  obtain ⟨hk, h⟩ := ck_some h
  obtain ⟨v5, M6, h7, h⟩ := bnd_some h
  refine zt_callV (z := yX10_close) (As := []) (rest := []) (st1 := []) hC 0 hk cl10 (fun l hl => c_X10_close N x1 M3 (v5, M6) h7 l hl) rfl wd_542 wd_708 wd_540 wd_541 wd_2 hd_X10_close rfl ⟨⟨(Nat.le_of_ble_eq_true rfl), (Nat.le_of_ble_eq_true rfl)⟩, (Nat.le_of_ble_eq_true rfl), (Nat.le_of_ble_eq_true rfl)⟩ rfl (Nat.le_of_ble_eq_true rfl) rfl dX11_explore_60 ?_
  refine zt_iinc (v := (x5 + (-1 : Int32))) (lv' := [(5, .int (x5 + (-1 : Int32))), (0, .ref x0), (1, .ref x1), (2, .int x2), (3, .int x3)]) hC rfl (by rw [ki_m1]) (by decide) rfl dX11_explore_63 ?_
  refine zt_goto (tgt := 4) hC (by decide) dX11_explore_66 ?_
  refine zt_keep [0, 1, 2, 3, 5] rfl ?_
  exact hk4 x0 x1 x2 x3 (x5 + (-1 : Int32)) M6 h
def b_X11_explore2_4 (N : Nat) (k4 : Nat → Nat → Int32 → Int32 → Int32 → Mm → Option (Unit × Mm)) (x0 : Nat) (x1 : Nat) (x2 : Int32) (x3 : Int32) (x5 : Int32) (M : Mm) : Option (Unit × Mm) :=
(if x5 ≤ 0 then
ck 10 M x1 (bnd (f_X10_gain N x1 M) (fun v1 M2 =>
ck 11 M2 x0 (bnd (f_X11_weigh N x0 v1 x3 M2) (fun v4 M5 =>
some ((), M5)))))
else
ck 10 M x1 (bnd (f_X10_bring N x1 M) (fun v7 M8 =>
gR 10 M8 x1 7 (fun v10 =>
gI 1 M8 v10 1 (fun v11 =>
(if v11 = 0 then
(if (625 : Int32) ≤ x2 then
j_X11_explore2_51 N k4 x0 x1 x2 x3 x5 M8
else
(gN 10 M8 x1 17
(j_X11_explore2_51 N k4 x0 x1 x2 x3 x5 M8)
(fun v12 =>
(gN 10 M8 x1 17
(none)
(fun v13 =>
ck 11 M8 x0 (bnd (f_X11_branch2 N x0 x1 v13 x2 x3 x5 M8) (fun v14 M15 =>
some ((), M15))))))))
else
j_X11_explore2_51 N k4 x0 x1 x2 x3 x5 M8))))))
def l_X11_explore2_4 (N : Nat) : Nat → Nat → Nat → Int32 → Int32 → Int32 → Mm → Option (Unit × Mm)
  | 0 => fun _ _ _ _ _ _ => none
  | n + 1 => b_X11_explore2_4 N (l_X11_explore2_4 N n)
set_option maxRecDepth 100000 in
set_option maxHeartbeats 4000000 in
theorem v_X11_explore2_4 {X : Cx} {G : Gl} {r : (Unit × Mm)} (N : Nat) (hC : CX X G yX11_explore cX11_explore 6 none rm_X11_explore2) (k4 : Nat → Nat → Int32 → Int32 → Int32 → Mm → Option (Unit × Mm)) (hk4 : ∀ (x0 : Nat) (x1 : Nat) (x2 : Int32) (x3 : Int32) (x5 : Int32) (M : Mm), k4 x0 x1 x2 x3 x5 M = some r → TW X G 6 (RQ X G none r.2 rm_X11_explore2) 0 0 M 4 [(0, .ref x0), (1, .ref x1), (2, .int x2), (3, .int x3), (5, .int x5)] []) (x0 : Nat) (x1 : Nat) (x2 : Int32) (x3 : Int32) (x5 : Int32) (M : Mm) (h : b_X11_explore2_4 N k4 x0 x1 x2 x3 x5 M = some r) : TW X G 6 (RQ X G none r.2 rm_X11_explore2) 0 0 M 4 [(0, .ref x0), (1, .ref x1), (2, .int x2), (3, .int x3), (5, .int x5)] [] := by
  unfold b_X11_explore2_4 at h
  refine zt_iload hC rfl dX11_explore_4 ?_
  refine zt_if_le (tgt := 69) hC h (by decide) dX11_explore_6 (fun h => ?_) (fun h => ?_)
  · refine zt_aload_n hC rfl dX11_explore_69 ?_
    refine zt_aload_n hC rfl dX11_explore_70 ?_
    obtain ⟨hk, h⟩ := ck_some h
    obtain ⟨v1, M2, h3, h⟩ := bnd_some h
    refine zt_callV (z := yX10_gain) (As := []) (rest := [.ref x0]) (st1 := (.int v1 :: [.ref x0])) hC 0 hk cl10 (fun l hl => c_X10_gain N x1 M (v1, M2) h3 l hl) rfl wd_614 wd_611 wd_612 wd_613 wd_2 hd_X10_gain rfl ⟨⟨(Nat.le_of_ble_eq_true rfl), (Nat.le_of_ble_eq_true rfl)⟩, (Nat.le_of_ble_eq_true rfl), (Nat.le_of_ble_eq_true rfl)⟩ rfl (Nat.le_of_ble_eq_true rfl) rfl dX11_explore_71 ?_
    refine zt_iload_n hC rfl dX11_explore_74 ?_
    obtain ⟨hk, h⟩ := ck_some h
    obtain ⟨v4, M5, h6, h⟩ := bnd_some h
    refine zt_callV (z := yX11_weigh) (As := [.int v1, .int x3]) (rest := []) (st1 := []) hC 2 hk cl11 (fun l hl => c_X11_weigh N x0 v1 x3 M2 (v4, M5) h6 l hl) rfl wd_724 wd_721 wd_723 ws_18 wd_1 hd_X11_weigh rfl ⟨⟨(Nat.le_of_ble_eq_true rfl), (Nat.le_of_ble_eq_true rfl)⟩, (Nat.le_of_ble_eq_true rfl), (Nat.le_of_ble_eq_true rfl)⟩ rfl (Nat.le_of_ble_eq_true rfl) rfl dX11_explore_75 ?_
    obtain rfl := Option.some.inj h
    exact zt_vret hC rfl rfl (Nat.le_of_ble_eq_true rfl) (Nat.le_of_ble_eq_true rfl) dX11_explore_78
  · refine zt_aload_n hC rfl dX11_explore_9 ?_
    obtain ⟨hk, h⟩ := ck_some h
    obtain ⟨v7, M8, h9, h⟩ := bnd_some h
    refine zt_callV (z := yX10_bring) (As := []) (rest := []) (st1 := []) hC 0 hk cl10 (fun l hl => c_X10_bring N x1 M (v7, M8) h9 l hl) rfl wd_445 wd_706 wd_443 wd_444 wd_2 hd_X10_bring rfl ⟨⟨(Nat.le_of_ble_eq_true rfl), (Nat.le_of_ble_eq_true rfl)⟩, (Nat.le_of_ble_eq_true rfl), (Nat.le_of_ble_eq_true rfl)⟩ rfl (Nat.le_of_ble_eq_true rfl) rfl dX11_explore_10 ?_
    refine zt_aload_n hC rfl dX11_explore_13 ?_
    refine zt_gR hC h cl10 (k := 7) (by decide) rfl wd_122 (Or.inl rfl) dX11_explore_14 (fun v10 h => ?_)
    refine zt_gI hC h cl1 (k := 1) (by decide) rfl wd_74 (Or.inl rfl) dX11_explore_17 (fun v11 h => ?_)
    refine zt_if_ne (tgt := 51) hC h (by decide) dX11_explore_20 (fun h => ?_) (fun h => ?_)
    · refine zt_keep [0, 1, 2, 3, 5] rfl ?_
      exact w_X11_explore2_51 N hC k4 hk4 x0 x1 x2 x3 x5 M8 h
    · refine zt_iload_n hC rfl dX11_explore_23 ?_
      refine zt_sipush hC ks_625 dX11_explore_24 ?_
      refine zt_icmp_ge (tgt := 51) hC h (by decide) dX11_explore_27 (fun h => ?_) (fun h => ?_)
      · refine zt_keep [0, 1, 2, 3, 5] rfl ?_
        exact w_X11_explore2_51 N hC k4 hk4 x0 x1 x2 x3 x5 M8 h
      · refine zt_aload_n hC rfl dX11_explore_30 ?_
        refine zt_gN hC h cl10 (k := 17) (by decide) rfl wd_138 (Or.inl rfl) dX11_explore_31 (fun h => ?_) (fun v12 h => ?_)
        · refine zt_ifnullN (tgt := 51) hC (by decide) dX11_explore_34 ?_
          refine zt_keep [0, 1, 2, 3, 5] rfl ?_
          exact w_X11_explore2_51 N hC k4 hk4 x0 x1 x2 x3 x5 M8 h
        · refine zt_ifnull hC dX11_explore_34 ?_
          refine zt_aload_n hC rfl dX11_explore_37 ?_
          refine zt_aload_n hC rfl dX11_explore_38 ?_
          refine zt_aload_n hC rfl dX11_explore_39 ?_
          refine zt_gN hC h cl10 (k := 17) (by decide) rfl wd_138 (Or.inl rfl) dX11_explore_40 (fun h => ?_) (fun v13 h => ?_)
          · refine zt_iload_n hC rfl dX11_explore_43 ?_
            refine zt_iload_n hC rfl dX11_explore_44 ?_
            refine zt_iload hC rfl dX11_explore_45 ?_
            cases h
          · refine zt_iload_n hC rfl dX11_explore_43 ?_
            refine zt_iload_n hC rfl dX11_explore_44 ?_
            refine zt_iload hC rfl dX11_explore_45 ?_
            obtain ⟨hk, h⟩ := ck_some h
            obtain ⟨v14, M15, h16, h⟩ := bnd_some h
            refine zt_callV (z := yX11_branch) (As := [.ref x1, .ref v13, .int x2, .int x3, .int x5]) (rest := []) (st1 := []) hC 5 hk cl11 (fun l hl => c_X11_branch2 N x0 x1 v13 x2 x3 x5 M8 (v14, M15) h16 l hl) rfl wd_720 wd_717 wd_719 ws_17 wd_1 hd_X11_branch rfl ⟨⟨(Nat.le_of_ble_eq_true rfl), (Nat.le_of_ble_eq_true rfl)⟩, (Nat.le_of_ble_eq_true rfl), (Nat.le_of_ble_eq_true rfl)⟩ rfl (Nat.le_of_ble_eq_true rfl) rfl dX11_explore_47 ?_
            obtain rfl := Option.some.inj h
            exact zt_vret hC rfl rfl (Nat.le_of_ble_eq_true rfl) (Nat.le_of_ble_eq_true rfl) dX11_explore_50
theorem w_X11_explore2_4 {X : Cx} {G : Gl} {r : (Unit × Mm)} (N : Nat) (hC : CX X G yX11_explore cX11_explore 6 none rm_X11_explore2) (n : Nat) : ∀ (x0 : Nat) (x1 : Nat) (x2 : Int32) (x3 : Int32) (x5 : Int32) (M : Mm), l_X11_explore2_4 N n x0 x1 x2 x3 x5 M = some r → TW X G 6 (RQ X G none r.2 rm_X11_explore2) 0 0 M 4 [(0, .ref x0), (1, .ref x1), (2, .int x2), (3, .int x3), (5, .int x5)] [] := by
  induction n with
  | zero => intro  x0 x1 x2 x3 x5 M h; cases (show none = some r from h)
  | succ n ih => intro  x0 x1 x2 x3 x5 M h; exact v_X11_explore2_4 N hC (l_X11_explore2_4 N n) ih x0 x1 x2 x3 x5 M h
def f_X11_explore2 (N : Nat) (x0 : Nat) (x1 : Nat) (x2 : Int32) (x3 : Int32) (x4 : Int32) (M : Mm) : Option (Unit × Mm) :=
l_X11_explore2_4 N N x0 x1 x2 x3 x4 M
set_option maxRecDepth 100000 in
set_option maxHeartbeats 4000000 in
theorem c_X11_explore2 (N : Nat) (x0 : Nat) (x1 : Nat) (x2 : Int32) (x3 : Int32) (x4 : Int32) (M : Mm) (r : (Unit × Mm)) (h : f_X11_explore2 N x0 x1 x2 x3 x4 M = some r) (l : Launch) (hfl : l.flags = flags0) {G : Gl} : MT l G yX11_explore cX11_explore 6 none rm_X11_explore2 [.ref x0, .ref x1, .int x2, .int x3, .int x4] M none r.2 := by
  unfold f_X11_explore2 at h
  refine zt_start hfl (lv := [(0, .ref x0), (1, .ref x1), (2, .int x2), (3, .int x3), (4, .int x4)]) (by decide) (Nat.le_of_ble_eq_true rfl) rfl wd_716 (fun X hC _ => ?_)
  refine zt_iload hC rfl dX11_explore_0 ?_
  refine zt_istore (lv' := [(5, .int x4), (0, .ref x0), (1, .ref x1), (2, .int x2), (3, .int x3), (4, .int x4)]) hC (by decide) rfl dX11_explore_2 ?_
  refine zt_keep [0, 1, 2, 3, 5] rfl ?_
  exact w_X11_explore2_4 N hC N x0 x1 x2 x3 x4 M h
def rm_X11_branch3 : Room := { frames := 10, cells := 0, slots := 0, locals := 245 }
def b_X11_branch3_3 (N : Nat) (k3 : Nat → Nat → Nat → Int32 → Int32 → Int32 → Int32 → Mm → Option (Unit × Mm)) (x0 : Nat) (x1 : Nat) (x2 : Nat) (x3 : Int32) (x4 : Int32) (x5 : Int32) (x6 : Int32) (M : Mm) : Option (Unit × Mm) :=
gI 10 M x1 0 (fun v1 =>
(if v1 < x6 then
some ((), M)
else
gR 10 M x1 7 (fun v2 =>
gI 1 M v2 0 (fun v3 =>
(if (x6 - (1 : Int32)) = v3 then
k3 x0 x1 x2 x3 x4 x5 (x6 + (1 : Int32)) M
else
ck 10 M x2 (bnd (f_X10_become N x2 x1 M) (fun v4 M5 =>
gR 10 M5 x2 7 (fun v7 =>
ck 10 M5 x2 (bnd (f_X10_send N x2 v7 (x6 - (1 : Int32)) M5) (fun v8 M9 =>
ck 10 M9 x2 (bnd (f_X10_close N x2 M9) (fun v11 M12 =>
ck 11 M12 x0 (bnd (f_X11_explore2 N x0 x2 (x3 * (5 : Int32)) (x4 + (x6 * x3)) (x5 - (1 : Int32)) M12) (fun v14 M15 =>
k3 x0 x1 x2 x3 x4 x5 (x6 + (1 : Int32)) M15))))))))))))))
def l_X11_branch3_3 (N : Nat) : Nat → Nat → Nat → Nat → Int32 → Int32 → Int32 → Int32 → Mm → Option (Unit × Mm)
  | 0 => fun _ _ _ _ _ _ _ _ => none
  | n + 1 => b_X11_branch3_3 N (l_X11_branch3_3 N n)
set_option maxRecDepth 100000 in
set_option maxHeartbeats 4000000 in
theorem v_X11_branch3_3 {X : Cx} {G : Gl} {r : (Unit × Mm)} (N : Nat) (hC : CX X G yX11_branch cX11_branch 7 none rm_X11_branch3) (k3 : Nat → Nat → Nat → Int32 → Int32 → Int32 → Int32 → Mm → Option (Unit × Mm)) (hk3 : ∀ (x0 : Nat) (x1 : Nat) (x2 : Nat) (x3 : Int32) (x4 : Int32) (x5 : Int32) (x6 : Int32) (M : Mm), k3 x0 x1 x2 x3 x4 x5 x6 M = some r → TW X G 7 (RQ X G none r.2 rm_X11_branch3) 0 0 M 3 [(0, .ref x0), (1, .ref x1), (2, .ref x2), (3, .int x3), (4, .int x4), (5, .int x5), (6, .int x6)] []) (x0 : Nat) (x1 : Nat) (x2 : Nat) (x3 : Int32) (x4 : Int32) (x5 : Int32) (x6 : Int32) (M : Mm) (h : b_X11_branch3_3 N k3 x0 x1 x2 x3 x4 x5 x6 M = some r) : TW X G 7 (RQ X G none r.2 rm_X11_branch3) 0 0 M 3 [(0, .ref x0), (1, .ref x1), (2, .ref x2), (3, .int x3), (4, .int x4), (5, .int x5), (6, .int x6)] [] := by
  unfold b_X11_branch3_3 at h
  refine zt_iload hC rfl dX11_branch_3 ?_
  refine zt_aload_n hC rfl dX11_branch_5 ?_
  refine zt_gI hC h cl10 (k := 0) (by decide) rfl wd_108 (Or.inl rfl) dX11_branch_6 (fun v1 h => ?_)
  refine zt_icmp_gt (tgt := 72) hC h (by decide) dX11_branch_9 (fun h => ?_) (fun h => ?_)
  · obtain rfl := Option.some.inj h
    exact zt_vret hC rfl rfl (Nat.le_of_ble_eq_true rfl) (Nat.le_of_ble_eq_true rfl) dX11_branch_72
  · refine zt_iload hC rfl dX11_branch_12 ?_
    refine zt_iconst hC ki_1 dX11_branch_14 ?_
    refine zt_isub hC dX11_branch_15 ?_
    refine zt_aload_n hC rfl dX11_branch_16 ?_
    refine zt_gR hC h cl10 (k := 7) (by decide) rfl wd_122 (Or.inl rfl) dX11_branch_17 (fun v2 h => ?_)
    refine zt_gI hC h cl1 (k := 0) (by decide) rfl wd_71 (Or.inl rfl) dX11_branch_20 (fun v3 h => ?_)
    refine zt_icmp_eq (tgt := 66) hC h (by decide) dX11_branch_23 (fun h => ?_) (fun h => ?_)
    · refine zt_iinc (v := (x6 + (1 : Int32))) (lv' := [(6, .int (x6 + (1 : Int32))), (0, .ref x0), (1, .ref x1), (2, .ref x2), (3, .int x3), (4, .int x4), (5, .int x5)]) hC rfl (by rw [ki_1]) (by decide) rfl dX11_branch_66 ?_
      refine zt_goto (tgt := 3) hC (by decide) dX11_branch_69 ?_
      refine zt_keep [0, 1, 2, 3, 4, 5, 6] rfl ?_
      exact hk3 x0 x1 x2 x3 x4 x5 (x6 + (1 : Int32)) M h
    · refine zt_aload_n hC rfl dX11_branch_26 ?_
      refine zt_aload_n hC rfl dX11_branch_27 ?_
      obtain ⟨hk, h⟩ := ck_some h
      obtain ⟨v4, M5, h6, h⟩ := bnd_some h
      refine zt_callV (z := yX10_become) (As := [.ref x1]) (rest := []) (st1 := []) hC 1 hk cl10 (fun l hl => c_X10_become N x2 x1 M (v4, M5) h6 l hl) rfl wd_311 wd_308 wd_309 wd_310 wd_2 hd_X10_become rfl ⟨⟨(Nat.le_of_ble_eq_true rfl), (Nat.le_of_ble_eq_true rfl)⟩, (Nat.le_of_ble_eq_true rfl), (Nat.le_of_ble_eq_true rfl)⟩ rfl (Nat.le_of_ble_eq_true rfl) rfl dX11_branch_28 ?_
      refine zt_aload_n hC rfl dX11_branch_31 ?_
      refine zt_aload_n hC rfl dX11_branch_32 ?_
      refine zt_gR hC h cl10 (k := 7) (by decide) rfl wd_122 (Or.inl rfl) dX11_branch_33 (fun v7 h => ?_)
      refine zt_iload hC rfl dX11_branch_36 ?_
      refine zt_iconst hC ki_1 dX11_branch_38 ?_
      refine zt_isub hC dX11_branch_39 ?_
      obtain ⟨hk, h⟩ := ck_some h
      obtain ⟨v8, M9, h10, h⟩ := bnd_some h
      refine zt_callV (z := yX10_send) (As := [.ref v7, .int (x6 - (1 : Int32))]) (rest := []) (st1 := []) hC 2 hk cl10 (fun l hl => c_X10_send N x2 v7 (x6 - (1 : Int32)) M5 (v8, M9) h10 l hl) rfl wd_537 wd_551 wd_535 wd_536 wd_2 hd_X10_send rfl ⟨⟨(Nat.le_of_ble_eq_true rfl), (Nat.le_of_ble_eq_true rfl)⟩, (Nat.le_of_ble_eq_true rfl), (Nat.le_of_ble_eq_true rfl)⟩ rfl (Nat.le_of_ble_eq_true rfl) rfl dX11_branch_40 ?_
      refine zt_aload_n hC rfl dX11_branch_43 ?_
      obtain ⟨hk, h⟩ := ck_some h
      obtain ⟨v11, M12, h13, h⟩ := bnd_some h
      refine zt_callV (z := yX10_close) (As := []) (rest := []) (st1 := []) hC 0 hk cl10 (fun l hl => c_X10_close N x2 M9 (v11, M12) h13 l hl) rfl wd_542 wd_708 wd_540 wd_541 wd_2 hd_X10_close rfl ⟨⟨(Nat.le_of_ble_eq_true rfl), (Nat.le_of_ble_eq_true rfl)⟩, (Nat.le_of_ble_eq_true rfl), (Nat.le_of_ble_eq_true rfl)⟩ rfl (Nat.le_of_ble_eq_true rfl) rfl dX11_branch_44 ?_
      refine zt_aload_n hC rfl dX11_branch_47 ?_
      refine zt_aload_n hC rfl dX11_branch_48 ?_
      refine zt_iload_n hC rfl dX11_branch_49 ?_
      refine zt_iconst hC ki_5 dX11_branch_50 ?_
      refine zt_imul hC dX11_branch_51 ?_
      refine zt_iload hC rfl dX11_branch_52 ?_
      refine zt_iload hC rfl dX11_branch_54 ?_
      refine zt_iload_n hC rfl dX11_branch_56 ?_
      refine zt_imul hC dX11_branch_57 ?_
      refine zt_iadd hC dX11_branch_58 ?_
      refine zt_iload hC rfl dX11_branch_59 ?_
      refine zt_iconst hC ki_1 dX11_branch_61 ?_
      refine zt_isub hC dX11_branch_62 ?_
      obtain ⟨hk, h⟩ := ck_some h
      obtain ⟨v14, M15, h16, h⟩ := bnd_some h
      refine zt_callV (z := yX11_explore) (As := [.ref x2, .int (x3 * (5 : Int32)), .int (x4 + (x6 * x3)), .int (x5 - (1 : Int32))]) (rest := []) (st1 := []) hC 4 hk cl11 (fun l hl => c_X11_explore2 N x0 x2 (x3 * (5 : Int32)) (x4 + (x6 * x3)) (x5 - (1 : Int32)) M12 (v14, M15) h16 l hl) rfl wd_716 wd_713 wd_715 ws_16 wd_1 hd_X11_explore rfl ⟨⟨(Nat.le_of_ble_eq_true rfl), (Nat.le_of_ble_eq_true rfl)⟩, (Nat.le_of_ble_eq_true rfl), (Nat.le_of_ble_eq_true rfl)⟩ rfl (Nat.le_of_ble_eq_true rfl) rfl dX11_branch_63 ?_
      refine zt_iinc (v := (x6 + (1 : Int32))) (lv' := [(6, .int (x6 + (1 : Int32))), (0, .ref x0), (1, .ref x1), (2, .ref x2), (3, .int x3), (4, .int x4), (5, .int x5)]) hC rfl (by rw [ki_1]) (by decide) rfl dX11_branch_66 ?_
      refine zt_goto (tgt := 3) hC (by decide) dX11_branch_69 ?_
      refine zt_keep [0, 1, 2, 3, 4, 5, 6] rfl ?_
      exact hk3 x0 x1 x2 x3 x4 x5 (x6 + (1 : Int32)) M15 h
theorem w_X11_branch3_3 {X : Cx} {G : Gl} {r : (Unit × Mm)} (N : Nat) (hC : CX X G yX11_branch cX11_branch 7 none rm_X11_branch3) (n : Nat) : ∀ (x0 : Nat) (x1 : Nat) (x2 : Nat) (x3 : Int32) (x4 : Int32) (x5 : Int32) (x6 : Int32) (M : Mm), l_X11_branch3_3 N n x0 x1 x2 x3 x4 x5 x6 M = some r → TW X G 7 (RQ X G none r.2 rm_X11_branch3) 0 0 M 3 [(0, .ref x0), (1, .ref x1), (2, .ref x2), (3, .int x3), (4, .int x4), (5, .int x5), (6, .int x6)] [] := by
  induction n with
  | zero => intro  x0 x1 x2 x3 x4 x5 x6 M h; cases (show none = some r from h)
  | succ n ih => intro  x0 x1 x2 x3 x4 x5 x6 M h; exact v_X11_branch3_3 N hC (l_X11_branch3_3 N n) ih x0 x1 x2 x3 x4 x5 x6 M h
def f_X11_branch3 (N : Nat) (x0 : Nat) (x1 : Nat) (x2 : Nat) (x3 : Int32) (x4 : Int32) (x5 : Int32) (M : Mm) : Option (Unit × Mm) :=
l_X11_branch3_3 N N x0 x1 x2 x3 x4 x5 (0 : Int32) M
set_option maxRecDepth 100000 in
set_option maxHeartbeats 4000000 in
theorem c_X11_branch3 (N : Nat) (x0 : Nat) (x1 : Nat) (x2 : Nat) (x3 : Int32) (x4 : Int32) (x5 : Int32) (M : Mm) (r : (Unit × Mm)) (h : f_X11_branch3 N x0 x1 x2 x3 x4 x5 M = some r) (l : Launch) (hfl : l.flags = flags0) {G : Gl} : MT l G yX11_branch cX11_branch 7 none rm_X11_branch3 [.ref x0, .ref x1, .ref x2, .int x3, .int x4, .int x5] M none r.2 := by
  unfold f_X11_branch3 at h
  refine zt_start hfl (lv := [(0, .ref x0), (1, .ref x1), (2, .ref x2), (3, .int x3), (4, .int x4), (5, .int x5)]) (by decide) (Nat.le_of_ble_eq_true rfl) rfl wd_720 (fun X hC _ => ?_)
  refine zt_iconst hC ki_0 dX11_branch_0 ?_
  refine zt_istore (lv' := [(6, .int (0 : Int32)), (0, .ref x0), (1, .ref x1), (2, .ref x2), (3, .int x3), (4, .int x4), (5, .int x5)]) hC (by decide) rfl dX11_branch_1 ?_
  refine zt_keep [0, 1, 2, 3, 4, 5, 6] rfl ?_
  exact w_X11_branch3_3 N hC N x0 x1 x2 x3 x4 x5 (0 : Int32) M h
def rm_X11_explore3 : Room := { frames := 11, cells := 0, slots := 0, locals := 271 }
def j_X11_explore3_51 (N : Nat) (k4 : Nat → Nat → Int32 → Int32 → Int32 → Mm → Option (Unit × Mm)) (x0 : Nat) (x1 : Nat) (x2 : Int32) (x3 : Int32) (x5 : Int32) (M : Mm) : Option (Unit × Mm) :=
gR 10 M x1 7 (fun v1 =>
ck 10 M x1 (bnd (f_X10_ask N x1 v1 M) (fun v2 M3 =>
ck 10 M3 x1 (bnd (f_X10_close N x1 M3) (fun v5 M6 =>
k4 x0 x1 x2 x3 (x5 + (-1 : Int32)) M6)))))
set_option maxRecDepth 100000 in
set_option maxHeartbeats 4000000 in
theorem w_X11_explore3_51 {X : Cx} {G : Gl} {r : (Unit × Mm)} (N : Nat) (hC : CX X G yX11_explore cX11_explore 6 none rm_X11_explore3) (k4 : Nat → Nat → Int32 → Int32 → Int32 → Mm → Option (Unit × Mm)) (hk4 : ∀ (x0 : Nat) (x1 : Nat) (x2 : Int32) (x3 : Int32) (x5 : Int32) (M : Mm), k4 x0 x1 x2 x3 x5 M = some r → TW X G 6 (RQ X G none r.2 rm_X11_explore3) 0 0 M 4 [(0, .ref x0), (1, .ref x1), (2, .int x2), (3, .int x3), (5, .int x5)] []) (x0 : Nat) (x1 : Nat) (x2 : Int32) (x3 : Int32) (x5 : Int32) (M : Mm) (h : j_X11_explore3_51 N k4 x0 x1 x2 x3 x5 M = some r) : TW X G 6 (RQ X G none r.2 rm_X11_explore3) 0 0 M 51 [(0, .ref x0), (1, .ref x1), (2, .int x2), (3, .int x3), (5, .int x5)] [] := by
  unfold j_X11_explore3_51 at h
  refine zt_aload_n hC rfl dX11_explore_51 ?_
  refine zt_aload_n hC rfl dX11_explore_52 ?_
  refine zt_gR hC h cl10 (k := 7) (by decide) rfl wd_122 (Or.inl rfl) dX11_explore_53 (fun v1 h => ?_)
  obtain ⟨hk, h⟩ := ck_some h
  obtain ⟨v2, M3, h4, h⟩ := bnd_some h
  refine zt_callV (z := yX10_ask) (As := [.ref v1]) (rest := []) (st1 := []) hC 1 hk cl10 (fun l hl => c_X10_ask N x1 v1 M (v2, M3) h4 l hl) rfl wd_472 wd_707 wd_470 wd_471 wd_2 hd_X10_ask rfl ⟨⟨(Nat.le_of_ble_eq_true rfl), (Nat.le_of_ble_eq_true rfl)⟩, (Nat.le_of_ble_eq_true rfl), (Nat.le_of_ble_eq_true rfl)⟩ rfl (Nat.le_of_ble_eq_true rfl) rfl dX11_explore_56 ?_
  refine zt_aload_n hC rfl dX11_explore_59 ?_
  obtain ⟨hk, h⟩ := ck_some h
  obtain ⟨v5, M6, h7, h⟩ := bnd_some h
  refine zt_callV (z := yX10_close) (As := []) (rest := []) (st1 := []) hC 0 hk cl10 (fun l hl => c_X10_close N x1 M3 (v5, M6) h7 l hl) rfl wd_542 wd_708 wd_540 wd_541 wd_2 hd_X10_close rfl ⟨⟨(Nat.le_of_ble_eq_true rfl), (Nat.le_of_ble_eq_true rfl)⟩, (Nat.le_of_ble_eq_true rfl), (Nat.le_of_ble_eq_true rfl)⟩ rfl (Nat.le_of_ble_eq_true rfl) rfl dX11_explore_60 ?_
  refine zt_iinc (v := (x5 + (-1 : Int32))) (lv' := [(5, .int (x5 + (-1 : Int32))), (0, .ref x0), (1, .ref x1), (2, .int x2), (3, .int x3)]) hC rfl (by rw [ki_m1]) (by decide) rfl dX11_explore_63 ?_
  refine zt_goto (tgt := 4) hC (by decide) dX11_explore_66 ?_
  refine zt_keep [0, 1, 2, 3, 5] rfl ?_
  exact hk4 x0 x1 x2 x3 (x5 + (-1 : Int32)) M6 h
def b_X11_explore3_4 (N : Nat) (k4 : Nat → Nat → Int32 → Int32 → Int32 → Mm → Option (Unit × Mm)) (x0 : Nat) (x1 : Nat) (x2 : Int32) (x3 : Int32) (x5 : Int32) (M : Mm) : Option (Unit × Mm) :=
(if x5 ≤ 0 then
ck 10 M x1 (bnd (f_X10_gain N x1 M) (fun v1 M2 =>
ck 11 M2 x0 (bnd (f_X11_weigh N x0 v1 x3 M2) (fun v4 M5 =>
some ((), M5)))))
else
ck 10 M x1 (bnd (f_X10_bring N x1 M) (fun v7 M8 =>
gR 10 M8 x1 7 (fun v10 =>
gI 1 M8 v10 1 (fun v11 =>
(if v11 = 0 then
(if (625 : Int32) ≤ x2 then
j_X11_explore3_51 N k4 x0 x1 x2 x3 x5 M8
else
(gN 10 M8 x1 17
(j_X11_explore3_51 N k4 x0 x1 x2 x3 x5 M8)
(fun v12 =>
(gN 10 M8 x1 17
(none)
(fun v13 =>
ck 11 M8 x0 (bnd (f_X11_branch3 N x0 x1 v13 x2 x3 x5 M8) (fun v14 M15 =>
some ((), M15))))))))
else
j_X11_explore3_51 N k4 x0 x1 x2 x3 x5 M8))))))
def l_X11_explore3_4 (N : Nat) : Nat → Nat → Nat → Int32 → Int32 → Int32 → Mm → Option (Unit × Mm)
  | 0 => fun _ _ _ _ _ _ => none
  | n + 1 => b_X11_explore3_4 N (l_X11_explore3_4 N n)
set_option maxRecDepth 100000 in
set_option maxHeartbeats 4000000 in
theorem v_X11_explore3_4 {X : Cx} {G : Gl} {r : (Unit × Mm)} (N : Nat) (hC : CX X G yX11_explore cX11_explore 6 none rm_X11_explore3) (k4 : Nat → Nat → Int32 → Int32 → Int32 → Mm → Option (Unit × Mm)) (hk4 : ∀ (x0 : Nat) (x1 : Nat) (x2 : Int32) (x3 : Int32) (x5 : Int32) (M : Mm), k4 x0 x1 x2 x3 x5 M = some r → TW X G 6 (RQ X G none r.2 rm_X11_explore3) 0 0 M 4 [(0, .ref x0), (1, .ref x1), (2, .int x2), (3, .int x3), (5, .int x5)] []) (x0 : Nat) (x1 : Nat) (x2 : Int32) (x3 : Int32) (x5 : Int32) (M : Mm) (h : b_X11_explore3_4 N k4 x0 x1 x2 x3 x5 M = some r) : TW X G 6 (RQ X G none r.2 rm_X11_explore3) 0 0 M 4 [(0, .ref x0), (1, .ref x1), (2, .int x2), (3, .int x3), (5, .int x5)] [] := by
  unfold b_X11_explore3_4 at h
  refine zt_iload hC rfl dX11_explore_4 ?_
  refine zt_if_le (tgt := 69) hC h (by decide) dX11_explore_6 (fun h => ?_) (fun h => ?_)
  · refine zt_aload_n hC rfl dX11_explore_69 ?_
    refine zt_aload_n hC rfl dX11_explore_70 ?_
    obtain ⟨hk, h⟩ := ck_some h
    obtain ⟨v1, M2, h3, h⟩ := bnd_some h
    refine zt_callV (z := yX10_gain) (As := []) (rest := [.ref x0]) (st1 := (.int v1 :: [.ref x0])) hC 0 hk cl10 (fun l hl => c_X10_gain N x1 M (v1, M2) h3 l hl) rfl wd_614 wd_611 wd_612 wd_613 wd_2 hd_X10_gain rfl ⟨⟨(Nat.le_of_ble_eq_true rfl), (Nat.le_of_ble_eq_true rfl)⟩, (Nat.le_of_ble_eq_true rfl), (Nat.le_of_ble_eq_true rfl)⟩ rfl (Nat.le_of_ble_eq_true rfl) rfl dX11_explore_71 ?_
    refine zt_iload_n hC rfl dX11_explore_74 ?_
    obtain ⟨hk, h⟩ := ck_some h
    obtain ⟨v4, M5, h6, h⟩ := bnd_some h
    refine zt_callV (z := yX11_weigh) (As := [.int v1, .int x3]) (rest := []) (st1 := []) hC 2 hk cl11 (fun l hl => c_X11_weigh N x0 v1 x3 M2 (v4, M5) h6 l hl) rfl wd_724 wd_721 wd_723 ws_18 wd_1 hd_X11_weigh rfl ⟨⟨(Nat.le_of_ble_eq_true rfl), (Nat.le_of_ble_eq_true rfl)⟩, (Nat.le_of_ble_eq_true rfl), (Nat.le_of_ble_eq_true rfl)⟩ rfl (Nat.le_of_ble_eq_true rfl) rfl dX11_explore_75 ?_
    obtain rfl := Option.some.inj h
    exact zt_vret hC rfl rfl (Nat.le_of_ble_eq_true rfl) (Nat.le_of_ble_eq_true rfl) dX11_explore_78
  · refine zt_aload_n hC rfl dX11_explore_9 ?_
    obtain ⟨hk, h⟩ := ck_some h
    obtain ⟨v7, M8, h9, h⟩ := bnd_some h
    refine zt_callV (z := yX10_bring) (As := []) (rest := []) (st1 := []) hC 0 hk cl10 (fun l hl => c_X10_bring N x1 M (v7, M8) h9 l hl) rfl wd_445 wd_706 wd_443 wd_444 wd_2 hd_X10_bring rfl ⟨⟨(Nat.le_of_ble_eq_true rfl), (Nat.le_of_ble_eq_true rfl)⟩, (Nat.le_of_ble_eq_true rfl), (Nat.le_of_ble_eq_true rfl)⟩ rfl (Nat.le_of_ble_eq_true rfl) rfl dX11_explore_10 ?_
    refine zt_aload_n hC rfl dX11_explore_13 ?_
    refine zt_gR hC h cl10 (k := 7) (by decide) rfl wd_122 (Or.inl rfl) dX11_explore_14 (fun v10 h => ?_)
    refine zt_gI hC h cl1 (k := 1) (by decide) rfl wd_74 (Or.inl rfl) dX11_explore_17 (fun v11 h => ?_)
    refine zt_if_ne (tgt := 51) hC h (by decide) dX11_explore_20 (fun h => ?_) (fun h => ?_)
    · refine zt_keep [0, 1, 2, 3, 5] rfl ?_
      exact w_X11_explore3_51 N hC k4 hk4 x0 x1 x2 x3 x5 M8 h
    · refine zt_iload_n hC rfl dX11_explore_23 ?_
      refine zt_sipush hC ks_625 dX11_explore_24 ?_
      refine zt_icmp_ge (tgt := 51) hC h (by decide) dX11_explore_27 (fun h => ?_) (fun h => ?_)
      · refine zt_keep [0, 1, 2, 3, 5] rfl ?_
        exact w_X11_explore3_51 N hC k4 hk4 x0 x1 x2 x3 x5 M8 h
      · refine zt_aload_n hC rfl dX11_explore_30 ?_
        refine zt_gN hC h cl10 (k := 17) (by decide) rfl wd_138 (Or.inl rfl) dX11_explore_31 (fun h => ?_) (fun v12 h => ?_)
        · refine zt_ifnullN (tgt := 51) hC (by decide) dX11_explore_34 ?_
          refine zt_keep [0, 1, 2, 3, 5] rfl ?_
          exact w_X11_explore3_51 N hC k4 hk4 x0 x1 x2 x3 x5 M8 h
        · refine zt_ifnull hC dX11_explore_34 ?_
          refine zt_aload_n hC rfl dX11_explore_37 ?_
          refine zt_aload_n hC rfl dX11_explore_38 ?_
          refine zt_aload_n hC rfl dX11_explore_39 ?_
          refine zt_gN hC h cl10 (k := 17) (by decide) rfl wd_138 (Or.inl rfl) dX11_explore_40 (fun h => ?_) (fun v13 h => ?_)
          · refine zt_iload_n hC rfl dX11_explore_43 ?_
            refine zt_iload_n hC rfl dX11_explore_44 ?_
            refine zt_iload hC rfl dX11_explore_45 ?_
            cases h
          · refine zt_iload_n hC rfl dX11_explore_43 ?_
            refine zt_iload_n hC rfl dX11_explore_44 ?_
            refine zt_iload hC rfl dX11_explore_45 ?_
            obtain ⟨hk, h⟩ := ck_some h
            obtain ⟨v14, M15, h16, h⟩ := bnd_some h
            refine zt_callV (z := yX11_branch) (As := [.ref x1, .ref v13, .int x2, .int x3, .int x5]) (rest := []) (st1 := []) hC 5 hk cl11 (fun l hl => c_X11_branch3 N x0 x1 v13 x2 x3 x5 M8 (v14, M15) h16 l hl) rfl wd_720 wd_717 wd_719 ws_17 wd_1 hd_X11_branch rfl ⟨⟨(Nat.le_of_ble_eq_true rfl), (Nat.le_of_ble_eq_true rfl)⟩, (Nat.le_of_ble_eq_true rfl), (Nat.le_of_ble_eq_true rfl)⟩ rfl (Nat.le_of_ble_eq_true rfl) rfl dX11_explore_47 ?_
            obtain rfl := Option.some.inj h
            exact zt_vret hC rfl rfl (Nat.le_of_ble_eq_true rfl) (Nat.le_of_ble_eq_true rfl) dX11_explore_50
theorem w_X11_explore3_4 {X : Cx} {G : Gl} {r : (Unit × Mm)} (N : Nat) (hC : CX X G yX11_explore cX11_explore 6 none rm_X11_explore3) (n : Nat) : ∀ (x0 : Nat) (x1 : Nat) (x2 : Int32) (x3 : Int32) (x5 : Int32) (M : Mm), l_X11_explore3_4 N n x0 x1 x2 x3 x5 M = some r → TW X G 6 (RQ X G none r.2 rm_X11_explore3) 0 0 M 4 [(0, .ref x0), (1, .ref x1), (2, .int x2), (3, .int x3), (5, .int x5)] [] := by
  induction n with
  | zero => intro  x0 x1 x2 x3 x5 M h; cases (show none = some r from h)
  | succ n ih => intro  x0 x1 x2 x3 x5 M h; exact v_X11_explore3_4 N hC (l_X11_explore3_4 N n) ih x0 x1 x2 x3 x5 M h
def f_X11_explore3 (N : Nat) (x0 : Nat) (x1 : Nat) (x2 : Int32) (x3 : Int32) (x4 : Int32) (M : Mm) : Option (Unit × Mm) :=
l_X11_explore3_4 N N x0 x1 x2 x3 x4 M
set_option maxRecDepth 100000 in
set_option maxHeartbeats 4000000 in
theorem c_X11_explore3 (N : Nat) (x0 : Nat) (x1 : Nat) (x2 : Int32) (x3 : Int32) (x4 : Int32) (M : Mm) (r : (Unit × Mm)) (h : f_X11_explore3 N x0 x1 x2 x3 x4 M = some r) (l : Launch) (hfl : l.flags = flags0) {G : Gl} : MT l G yX11_explore cX11_explore 6 none rm_X11_explore3 [.ref x0, .ref x1, .int x2, .int x3, .int x4] M none r.2 := by
  unfold f_X11_explore3 at h
  refine zt_start hfl (lv := [(0, .ref x0), (1, .ref x1), (2, .int x2), (3, .int x3), (4, .int x4)]) (by decide) (Nat.le_of_ble_eq_true rfl) rfl wd_716 (fun X hC _ => ?_)
  refine zt_iload hC rfl dX11_explore_0 ?_
  refine zt_istore (lv' := [(5, .int x4), (0, .ref x0), (1, .ref x1), (2, .int x2), (3, .int x3), (4, .int x4)]) hC (by decide) rfl dX11_explore_2 ?_
  refine zt_keep [0, 1, 2, 3, 5] rfl ?_
  exact w_X11_explore3_4 N hC N x0 x1 x2 x3 x4 M h
def rm_X11_branch4 : Room := { frames := 12, cells := 0, slots := 0, locals := 296 }
def b_X11_branch4_3 (N : Nat) (k3 : Nat → Nat → Nat → Int32 → Int32 → Int32 → Int32 → Mm → Option (Unit × Mm)) (x0 : Nat) (x1 : Nat) (x2 : Nat) (x3 : Int32) (x4 : Int32) (x5 : Int32) (x6 : Int32) (M : Mm) : Option (Unit × Mm) :=
gI 10 M x1 0 (fun v1 =>
(if v1 < x6 then
some ((), M)
else
gR 10 M x1 7 (fun v2 =>
gI 1 M v2 0 (fun v3 =>
(if (x6 - (1 : Int32)) = v3 then
k3 x0 x1 x2 x3 x4 x5 (x6 + (1 : Int32)) M
else
ck 10 M x2 (bnd (f_X10_become N x2 x1 M) (fun v4 M5 =>
gR 10 M5 x2 7 (fun v7 =>
ck 10 M5 x2 (bnd (f_X10_send N x2 v7 (x6 - (1 : Int32)) M5) (fun v8 M9 =>
ck 10 M9 x2 (bnd (f_X10_close N x2 M9) (fun v11 M12 =>
ck 11 M12 x0 (bnd (f_X11_explore3 N x0 x2 (x3 * (5 : Int32)) (x4 + (x6 * x3)) (x5 - (1 : Int32)) M12) (fun v14 M15 =>
k3 x0 x1 x2 x3 x4 x5 (x6 + (1 : Int32)) M15))))))))))))))
def l_X11_branch4_3 (N : Nat) : Nat → Nat → Nat → Nat → Int32 → Int32 → Int32 → Int32 → Mm → Option (Unit × Mm)
  | 0 => fun _ _ _ _ _ _ _ _ => none
  | n + 1 => b_X11_branch4_3 N (l_X11_branch4_3 N n)
set_option maxRecDepth 100000 in
set_option maxHeartbeats 4000000 in
theorem v_X11_branch4_3 {X : Cx} {G : Gl} {r : (Unit × Mm)} (N : Nat) (hC : CX X G yX11_branch cX11_branch 7 none rm_X11_branch4) (k3 : Nat → Nat → Nat → Int32 → Int32 → Int32 → Int32 → Mm → Option (Unit × Mm)) (hk3 : ∀ (x0 : Nat) (x1 : Nat) (x2 : Nat) (x3 : Int32) (x4 : Int32) (x5 : Int32) (x6 : Int32) (M : Mm), k3 x0 x1 x2 x3 x4 x5 x6 M = some r → TW X G 7 (RQ X G none r.2 rm_X11_branch4) 0 0 M 3 [(0, .ref x0), (1, .ref x1), (2, .ref x2), (3, .int x3), (4, .int x4), (5, .int x5), (6, .int x6)] []) (x0 : Nat) (x1 : Nat) (x2 : Nat) (x3 : Int32) (x4 : Int32) (x5 : Int32) (x6 : Int32) (M : Mm) (h : b_X11_branch4_3 N k3 x0 x1 x2 x3 x4 x5 x6 M = some r) : TW X G 7 (RQ X G none r.2 rm_X11_branch4) 0 0 M 3 [(0, .ref x0), (1, .ref x1), (2, .ref x2), (3, .int x3), (4, .int x4), (5, .int x5), (6, .int x6)] [] := by
  unfold b_X11_branch4_3 at h
  refine zt_iload hC rfl dX11_branch_3 ?_
  refine zt_aload_n hC rfl dX11_branch_5 ?_
  refine zt_gI hC h cl10 (k := 0) (by decide) rfl wd_108 (Or.inl rfl) dX11_branch_6 (fun v1 h => ?_)
  refine zt_icmp_gt (tgt := 72) hC h (by decide) dX11_branch_9 (fun h => ?_) (fun h => ?_)
  · obtain rfl := Option.some.inj h
    exact zt_vret hC rfl rfl (Nat.le_of_ble_eq_true rfl) (Nat.le_of_ble_eq_true rfl) dX11_branch_72
  · refine zt_iload hC rfl dX11_branch_12 ?_
    refine zt_iconst hC ki_1 dX11_branch_14 ?_
    refine zt_isub hC dX11_branch_15 ?_
    refine zt_aload_n hC rfl dX11_branch_16 ?_
    refine zt_gR hC h cl10 (k := 7) (by decide) rfl wd_122 (Or.inl rfl) dX11_branch_17 (fun v2 h => ?_)
    refine zt_gI hC h cl1 (k := 0) (by decide) rfl wd_71 (Or.inl rfl) dX11_branch_20 (fun v3 h => ?_)
    refine zt_icmp_eq (tgt := 66) hC h (by decide) dX11_branch_23 (fun h => ?_) (fun h => ?_)
    · refine zt_iinc (v := (x6 + (1 : Int32))) (lv' := [(6, .int (x6 + (1 : Int32))), (0, .ref x0), (1, .ref x1), (2, .ref x2), (3, .int x3), (4, .int x4), (5, .int x5)]) hC rfl (by rw [ki_1]) (by decide) rfl dX11_branch_66 ?_
      refine zt_goto (tgt := 3) hC (by decide) dX11_branch_69 ?_
      refine zt_keep [0, 1, 2, 3, 4, 5, 6] rfl ?_
      exact hk3 x0 x1 x2 x3 x4 x5 (x6 + (1 : Int32)) M h
    · refine zt_aload_n hC rfl dX11_branch_26 ?_
      refine zt_aload_n hC rfl dX11_branch_27 ?_
      obtain ⟨hk, h⟩ := ck_some h
      obtain ⟨v4, M5, h6, h⟩ := bnd_some h
      refine zt_callV (z := yX10_become) (As := [.ref x1]) (rest := []) (st1 := []) hC 1 hk cl10 (fun l hl => c_X10_become N x2 x1 M (v4, M5) h6 l hl) rfl wd_311 wd_308 wd_309 wd_310 wd_2 hd_X10_become rfl ⟨⟨(Nat.le_of_ble_eq_true rfl), (Nat.le_of_ble_eq_true rfl)⟩, (Nat.le_of_ble_eq_true rfl), (Nat.le_of_ble_eq_true rfl)⟩ rfl (Nat.le_of_ble_eq_true rfl) rfl dX11_branch_28 ?_
      refine zt_aload_n hC rfl dX11_branch_31 ?_
      refine zt_aload_n hC rfl dX11_branch_32 ?_
      refine zt_gR hC h cl10 (k := 7) (by decide) rfl wd_122 (Or.inl rfl) dX11_branch_33 (fun v7 h => ?_)
      refine zt_iload hC rfl dX11_branch_36 ?_
      refine zt_iconst hC ki_1 dX11_branch_38 ?_
      refine zt_isub hC dX11_branch_39 ?_
      obtain ⟨hk, h⟩ := ck_some h
      obtain ⟨v8, M9, h10, h⟩ := bnd_some h
      refine zt_callV (z := yX10_send) (As := [.ref v7, .int (x6 - (1 : Int32))]) (rest := []) (st1 := []) hC 2 hk cl10 (fun l hl => c_X10_send N x2 v7 (x6 - (1 : Int32)) M5 (v8, M9) h10 l hl) rfl wd_537 wd_551 wd_535 wd_536 wd_2 hd_X10_send rfl ⟨⟨(Nat.le_of_ble_eq_true rfl), (Nat.le_of_ble_eq_true rfl)⟩, (Nat.le_of_ble_eq_true rfl), (Nat.le_of_ble_eq_true rfl)⟩ rfl (Nat.le_of_ble_eq_true rfl) rfl dX11_branch_40 ?_
      refine zt_aload_n hC rfl dX11_branch_43 ?_
      obtain ⟨hk, h⟩ := ck_some h
      obtain ⟨v11, M12, h13, h⟩ := bnd_some h
      refine zt_callV (z := yX10_close) (As := []) (rest := []) (st1 := []) hC 0 hk cl10 (fun l hl => c_X10_close N x2 M9 (v11, M12) h13 l hl) rfl wd_542 wd_708 wd_540 wd_541 wd_2 hd_X10_close rfl ⟨⟨(Nat.le_of_ble_eq_true rfl), (Nat.le_of_ble_eq_true rfl)⟩, (Nat.le_of_ble_eq_true rfl), (Nat.le_of_ble_eq_true rfl)⟩ rfl (Nat.le_of_ble_eq_true rfl) rfl dX11_branch_44 ?_
      refine zt_aload_n hC rfl dX11_branch_47 ?_
      refine zt_aload_n hC rfl dX11_branch_48 ?_
      refine zt_iload_n hC rfl dX11_branch_49 ?_
      refine zt_iconst hC ki_5 dX11_branch_50 ?_
      refine zt_imul hC dX11_branch_51 ?_
      refine zt_iload hC rfl dX11_branch_52 ?_
      refine zt_iload hC rfl dX11_branch_54 ?_
      refine zt_iload_n hC rfl dX11_branch_56 ?_
      refine zt_imul hC dX11_branch_57 ?_
      refine zt_iadd hC dX11_branch_58 ?_
      refine zt_iload hC rfl dX11_branch_59 ?_
      refine zt_iconst hC ki_1 dX11_branch_61 ?_
      refine zt_isub hC dX11_branch_62 ?_
      obtain ⟨hk, h⟩ := ck_some h
      obtain ⟨v14, M15, h16, h⟩ := bnd_some h
      refine zt_callV (z := yX11_explore) (As := [.ref x2, .int (x3 * (5 : Int32)), .int (x4 + (x6 * x3)), .int (x5 - (1 : Int32))]) (rest := []) (st1 := []) hC 4 hk cl11 (fun l hl => c_X11_explore3 N x0 x2 (x3 * (5 : Int32)) (x4 + (x6 * x3)) (x5 - (1 : Int32)) M12 (v14, M15) h16 l hl) rfl wd_716 wd_713 wd_715 ws_16 wd_1 hd_X11_explore rfl ⟨⟨(Nat.le_of_ble_eq_true rfl), (Nat.le_of_ble_eq_true rfl)⟩, (Nat.le_of_ble_eq_true rfl), (Nat.le_of_ble_eq_true rfl)⟩ rfl (Nat.le_of_ble_eq_true rfl) rfl dX11_branch_63 ?_
      refine zt_iinc (v := (x6 + (1 : Int32))) (lv' := [(6, .int (x6 + (1 : Int32))), (0, .ref x0), (1, .ref x1), (2, .ref x2), (3, .int x3), (4, .int x4), (5, .int x5)]) hC rfl (by rw [ki_1]) (by decide) rfl dX11_branch_66 ?_
      refine zt_goto (tgt := 3) hC (by decide) dX11_branch_69 ?_
      refine zt_keep [0, 1, 2, 3, 4, 5, 6] rfl ?_
      exact hk3 x0 x1 x2 x3 x4 x5 (x6 + (1 : Int32)) M15 h
theorem w_X11_branch4_3 {X : Cx} {G : Gl} {r : (Unit × Mm)} (N : Nat) (hC : CX X G yX11_branch cX11_branch 7 none rm_X11_branch4) (n : Nat) : ∀ (x0 : Nat) (x1 : Nat) (x2 : Nat) (x3 : Int32) (x4 : Int32) (x5 : Int32) (x6 : Int32) (M : Mm), l_X11_branch4_3 N n x0 x1 x2 x3 x4 x5 x6 M = some r → TW X G 7 (RQ X G none r.2 rm_X11_branch4) 0 0 M 3 [(0, .ref x0), (1, .ref x1), (2, .ref x2), (3, .int x3), (4, .int x4), (5, .int x5), (6, .int x6)] [] := by
  induction n with
  | zero => intro  x0 x1 x2 x3 x4 x5 x6 M h; cases (show none = some r from h)
  | succ n ih => intro  x0 x1 x2 x3 x4 x5 x6 M h; exact v_X11_branch4_3 N hC (l_X11_branch4_3 N n) ih x0 x1 x2 x3 x4 x5 x6 M h
def f_X11_branch4 (N : Nat) (x0 : Nat) (x1 : Nat) (x2 : Nat) (x3 : Int32) (x4 : Int32) (x5 : Int32) (M : Mm) : Option (Unit × Mm) :=
l_X11_branch4_3 N N x0 x1 x2 x3 x4 x5 (0 : Int32) M
set_option maxRecDepth 100000 in
set_option maxHeartbeats 4000000 in
theorem c_X11_branch4 (N : Nat) (x0 : Nat) (x1 : Nat) (x2 : Nat) (x3 : Int32) (x4 : Int32) (x5 : Int32) (M : Mm) (r : (Unit × Mm)) (h : f_X11_branch4 N x0 x1 x2 x3 x4 x5 M = some r) (l : Launch) (hfl : l.flags = flags0) {G : Gl} : MT l G yX11_branch cX11_branch 7 none rm_X11_branch4 [.ref x0, .ref x1, .ref x2, .int x3, .int x4, .int x5] M none r.2 := by
  unfold f_X11_branch4 at h
  refine zt_start hfl (lv := [(0, .ref x0), (1, .ref x1), (2, .ref x2), (3, .int x3), (4, .int x4), (5, .int x5)]) (by decide) (Nat.le_of_ble_eq_true rfl) rfl wd_720 (fun X hC _ => ?_)
  refine zt_iconst hC ki_0 dX11_branch_0 ?_
  refine zt_istore (lv' := [(6, .int (0 : Int32)), (0, .ref x0), (1, .ref x1), (2, .ref x2), (3, .int x3), (4, .int x4), (5, .int x5)]) hC (by decide) rfl dX11_branch_1 ?_
  refine zt_keep [0, 1, 2, 3, 4, 5, 6] rfl ?_
  exact w_X11_branch4_3 N hC N x0 x1 x2 x3 x4 x5 (0 : Int32) M h
def rm_X11_explore4 : Room := { frames := 13, cells := 0, slots := 0, locals := 322 }
def j_X11_explore4_51 (N : Nat) (k4 : Nat → Nat → Int32 → Int32 → Int32 → Mm → Option (Unit × Mm)) (x0 : Nat) (x1 : Nat) (x2 : Int32) (x3 : Int32) (x5 : Int32) (M : Mm) : Option (Unit × Mm) :=
gR 10 M x1 7 (fun v1 =>
ck 10 M x1 (bnd (f_X10_ask N x1 v1 M) (fun v2 M3 =>
ck 10 M3 x1 (bnd (f_X10_close N x1 M3) (fun v5 M6 =>
k4 x0 x1 x2 x3 (x5 + (-1 : Int32)) M6)))))
set_option maxRecDepth 100000 in
set_option maxHeartbeats 4000000 in
theorem w_X11_explore4_51 {X : Cx} {G : Gl} {r : (Unit × Mm)} (N : Nat) (hC : CX X G yX11_explore cX11_explore 6 none rm_X11_explore4) (k4 : Nat → Nat → Int32 → Int32 → Int32 → Mm → Option (Unit × Mm)) (hk4 : ∀ (x0 : Nat) (x1 : Nat) (x2 : Int32) (x3 : Int32) (x5 : Int32) (M : Mm), k4 x0 x1 x2 x3 x5 M = some r → TW X G 6 (RQ X G none r.2 rm_X11_explore4) 0 0 M 4 [(0, .ref x0), (1, .ref x1), (2, .int x2), (3, .int x3), (5, .int x5)] []) (x0 : Nat) (x1 : Nat) (x2 : Int32) (x3 : Int32) (x5 : Int32) (M : Mm) (h : j_X11_explore4_51 N k4 x0 x1 x2 x3 x5 M = some r) : TW X G 6 (RQ X G none r.2 rm_X11_explore4) 0 0 M 51 [(0, .ref x0), (1, .ref x1), (2, .int x2), (3, .int x3), (5, .int x5)] [] := by
  unfold j_X11_explore4_51 at h
  refine zt_aload_n hC rfl dX11_explore_51 ?_
  refine zt_aload_n hC rfl dX11_explore_52 ?_
  refine zt_gR hC h cl10 (k := 7) (by decide) rfl wd_122 (Or.inl rfl) dX11_explore_53 (fun v1 h => ?_)
  obtain ⟨hk, h⟩ := ck_some h
  obtain ⟨v2, M3, h4, h⟩ := bnd_some h
  refine zt_callV (z := yX10_ask) (As := [.ref v1]) (rest := []) (st1 := []) hC 1 hk cl10 (fun l hl => c_X10_ask N x1 v1 M (v2, M3) h4 l hl) rfl wd_472 wd_707 wd_470 wd_471 wd_2 hd_X10_ask rfl ⟨⟨(Nat.le_of_ble_eq_true rfl), (Nat.le_of_ble_eq_true rfl)⟩, (Nat.le_of_ble_eq_true rfl), (Nat.le_of_ble_eq_true rfl)⟩ rfl (Nat.le_of_ble_eq_true rfl) rfl dX11_explore_56 ?_
  refine zt_aload_n hC rfl dX11_explore_59 ?_
  obtain ⟨hk, h⟩ := ck_some h
  obtain ⟨v5, M6, h7, h⟩ := bnd_some h
  refine zt_callV (z := yX10_close) (As := []) (rest := []) (st1 := []) hC 0 hk cl10 (fun l hl => c_X10_close N x1 M3 (v5, M6) h7 l hl) rfl wd_542 wd_708 wd_540 wd_541 wd_2 hd_X10_close rfl ⟨⟨(Nat.le_of_ble_eq_true rfl), (Nat.le_of_ble_eq_true rfl)⟩, (Nat.le_of_ble_eq_true rfl), (Nat.le_of_ble_eq_true rfl)⟩ rfl (Nat.le_of_ble_eq_true rfl) rfl dX11_explore_60 ?_
  refine zt_iinc (v := (x5 + (-1 : Int32))) (lv' := [(5, .int (x5 + (-1 : Int32))), (0, .ref x0), (1, .ref x1), (2, .int x2), (3, .int x3)]) hC rfl (by rw [ki_m1]) (by decide) rfl dX11_explore_63 ?_
  refine zt_goto (tgt := 4) hC (by decide) dX11_explore_66 ?_
  refine zt_keep [0, 1, 2, 3, 5] rfl ?_
  exact hk4 x0 x1 x2 x3 (x5 + (-1 : Int32)) M6 h
def b_X11_explore4_4 (N : Nat) (k4 : Nat → Nat → Int32 → Int32 → Int32 → Mm → Option (Unit × Mm)) (x0 : Nat) (x1 : Nat) (x2 : Int32) (x3 : Int32) (x5 : Int32) (M : Mm) : Option (Unit × Mm) :=
(if x5 ≤ 0 then
ck 10 M x1 (bnd (f_X10_gain N x1 M) (fun v1 M2 =>
ck 11 M2 x0 (bnd (f_X11_weigh N x0 v1 x3 M2) (fun v4 M5 =>
some ((), M5)))))
else
ck 10 M x1 (bnd (f_X10_bring N x1 M) (fun v7 M8 =>
gR 10 M8 x1 7 (fun v10 =>
gI 1 M8 v10 1 (fun v11 =>
(if v11 = 0 then
(if (625 : Int32) ≤ x2 then
j_X11_explore4_51 N k4 x0 x1 x2 x3 x5 M8
else
(gN 10 M8 x1 17
(j_X11_explore4_51 N k4 x0 x1 x2 x3 x5 M8)
(fun v12 =>
(gN 10 M8 x1 17
(none)
(fun v13 =>
ck 11 M8 x0 (bnd (f_X11_branch4 N x0 x1 v13 x2 x3 x5 M8) (fun v14 M15 =>
some ((), M15))))))))
else
j_X11_explore4_51 N k4 x0 x1 x2 x3 x5 M8))))))
def l_X11_explore4_4 (N : Nat) : Nat → Nat → Nat → Int32 → Int32 → Int32 → Mm → Option (Unit × Mm)
  | 0 => fun _ _ _ _ _ _ => none
  | n + 1 => b_X11_explore4_4 N (l_X11_explore4_4 N n)
set_option maxRecDepth 100000 in
set_option maxHeartbeats 4000000 in
theorem v_X11_explore4_4 {X : Cx} {G : Gl} {r : (Unit × Mm)} (N : Nat) (hC : CX X G yX11_explore cX11_explore 6 none rm_X11_explore4) (k4 : Nat → Nat → Int32 → Int32 → Int32 → Mm → Option (Unit × Mm)) (hk4 : ∀ (x0 : Nat) (x1 : Nat) (x2 : Int32) (x3 : Int32) (x5 : Int32) (M : Mm), k4 x0 x1 x2 x3 x5 M = some r → TW X G 6 (RQ X G none r.2 rm_X11_explore4) 0 0 M 4 [(0, .ref x0), (1, .ref x1), (2, .int x2), (3, .int x3), (5, .int x5)] []) (x0 : Nat) (x1 : Nat) (x2 : Int32) (x3 : Int32) (x5 : Int32) (M : Mm) (h : b_X11_explore4_4 N k4 x0 x1 x2 x3 x5 M = some r) : TW X G 6 (RQ X G none r.2 rm_X11_explore4) 0 0 M 4 [(0, .ref x0), (1, .ref x1), (2, .int x2), (3, .int x3), (5, .int x5)] [] := by
  unfold b_X11_explore4_4 at h
  refine zt_iload hC rfl dX11_explore_4 ?_
  refine zt_if_le (tgt := 69) hC h (by decide) dX11_explore_6 (fun h => ?_) (fun h => ?_)
  · refine zt_aload_n hC rfl dX11_explore_69 ?_
    refine zt_aload_n hC rfl dX11_explore_70 ?_
    obtain ⟨hk, h⟩ := ck_some h
    obtain ⟨v1, M2, h3, h⟩ := bnd_some h
    refine zt_callV (z := yX10_gain) (As := []) (rest := [.ref x0]) (st1 := (.int v1 :: [.ref x0])) hC 0 hk cl10 (fun l hl => c_X10_gain N x1 M (v1, M2) h3 l hl) rfl wd_614 wd_611 wd_612 wd_613 wd_2 hd_X10_gain rfl ⟨⟨(Nat.le_of_ble_eq_true rfl), (Nat.le_of_ble_eq_true rfl)⟩, (Nat.le_of_ble_eq_true rfl), (Nat.le_of_ble_eq_true rfl)⟩ rfl (Nat.le_of_ble_eq_true rfl) rfl dX11_explore_71 ?_
    refine zt_iload_n hC rfl dX11_explore_74 ?_
    obtain ⟨hk, h⟩ := ck_some h
    obtain ⟨v4, M5, h6, h⟩ := bnd_some h
    refine zt_callV (z := yX11_weigh) (As := [.int v1, .int x3]) (rest := []) (st1 := []) hC 2 hk cl11 (fun l hl => c_X11_weigh N x0 v1 x3 M2 (v4, M5) h6 l hl) rfl wd_724 wd_721 wd_723 ws_18 wd_1 hd_X11_weigh rfl ⟨⟨(Nat.le_of_ble_eq_true rfl), (Nat.le_of_ble_eq_true rfl)⟩, (Nat.le_of_ble_eq_true rfl), (Nat.le_of_ble_eq_true rfl)⟩ rfl (Nat.le_of_ble_eq_true rfl) rfl dX11_explore_75 ?_
    obtain rfl := Option.some.inj h
    exact zt_vret hC rfl rfl (Nat.le_of_ble_eq_true rfl) (Nat.le_of_ble_eq_true rfl) dX11_explore_78
  · refine zt_aload_n hC rfl dX11_explore_9 ?_
    obtain ⟨hk, h⟩ := ck_some h
    obtain ⟨v7, M8, h9, h⟩ := bnd_some h
    refine zt_callV (z := yX10_bring) (As := []) (rest := []) (st1 := []) hC 0 hk cl10 (fun l hl => c_X10_bring N x1 M (v7, M8) h9 l hl) rfl wd_445 wd_706 wd_443 wd_444 wd_2 hd_X10_bring rfl ⟨⟨(Nat.le_of_ble_eq_true rfl), (Nat.le_of_ble_eq_true rfl)⟩, (Nat.le_of_ble_eq_true rfl), (Nat.le_of_ble_eq_true rfl)⟩ rfl (Nat.le_of_ble_eq_true rfl) rfl dX11_explore_10 ?_
    refine zt_aload_n hC rfl dX11_explore_13 ?_
    refine zt_gR hC h cl10 (k := 7) (by decide) rfl wd_122 (Or.inl rfl) dX11_explore_14 (fun v10 h => ?_)
    refine zt_gI hC h cl1 (k := 1) (by decide) rfl wd_74 (Or.inl rfl) dX11_explore_17 (fun v11 h => ?_)
    refine zt_if_ne (tgt := 51) hC h (by decide) dX11_explore_20 (fun h => ?_) (fun h => ?_)
    · refine zt_keep [0, 1, 2, 3, 5] rfl ?_
      exact w_X11_explore4_51 N hC k4 hk4 x0 x1 x2 x3 x5 M8 h
    · refine zt_iload_n hC rfl dX11_explore_23 ?_
      refine zt_sipush hC ks_625 dX11_explore_24 ?_
      refine zt_icmp_ge (tgt := 51) hC h (by decide) dX11_explore_27 (fun h => ?_) (fun h => ?_)
      · refine zt_keep [0, 1, 2, 3, 5] rfl ?_
        exact w_X11_explore4_51 N hC k4 hk4 x0 x1 x2 x3 x5 M8 h
      · refine zt_aload_n hC rfl dX11_explore_30 ?_
        refine zt_gN hC h cl10 (k := 17) (by decide) rfl wd_138 (Or.inl rfl) dX11_explore_31 (fun h => ?_) (fun v12 h => ?_)
        · refine zt_ifnullN (tgt := 51) hC (by decide) dX11_explore_34 ?_
          refine zt_keep [0, 1, 2, 3, 5] rfl ?_
          exact w_X11_explore4_51 N hC k4 hk4 x0 x1 x2 x3 x5 M8 h
        · refine zt_ifnull hC dX11_explore_34 ?_
          refine zt_aload_n hC rfl dX11_explore_37 ?_
          refine zt_aload_n hC rfl dX11_explore_38 ?_
          refine zt_aload_n hC rfl dX11_explore_39 ?_
          refine zt_gN hC h cl10 (k := 17) (by decide) rfl wd_138 (Or.inl rfl) dX11_explore_40 (fun h => ?_) (fun v13 h => ?_)
          · refine zt_iload_n hC rfl dX11_explore_43 ?_
            refine zt_iload_n hC rfl dX11_explore_44 ?_
            refine zt_iload hC rfl dX11_explore_45 ?_
            cases h
          · refine zt_iload_n hC rfl dX11_explore_43 ?_
            refine zt_iload_n hC rfl dX11_explore_44 ?_
            refine zt_iload hC rfl dX11_explore_45 ?_
            obtain ⟨hk, h⟩ := ck_some h
            obtain ⟨v14, M15, h16, h⟩ := bnd_some h
            refine zt_callV (z := yX11_branch) (As := [.ref x1, .ref v13, .int x2, .int x3, .int x5]) (rest := []) (st1 := []) hC 5 hk cl11 (fun l hl => c_X11_branch4 N x0 x1 v13 x2 x3 x5 M8 (v14, M15) h16 l hl) rfl wd_720 wd_717 wd_719 ws_17 wd_1 hd_X11_branch rfl ⟨⟨(Nat.le_of_ble_eq_true rfl), (Nat.le_of_ble_eq_true rfl)⟩, (Nat.le_of_ble_eq_true rfl), (Nat.le_of_ble_eq_true rfl)⟩ rfl (Nat.le_of_ble_eq_true rfl) rfl dX11_explore_47 ?_
            obtain rfl := Option.some.inj h
            exact zt_vret hC rfl rfl (Nat.le_of_ble_eq_true rfl) (Nat.le_of_ble_eq_true rfl) dX11_explore_50
theorem w_X11_explore4_4 {X : Cx} {G : Gl} {r : (Unit × Mm)} (N : Nat) (hC : CX X G yX11_explore cX11_explore 6 none rm_X11_explore4) (n : Nat) : ∀ (x0 : Nat) (x1 : Nat) (x2 : Int32) (x3 : Int32) (x5 : Int32) (M : Mm), l_X11_explore4_4 N n x0 x1 x2 x3 x5 M = some r → TW X G 6 (RQ X G none r.2 rm_X11_explore4) 0 0 M 4 [(0, .ref x0), (1, .ref x1), (2, .int x2), (3, .int x3), (5, .int x5)] [] := by
  induction n with
  | zero => intro  x0 x1 x2 x3 x5 M h; cases (show none = some r from h)
  | succ n ih => intro  x0 x1 x2 x3 x5 M h; exact v_X11_explore4_4 N hC (l_X11_explore4_4 N n) ih x0 x1 x2 x3 x5 M h
def f_X11_explore4 (N : Nat) (x0 : Nat) (x1 : Nat) (x2 : Int32) (x3 : Int32) (x4 : Int32) (M : Mm) : Option (Unit × Mm) :=
l_X11_explore4_4 N N x0 x1 x2 x3 x4 M
set_option maxRecDepth 100000 in
set_option maxHeartbeats 4000000 in
theorem c_X11_explore4 (N : Nat) (x0 : Nat) (x1 : Nat) (x2 : Int32) (x3 : Int32) (x4 : Int32) (M : Mm) (r : (Unit × Mm)) (h : f_X11_explore4 N x0 x1 x2 x3 x4 M = some r) (l : Launch) (hfl : l.flags = flags0) {G : Gl} : MT l G yX11_explore cX11_explore 6 none rm_X11_explore4 [.ref x0, .ref x1, .int x2, .int x3, .int x4] M none r.2 := by
  unfold f_X11_explore4 at h
  refine zt_start hfl (lv := [(0, .ref x0), (1, .ref x1), (2, .int x2), (3, .int x3), (4, .int x4)]) (by decide) (Nat.le_of_ble_eq_true rfl) rfl wd_716 (fun X hC _ => ?_)
  refine zt_iload hC rfl dX11_explore_0 ?_
  refine zt_istore (lv' := [(5, .int x4), (0, .ref x0), (1, .ref x1), (2, .int x2), (3, .int x3), (4, .int x4)]) hC (by decide) rfl dX11_explore_2 ?_
  refine zt_keep [0, 1, 2, 3, 5] rfl ?_
  exact w_X11_explore4_4 N hC N x0 x1 x2 x3 x4 M h
def rm_X11_bestGoings : Room := { frames := 14, cells := 0, slots := 0, locals := 347 }
theorem hd_X11_bestGoings : yX11_bestGoings.cls ≠ "java/lang/invoke/MethodHandle" ∧ yX11_bestGoings.cls ≠ "java/lang/invoke/VarHandle" ∧ (parseMethodDescriptor yX11_bestGoings.desc).map (fun d => d.parameters.length) = some 1 := by decide +kernel
def f_X11_bestGoings (N : Nat) (x0 : Nat) (x1 : Int32) (M : Mm) : Option (Int32 × Mm) :=
bnd (f_X11_isNoSpan N x1 M) (fun v1 M2 =>
(if v1 = 0 then
pI 11 M2 x0 7 (-1 : Int32) (fun M4 =>
gR 11 M4 x0 3 (fun v5 =>
gR 11 M4 x0 0 (fun v6 =>
ck 10 M4 v5 (bnd (f_X10_become N v5 v6 M4) (fun v7 M8 =>
gR 11 M8 x0 3 (fun v10 =>
ck 11 M8 x0 (bnd (f_X11_explore4 N x0 v10 (1 : Int32) (0 : Int32) x1 M8) (fun v11 M12 =>
gI 11 M12 x0 7 (fun v14 =>
some (v14, M12))))))))))
else
some ((-1 : Int32), M2)))
set_option maxRecDepth 100000 in
set_option maxHeartbeats 4000000 in
theorem c_X11_bestGoings (N : Nat) (x0 : Nat) (x1 : Int32) (M : Mm) (r : (Int32 × Mm)) (h : f_X11_bestGoings N x0 x1 M = some r) (l : Launch) (hfl : l.flags = flags0) {G : Gl} : MT l G yX11_bestGoings cX11_bestGoings 2 (some .int) rm_X11_bestGoings [.ref x0, .int x1] M (some (.int r.1)) r.2 := by
  unfold f_X11_bestGoings at h
  refine zt_start hfl (lv := [(0, .ref x0), (1, .int x1)]) (by decide) (Nat.le_of_ble_eq_true rfl) rfl wd_712 (fun X hC _ => ?_)
  refine zt_iload_n hC rfl dX11_bestGoings_0 ?_
  obtain ⟨v1, M2, h3, h⟩ := bnd_some h
  refine zt_callS (z := yX11_isNoSpan) (As := [.int x1]) (rest := []) (st1 := (.int v1 :: [])) hC 1 (fun l hl => c_X11_isNoSpan N x1 M (v1, M2) h3 l hl) rfl wd_585 wd_583 wd_584 wd_1 hd_X11_isNoSpan rfl ⟨⟨(Nat.le_of_ble_eq_true rfl), (Nat.le_of_ble_eq_true rfl)⟩, (Nat.le_of_ble_eq_true rfl), (Nat.le_of_ble_eq_true rfl)⟩ rfl (Nat.le_of_ble_eq_true rfl) rfl dX11_bestGoings_1 ?_
  refine zt_if_eq (tgt := 9) hC h (by decide) dX11_bestGoings_4 (fun h => ?_) (fun h => ?_)
  · refine zt_aload_n hC rfl dX11_bestGoings_9 ?_
    refine zt_iconst hC ki_m1 dX11_bestGoings_10 ?_
    refine zt_pI hC h cl11 (k := 7) (by decide) rfl wd_234 (Or.inl rfl) (Or.inl rfl) dX11_bestGoings_11 (fun M4 h => ?_)
    refine zt_aload_n hC rfl dX11_bestGoings_14 ?_
    refine zt_gR hC h cl11 (k := 3) (by decide) rfl wd_230 (Or.inl rfl) dX11_bestGoings_15 (fun v5 h => ?_)
    refine zt_aload_n hC rfl dX11_bestGoings_18 ?_
    refine zt_gR hC h cl11 (k := 0) (by decide) rfl wd_227 (Or.inl rfl) dX11_bestGoings_19 (fun v6 h => ?_)
    obtain ⟨hk, h⟩ := ck_some h
    obtain ⟨v7, M8, h9, h⟩ := bnd_some h
    refine zt_callV (z := yX10_become) (As := [.ref v6]) (rest := []) (st1 := []) hC 1 hk cl10 (fun l hl => c_X10_become N v5 v6 M4 (v7, M8) h9 l hl) rfl wd_311 wd_308 wd_309 wd_310 wd_2 hd_X10_become rfl ⟨⟨(Nat.le_of_ble_eq_true rfl), (Nat.le_of_ble_eq_true rfl)⟩, (Nat.le_of_ble_eq_true rfl), (Nat.le_of_ble_eq_true rfl)⟩ rfl (Nat.le_of_ble_eq_true rfl) rfl dX11_bestGoings_22 ?_
    refine zt_aload_n hC rfl dX11_bestGoings_25 ?_
    refine zt_aload_n hC rfl dX11_bestGoings_26 ?_
    refine zt_gR hC h cl11 (k := 3) (by decide) rfl wd_230 (Or.inl rfl) dX11_bestGoings_27 (fun v10 h => ?_)
    refine zt_iconst hC ki_1 dX11_bestGoings_30 ?_
    refine zt_iconst hC ki_0 dX11_bestGoings_31 ?_
    refine zt_iload_n hC rfl dX11_bestGoings_32 ?_
    obtain ⟨hk, h⟩ := ck_some h
    obtain ⟨v11, M12, h13, h⟩ := bnd_some h
    refine zt_callV (z := yX11_explore) (As := [.ref v10, .int (1 : Int32), .int (0 : Int32), .int x1]) (rest := []) (st1 := []) hC 4 hk cl11 (fun l hl => c_X11_explore4 N x0 v10 (1 : Int32) (0 : Int32) x1 M8 (v11, M12) h13 l hl) rfl wd_716 wd_713 wd_715 ws_16 wd_1 hd_X11_explore rfl ⟨⟨(Nat.le_of_ble_eq_true rfl), (Nat.le_of_ble_eq_true rfl)⟩, (Nat.le_of_ble_eq_true rfl), (Nat.le_of_ble_eq_true rfl)⟩ rfl (Nat.le_of_ble_eq_true rfl) rfl dX11_bestGoings_33 ?_
    refine zt_aload_n hC rfl dX11_bestGoings_36 ?_
    refine zt_gI hC h cl11 (k := 7) (by decide) rfl wd_234 (Or.inl rfl) dX11_bestGoings_37 (fun v14 h => ?_)
    obtain rfl := Option.some.inj h
    exact zt_iret hC rfl rfl (Nat.le_of_ble_eq_true rfl) (Nat.le_of_ble_eq_true rfl) dX11_bestGoings_40
  · refine zt_iconst hC ki_m1 dX11_bestGoings_7 ?_
    obtain rfl := Option.some.inj h
    exact zt_iret hC rfl rfl (Nat.le_of_ble_eq_true rfl) (Nat.le_of_ble_eq_true rfl) dX11_bestGoings_8
def rm_X11_commonDivisor : Room := { frames := 0, cells := 0, slots := 0, locals := 0 }
theorem hd_X11_commonDivisor : yX11_commonDivisor.cls ≠ "java/lang/invoke/MethodHandle" ∧ yX11_commonDivisor.cls ≠ "java/lang/invoke/VarHandle" ∧ (parseMethodDescriptor yX11_commonDivisor.desc).map (fun d => d.parameters.length) = some 2 := by decide +kernel
def b_X11_commonDivisor_9 (N : Nat) (k9 : Int64 → Int64 → Int32 → Mm → Option (Int64 × Mm)) (x4 : Int64) (x6 : Int64) (x8 : Int32) (M : Mm) : Option (Int64 × Mm) :=
(if (200 : Int32) ≤ x8 then
some (x4, M)
else
(if (lg_cmp x6 (0 : Int64)) = 0 then
some (x4, M)
else
lrm x4 x6 (fun v1 =>
k9 x6 v1 (x8 + (1 : Int32)) M)))
def l_X11_commonDivisor_9 (N : Nat) : Nat → Int64 → Int64 → Int32 → Mm → Option (Int64 × Mm)
  | 0 => fun _ _ _ _ => none
  | n + 1 => b_X11_commonDivisor_9 N (l_X11_commonDivisor_9 N n)
set_option maxRecDepth 100000 in
set_option maxHeartbeats 4000000 in
theorem v_X11_commonDivisor_9 {X : Cx} {G : Gl} {r : (Int64 × Mm)} (N : Nat) (hC : CX X G yX11_commonDivisor cX11_commonDivisor 11 (some .long) rm_X11_commonDivisor) (k9 : Int64 → Int64 → Int32 → Mm → Option (Int64 × Mm)) (hk9 : ∀ (x4 : Int64) (x6 : Int64) (x8 : Int32) (M : Mm), k9 x4 x6 x8 M = some r → TW X G 11 (RQ X G (some (.long r.1)) r.2 rm_X11_commonDivisor) 0 0 M 9 [(4, .long x4), (6, .long x6), (8, .int x8)] []) (x4 : Int64) (x6 : Int64) (x8 : Int32) (M : Mm) (h : b_X11_commonDivisor_9 N k9 x4 x6 x8 M = some r) : TW X G 11 (RQ X G (some (.long r.1)) r.2 rm_X11_commonDivisor) 0 0 M 9 [(4, .long x4), (6, .long x6), (8, .int x8)] [] := by
  unfold b_X11_commonDivisor_9 at h
  refine zt_iload hC rfl dX11_commonDivisor_9 ?_
  refine zt_sipush hC ks_200 dX11_commonDivisor_11 ?_
  refine zt_icmp_ge (tgt := 45) hC h (by decide) dX11_commonDivisor_14 (fun h => ?_) (fun h => ?_)
  · refine zt_lload hC rfl dX11_commonDivisor_45 ?_
    obtain rfl := Option.some.inj h
    exact zt_lret hC rfl rfl (Nat.le_of_ble_eq_true rfl) (Nat.le_of_ble_eq_true rfl) dX11_commonDivisor_47
  · refine zt_lload hC rfl dX11_commonDivisor_17 ?_
    refine zt_lconst hC kl_0 dX11_commonDivisor_19 ?_
    refine zt_lcmp hC dX11_commonDivisor_20 ?_
    refine zt_if_eq (tgt := 45) hC h (by decide) dX11_commonDivisor_21 (fun h => ?_) (fun h => ?_)
    · refine zt_lload hC rfl dX11_commonDivisor_45 ?_
      obtain rfl := Option.some.inj h
      exact zt_lret hC rfl rfl (Nat.le_of_ble_eq_true rfl) (Nat.le_of_ble_eq_true rfl) dX11_commonDivisor_47
    · refine zt_lload hC rfl dX11_commonDivisor_24 ?_
      refine zt_lload hC rfl dX11_commonDivisor_26 ?_
      refine zt_lrem hC h dX11_commonDivisor_28 (fun v1 h => ?_)
      refine zt_lstore (lv' := [(9, .long v1), (4, .long x4), (6, .long x6), (8, .int x8)]) hC (by decide) rfl dX11_commonDivisor_29 ?_
      refine zt_lload hC rfl dX11_commonDivisor_31 ?_
      refine zt_lstore (lv' := [(4, .long x6), (9, .long v1), (6, .long x6), (8, .int x8)]) hC (by decide) rfl dX11_commonDivisor_33 ?_
      refine zt_lload hC rfl dX11_commonDivisor_35 ?_
      refine zt_lstore (lv' := [(6, .long v1), (4, .long x6), (9, .long v1), (8, .int x8)]) hC (by decide) rfl dX11_commonDivisor_37 ?_
      refine zt_iinc (v := (x8 + (1 : Int32))) (lv' := [(8, .int (x8 + (1 : Int32))), (6, .long v1), (4, .long x6), (9, .long v1)]) hC rfl (by rw [ki_1]) (by decide) rfl dX11_commonDivisor_39 ?_
      refine zt_goto (tgt := 9) hC (by decide) dX11_commonDivisor_42 ?_
      refine zt_keep [4, 6, 8] rfl ?_
      exact hk9 x6 v1 (x8 + (1 : Int32)) M h
theorem w_X11_commonDivisor_9 {X : Cx} {G : Gl} {r : (Int64 × Mm)} (N : Nat) (hC : CX X G yX11_commonDivisor cX11_commonDivisor 11 (some .long) rm_X11_commonDivisor) (n : Nat) : ∀ (x4 : Int64) (x6 : Int64) (x8 : Int32) (M : Mm), l_X11_commonDivisor_9 N n x4 x6 x8 M = some r → TW X G 11 (RQ X G (some (.long r.1)) r.2 rm_X11_commonDivisor) 0 0 M 9 [(4, .long x4), (6, .long x6), (8, .int x8)] [] := by
  induction n with
  | zero => intro  x4 x6 x8 M h; cases (show none = some r from h)
  | succ n ih => intro  x4 x6 x8 M h; exact v_X11_commonDivisor_9 N hC (l_X11_commonDivisor_9 N n) ih x4 x6 x8 M h
def f_X11_commonDivisor (N : Nat) (x0 : Int64) (x2 : Int64) (M : Mm) : Option (Int64 × Mm) :=
l_X11_commonDivisor_9 N N x0 x2 (0 : Int32) M
set_option maxRecDepth 100000 in
set_option maxHeartbeats 4000000 in
theorem c_X11_commonDivisor (N : Nat) (x0 : Int64) (x2 : Int64) (M : Mm) (r : (Int64 × Mm)) (h : f_X11_commonDivisor N x0 x2 M = some r) (l : Launch) (hfl : l.flags = flags0) {G : Gl} : MT l G yX11_commonDivisor cX11_commonDivisor 11 (some .long) rm_X11_commonDivisor [.long x0, .long x2] M (some (.long r.1)) r.2 := by
  unfold f_X11_commonDivisor at h
  refine zt_start hfl (lv := [(0, .long x0), (2, .long x2)]) (by decide) (Nat.le_of_ble_eq_true rfl) rfl wd_738 (fun X hC _ => ?_)
  refine zt_lload_n hC rfl dX11_commonDivisor_0 ?_
  refine zt_lstore (lv' := [(4, .long x0), (0, .long x0), (2, .long x2)]) hC (by decide) rfl dX11_commonDivisor_1 ?_
  refine zt_lload_n hC rfl dX11_commonDivisor_3 ?_
  refine zt_lstore (lv' := [(6, .long x2), (4, .long x0), (0, .long x0), (2, .long x2)]) hC (by decide) rfl dX11_commonDivisor_4 ?_
  refine zt_iconst hC ki_0 dX11_commonDivisor_6 ?_
  refine zt_istore (lv' := [(8, .int (0 : Int32)), (6, .long x2), (4, .long x0), (0, .long x0), (2, .long x2)]) hC (by decide) rfl dX11_commonDivisor_7 ?_
  refine zt_keep [4, 6, 8] rfl ?_
  exact w_X11_commonDivisor_9 N hC N x0 x2 (0 : Int32) M h
def rm_X11_nobody : Room := { frames := 2, cells := 0, slots := 0, locals := 46 }
theorem hd_X11_nobody : yX11_nobody.cls ≠ "java/lang/invoke/MethodHandle" ∧ yX11_nobody.cls ≠ "java/lang/invoke/VarHandle" ∧ (parseMethodDescriptor yX11_nobody.desc).map (fun d => d.parameters.length) = some 3 := by decide +kernel
def j_X11_nobody_168 (N : Nat) (s0 : Int64) (s1 : Int64) (M : Mm) : Option (Int64 × Mm) :=
ldv s1 s0 (fun v1 =>
some (v1, M))
set_option maxRecDepth 100000 in
set_option maxHeartbeats 4000000 in
theorem w_X11_nobody_168 {X : Cx} {G : Gl} {r : (Int64 × Mm)} (N : Nat) (hC : CX X G yX11_nobody cX11_nobody 10 (some .long) rm_X11_nobody) (s0 : Int64) (s1 : Int64) (M : Mm) (h : j_X11_nobody_168 N s0 s1 M = some r) : TW X G 10 (RQ X G (some (.long r.1)) r.2 rm_X11_nobody) 0 0 M 168 [] [.long s0, .long s1] := by
  unfold j_X11_nobody_168 at h
  refine zt_ldiv hC h dX11_nobody_168 (fun v1 h => ?_)
  obtain rfl := Option.some.inj h
  exact zt_lret hC rfl rfl (Nat.le_of_ble_eq_true rfl) (Nat.le_of_ble_eq_true rfl) dX11_nobody_169
def j_X11_nobody_155 (N : Nat) (x8 : Int64) (s0 : Int64) (M : Mm) : Option (Int64 × Mm) :=
(if (lg_cmp x8 (0 : Int64)) ≤ 0 then
j_X11_nobody_168 N (1 : Int64) s0 M
else
j_X11_nobody_168 N x8 s0 M)
set_option maxRecDepth 100000 in
set_option maxHeartbeats 4000000 in
theorem w_X11_nobody_155 {X : Cx} {G : Gl} {r : (Int64 × Mm)} (N : Nat) (hC : CX X G yX11_nobody cX11_nobody 10 (some .long) rm_X11_nobody) (x8 : Int64) (s0 : Int64) (M : Mm) (h : j_X11_nobody_155 N x8 s0 M = some r) : TW X G 10 (RQ X G (some (.long r.1)) r.2 rm_X11_nobody) 0 0 M 155 [(8, .long x8)] [.long s0] := by
  unfold j_X11_nobody_155 at h
  refine zt_lload hC rfl dX11_nobody_155 ?_
  refine zt_lconst hC kl_0 dX11_nobody_157 ?_
  refine zt_lcmp hC dX11_nobody_158 ?_
  refine zt_if_le (tgt := 167) hC h (by decide) dX11_nobody_159 (fun h => ?_) (fun h => ?_)
  · refine zt_lconst hC kl_1 dX11_nobody_167 ?_
    refine zt_keep [] rfl ?_
    exact w_X11_nobody_168 N hC (1 : Int64) s0 M h
  · refine zt_lload hC rfl dX11_nobody_162 ?_
    refine zt_goto (tgt := 168) hC (by decide) dX11_nobody_164 ?_
    refine zt_keep [] rfl ?_
    exact w_X11_nobody_168 N hC x8 s0 M h
def b_X11_nobody_90 (N : Nat) (k61 : Nat → Int32 → Int32 → Int32 → Int64 → Int64 → Int32 → Mm → Option (Int64 × Mm)) (k90 : Nat → Int32 → Int32 → Int32 → Int64 → Int64 → Int32 → Int32 → Mm → Option (Int64 × Mm)) (x0 : Nat) (x1 : Int32) (x2 : Int32) (x3 : Int32) (x4 : Int64) (x6 : Int64) (x8 : Int32) (x9 : Int32) (M : Mm) : Option (Int64 × Mm) :=
(if x2 ≤ x9 then
k61 x0 x1 x2 x3 x4 x6 (x8 + (1 : Int32)) M
else
gR 11 M x0 0 (fun v1 =>
ck 10 M v1 (bnd (f_X10_ofSort N v1 x8 (2 : Int32) M) (fun v2 M3 =>
k90 x0 x1 x2 x3 (x4 * (Int32.toInt64 ((100 : Int32) - v2))) (x6 * (100 : Int64)) x8 (x9 + (1 : Int32)) M3))))
def l_X11_nobody_90 (N : Nat) (k61 : Nat → Int32 → Int32 → Int32 → Int64 → Int64 → Int32 → Mm → Option (Int64 × Mm)) : Nat → Nat → Int32 → Int32 → Int32 → Int64 → Int64 → Int32 → Int32 → Mm → Option (Int64 × Mm)
  | 0 => fun _ _ _ _ _ _ _ _ _ => none
  | n + 1 => b_X11_nobody_90 N k61 (l_X11_nobody_90 N k61 n)
set_option maxRecDepth 100000 in
set_option maxHeartbeats 4000000 in
theorem v_X11_nobody_90 {X : Cx} {G : Gl} {r : (Int64 × Mm)} (N : Nat) (hC : CX X G yX11_nobody cX11_nobody 10 (some .long) rm_X11_nobody) (k61 : Nat → Int32 → Int32 → Int32 → Int64 → Int64 → Int32 → Mm → Option (Int64 × Mm)) (hk61 : ∀ (x0 : Nat) (x1 : Int32) (x2 : Int32) (x3 : Int32) (x4 : Int64) (x6 : Int64) (x8 : Int32) (M : Mm), k61 x0 x1 x2 x3 x4 x6 x8 M = some r → TW X G 10 (RQ X G (some (.long r.1)) r.2 rm_X11_nobody) 0 0 M 61 [(0, .ref x0), (1, .int x1), (2, .int x2), (3, .int x3), (4, .long x4), (6, .long x6), (8, .int x8)] []) (k90 : Nat → Int32 → Int32 → Int32 → Int64 → Int64 → Int32 → Int32 → Mm → Option (Int64 × Mm)) (hk90 : ∀ (x0 : Nat) (x1 : Int32) (x2 : Int32) (x3 : Int32) (x4 : Int64) (x6 : Int64) (x8 : Int32) (x9 : Int32) (M : Mm), k90 x0 x1 x2 x3 x4 x6 x8 x9 M = some r → TW X G 10 (RQ X G (some (.long r.1)) r.2 rm_X11_nobody) 0 0 M 90 [(0, .ref x0), (1, .int x1), (2, .int x2), (3, .int x3), (4, .long x4), (6, .long x6), (8, .int x8), (9, .int x9)] []) (x0 : Nat) (x1 : Int32) (x2 : Int32) (x3 : Int32) (x4 : Int64) (x6 : Int64) (x8 : Int32) (x9 : Int32) (M : Mm) (h : b_X11_nobody_90 N k61 k90 x0 x1 x2 x3 x4 x6 x8 x9 M = some r) : TW X G 10 (RQ X G (some (.long r.1)) r.2 rm_X11_nobody) 0 0 M 90 [(0, .ref x0), (1, .int x1), (2, .int x2), (3, .int x3), (4, .long x4), (6, .long x6), (8, .int x8), (9, .int x9)] [] := by
  unfold b_X11_nobody_90 at h
  refine zt_iload hC rfl dX11_nobody_90 ?_
  refine zt_iload_n hC rfl dX11_nobody_92 ?_
  refine zt_icmp_ge (tgt := 129) hC h (by decide) dX11_nobody_93 (fun h => ?_) (fun h => ?_)
  · refine zt_iinc (v := (x8 + (1 : Int32))) (lv' := [(8, .int (x8 + (1 : Int32))), (0, .ref x0), (1, .int x1), (2, .int x2), (3, .int x3), (4, .long x4), (6, .long x6), (9, .int x9)]) hC rfl (by rw [ki_1]) (by decide) rfl dX11_nobody_129 ?_
    refine zt_goto (tgt := 61) hC (by decide) dX11_nobody_132 ?_
    refine zt_keep [0, 1, 2, 3, 4, 6, 8] rfl ?_
    exact hk61 x0 x1 x2 x3 x4 x6 (x8 + (1 : Int32)) M h
  · refine zt_lload hC rfl dX11_nobody_96 ?_
    refine zt_bipush hC kb_100 dX11_nobody_98 ?_
    refine zt_aload_n hC rfl dX11_nobody_100 ?_
    refine zt_gR hC h cl11 (k := 0) (by decide) rfl wd_227 (Or.inl rfl) dX11_nobody_101 (fun v1 h => ?_)
    refine zt_iload hC rfl dX11_nobody_104 ?_
    refine zt_iconst hC ki_2 dX11_nobody_106 ?_
    obtain ⟨hk, h⟩ := ck_some h
    obtain ⟨v2, M3, h4, h⟩ := bnd_some h
    refine zt_callV (z := yX10_ofSort) (As := [.int x8, .int (2 : Int32)]) (rest := [.int (100 : Int32), .long x4]) (st1 := (.int v2 :: [.int (100 : Int32), .long x4])) hC 2 hk cl10 (fun l hl => c_X10_ofSort N v1 x8 (2 : Int32) M (v2, M3) h4 l hl) rfl wd_346 wd_388 wd_344 wd_345 wd_2 hd_X10_ofSort rfl ⟨⟨(Nat.le_of_ble_eq_true rfl), (Nat.le_of_ble_eq_true rfl)⟩, (Nat.le_of_ble_eq_true rfl), (Nat.le_of_ble_eq_true rfl)⟩ rfl (Nat.le_of_ble_eq_true rfl) rfl dX11_nobody_107 ?_
    refine zt_isub hC dX11_nobody_110 ?_
    refine zt_i2l hC dX11_nobody_111 ?_
    refine zt_lmul hC dX11_nobody_112 ?_
    refine zt_lstore (lv' := [(4, .long (x4 * (Int32.toInt64 ((100 : Int32) - v2)))), (0, .ref x0), (1, .int x1), (2, .int x2), (3, .int x3), (6, .long x6), (8, .int x8), (9, .int x9)]) hC (by decide) rfl dX11_nobody_113 ?_
    refine zt_lload hC rfl dX11_nobody_115 ?_
    refine zt_ldc2 hC wd_735 dX11_nobody_117 ?_
    refine zt_lmul hC dX11_nobody_120 ?_
    refine zt_lstore (lv' := [(6, .long (x6 * (100 : Int64))), (4, .long (x4 * (Int32.toInt64 ((100 : Int32) - v2)))), (0, .ref x0), (1, .int x1), (2, .int x2), (3, .int x3), (8, .int x8), (9, .int x9)]) hC (by decide) rfl dX11_nobody_121 ?_
    refine zt_iinc (v := (x9 + (1 : Int32))) (lv' := [(9, .int (x9 + (1 : Int32))), (6, .long (x6 * (100 : Int64))), (4, .long (x4 * (Int32.toInt64 ((100 : Int32) - v2)))), (0, .ref x0), (1, .int x1), (2, .int x2), (3, .int x3), (8, .int x8)]) hC rfl (by rw [ki_1]) (by decide) rfl dX11_nobody_123 ?_
    refine zt_goto (tgt := 90) hC (by decide) dX11_nobody_126 ?_
    refine zt_keep [0, 1, 2, 3, 4, 6, 8, 9] rfl ?_
    exact hk90 x0 x1 x2 x3 (x4 * (Int32.toInt64 ((100 : Int32) - v2))) (x6 * (100 : Int64)) x8 (x9 + (1 : Int32)) M3 h
theorem w_X11_nobody_90 {X : Cx} {G : Gl} {r : (Int64 × Mm)} (N : Nat) (hC : CX X G yX11_nobody cX11_nobody 10 (some .long) rm_X11_nobody) (k61 : Nat → Int32 → Int32 → Int32 → Int64 → Int64 → Int32 → Mm → Option (Int64 × Mm)) (hk61 : ∀ (x0 : Nat) (x1 : Int32) (x2 : Int32) (x3 : Int32) (x4 : Int64) (x6 : Int64) (x8 : Int32) (M : Mm), k61 x0 x1 x2 x3 x4 x6 x8 M = some r → TW X G 10 (RQ X G (some (.long r.1)) r.2 rm_X11_nobody) 0 0 M 61 [(0, .ref x0), (1, .int x1), (2, .int x2), (3, .int x3), (4, .long x4), (6, .long x6), (8, .int x8)] []) (n : Nat) : ∀ (x0 : Nat) (x1 : Int32) (x2 : Int32) (x3 : Int32) (x4 : Int64) (x6 : Int64) (x8 : Int32) (x9 : Int32) (M : Mm), l_X11_nobody_90 N k61 n x0 x1 x2 x3 x4 x6 x8 x9 M = some r → TW X G 10 (RQ X G (some (.long r.1)) r.2 rm_X11_nobody) 0 0 M 90 [(0, .ref x0), (1, .int x1), (2, .int x2), (3, .int x3), (4, .long x4), (6, .long x6), (8, .int x8), (9, .int x9)] [] := by
  induction n with
  | zero => intro  x0 x1 x2 x3 x4 x6 x8 x9 M h; cases (show none = some r from h)
  | succ n ih => intro  x0 x1 x2 x3 x4 x6 x8 x9 M h; exact v_X11_nobody_90 N hC k61 hk61 (l_X11_nobody_90 N k61 n) ih x0 x1 x2 x3 x4 x6 x8 x9 M h
def b_X11_nobody_61 (N : Nat) (k61 : Nat → Int32 → Int32 → Int32 → Int64 → Int64 → Int32 → Mm → Option (Int64 × Mm)) (x0 : Nat) (x1 : Int32) (x2 : Int32) (x3 : Int32) (x4 : Int64) (x6 : Int64) (x8 : Int32) (M : Mm) : Option (Int64 × Mm) :=
gR 11 M x0 0 (fun v1 =>
gI 10 M v1 2 (fun v2 =>
(if v2 ≤ x8 then
bnd (f_X11_commonDivisor N x4 x6 M) (fun v3 M4 =>
(if x3 = 0 then
j_X11_nobody_155 N v3 x4 M4
else
j_X11_nobody_155 N v3 x6 M4))
else
gR 11 M x0 0 (fun v6 =>
ck 10 M v6 (bnd (f_X10_ofSort N v6 x8 (0 : Int32) M) (fun v7 M8 =>
(if v7 = x1 then
l_X11_nobody_90 N k61 N x0 x1 x2 x3 x4 x6 x8 (0 : Int32) M8
else
k61 x0 x1 x2 x3 x4 x6 (x8 + (1 : Int32)) M8)))))))
def l_X11_nobody_61 (N : Nat) : Nat → Nat → Int32 → Int32 → Int32 → Int64 → Int64 → Int32 → Mm → Option (Int64 × Mm)
  | 0 => fun _ _ _ _ _ _ _ _ => none
  | n + 1 => b_X11_nobody_61 N (l_X11_nobody_61 N n)
set_option maxRecDepth 100000 in
set_option maxHeartbeats 4000000 in
theorem v_X11_nobody_61 {X : Cx} {G : Gl} {r : (Int64 × Mm)} (N : Nat) (hC : CX X G yX11_nobody cX11_nobody 10 (some .long) rm_X11_nobody) (k61 : Nat → Int32 → Int32 → Int32 → Int64 → Int64 → Int32 → Mm → Option (Int64 × Mm)) (hk61 : ∀ (x0 : Nat) (x1 : Int32) (x2 : Int32) (x3 : Int32) (x4 : Int64) (x6 : Int64) (x8 : Int32) (M : Mm), k61 x0 x1 x2 x3 x4 x6 x8 M = some r → TW X G 10 (RQ X G (some (.long r.1)) r.2 rm_X11_nobody) 0 0 M 61 [(0, .ref x0), (1, .int x1), (2, .int x2), (3, .int x3), (4, .long x4), (6, .long x6), (8, .int x8)] []) (x0 : Nat) (x1 : Int32) (x2 : Int32) (x3 : Int32) (x4 : Int64) (x6 : Int64) (x8 : Int32) (M : Mm) (h : b_X11_nobody_61 N k61 x0 x1 x2 x3 x4 x6 x8 M = some r) : TW X G 10 (RQ X G (some (.long r.1)) r.2 rm_X11_nobody) 0 0 M 61 [(0, .ref x0), (1, .int x1), (2, .int x2), (3, .int x3), (4, .long x4), (6, .long x6), (8, .int x8)] [] := by
  unfold b_X11_nobody_61 at h
  refine zt_iload hC rfl dX11_nobody_61 ?_
  refine zt_aload_n hC rfl dX11_nobody_63 ?_
  refine zt_gR hC h cl11 (k := 0) (by decide) rfl wd_227 (Or.inl rfl) dX11_nobody_64 (fun v1 h => ?_)
  refine zt_gI hC h cl10 (k := 2) (by decide) rfl wd_111 (Or.inl rfl) dX11_nobody_67 (fun v2 h => ?_)
  refine zt_icmp_ge (tgt := 135) hC h (by decide) dX11_nobody_70 (fun h => ?_) (fun h => ?_)
  · refine zt_lload hC rfl dX11_nobody_135 ?_
    refine zt_lload hC rfl dX11_nobody_137 ?_
    obtain ⟨v3, M4, h5, h⟩ := bnd_some h
    refine zt_callS (z := yX11_commonDivisor) (As := [.long x4, .long x6]) (rest := []) (st1 := (.long v3 :: [])) hC 2 (fun l hl => c_X11_commonDivisor N x4 x6 M (v3, M4) h5 l hl) rfl wd_738 wd_736 wd_737 wd_1 hd_X11_commonDivisor rfl ⟨⟨(Nat.le_of_ble_eq_true rfl), (Nat.le_of_ble_eq_true rfl)⟩, (Nat.le_of_ble_eq_true rfl), (Nat.le_of_ble_eq_true rfl)⟩ rfl (Nat.le_of_ble_eq_true rfl) rfl dX11_nobody_139 ?_
    refine zt_lstore (lv' := [(8, .long v3), (0, .ref x0), (1, .int x1), (2, .int x2), (3, .int x3), (4, .long x4), (6, .long x6)]) hC (by decide) rfl dX11_nobody_142 ?_
    refine zt_iload_n hC rfl dX11_nobody_144 ?_
    refine zt_if_ne (tgt := 153) hC h (by decide) dX11_nobody_145 (fun h => ?_) (fun h => ?_)
    · refine zt_lload hC rfl dX11_nobody_153 ?_
      refine zt_keep [8] rfl ?_
      exact w_X11_nobody_155 N hC v3 x6 M4 h
    · refine zt_lload hC rfl dX11_nobody_148 ?_
      refine zt_goto (tgt := 155) hC (by decide) dX11_nobody_150 ?_
      refine zt_keep [8] rfl ?_
      exact w_X11_nobody_155 N hC v3 x4 M4 h
  · refine zt_aload_n hC rfl dX11_nobody_73 ?_
    refine zt_gR hC h cl11 (k := 0) (by decide) rfl wd_227 (Or.inl rfl) dX11_nobody_74 (fun v6 h => ?_)
    refine zt_iload hC rfl dX11_nobody_77 ?_
    refine zt_iconst hC ki_0 dX11_nobody_79 ?_
    obtain ⟨hk, h⟩ := ck_some h
    obtain ⟨v7, M8, h9, h⟩ := bnd_some h
    refine zt_callV (z := yX10_ofSort) (As := [.int x8, .int (0 : Int32)]) (rest := []) (st1 := (.int v7 :: [])) hC 2 hk cl10 (fun l hl => c_X10_ofSort N v6 x8 (0 : Int32) M (v7, M8) h9 l hl) rfl wd_346 wd_388 wd_344 wd_345 wd_2 hd_X10_ofSort rfl ⟨⟨(Nat.le_of_ble_eq_true rfl), (Nat.le_of_ble_eq_true rfl)⟩, (Nat.le_of_ble_eq_true rfl), (Nat.le_of_ble_eq_true rfl)⟩ rfl (Nat.le_of_ble_eq_true rfl) rfl dX11_nobody_80 ?_
    refine zt_iload_n hC rfl dX11_nobody_83 ?_
    refine zt_icmp_ne (tgt := 129) hC h (by decide) dX11_nobody_84 (fun h => ?_) (fun h => ?_)
    · refine zt_iinc (v := (x8 + (1 : Int32))) (lv' := [(8, .int (x8 + (1 : Int32))), (0, .ref x0), (1, .int x1), (2, .int x2), (3, .int x3), (4, .long x4), (6, .long x6)]) hC rfl (by rw [ki_1]) (by decide) rfl dX11_nobody_129 ?_
      refine zt_goto (tgt := 61) hC (by decide) dX11_nobody_132 ?_
      refine zt_keep [0, 1, 2, 3, 4, 6, 8] rfl ?_
      exact hk61 x0 x1 x2 x3 x4 x6 (x8 + (1 : Int32)) M8 h
    · refine zt_iconst hC ki_0 dX11_nobody_87 ?_
      refine zt_istore (lv' := [(9, .int (0 : Int32)), (0, .ref x0), (1, .int x1), (2, .int x2), (3, .int x3), (4, .long x4), (6, .long x6), (8, .int x8)]) hC (by decide) rfl dX11_nobody_88 ?_
      refine zt_keep [0, 1, 2, 3, 4, 6, 8, 9] rfl ?_
      exact w_X11_nobody_90 N hC k61 hk61 N x0 x1 x2 x3 x4 x6 x8 (0 : Int32) M8 h
theorem w_X11_nobody_61 {X : Cx} {G : Gl} {r : (Int64 × Mm)} (N : Nat) (hC : CX X G yX11_nobody cX11_nobody 10 (some .long) rm_X11_nobody) (n : Nat) : ∀ (x0 : Nat) (x1 : Int32) (x2 : Int32) (x3 : Int32) (x4 : Int64) (x6 : Int64) (x8 : Int32) (M : Mm), l_X11_nobody_61 N n x0 x1 x2 x3 x4 x6 x8 M = some r → TW X G 10 (RQ X G (some (.long r.1)) r.2 rm_X11_nobody) 0 0 M 61 [(0, .ref x0), (1, .int x1), (2, .int x2), (3, .int x3), (4, .long x4), (6, .long x6), (8, .int x8)] [] := by
  induction n with
  | zero => intro  x0 x1 x2 x3 x4 x6 x8 M h; cases (show none = some r from h)
  | succ n ih => intro  x0 x1 x2 x3 x4 x6 x8 M h; exact v_X11_nobody_61 N hC (l_X11_nobody_61 N n) ih x0 x1 x2 x3 x4 x6 x8 M h
def f_X11_nobody (N : Nat) (x0 : Nat) (x1 : Int32) (x2 : Int32) (x3 : Int32) (M : Mm) : Option (Int64 × Mm) :=
gR 11 M x0 0 (fun v1 =>
ck 10 M v1 (bnd (f_X10_hasLanding N v1 x1 M) (fun v2 M3 =>
(if v2 = 0 then
some ((-4000000000000000001 : Int64), M3)
else
(if x2 < 0 then
some ((-4000000000000000001 : Int64), M3)
else
(if (4 : Int32) < x2 then
some ((-4000000000000000001 : Int64), M3)
else
(if x3 < 0 then
some ((-4000000000000000001 : Int64), M3)
else
(if x3 ≤ (1 : Int32) then
gR 11 M3 x0 0 (fun v5 =>
ck 10 M3 v5 (bnd (f_X10_sortsFrom N v5 x1 M3) (fun v6 M7 =>
(if (x2 * v6) ≤ (8 : Int32) then
l_X11_nobody_61 N N x0 x1 x2 x3 (1 : Int64) (1 : Int64) (0 : Int32) M7
else
some ((-4000000000000000003 : Int64), M7)))))
else
some ((-4000000000000000001 : Int64), M3)))))))))
set_option maxRecDepth 100000 in
set_option maxHeartbeats 4000000 in
theorem c_X11_nobody (N : Nat) (x0 : Nat) (x1 : Int32) (x2 : Int32) (x3 : Int32) (M : Mm) (r : (Int64 × Mm)) (h : f_X11_nobody N x0 x1 x2 x3 M = some r) (l : Launch) (hfl : l.flags = flags0) {G : Gl} : MT l G yX11_nobody cX11_nobody 10 (some .long) rm_X11_nobody [.ref x0, .int x1, .int x2, .int x3] M (some (.long r.1)) r.2 := by
  unfold f_X11_nobody at h
  refine zt_start hfl (lv := [(0, .ref x0), (1, .int x1), (2, .int x2), (3, .int x3)]) (by decide) (Nat.le_of_ble_eq_true rfl) rfl wd_728 (fun X hC _ => ?_)
  refine zt_aload_n hC rfl dX11_nobody_0 ?_
  refine zt_gR hC h cl11 (k := 0) (by decide) rfl wd_227 (Or.inl rfl) dX11_nobody_1 (fun v1 h => ?_)
  refine zt_iload_n hC rfl dX11_nobody_4 ?_
  obtain ⟨hk, h⟩ := ck_some h
  obtain ⟨v2, M3, h4, h⟩ := bnd_some h
  refine zt_callV (z := yX10_hasLanding) (As := [.int x1]) (rest := []) (st1 := (.int v2 :: [])) hC 1 hk cl10 (fun l hl => c_X10_hasLanding N v1 x1 M (v2, M3) h4 l hl) rfl wd_358 wd_372 wd_356 wd_357 wd_2 hd_X10_hasLanding rfl ⟨⟨(Nat.le_of_ble_eq_true rfl), (Nat.le_of_ble_eq_true rfl)⟩, (Nat.le_of_ble_eq_true rfl), (Nat.le_of_ble_eq_true rfl)⟩ rfl (Nat.le_of_ble_eq_true rfl) rfl dX11_nobody_5 ?_
  refine zt_if_eq (tgt := 29) hC h (by decide) dX11_nobody_8 (fun h => ?_) (fun h => ?_)
  · refine zt_ldc2 hC wd_729 dX11_nobody_29 ?_
    obtain rfl := Option.some.inj h
    exact zt_lret hC rfl rfl (Nat.le_of_ble_eq_true rfl) (Nat.le_of_ble_eq_true rfl) dX11_nobody_32
  · refine zt_iload_n hC rfl dX11_nobody_11 ?_
    refine zt_if_lt (tgt := 29) hC h (by decide) dX11_nobody_12 (fun h => ?_) (fun h => ?_)
    · refine zt_ldc2 hC wd_729 dX11_nobody_29 ?_
      obtain rfl := Option.some.inj h
      exact zt_lret hC rfl rfl (Nat.le_of_ble_eq_true rfl) (Nat.le_of_ble_eq_true rfl) dX11_nobody_32
    · refine zt_iload_n hC rfl dX11_nobody_15 ?_
      refine zt_iconst hC ki_4 dX11_nobody_16 ?_
      refine zt_icmp_gt (tgt := 29) hC h (by decide) dX11_nobody_17 (fun h => ?_) (fun h => ?_)
      · refine zt_ldc2 hC wd_729 dX11_nobody_29 ?_
        obtain rfl := Option.some.inj h
        exact zt_lret hC rfl rfl (Nat.le_of_ble_eq_true rfl) (Nat.le_of_ble_eq_true rfl) dX11_nobody_32
      · refine zt_iload_n hC rfl dX11_nobody_20 ?_
        refine zt_if_lt (tgt := 29) hC h (by decide) dX11_nobody_21 (fun h => ?_) (fun h => ?_)
        · refine zt_ldc2 hC wd_729 dX11_nobody_29 ?_
          obtain rfl := Option.some.inj h
          exact zt_lret hC rfl rfl (Nat.le_of_ble_eq_true rfl) (Nat.le_of_ble_eq_true rfl) dX11_nobody_32
        · refine zt_iload_n hC rfl dX11_nobody_24 ?_
          refine zt_iconst hC ki_1 dX11_nobody_25 ?_
          refine zt_icmp_le (tgt := 33) hC h (by decide) dX11_nobody_26 (fun h => ?_) (fun h => ?_)
          · refine zt_iload_n hC rfl dX11_nobody_33 ?_
            refine zt_aload_n hC rfl dX11_nobody_34 ?_
            refine zt_gR hC h cl11 (k := 0) (by decide) rfl wd_227 (Or.inl rfl) dX11_nobody_35 (fun v5 h => ?_)
            refine zt_iload_n hC rfl dX11_nobody_38 ?_
            obtain ⟨hk, h⟩ := ck_some h
            obtain ⟨v6, M7, h8, h⟩ := bnd_some h
            refine zt_callV (z := yX10_sortsFrom) (As := [.int x1]) (rest := [.int x2]) (st1 := (.int v6 :: [.int x2])) hC 1 hk cl10 (fun l hl => c_X10_sortsFrom N v5 x1 M3 (v6, M7) h8 l hl) rfl wd_733 wd_730 wd_731 wd_732 wd_2 hd_X10_sortsFrom rfl ⟨⟨(Nat.le_of_ble_eq_true rfl), (Nat.le_of_ble_eq_true rfl)⟩, (Nat.le_of_ble_eq_true rfl), (Nat.le_of_ble_eq_true rfl)⟩ rfl (Nat.le_of_ble_eq_true rfl) rfl dX11_nobody_39 ?_
            refine zt_imul hC dX11_nobody_42 ?_
            refine zt_bipush hC kb_8 dX11_nobody_43 ?_
            refine zt_icmp_le (tgt := 52) hC h (by decide) dX11_nobody_45 (fun h => ?_) (fun h => ?_)
            · refine zt_lconst hC kl_1 dX11_nobody_52 ?_
              refine zt_lstore (lv' := [(4, .long (1 : Int64)), (0, .ref x0), (1, .int x1), (2, .int x2), (3, .int x3)]) hC (by decide) rfl dX11_nobody_53 ?_
              refine zt_lconst hC kl_1 dX11_nobody_55 ?_
              refine zt_lstore (lv' := [(6, .long (1 : Int64)), (4, .long (1 : Int64)), (0, .ref x0), (1, .int x1), (2, .int x2), (3, .int x3)]) hC (by decide) rfl dX11_nobody_56 ?_
              refine zt_iconst hC ki_0 dX11_nobody_58 ?_
              refine zt_istore (lv' := [(8, .int (0 : Int32)), (6, .long (1 : Int64)), (4, .long (1 : Int64)), (0, .ref x0), (1, .int x1), (2, .int x2), (3, .int x3)]) hC (by decide) rfl dX11_nobody_59 ?_
              refine zt_keep [0, 1, 2, 3, 4, 6, 8] rfl ?_
              exact w_X11_nobody_61 N hC N x0 x1 x2 x3 (1 : Int64) (1 : Int64) (0 : Int32) M7 h
            · refine zt_ldc2 hC wd_734 dX11_nobody_48 ?_
              obtain rfl := Option.some.inj h
              exact zt_lret hC rfl rfl (Nat.le_of_ble_eq_true rfl) (Nat.le_of_ble_eq_true rfl) dX11_nobody_51
          · refine zt_ldc2 hC wd_729 dX11_nobody_29 ?_
            obtain rfl := Option.some.inj h
            exact zt_lret hC rfl rfl (Nat.le_of_ble_eq_true rfl) (Nat.le_of_ble_eq_true rfl) dX11_nobody_32
def rm_X11_judge : Room := { frames := 6, cells := 0, slots := 0, locals := 143 }
theorem hd_X11_judge : yX11_judge.cls ≠ "java/lang/invoke/MethodHandle" ∧ yX11_judge.cls ≠ "java/lang/invoke/VarHandle" ∧ (parseMethodDescriptor yX11_judge.desc).map (fun d => d.parameters.length) = some 2 := by decide +kernel
def b_X11_judge_52 (N : Nat) (k52 : Nat → Int32 → Nat → Int32 → Mm → Option (Int32 × Mm)) (x0 : Nat) (x1 : Int32) (x4 : Nat) (x5 : Int32) (M : Mm) : Option (Int32 × Mm) :=
gI 7 M x4 2 (fun v1 =>
(if v1 ≤ x5 then
some ((-4 : Int32), M)
else
gR 11 M x0 3 (fun v2 =>
ck 10 M v2 (bnd (f_X10_pass N v2 (1 : Int32) M) (fun v3 M4 =>
ck 7 M4 x4 (bnd (f_X7_read N x4 x5 M4) (fun v6 M7 =>
ck 7 M7 x4 (bnd (f_X7_leastNumber N x4 M7) (fun v9 M10 =>
(if v6 = v9 then
k52 x0 x1 x4 (x5 + (1 : Int32)) M10
else
gR 11 M10 x0 3 (fun v12 =>
ck 10 M10 v12 (bnd (f_X10_standingAt N v12 x1 M10) (fun v13 M14 =>
(if v6 = v13 then
k52 x0 x1 x4 (x5 + (1 : Int32)) M14
else
some (x5, M14)))))))))))))))
def l_X11_judge_52 (N : Nat) : Nat → Nat → Int32 → Nat → Int32 → Mm → Option (Int32 × Mm)
  | 0 => fun _ _ _ _ _ => none
  | n + 1 => b_X11_judge_52 N (l_X11_judge_52 N n)
set_option maxRecDepth 100000 in
set_option maxHeartbeats 4000000 in
theorem v_X11_judge_52 {X : Cx} {G : Gl} {r : (Int32 × Mm)} (N : Nat) (hC : CX X G yX11_judge cX11_judge 7 (some .int) rm_X11_judge) (k52 : Nat → Int32 → Nat → Int32 → Mm → Option (Int32 × Mm)) (hk52 : ∀ (x0 : Nat) (x1 : Int32) (x4 : Nat) (x5 : Int32) (M : Mm), k52 x0 x1 x4 x5 M = some r → TW X G 7 (RQ X G (some (.int r.1)) r.2 rm_X11_judge) 0 0 M 52 [(0, .ref x0), (1, .int x1), (4, .ref x4), (5, .int x5)] []) (x0 : Nat) (x1 : Int32) (x4 : Nat) (x5 : Int32) (M : Mm) (h : b_X11_judge_52 N k52 x0 x1 x4 x5 M = some r) : TW X G 7 (RQ X G (some (.int r.1)) r.2 rm_X11_judge) 0 0 M 52 [(0, .ref x0), (1, .int x1), (4, .ref x4), (5, .int x5)] [] := by
  unfold b_X11_judge_52 at h
  refine zt_iload hC rfl dX11_judge_52 ?_
  refine zt_aload hC rfl dX11_judge_54 ?_
  refine zt_gI hC h cl7 (k := 2) (by decide) rfl wd_215 (Or.inl rfl) dX11_judge_56 (fun v1 h => ?_)
  refine zt_icmp_ge (tgt := 111) hC h (by decide) dX11_judge_59 (fun h => ?_) (fun h => ?_)
  · refine zt_bipush hC kb_m4 dX11_judge_111 ?_
    obtain rfl := Option.some.inj h
    exact zt_iret hC rfl rfl (Nat.le_of_ble_eq_true rfl) (Nat.le_of_ble_eq_true rfl) dX11_judge_113
  · refine zt_aload_n hC rfl dX11_judge_62 ?_
    refine zt_gR hC h cl11 (k := 3) (by decide) rfl wd_230 (Or.inl rfl) dX11_judge_63 (fun v2 h => ?_)
    refine zt_iconst hC ki_1 dX11_judge_66 ?_
    obtain ⟨hk, h⟩ := ck_some h
    obtain ⟨v3, M4, h5, h⟩ := bnd_some h
    refine zt_callV (z := yX10_pass) (As := [.int (1 : Int32)]) (rest := []) (st1 := []) hC 1 hk cl10 (fun l hl => c_X10_pass N v2 (1 : Int32) M (v3, M4) h5 l hl) rfl wd_441 wd_438 wd_439 wd_440 wd_2 hd_X10_pass rfl ⟨⟨(Nat.le_of_ble_eq_true rfl), (Nat.le_of_ble_eq_true rfl)⟩, (Nat.le_of_ble_eq_true rfl), (Nat.le_of_ble_eq_true rfl)⟩ rfl (Nat.le_of_ble_eq_true rfl) rfl dX11_judge_67 ?_
    refine zt_aload hC rfl dX11_judge_70 ?_
    refine zt_iload hC rfl dX11_judge_72 ?_
    obtain ⟨hk, h⟩ := ck_some h
    obtain ⟨v6, M7, h8, h⟩ := bnd_some h
    refine zt_callV (z := yX7_read) (As := [.int x5]) (rest := []) (st1 := (.int v6 :: [])) hC 1 hk cl7 (fun l hl => c_X7_read N x4 x5 M4 (v6, M7) h8 l hl) rfl wd_626 wd_628 wd_624 wd_625 wd_6 hd_X7_read rfl ⟨⟨(Nat.le_of_ble_eq_true rfl), (Nat.le_of_ble_eq_true rfl)⟩, (Nat.le_of_ble_eq_true rfl), (Nat.le_of_ble_eq_true rfl)⟩ rfl (Nat.le_of_ble_eq_true rfl) rfl dX11_judge_74 ?_
    refine zt_istore (lv' := [(6, .int v6), (0, .ref x0), (1, .int x1), (4, .ref x4), (5, .int x5)]) hC (by decide) rfl dX11_judge_77 ?_
    refine zt_iload hC rfl dX11_judge_79 ?_
    refine zt_aload hC rfl dX11_judge_81 ?_
    obtain ⟨hk, h⟩ := ck_some h
    obtain ⟨v9, M10, h11, h⟩ := bnd_some h
    refine zt_callV (z := yX7_leastNumber) (As := []) (rest := [.int v6]) (st1 := (.int v9 :: [.int v6])) hC 0 hk cl7 (fun l hl => c_X7_leastNumber N x4 M7 (v9, M10) h11 l hl) rfl wd_746 wd_743 wd_744 wd_745 wd_6 hd_X7_leastNumber rfl ⟨⟨(Nat.le_of_ble_eq_true rfl), (Nat.le_of_ble_eq_true rfl)⟩, (Nat.le_of_ble_eq_true rfl), (Nat.le_of_ble_eq_true rfl)⟩ rfl (Nat.le_of_ble_eq_true rfl) rfl dX11_judge_83 ?_
    refine zt_icmp_eq (tgt := 105) hC h (by decide) dX11_judge_86 (fun h => ?_) (fun h => ?_)
    · refine zt_iinc (v := (x5 + (1 : Int32))) (lv' := [(5, .int (x5 + (1 : Int32))), (6, .int v6), (0, .ref x0), (1, .int x1), (4, .ref x4)]) hC rfl (by rw [ki_1]) (by decide) rfl dX11_judge_105 ?_
      refine zt_goto (tgt := 52) hC (by decide) dX11_judge_108 ?_
      refine zt_keep [0, 1, 4, 5] rfl ?_
      exact hk52 x0 x1 x4 (x5 + (1 : Int32)) M10 h
    · refine zt_iload hC rfl dX11_judge_89 ?_
      refine zt_aload_n hC rfl dX11_judge_91 ?_
      refine zt_gR hC h cl11 (k := 3) (by decide) rfl wd_230 (Or.inl rfl) dX11_judge_92 (fun v12 h => ?_)
      refine zt_iload_n hC rfl dX11_judge_95 ?_
      obtain ⟨hk, h⟩ := ck_some h
      obtain ⟨v13, M14, h15, h⟩ := bnd_some h
      refine zt_callV (z := yX10_standingAt) (As := [.int x1]) (rest := [.int v6]) (st1 := (.int v13 :: [.int v6])) hC 1 hk cl10 (fun l hl => c_X10_standingAt N v12 x1 M10 (v13, M14) h15 l hl) rfl wd_456 wd_560 wd_454 wd_455 wd_2 hd_X10_standingAt rfl ⟨⟨(Nat.le_of_ble_eq_true rfl), (Nat.le_of_ble_eq_true rfl)⟩, (Nat.le_of_ble_eq_true rfl), (Nat.le_of_ble_eq_true rfl)⟩ rfl (Nat.le_of_ble_eq_true rfl) rfl dX11_judge_96 ?_
      refine zt_icmp_eq (tgt := 105) hC h (by decide) dX11_judge_99 (fun h => ?_) (fun h => ?_)
      · refine zt_iinc (v := (x5 + (1 : Int32))) (lv' := [(5, .int (x5 + (1 : Int32))), (6, .int v6), (0, .ref x0), (1, .int x1), (4, .ref x4)]) hC rfl (by rw [ki_1]) (by decide) rfl dX11_judge_105 ?_
        refine zt_goto (tgt := 52) hC (by decide) dX11_judge_108 ?_
        refine zt_keep [0, 1, 4, 5] rfl ?_
        exact hk52 x0 x1 x4 (x5 + (1 : Int32)) M14 h
      · refine zt_iload hC rfl dX11_judge_102 ?_
        obtain rfl := Option.some.inj h
        exact zt_iret hC rfl rfl (Nat.le_of_ble_eq_true rfl) (Nat.le_of_ble_eq_true rfl) dX11_judge_104
theorem w_X11_judge_52 {X : Cx} {G : Gl} {r : (Int32 × Mm)} (N : Nat) (hC : CX X G yX11_judge cX11_judge 7 (some .int) rm_X11_judge) (n : Nat) : ∀ (x0 : Nat) (x1 : Int32) (x4 : Nat) (x5 : Int32) (M : Mm), l_X11_judge_52 N n x0 x1 x4 x5 M = some r → TW X G 7 (RQ X G (some (.int r.1)) r.2 rm_X11_judge) 0 0 M 52 [(0, .ref x0), (1, .int x1), (4, .ref x4), (5, .int x5)] [] := by
  induction n with
  | zero => intro  x0 x1 x4 x5 M h; cases (show none = some r from h)
  | succ n ih => intro  x0 x1 x4 x5 M h; exact v_X11_judge_52 N hC (l_X11_judge_52 N n) ih x0 x1 x4 x5 M h
def f_X11_judge (N : Nat) (x0 : Nat) (x1 : Int32) (x2 : Int32) (M : Mm) : Option (Int32 × Mm) :=
gR 11 M x0 0 (fun v1 =>
ck 10 M v1 (bnd (f_X10_hasLanding N v1 x1 M) (fun v2 M3 =>
(if v2 = 0 then
some ((-1 : Int32), M3)
else
ck 11 M3 x0 (bnd (f_X11_refuseRow N x0 x2 (-1 : Int32) M3) (fun v5 M6 =>
ck 11 M6 x0 (bnd (f_X11_shelfAt N x0 x2 M6) (fun v8 M9 =>
(onn v8
((if v5 = 0 then
some (v5, M9)
else
some (v5, M9)))
(fun v8 =>
(if v5 = 0 then
gR 11 M9 x0 3 (fun v11 =>
gR 11 M9 x0 0 (fun v12 =>
ck 10 M9 v11 (bnd (f_X10_become N v11 v12 M9) (fun v13 M14 =>
l_X11_judge_52 N N x0 x1 v8 (0 : Int32) M14))))
else
some (v5, M9))))))))))))
set_option maxRecDepth 100000 in
set_option maxHeartbeats 4000000 in
theorem c_X11_judge (N : Nat) (x0 : Nat) (x1 : Int32) (x2 : Int32) (M : Mm) (r : (Int32 × Mm)) (h : f_X11_judge N x0 x1 x2 M = some r) (l : Launch) (hfl : l.flags = flags0) {G : Gl} : MT l G yX11_judge cX11_judge 7 (some .int) rm_X11_judge [.ref x0, .int x1, .int x2] M (some (.int r.1)) r.2 := by
  unfold f_X11_judge at h
  refine zt_start hfl (lv := [(0, .ref x0), (1, .int x1), (2, .int x2)]) (by decide) (Nat.le_of_ble_eq_true rfl) rfl wd_742 (fun X hC _ => ?_)
  refine zt_aload_n hC rfl dX11_judge_0 ?_
  refine zt_gR hC h cl11 (k := 0) (by decide) rfl wd_227 (Or.inl rfl) dX11_judge_1 (fun v1 h => ?_)
  refine zt_iload_n hC rfl dX11_judge_4 ?_
  obtain ⟨hk, h⟩ := ck_some h
  obtain ⟨v2, M3, h4, h⟩ := bnd_some h
  refine zt_callV (z := yX10_hasLanding) (As := [.int x1]) (rest := []) (st1 := (.int v2 :: [])) hC 1 hk cl10 (fun l hl => c_X10_hasLanding N v1 x1 M (v2, M3) h4 l hl) rfl wd_358 wd_372 wd_356 wd_357 wd_2 hd_X10_hasLanding rfl ⟨⟨(Nat.le_of_ble_eq_true rfl), (Nat.le_of_ble_eq_true rfl)⟩, (Nat.le_of_ble_eq_true rfl), (Nat.le_of_ble_eq_true rfl)⟩ rfl (Nat.le_of_ble_eq_true rfl) rfl dX11_judge_5 ?_
  refine zt_if_ne (tgt := 13) hC h (by decide) dX11_judge_8 (fun h => ?_) (fun h => ?_)
  · refine zt_aload_n hC rfl dX11_judge_13 ?_
    refine zt_iload_n hC rfl dX11_judge_14 ?_
    refine zt_iconst hC ki_m1 dX11_judge_15 ?_
    obtain ⟨hk, h⟩ := ck_some h
    obtain ⟨v5, M6, h7, h⟩ := bnd_some h
    refine zt_callV (z := yX11_refuseRow) (As := [.int x2, .int (-1 : Int32)]) (rest := []) (st1 := (.int v5 :: [])) hC 2 hk cl11 (fun l hl => c_X11_refuseRow N x0 x2 (-1 : Int32) M3 (v5, M6) h7 l hl) rfl wd_259 wd_256 wd_258 ws_0 wd_1 hd_X11_refuseRow rfl ⟨⟨(Nat.le_of_ble_eq_true rfl), (Nat.le_of_ble_eq_true rfl)⟩, (Nat.le_of_ble_eq_true rfl), (Nat.le_of_ble_eq_true rfl)⟩ rfl (Nat.le_of_ble_eq_true rfl) rfl dX11_judge_16 ?_
    refine zt_istore_n (lv' := [(3, .int v5), (0, .ref x0), (1, .int x1), (2, .int x2)]) hC (by decide) rfl dX11_judge_19 ?_
    refine zt_aload_n hC rfl dX11_judge_20 ?_
    refine zt_iload_n hC rfl dX11_judge_21 ?_
    obtain ⟨hk, h⟩ := ck_some h
    obtain ⟨v8, M9, h10, h⟩ := bnd_some h
    refine zt_callV (z := yX11_shelfAt) (As := [.int x2]) (rest := []) (st1 := (va_rf v8 :: [])) hC 1 hk cl11 (fun l hl => c_X11_shelfAt N x0 x2 M6 (v8, M9) h10 l hl) rfl wd_263 wd_260 wd_262 ws_1 wd_1 hd_X11_shelfAt rfl ⟨⟨(Nat.le_of_ble_eq_true rfl), (Nat.le_of_ble_eq_true rfl)⟩, (Nat.le_of_ble_eq_true rfl), (Nat.le_of_ble_eq_true rfl)⟩ rfl (Nat.le_of_ble_eq_true rfl) rfl dX11_judge_22 ?_
    rcases onn_some h with ⟨ew, hw⟩ | ⟨qq, ew, hw⟩
    · clear h
      subst ew
      have h := hw
      clear hw
      refine zt_astoreN (lv' := [(4, .null), (3, .int v5), (0, .ref x0), (1, .int x1), (2, .int x2)]) hC (by decide) rfl dX11_judge_25 ?_
      refine zt_iload_n hC rfl dX11_judge_27 ?_
      refine zt_if_ne (tgt := 36) hC h (by decide) dX11_judge_28 (fun h => ?_) (fun h => ?_)
      · refine zt_iload_n hC rfl dX11_judge_36 ?_
        obtain rfl := Option.some.inj h
        exact zt_iret hC rfl rfl (Nat.le_of_ble_eq_true rfl) (Nat.le_of_ble_eq_true rfl) dX11_judge_37
      · refine zt_aloadN hC rfl dX11_judge_31 ?_
        refine zt_ifnonnullN hC dX11_judge_33 ?_
        refine zt_iload_n hC rfl dX11_judge_36 ?_
        obtain rfl := Option.some.inj h
        exact zt_iret hC rfl rfl (Nat.le_of_ble_eq_true rfl) (Nat.le_of_ble_eq_true rfl) dX11_judge_37
    · clear h
      subst ew
      have h := hw
      clear hw
      obtain ⟨v8, ev⟩ : ∃ q, q = qq := ⟨_, rfl⟩
      subst ev
      refine zt_astore (lv' := [(4, .ref v8), (3, .int v5), (0, .ref x0), (1, .int x1), (2, .int x2)]) hC (by decide) rfl dX11_judge_25 ?_
      refine zt_iload_n hC rfl dX11_judge_27 ?_
      refine zt_if_ne (tgt := 36) hC h (by decide) dX11_judge_28 (fun h => ?_) (fun h => ?_)
      · refine zt_iload_n hC rfl dX11_judge_36 ?_
        obtain rfl := Option.some.inj h
        exact zt_iret hC rfl rfl (Nat.le_of_ble_eq_true rfl) (Nat.le_of_ble_eq_true rfl) dX11_judge_37
      · refine zt_aload hC rfl dX11_judge_31 ?_
        refine zt_ifnonnull (tgt := 38) hC (by decide) dX11_judge_33 ?_
        refine zt_aload_n hC rfl dX11_judge_38 ?_
        refine zt_gR hC h cl11 (k := 3) (by decide) rfl wd_230 (Or.inl rfl) dX11_judge_39 (fun v11 h => ?_)
        refine zt_aload_n hC rfl dX11_judge_42 ?_
        refine zt_gR hC h cl11 (k := 0) (by decide) rfl wd_227 (Or.inl rfl) dX11_judge_43 (fun v12 h => ?_)
        obtain ⟨hk, h⟩ := ck_some h
        obtain ⟨v13, M14, h15, h⟩ := bnd_some h
        refine zt_callV (z := yX10_become) (As := [.ref v12]) (rest := []) (st1 := []) hC 1 hk cl10 (fun l hl => c_X10_become N v11 v12 M9 (v13, M14) h15 l hl) rfl wd_311 wd_308 wd_309 wd_310 wd_2 hd_X10_become rfl ⟨⟨(Nat.le_of_ble_eq_true rfl), (Nat.le_of_ble_eq_true rfl)⟩, (Nat.le_of_ble_eq_true rfl), (Nat.le_of_ble_eq_true rfl)⟩ rfl (Nat.le_of_ble_eq_true rfl) rfl dX11_judge_46 ?_
        refine zt_iconst hC ki_0 dX11_judge_49 ?_
        refine zt_istore (lv' := [(5, .int (0 : Int32)), (4, .ref v8), (3, .int v5), (0, .ref x0), (1, .int x1), (2, .int x2)]) hC (by decide) rfl dX11_judge_50 ?_
        refine zt_keep [0, 1, 4, 5] rfl ?_
        exact w_X11_judge_52 N hC N x0 x1 v8 (0 : Int32) M14 h
  · refine zt_iconst hC ki_m1 dX11_judge_11 ?_
    obtain rfl := Option.some.inj h
    exact zt_iret hC rfl rfl (Nat.le_of_ble_eq_true rfl) (Nat.le_of_ble_eq_true rfl) dX11_judge_12
def rm_X11_image : Room := { frames := 4, cells := 0, slots := 0, locals := 143 }
theorem hd_X11_image : yX11_image.cls ≠ "java/lang/invoke/MethodHandle" ∧ yX11_image.cls ≠ "java/lang/invoke/VarHandle" ∧ (parseMethodDescriptor yX11_image.desc).map (fun d => d.parameters.length) = some 0 := by decide +kernel
def f_X11_image (N : Nat) (x0 : Nat) (M : Mm) : Option (Int32 × Mm) :=
gR 11 M x0 1 (fun v1 =>
gR 11 M x0 0 (fun v2 =>
ck 10 M v1 (bnd (f_X10_become N v1 v2 M) (fun v3 M4 =>
pZ 11 M4 x0 2 (1 : Int32) (fun M6 =>
gR 11 M6 x0 0 (fun v7 =>
gI 10 M6 v7 6 (fun v8 =>
some (v8, M6))))))))
set_option maxRecDepth 100000 in
set_option maxHeartbeats 4000000 in
theorem c_X11_image (N : Nat) (x0 : Nat) (M : Mm) (r : (Int32 × Mm)) (h : f_X11_image N x0 M = some r) (l : Launch) (hfl : l.flags = flags0) {G : Gl} : MT l G yX11_image cX11_image 1 (some .int) rm_X11_image [.ref x0] M (some (.int r.1)) r.2 := by
  unfold f_X11_image at h
  refine zt_start hfl (lv := [(0, .ref x0)]) (by decide) (Nat.le_of_ble_eq_true rfl) rfl wd_751 (fun X hC _ => ?_)
  refine zt_aload_n hC rfl dX11_image_0 ?_
  refine zt_gR hC h cl11 (k := 1) (by decide) rfl wd_228 (Or.inl rfl) dX11_image_1 (fun v1 h => ?_)
  refine zt_aload_n hC rfl dX11_image_4 ?_
  refine zt_gR hC h cl11 (k := 0) (by decide) rfl wd_227 (Or.inl rfl) dX11_image_5 (fun v2 h => ?_)
  obtain ⟨hk, h⟩ := ck_some h
  obtain ⟨v3, M4, h5, h⟩ := bnd_some h
  refine zt_callV (z := yX10_become) (As := [.ref v2]) (rest := []) (st1 := []) hC 1 hk cl10 (fun l hl => c_X10_become N v1 v2 M (v3, M4) h5 l hl) rfl wd_311 wd_308 wd_309 wd_310 wd_2 hd_X10_become rfl ⟨⟨(Nat.le_of_ble_eq_true rfl), (Nat.le_of_ble_eq_true rfl)⟩, (Nat.le_of_ble_eq_true rfl), (Nat.le_of_ble_eq_true rfl)⟩ rfl (Nat.le_of_ble_eq_true rfl) rfl dX11_image_8 ?_
  refine zt_aload_n hC rfl dX11_image_11 ?_
  refine zt_iconst hC ki_1 dX11_image_12 ?_
  refine zt_pZ hC h cl11 (k := 2) (by decide) rfl wd_229 (Or.inl rfl) (Or.inl rfl) dX11_image_13 (fun M6 h => ?_)
  refine zt_aload_n hC rfl dX11_image_16 ?_
  refine zt_gR hC h cl11 (k := 0) (by decide) rfl wd_227 (Or.inl rfl) dX11_image_17 (fun v7 h => ?_)
  refine zt_gI hC h cl10 (k := 6) (by decide) rfl wd_120 (Or.inl rfl) dX11_image_20 (fun v8 h => ?_)
  obtain rfl := Option.some.inj h
  exact zt_iret hC rfl rfl (Nat.le_of_ble_eq_true rfl) (Nat.le_of_ble_eq_true rfl) dX11_image_23
def rm_X11_restore : Room := { frames := 4, cells := 0, slots := 0, locals := 143 }
theorem hd_X11_restore : yX11_restore.cls ≠ "java/lang/invoke/MethodHandle" ∧ yX11_restore.cls ≠ "java/lang/invoke/VarHandle" ∧ (parseMethodDescriptor yX11_restore.desc).map (fun d => d.parameters.length) = some 0 := by decide +kernel
def f_X11_restore (N : Nat) (x0 : Nat) (M : Mm) : Option (Int32 × Mm) :=
gI 11 M x0 2 (fun v1 =>
(if v1 = 0 then
some ((-3 : Int32), M)
else
gR 11 M x0 0 (fun v2 =>
gR 11 M x0 1 (fun v3 =>
ck 10 M v2 (bnd (f_X10_become N v2 v3 M) (fun v4 M5 =>
gR 11 M5 x0 0 (fun v7 =>
gI 10 M5 v7 6 (fun v8 =>
some (v8, M5)))))))))
set_option maxRecDepth 100000 in
set_option maxHeartbeats 4000000 in
theorem c_X11_restore (N : Nat) (x0 : Nat) (M : Mm) (r : (Int32 × Mm)) (h : f_X11_restore N x0 M = some r) (l : Launch) (hfl : l.flags = flags0) {G : Gl} : MT l G yX11_restore cX11_restore 1 (some .int) rm_X11_restore [.ref x0] M (some (.int r.1)) r.2 := by
  unfold f_X11_restore at h
  refine zt_start hfl (lv := [(0, .ref x0)]) (by decide) (Nat.le_of_ble_eq_true rfl) rfl wd_755 (fun X hC _ => ?_)
  refine zt_aload_n hC rfl dX11_restore_0 ?_
  refine zt_gI hC h cl11 (k := 2) (by decide) rfl wd_229 (Or.inl rfl) dX11_restore_1 (fun v1 h => ?_)
  refine zt_if_ne (tgt := 10) hC h (by decide) dX11_restore_4 (fun h => ?_) (fun h => ?_)
  · refine zt_aload_n hC rfl dX11_restore_10 ?_
    refine zt_gR hC h cl11 (k := 0) (by decide) rfl wd_227 (Or.inl rfl) dX11_restore_11 (fun v2 h => ?_)
    refine zt_aload_n hC rfl dX11_restore_14 ?_
    refine zt_gR hC h cl11 (k := 1) (by decide) rfl wd_228 (Or.inl rfl) dX11_restore_15 (fun v3 h => ?_)
    obtain ⟨hk, h⟩ := ck_some h
    obtain ⟨v4, M5, h6, h⟩ := bnd_some h
    refine zt_callV (z := yX10_become) (As := [.ref v3]) (rest := []) (st1 := []) hC 1 hk cl10 (fun l hl => c_X10_become N v2 v3 M (v4, M5) h6 l hl) rfl wd_311 wd_308 wd_309 wd_310 wd_2 hd_X10_become rfl ⟨⟨(Nat.le_of_ble_eq_true rfl), (Nat.le_of_ble_eq_true rfl)⟩, (Nat.le_of_ble_eq_true rfl), (Nat.le_of_ble_eq_true rfl)⟩ rfl (Nat.le_of_ble_eq_true rfl) rfl dX11_restore_18 ?_
    refine zt_aload_n hC rfl dX11_restore_21 ?_
    refine zt_gR hC h cl11 (k := 0) (by decide) rfl wd_227 (Or.inl rfl) dX11_restore_22 (fun v7 h => ?_)
    refine zt_gI hC h cl10 (k := 6) (by decide) rfl wd_120 (Or.inl rfl) dX11_restore_25 (fun v8 h => ?_)
    obtain rfl := Option.some.inj h
    exact zt_iret hC rfl rfl (Nat.le_of_ble_eq_true rfl) (Nat.le_of_ble_eq_true rfl) dX11_restore_28
  · refine zt_bipush hC kb_m3 dX11_restore_7 ?_
    obtain rfl := Option.some.inj h
    exact zt_iret hC rfl rfl (Nat.le_of_ble_eq_true rfl) (Nat.le_of_ble_eq_true rfl) dX11_restore_9
def rm_X11_count : Room := { frames := 2, cells := 0, slots := 0, locals := 45 }
theorem hd_X11_count : yX11_count.cls ≠ "java/lang/invoke/MethodHandle" ∧ yX11_count.cls ≠ "java/lang/invoke/VarHandle" ∧ (parseMethodDescriptor yX11_count.desc).map (fun d => d.parameters.length) = some 1 := by decide +kernel
def f_X11_count (N : Nat) (x0 : Nat) (x1 : Int32) (M : Mm) : Option (Int32 × Mm) :=
(if x1 = (0 : Int32) then
gR 11 M x0 0 (fun v1 =>
gI 10 M v1 0 (fun v2 =>
some (v2, M)))
else
(if x1 = (1 : Int32) then
gR 11 M x0 0 (fun v3 =>
gI 10 M v3 2 (fun v4 =>
some (v4, M)))
else
(if x1 = (2 : Int32) then
gR 11 M x0 0 (fun v5 =>
gI 10 M v5 4 (fun v6 =>
some (v6, M)))
else
(if x1 = (3 : Int32) then
gR 11 M x0 0 (fun v7 =>
gI 10 M v7 6 (fun v8 =>
some (v8, M)))
else
(if x1 = (4 : Int32) then
gR 11 M x0 0 (fun v9 =>
ck 10 M v9 (bnd (f_X10_standingInAll N v9 M) (fun v10 M11 =>
some (v10, M11))))
else
(if x1 = (5 : Int32) then
gR 11 M x0 0 (fun v13 =>
ck 10 M v13 (bnd (f_X10_comesInAll N v13 M) (fun v14 M15 =>
some (v14, M15))))
else
some ((-1 : Int32), M)))))))
set_option maxRecDepth 100000 in
set_option maxHeartbeats 4000000 in
theorem c_X11_count (N : Nat) (x0 : Nat) (x1 : Int32) (M : Mm) (r : (Int32 × Mm)) (h : f_X11_count N x0 x1 M = some r) (l : Launch) (hfl : l.flags = flags0) {G : Gl} : MT l G yX11_count cX11_count 2 (some .int) rm_X11_count [.ref x0, .int x1] M (some (.int r.1)) r.2 := by
  unfold f_X11_count at h
  refine zt_start hfl (lv := [(0, .ref x0), (1, .int x1)]) (by decide) (Nat.le_of_ble_eq_true rfl) rfl wd_759 (fun X hC _ => ?_)
  refine zt_iload_n hC rfl dX11_count_0 ?_
  rcases ite_or h with ⟨c0, h⟩ | ⟨c0, h⟩
  · refine zt_tsIn (tgt := 40) hC c0 (by decide) (by decide) rfl (by decide) dX11_count_1 ?_
    refine zt_aload_n hC rfl dX11_count_40 ?_
    refine zt_gR hC h cl11 (k := 0) (by decide) rfl wd_227 (Or.inl rfl) dX11_count_41 (fun v1 h => ?_)
    refine zt_gI hC h cl10 (k := 0) (by decide) rfl wd_108 (Or.inl rfl) dX11_count_44 (fun v2 h => ?_)
    obtain rfl := Option.some.inj h
    exact zt_iret hC rfl rfl (Nat.le_of_ble_eq_true rfl) (Nat.le_of_ble_eq_true rfl) dX11_count_47
  · rcases ite_or h with ⟨c1, h⟩ | ⟨c1, h⟩
    · refine zt_tsIn (tgt := 48) hC c1 (by decide) (by decide) rfl (by decide) dX11_count_1 ?_
      refine zt_aload_n hC rfl dX11_count_48 ?_
      refine zt_gR hC h cl11 (k := 0) (by decide) rfl wd_227 (Or.inl rfl) dX11_count_49 (fun v3 h => ?_)
      refine zt_gI hC h cl10 (k := 2) (by decide) rfl wd_111 (Or.inl rfl) dX11_count_52 (fun v4 h => ?_)
      obtain rfl := Option.some.inj h
      exact zt_iret hC rfl rfl (Nat.le_of_ble_eq_true rfl) (Nat.le_of_ble_eq_true rfl) dX11_count_55
    · rcases ite_or h with ⟨c2, h⟩ | ⟨c2, h⟩
      · refine zt_tsIn (tgt := 56) hC c2 (by decide) (by decide) rfl (by decide) dX11_count_1 ?_
        refine zt_aload_n hC rfl dX11_count_56 ?_
        refine zt_gR hC h cl11 (k := 0) (by decide) rfl wd_227 (Or.inl rfl) dX11_count_57 (fun v5 h => ?_)
        refine zt_gI hC h cl10 (k := 4) (by decide) rfl wd_115 (Or.inl rfl) dX11_count_60 (fun v6 h => ?_)
        obtain rfl := Option.some.inj h
        exact zt_iret hC rfl rfl (Nat.le_of_ble_eq_true rfl) (Nat.le_of_ble_eq_true rfl) dX11_count_63
      · rcases ite_or h with ⟨c3, h⟩ | ⟨c3, h⟩
        · refine zt_tsIn (tgt := 64) hC c3 (by decide) (by decide) rfl (by decide) dX11_count_1 ?_
          refine zt_aload_n hC rfl dX11_count_64 ?_
          refine zt_gR hC h cl11 (k := 0) (by decide) rfl wd_227 (Or.inl rfl) dX11_count_65 (fun v7 h => ?_)
          refine zt_gI hC h cl10 (k := 6) (by decide) rfl wd_120 (Or.inl rfl) dX11_count_68 (fun v8 h => ?_)
          obtain rfl := Option.some.inj h
          exact zt_iret hC rfl rfl (Nat.le_of_ble_eq_true rfl) (Nat.le_of_ble_eq_true rfl) dX11_count_71
        · rcases ite_or h with ⟨c4, h⟩ | ⟨c4, h⟩
          · refine zt_tsIn (tgt := 72) hC c4 (by decide) (by decide) rfl (by decide) dX11_count_1 ?_
            refine zt_aload_n hC rfl dX11_count_72 ?_
            refine zt_gR hC h cl11 (k := 0) (by decide) rfl wd_227 (Or.inl rfl) dX11_count_73 (fun v9 h => ?_)
            obtain ⟨hk, h⟩ := ck_some h
            obtain ⟨v10, M11, h12, h⟩ := bnd_some h
            refine zt_callV (z := yX10_standingInAll) (As := []) (rest := []) (st1 := (.int v10 :: [])) hC 0 hk cl10 (fun l hl => c_X10_standingInAll N v9 M (v10, M11) h12 l hl) rfl wd_342 wd_760 wd_340 wd_341 wd_2 hd_X10_standingInAll rfl ⟨⟨(Nat.le_of_ble_eq_true rfl), (Nat.le_of_ble_eq_true rfl)⟩, (Nat.le_of_ble_eq_true rfl), (Nat.le_of_ble_eq_true rfl)⟩ rfl (Nat.le_of_ble_eq_true rfl) rfl dX11_count_76 ?_
            obtain rfl := Option.some.inj h
            exact zt_iret hC rfl rfl (Nat.le_of_ble_eq_true rfl) (Nat.le_of_ble_eq_true rfl) dX11_count_79
          · rcases ite_or h with ⟨c5, h⟩ | ⟨c5, h⟩
            · refine zt_tsIn (tgt := 80) hC c5 (by decide) (by decide) rfl (by decide) dX11_count_1 ?_
              refine zt_aload_n hC rfl dX11_count_80 ?_
              refine zt_gR hC h cl11 (k := 0) (by decide) rfl wd_227 (Or.inl rfl) dX11_count_81 (fun v13 h => ?_)
              obtain ⟨hk, h⟩ := ck_some h
              obtain ⟨v14, M15, h16, h⟩ := bnd_some h
              refine zt_callV (z := yX10_comesInAll) (As := []) (rest := []) (st1 := (.int v14 :: [])) hC 0 hk cl10 (fun l hl => c_X10_comesInAll N v13 M (v14, M15) h16 l hl) rfl wd_764 wd_761 wd_762 wd_763 wd_2 hd_X10_comesInAll rfl ⟨⟨(Nat.le_of_ble_eq_true rfl), (Nat.le_of_ble_eq_true rfl)⟩, (Nat.le_of_ble_eq_true rfl), (Nat.le_of_ble_eq_true rfl)⟩ rfl (Nat.le_of_ble_eq_true rfl) rfl dX11_count_84 ?_
              obtain rfl := Option.some.inj h
              exact zt_iret hC rfl rfl (Nat.le_of_ble_eq_true rfl) (Nat.le_of_ble_eq_true rfl) dX11_count_87
            · refine zt_tsOut (tgt := 88) hC (by have e0 := sw_ne c0 (j := 0) (by decide); have e1 := sw_ne c1 (j := 1) (by decide); have e2 := sw_ne c2 (j := 2) (by decide); have e3 := sw_ne c3 (j := 3) (by decide); have e4 := sw_ne c4 (j := 4) (by decide); have e5 := sw_ne c5 (j := 5) (by decide); omega) (by decide) dX11_count_1 ?_
              refine zt_iconst hC ki_m1 dX11_count_88 ?_
              obtain rfl := Option.some.inj h
              exact zt_iret hC rfl rfl (Nat.le_of_ble_eq_true rfl) (Nat.le_of_ble_eq_true rfl) dX11_count_89
def rm_X11_keep : Room := { frames := 6, cells := 1, slots := 1, locals := 129 }
theorem hd_X11_keep : yX11_keep.cls ≠ "java/lang/invoke/MethodHandle" ∧ yX11_keep.cls ≠ "java/lang/invoke/VarHandle" ∧ (parseMethodDescriptor yX11_keep.desc).map (fun d => d.parameters.length) = some 4 := by decide +kernel
def j_X11_keep_52 (N : Nat) (x2 : Int32) (x3 : Int32) (x4 : Int32) (x5 : Nat) (M : Mm) : Option (Int32 × Mm) :=
ck 7 M x5 (bnd (f_X7_clear N x5 M) (fun v1 M2 =>
(if x2 = (1 : Int32) then
bnd (f_X11_makeRule N x3 x4 M2) (fun v4 M5 =>
nn v4 (fun v4 =>
pR 7 M5 x5 0 (some v4) (fun M7 =>
some ((0 : Int32), M7))))
else
some ((0 : Int32), M2))))
set_option maxRecDepth 100000 in
set_option maxHeartbeats 4000000 in
theorem w_X11_keep_52 {X : Cx} {G : Gl} {r : (Int32 × Mm)} (N : Nat) (hC : CX X G yX11_keep cX11_keep 6 (some .int) rm_X11_keep) (x2 : Int32) (x3 : Int32) (x4 : Int32) (x5 : Nat) (M : Mm) (h : j_X11_keep_52 N x2 x3 x4 x5 M = some r) : TW X G 6 (RQ X G (some (.int r.1)) r.2 rm_X11_keep) 0 0 M 52 [(2, .int x2), (3, .int x3), (4, .int x4), (5, .ref x5)] [] := by
  unfold j_X11_keep_52 at h
  refine zt_aload hC rfl dX11_keep_52 ?_
  obtain ⟨hk, h⟩ := ck_some h
  obtain ⟨v1, M2, h3, h⟩ := bnd_some h
  refine zt_callV (z := yX7_clear) (As := []) (rest := []) (st1 := []) hC 0 hk cl7 (fun l hl => c_X7_clear N x5 M (v1, M2) h3 l hl) rfl wd_772 wd_769 wd_770 wd_771 wd_6 hd_X7_clear rfl ⟨⟨(Nat.le_of_ble_eq_true rfl), (Nat.le_of_ble_eq_true rfl)⟩, (Nat.le_of_ble_eq_true rfl), (Nat.le_of_ble_eq_true rfl)⟩ rfl (Nat.le_of_ble_eq_true rfl) rfl dX11_keep_54 ?_
  refine zt_iload_n hC rfl dX11_keep_57 ?_
  refine zt_iconst hC ki_1 dX11_keep_58 ?_
  refine zt_icmp_ne (tgt := 73) hC h (by decide) dX11_keep_59 (fun h => ?_) (fun h => ?_)
  · refine zt_iconst hC ki_0 dX11_keep_73 ?_
    obtain rfl := Option.some.inj h
    exact zt_iret hC rfl rfl (Nat.le_of_ble_eq_true rfl) (Nat.le_of_ble_eq_true rfl) dX11_keep_74
  · refine zt_aload hC rfl dX11_keep_62 ?_
    refine zt_iload_n hC rfl dX11_keep_64 ?_
    refine zt_iload hC rfl dX11_keep_65 ?_
    obtain ⟨v4, M5, h6, h⟩ := bnd_some h
    refine zt_callS (z := yX11_makeRule) (As := [.int x3, .int x4]) (rest := [.ref x5]) (st1 := (va_rf v4 :: [.ref x5])) hC 2 (fun l hl => c_X11_makeRule N x3 x4 M2 (v4, M5) h6 l hl) rfl wd_631 wd_629 wd_630 wd_1 hd_X11_makeRule rfl ⟨⟨(Nat.le_of_ble_eq_true rfl), (Nat.le_of_ble_eq_true rfl)⟩, (Nat.le_of_ble_eq_true rfl), (Nat.le_of_ble_eq_true rfl)⟩ rfl (Nat.le_of_ble_eq_true rfl) rfl dX11_keep_67 ?_
    obtain ⟨qq, ew, hw⟩ := nn_some h
    clear h
    subst ew
    have h := hw
    clear hw
    obtain ⟨v4, ev⟩ : ∃ q, q = qq := ⟨_, rfl⟩
    subst ev
    refine zt_pR hC h rfl cl7 (k := 0) (by decide) rfl wd_211 (Or.inl rfl) (Or.inl rfl) dX11_keep_70 (fun M7 h => ?_)
    refine zt_iconst hC ki_0 dX11_keep_73 ?_
    obtain rfl := Option.some.inj h
    exact zt_iret hC rfl rfl (Nat.le_of_ble_eq_true rfl) (Nat.le_of_ble_eq_true rfl) dX11_keep_74
def f_X11_keep (N : Nat) (x0 : Nat) (x1 : Int32) (x2 : Int32) (x3 : Int32) (x4 : Int32) (M : Mm) : Option (Int32 × Mm) :=
ck 11 M x0 (bnd (f_X11_shelfAt N x0 x1 M) (fun v1 M2 =>
(onn v1
(some ((-1 : Int32), M2))
(fun v1 =>
(if x2 < 0 then
some ((-1 : Int32), M2)
else
(if x2 ≤ (1 : Int32) then
(if x2 = (1 : Int32) then
(if x3 < 0 then
some ((-1 : Int32), M2)
else
(if (7 : Int32) ≤ x3 then
some ((-1 : Int32), M2)
else
(if x4 < 0 then
some ((-1 : Int32), M2)
else
(if x4 ≤ (9 : Int32) then
j_X11_keep_52 N x2 x3 x4 v1 M2
else
some ((-1 : Int32), M2)))))
else
j_X11_keep_52 N x2 x3 x4 v1 M2)
else
some ((-1 : Int32), M2)))))))
set_option maxRecDepth 100000 in
set_option maxHeartbeats 4000000 in
theorem c_X11_keep (N : Nat) (x0 : Nat) (x1 : Int32) (x2 : Int32) (x3 : Int32) (x4 : Int32) (M : Mm) (r : (Int32 × Mm)) (h : f_X11_keep N x0 x1 x2 x3 x4 M = some r) (l : Launch) (hfl : l.flags = flags0) {G : Gl} : MT l G yX11_keep cX11_keep 6 (some .int) rm_X11_keep [.ref x0, .int x1, .int x2, .int x3, .int x4] M (some (.int r.1)) r.2 := by
  unfold f_X11_keep at h
  refine zt_start hfl (lv := [(0, .ref x0), (1, .int x1), (2, .int x2), (3, .int x3), (4, .int x4)]) (by decide) (Nat.le_of_ble_eq_true rfl) rfl wd_768 (fun X hC _ => ?_)
  refine zt_aload_n hC rfl dX11_keep_0 ?_
  refine zt_iload_n hC rfl dX11_keep_1 ?_
  obtain ⟨hk, h⟩ := ck_some h
  obtain ⟨v1, M2, h3, h⟩ := bnd_some h
  refine zt_callV (z := yX11_shelfAt) (As := [.int x1]) (rest := []) (st1 := (va_rf v1 :: [])) hC 1 hk cl11 (fun l hl => c_X11_shelfAt N x0 x1 M (v1, M2) h3 l hl) rfl wd_263 wd_260 wd_262 ws_1 wd_1 hd_X11_shelfAt rfl ⟨⟨(Nat.le_of_ble_eq_true rfl), (Nat.le_of_ble_eq_true rfl)⟩, (Nat.le_of_ble_eq_true rfl), (Nat.le_of_ble_eq_true rfl)⟩ rfl (Nat.le_of_ble_eq_true rfl) rfl dX11_keep_2 ?_
  rcases onn_some h with ⟨ew, hw⟩ | ⟨qq, ew, hw⟩
  · clear h
    subst ew
    have h := hw
    clear hw
    refine zt_astoreN (lv' := [(5, .null), (0, .ref x0), (1, .int x1), (2, .int x2), (3, .int x3), (4, .int x4)]) hC (by decide) rfl dX11_keep_5 ?_
    refine zt_aloadN hC rfl dX11_keep_7 ?_
    refine zt_ifnullN (tgt := 21) hC (by decide) dX11_keep_9 ?_
    refine zt_iconst hC ki_m1 dX11_keep_21 ?_
    obtain rfl := Option.some.inj h
    exact zt_iret hC rfl rfl (Nat.le_of_ble_eq_true rfl) (Nat.le_of_ble_eq_true rfl) dX11_keep_22
  · clear h
    subst ew
    have h := hw
    clear hw
    obtain ⟨v1, ev⟩ : ∃ q, q = qq := ⟨_, rfl⟩
    subst ev
    refine zt_astore (lv' := [(5, .ref v1), (0, .ref x0), (1, .int x1), (2, .int x2), (3, .int x3), (4, .int x4)]) hC (by decide) rfl dX11_keep_5 ?_
    refine zt_aload hC rfl dX11_keep_7 ?_
    refine zt_ifnull hC dX11_keep_9 ?_
    refine zt_iload_n hC rfl dX11_keep_12 ?_
    refine zt_if_lt (tgt := 21) hC h (by decide) dX11_keep_13 (fun h => ?_) (fun h => ?_)
    · refine zt_iconst hC ki_m1 dX11_keep_21 ?_
      obtain rfl := Option.some.inj h
      exact zt_iret hC rfl rfl (Nat.le_of_ble_eq_true rfl) (Nat.le_of_ble_eq_true rfl) dX11_keep_22
    · refine zt_iload_n hC rfl dX11_keep_16 ?_
      refine zt_iconst hC ki_1 dX11_keep_17 ?_
      refine zt_icmp_le (tgt := 23) hC h (by decide) dX11_keep_18 (fun h => ?_) (fun h => ?_)
      · refine zt_iload_n hC rfl dX11_keep_23 ?_
        refine zt_iconst hC ki_1 dX11_keep_24 ?_
        refine zt_icmp_ne (tgt := 52) hC h (by decide) dX11_keep_25 (fun h => ?_) (fun h => ?_)
        · refine zt_keep [2, 3, 4, 5] rfl ?_
          exact w_X11_keep_52 N hC x2 x3 x4 v1 M2 h
        · refine zt_iload_n hC rfl dX11_keep_28 ?_
          refine zt_if_lt (tgt := 50) hC h (by decide) dX11_keep_29 (fun h => ?_) (fun h => ?_)
          · refine zt_iconst hC ki_m1 dX11_keep_50 ?_
            obtain rfl := Option.some.inj h
            exact zt_iret hC rfl rfl (Nat.le_of_ble_eq_true rfl) (Nat.le_of_ble_eq_true rfl) dX11_keep_51
          · refine zt_iload_n hC rfl dX11_keep_32 ?_
            refine zt_bipush hC kb_7 dX11_keep_33 ?_
            refine zt_icmp_ge (tgt := 50) hC h (by decide) dX11_keep_35 (fun h => ?_) (fun h => ?_)
            · refine zt_iconst hC ki_m1 dX11_keep_50 ?_
              obtain rfl := Option.some.inj h
              exact zt_iret hC rfl rfl (Nat.le_of_ble_eq_true rfl) (Nat.le_of_ble_eq_true rfl) dX11_keep_51
            · refine zt_iload hC rfl dX11_keep_38 ?_
              refine zt_if_lt (tgt := 50) hC h (by decide) dX11_keep_40 (fun h => ?_) (fun h => ?_)
              · refine zt_iconst hC ki_m1 dX11_keep_50 ?_
                obtain rfl := Option.some.inj h
                exact zt_iret hC rfl rfl (Nat.le_of_ble_eq_true rfl) (Nat.le_of_ble_eq_true rfl) dX11_keep_51
              · refine zt_iload hC rfl dX11_keep_43 ?_
                refine zt_bipush hC kb_9 dX11_keep_45 ?_
                refine zt_icmp_le (tgt := 52) hC h (by decide) dX11_keep_47 (fun h => ?_) (fun h => ?_)
                · refine zt_keep [2, 3, 4, 5] rfl ?_
                  exact w_X11_keep_52 N hC x2 x3 x4 v1 M2 h
                · refine zt_iconst hC ki_m1 dX11_keep_50 ?_
                  obtain rfl := Option.some.inj h
                  exact zt_iret hC rfl rfl (Nat.le_of_ble_eq_true rfl) (Nat.le_of_ble_eq_true rfl) dX11_keep_51
      · refine zt_iconst hC ki_m1 dX11_keep_21 ?_
        obtain rfl := Option.some.inj h
        exact zt_iret hC rfl rfl (Nat.le_of_ble_eq_true rfl) (Nat.le_of_ble_eq_true rfl) dX11_keep_22
def rm_X11_row : Room := { frames := 1, cells := 0, slots := 0, locals := 23 }
theorem hd_X11_row : yX11_row.cls ≠ "java/lang/invoke/MethodHandle" ∧ yX11_row.cls ≠ "java/lang/invoke/VarHandle" ∧ (parseMethodDescriptor yX11_row.desc).map (fun d => d.parameters.length) = some 3 := by decide +kernel
def f_X11_row (N : Nat) (x0 : Nat) (x1 : Int32) (x2 : Int32) (x3 : Int32) (M : Mm) : Option (Int32 × Mm) :=
ck 11 M x0 (bnd (f_X11_shelfAt N x0 x1 M) (fun v1 M2 =>
(onn v1
(some ((-1 : Int32), M2))
(fun v1 =>
(if x2 < 0 then
some ((-1 : Int32), M2)
else
(if (2 : Int32) < x2 then
some ((-1 : Int32), M2)
else
(if x3 ≤ (100 : Int32) then
(if 0 ≤ x3 then
ck 7 M2 v1 (bnd (f_X7_clear N v1 M2) (fun v4 M5 =>
ck 7 M5 v1 (bnd (f_X7_makeRow N v1 x2 x3 M5) (fun v7 M8 =>
some ((0 : Int32), M8)))))
else
some ((-14 : Int32), M2))
else
some ((-1 : Int32), M2))))))))
set_option maxRecDepth 100000 in
set_option maxHeartbeats 4000000 in
theorem c_X11_row (N : Nat) (x0 : Nat) (x1 : Int32) (x2 : Int32) (x3 : Int32) (M : Mm) (r : (Int32 × Mm)) (h : f_X11_row N x0 x1 x2 x3 M = some r) (l : Launch) (hfl : l.flags = flags0) {G : Gl} : MT l G yX11_row cX11_row 5 (some .int) rm_X11_row [.ref x0, .int x1, .int x2, .int x3] M (some (.int r.1)) r.2 := by
  unfold f_X11_row at h
  refine zt_start hfl (lv := [(0, .ref x0), (1, .int x1), (2, .int x2), (3, .int x3)]) (by decide) (Nat.le_of_ble_eq_true rfl) rfl wd_776 (fun X hC _ => ?_)
  refine zt_aload_n hC rfl dX11_row_0 ?_
  refine zt_iload_n hC rfl dX11_row_1 ?_
  obtain ⟨hk, h⟩ := ck_some h
  obtain ⟨v1, M2, h3, h⟩ := bnd_some h
  refine zt_callV (z := yX11_shelfAt) (As := [.int x1]) (rest := []) (st1 := (va_rf v1 :: [])) hC 1 hk cl11 (fun l hl => c_X11_shelfAt N x0 x1 M (v1, M2) h3 l hl) rfl wd_263 wd_260 wd_262 ws_1 wd_1 hd_X11_shelfAt rfl ⟨⟨(Nat.le_of_ble_eq_true rfl), (Nat.le_of_ble_eq_true rfl)⟩, (Nat.le_of_ble_eq_true rfl), (Nat.le_of_ble_eq_true rfl)⟩ rfl (Nat.le_of_ble_eq_true rfl) rfl dX11_row_2 ?_
  rcases onn_some h with ⟨ew, hw⟩ | ⟨qq, ew, hw⟩
  · clear h
    subst ew
    have h := hw
    clear hw
    refine zt_astoreN (lv' := [(4, .null), (0, .ref x0), (1, .int x1), (2, .int x2), (3, .int x3)]) hC (by decide) rfl dX11_row_5 ?_
    refine zt_aloadN hC rfl dX11_row_7 ?_
    refine zt_ifnullN (tgt := 27) hC (by decide) dX11_row_9 ?_
    refine zt_iconst hC ki_m1 dX11_row_27 ?_
    obtain rfl := Option.some.inj h
    exact zt_iret hC rfl rfl (Nat.le_of_ble_eq_true rfl) (Nat.le_of_ble_eq_true rfl) dX11_row_28
  · clear h
    subst ew
    have h := hw
    clear hw
    obtain ⟨v1, ev⟩ : ∃ q, q = qq := ⟨_, rfl⟩
    subst ev
    refine zt_astore (lv' := [(4, .ref v1), (0, .ref x0), (1, .int x1), (2, .int x2), (3, .int x3)]) hC (by decide) rfl dX11_row_5 ?_
    refine zt_aload hC rfl dX11_row_7 ?_
    refine zt_ifnull hC dX11_row_9 ?_
    refine zt_iload_n hC rfl dX11_row_12 ?_
    refine zt_if_lt (tgt := 27) hC h (by decide) dX11_row_13 (fun h => ?_) (fun h => ?_)
    · refine zt_iconst hC ki_m1 dX11_row_27 ?_
      obtain rfl := Option.some.inj h
      exact zt_iret hC rfl rfl (Nat.le_of_ble_eq_true rfl) (Nat.le_of_ble_eq_true rfl) dX11_row_28
    · refine zt_iload_n hC rfl dX11_row_16 ?_
      refine zt_iconst hC ki_2 dX11_row_17 ?_
      refine zt_icmp_gt (tgt := 27) hC h (by decide) dX11_row_18 (fun h => ?_) (fun h => ?_)
      · refine zt_iconst hC ki_m1 dX11_row_27 ?_
        obtain rfl := Option.some.inj h
        exact zt_iret hC rfl rfl (Nat.le_of_ble_eq_true rfl) (Nat.le_of_ble_eq_true rfl) dX11_row_28
      · refine zt_iload_n hC rfl dX11_row_21 ?_
        refine zt_bipush hC kb_100 dX11_row_22 ?_
        refine zt_icmp_le (tgt := 29) hC h (by decide) dX11_row_24 (fun h => ?_) (fun h => ?_)
        · refine zt_iload_n hC rfl dX11_row_29 ?_
          refine zt_if_ge (tgt := 36) hC h (by decide) dX11_row_30 (fun h => ?_) (fun h => ?_)
          · refine zt_aload hC rfl dX11_row_36 ?_
            obtain ⟨hk, h⟩ := ck_some h
            obtain ⟨v4, M5, h6, h⟩ := bnd_some h
            refine zt_callV (z := yX7_clear) (As := []) (rest := []) (st1 := []) hC 0 hk cl7 (fun l hl => c_X7_clear N v1 M2 (v4, M5) h6 l hl) rfl wd_772 wd_769 wd_770 wd_771 wd_6 hd_X7_clear rfl ⟨⟨(Nat.le_of_ble_eq_true rfl), (Nat.le_of_ble_eq_true rfl)⟩, (Nat.le_of_ble_eq_true rfl), (Nat.le_of_ble_eq_true rfl)⟩ rfl (Nat.le_of_ble_eq_true rfl) rfl dX11_row_38 ?_
            refine zt_aload hC rfl dX11_row_41 ?_
            refine zt_iload_n hC rfl dX11_row_43 ?_
            refine zt_iload_n hC rfl dX11_row_44 ?_
            obtain ⟨hk, h⟩ := ck_some h
            obtain ⟨v7, M8, h9, h⟩ := bnd_some h
            refine zt_callV (z := yX7_makeRow) (As := [.int x2, .int x3]) (rest := []) (st1 := []) hC 2 hk cl7 (fun l hl => c_X7_makeRow N v1 x2 x3 M5 (v7, M8) h9 l hl) rfl wd_780 wd_777 wd_778 wd_779 wd_6 hd_X7_makeRow rfl ⟨⟨(Nat.le_of_ble_eq_true rfl), (Nat.le_of_ble_eq_true rfl)⟩, (Nat.le_of_ble_eq_true rfl), (Nat.le_of_ble_eq_true rfl)⟩ rfl (Nat.le_of_ble_eq_true rfl) rfl dX11_row_45 ?_
            refine zt_iconst hC ki_0 dX11_row_48 ?_
            obtain rfl := Option.some.inj h
            exact zt_iret hC rfl rfl (Nat.le_of_ble_eq_true rfl) (Nat.le_of_ble_eq_true rfl) dX11_row_49
          · refine zt_bipush hC kb_m14 dX11_row_33 ?_
            obtain rfl := Option.some.inj h
            exact zt_iret hC rfl rfl (Nat.le_of_ble_eq_true rfl) (Nat.le_of_ble_eq_true rfl) dX11_row_35
        · refine zt_iconst hC ki_m1 dX11_row_27 ?_
          obtain rfl := Option.some.inj h
          exact zt_iret hC rfl rfl (Nat.le_of_ble_eq_true rfl) (Nat.le_of_ble_eq_true rfl) dX11_row_28
