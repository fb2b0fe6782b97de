def rm_X10_takeLandings : Room := { frames := 1, cells := 0, slots := 0, locals := 25 }
theorem hd_X10_takeLandings : yX10_takeLandings.cls ≠ "java/lang/invoke/MethodHandle" ∧ yX10_takeLandings.cls ≠ "java/lang/invoke/VarHandle" ∧ (parseMethodDescriptor yX10_takeLandings.desc).map (fun d => d.parameters.length) = some 1 := by decide +kernel
def b_X10_takeLandings_42 (N : Nat) (k42 : Nat → Int32 → Int32 → Mm → Option (Int32 × Mm)) (x0 : Nat) (x1 : Int32) (x2 : Int32) (M : Mm) : Option (Int32 × Mm) :=
gI 10 M x0 2 (fun v1 =>
(if v1 ≤ x2 then
pI 10 M x0 0 x1 (fun M2 =>
some ((1 : Int32), M2))
else
ck 10 M x0 (bnd (f_X10_ofSort N x0 x2 (0 : Int32) M) (fun v3 M4 =>
(if x1 ≤ v3 then
some ((0 : Int32), M4)
else
ck 10 M4 x0 (bnd (f_X10_ofSort N x0 x2 (1 : Int32) M4) (fun v6 M7 =>
(if v6 < x1 then
k42 x0 x1 (x2 + (1 : Int32)) M7
else
some ((0 : Int32), M7)))))))))
def l_X10_takeLandings_42 (N : Nat) : Nat → Nat → Int32 → Int32 → Mm → Option (Int32 × Mm)
  | 0 => fun _ _ _ _ => none
  | n + 1 => b_X10_takeLandings_42 N (l_X10_takeLandings_42 N n)
set_option maxRecDepth 100000 in
set_option maxHeartbeats 4000000 in
theorem v_X10_takeLandings_42 {X : Cx} {G : Gl} {r : (Int32 × Mm)} (N : Nat) (hC : CX X G yX10_takeLandings cX10_takeLandings 3 (some .boolean) rm_X10_takeLandings) (k42 : Nat → Int32 → Int32 → Mm → Option (Int32 × Mm)) (hk42 : ∀ (x0 : Nat) (x1 : Int32) (x2 : Int32) (M : Mm), k42 x0 x1 x2 M = some r → TW X G 3 (RQ X G (some (.int r.1)) r.2 rm_X10_takeLandings) 0 0 M 42 [(0, .ref x0), (1, .int x1), (2, .int x2)] []) (x0 : Nat) (x1 : Int32) (x2 : Int32) (M : Mm) (h : b_X10_takeLandings_42 N k42 x0 x1 x2 M = some r) : TW X G 3 (RQ X G (some (.int r.1)) r.2 rm_X10_takeLandings) 0 0 M 42 [(0, .ref x0), (1, .int x1), (2, .int x2)] [] := by
  unfold b_X10_takeLandings_42 at h
  refine zt_iload_n hC rfl dX10_takeLandings_42 ?_
  refine zt_aload_n hC rfl dX10_takeLandings_43 ?_
  refine zt_gI hC h cl10 (k := 2) (by decide) rfl wd_110 (Or.inl rfl) dX10_takeLandings_44 (fun v1 h => ?_)
  refine zt_icmp_ge (tgt := 78) hC h (by decide) dX10_takeLandings_47 (fun h => ?_) (fun h => ?_)
  · refine zt_aload_n hC rfl dX10_takeLandings_78 ?_
    refine zt_iload_n hC rfl dX10_takeLandings_79 ?_
    refine zt_pI hC h cl10 (k := 0) (by decide) rfl wd_102 (Or.inl rfl) (Or.inl rfl) dX10_takeLandings_80 (fun M2 h => ?_)
    refine zt_iconst hC ki_1 dX10_takeLandings_83 ?_
    obtain rfl := Option.some.inj h
    exact zt_zret hC rfl rfl (Or.inr rfl) (Nat.le_of_ble_eq_true rfl) (Nat.le_of_ble_eq_true rfl) dX10_takeLandings_84
  · refine zt_aload_n hC rfl dX10_takeLandings_50 ?_
    refine zt_iload_n hC rfl dX10_takeLandings_51 ?_
    refine zt_iconst hC ki_0 dX10_takeLandings_52 ?_
    obtain ⟨hk, h⟩ := ck_some h
    obtain ⟨v3, M4, h5, h⟩ := bnd_some h
    refine zt_callV (z := yX10_ofSort) (As := [.int x2, .int (0 : Int32)]) (rest := []) (st1 := (.int v3 :: [])) hC 2 hk cl10 (fun l hl => c_X10_ofSort N x0 x2 (0 : Int32) M (v3, M4) h5 l hl) rfl wd_346 wd_343 wd_344 wd_345 wd_2 hd_X10_ofSort rfl ⟨⟨(Nat.le_of_ble_eq_true rfl), (Nat.le_of_ble_eq_true rfl)⟩, (Nat.le_of_ble_eq_true rfl), (Nat.le_of_ble_eq_true rfl)⟩ rfl (Nat.le_of_ble_eq_true rfl) rfl dX10_takeLandings_53 ?_
    refine zt_iload_n hC rfl dX10_takeLandings_56 ?_
    refine zt_icmp_ge (tgt := 70) hC h (by decide) dX10_takeLandings_57 (fun h => ?_) (fun h => ?_)
    · refine zt_iconst hC ki_0 dX10_takeLandings_70 ?_
      obtain rfl := Option.some.inj h
      exact zt_zret hC rfl rfl (Or.inl rfl) (Nat.le_of_ble_eq_true rfl) (Nat.le_of_ble_eq_true rfl) dX10_takeLandings_71
    · refine zt_aload_n hC rfl dX10_takeLandings_60 ?_
      refine zt_iload_n hC rfl dX10_takeLandings_61 ?_
      refine zt_iconst hC ki_1 dX10_takeLandings_62 ?_
      obtain ⟨hk, h⟩ := ck_some h
      obtain ⟨v6, M7, h8, h⟩ := bnd_some h
      refine zt_callV (z := yX10_ofSort) (As := [.int x2, .int (1 : Int32)]) (rest := []) (st1 := (.int v6 :: [])) hC 2 hk cl10 (fun l hl => c_X10_ofSort N x0 x2 (1 : Int32) M4 (v6, M7) h8 l hl) rfl wd_346 wd_343 wd_344 wd_345 wd_2 hd_X10_ofSort rfl ⟨⟨(Nat.le_of_ble_eq_true rfl), (Nat.le_of_ble_eq_true rfl)⟩, (Nat.le_of_ble_eq_true rfl), (Nat.le_of_ble_eq_true rfl)⟩ rfl (Nat.le_of_ble_eq_true rfl) rfl dX10_takeLandings_63 ?_
      refine zt_iload_n hC rfl dX10_takeLandings_66 ?_
      refine zt_icmp_lt (tgt := 72) hC h (by decide) dX10_takeLandings_67 (fun h => ?_) (fun h => ?_)
      · refine zt_iinc (v := (x2 + (1 : Int32))) (lv' := [(2, .int (x2 + (1 : Int32))), (0, .ref x0), (1, .int x1)]) hC rfl (by rw [ki_1]) (by decide) rfl dX10_takeLandings_72 ?_
        refine zt_goto (tgt := 42) hC (by decide) dX10_takeLandings_75 ?_
        refine zt_keep [0, 1, 2] rfl ?_
        exact hk42 x0 x1 (x2 + (1 : Int32)) M7 h
      · refine zt_iconst hC ki_0 dX10_takeLandings_70 ?_
        obtain rfl := Option.some.inj h
        exact zt_zret hC rfl rfl (Or.inl rfl) (Nat.le_of_ble_eq_true rfl) (Nat.le_of_ble_eq_true rfl) dX10_takeLandings_71
theorem w_X10_takeLandings_42 {X : Cx} {G : Gl} {r : (Int32 × Mm)} (N : Nat) (hC : CX X G yX10_takeLandings cX10_takeLandings 3 (some .boolean) rm_X10_takeLandings) (n : Nat) : ∀ (x0 : Nat) (x1 : Int32) (x2 : Int32) (M : Mm), l_X10_takeLandings_42 N n x0 x1 x2 M = some r → TW X G 3 (RQ X G (some (.int r.1)) r.2 rm_X10_takeLandings) 0 0 M 42 [(0, .ref x0), (1, .int x1), (2, .int x2)] [] := by
  induction n with
  | zero => intro  x0 x1 x2 M h; cases (show none = some r from h)
  | succ n ih => intro  x0 x1 x2 M h; exact v_X10_takeLandings_42 N hC (l_X10_takeLandings_42 N n) ih x0 x1 x2 M h
def f_X10_takeLandings (N : Nat) (x0 : Nat) (x1 : Int32) (M : Mm) : Option (Int32 × Mm) :=
(if x1 < (2 : Int32) then
some ((0 : Int32), M)
else
(if (4 : Int32) < x1 then
some ((0 : Int32), M)
else
ck 10 M x0 (bnd (f_X10_standingInAll N x0 M) (fun v1 M2 =>
(if 0 < v1 then
some ((0 : Int32), M2)
else
gR 10 M2 x0 7 (fun v4 =>
gI 1 M2 v4 2 (fun v5 =>
(if 0 < v5 then
some ((0 : Int32), M2)
else
gR 10 M2 x0 7 (fun v6 =>
gI 1 M2 v6 0 (fun v7 =>
(if v7 < x1 then
l_X10_takeLandings_42 N N x0 x1 (0 : Int32) M2
else
some ((0 : Int32), M2))))))))))))
set_option maxRecDepth 100000 in
set_option maxHeartbeats 4000000 in
theorem c_X10_takeLandings (N : Nat) (x0 : Nat) (x1 : Int32) (M : Mm) (r : (Int32 × Mm)) (h : f_X10_takeLandings N x0 x1 M = some r) (l : Launch) (hfl : l.flags = flags0) {G : Gl} : MT l G yX10_takeLandings cX10_takeLandings 3 (some .boolean) rm_X10_takeLandings [.ref x0, .int x1] M (some (.int r.1)) r.2 := by
  unfold f_X10_takeLandings at h
  refine zt_start hfl (lv := [(0, .ref x0), (1, .int x1)]) (by decide) (Nat.le_of_ble_eq_true rfl) rfl wd_338 (fun X hC _ => ?_)
  refine zt_iload_n hC rfl dX10_takeLandings_0 ?_
  refine zt_iconst hC ki_2 dX10_takeLandings_1 ?_
  refine zt_icmp_lt (tgt := 38) hC h (by decide) dX10_takeLandings_2 (fun h => ?_) (fun h => ?_)
  · refine zt_iconst hC ki_0 dX10_takeLandings_38 ?_
    obtain rfl := Option.some.inj h
    exact zt_zret hC rfl rfl (Or.inl rfl) (Nat.le_of_ble_eq_true rfl) (Nat.le_of_ble_eq_true rfl) dX10_takeLandings_39
  · refine zt_iload_n hC rfl dX10_takeLandings_5 ?_
    refine zt_iconst hC ki_4 dX10_takeLandings_6 ?_
    refine zt_icmp_gt (tgt := 38) hC h (by decide) dX10_takeLandings_7 (fun h => ?_) (fun h => ?_)
    · refine zt_iconst hC ki_0 dX10_takeLandings_38 ?_
      obtain rfl := Option.some.inj h
      exact zt_zret hC rfl rfl (Or.inl rfl) (Nat.le_of_ble_eq_true rfl) (Nat.le_of_ble_eq_true rfl) dX10_takeLandings_39
    · refine zt_aload_n hC rfl dX10_takeLandings_10 ?_
      obtain ⟨hk, h⟩ := ck_some h
      obtain ⟨v1, M2, h3, h⟩ := bnd_some h
      refine zt_callV (z := yX10_standingInAll) (As := []) (rest := []) (st1 := (.int v1 :: [])) hC 0 hk cl10 (fun l hl => c_X10_standingInAll N x0 M (v1, M2) h3 l hl) rfl wd_342 wd_339 wd_340 wd_341 wd_2 hd_X10_standingInAll rfl ⟨⟨(Nat.le_of_ble_eq_true rfl), (Nat.le_of_ble_eq_true rfl)⟩, (Nat.le_of_ble_eq_true rfl), (Nat.le_of_ble_eq_true rfl)⟩ rfl (Nat.le_of_ble_eq_true rfl) rfl dX10_takeLandings_11 ?_
      refine zt_if_gt (tgt := 38) hC h (by decide) dX10_takeLandings_14 (fun h => ?_) (fun h => ?_)
      · refine zt_iconst hC ki_0 dX10_takeLandings_38 ?_
        obtain rfl := Option.some.inj h
        exact zt_zret hC rfl rfl (Or.inl rfl) (Nat.le_of_ble_eq_true rfl) (Nat.le_of_ble_eq_true rfl) dX10_takeLandings_39
      · refine zt_aload_n hC rfl dX10_takeLandings_17 ?_
        refine zt_gR hC h cl10 (k := 7) (by decide) rfl wd_121 (Or.inl rfl) dX10_takeLandings_18 (fun v4 h => ?_)
        refine zt_gI hC h cl1 (k := 2) (by decide) rfl wd_82 (Or.inl rfl) dX10_takeLandings_21 (fun v5 h => ?_)
        refine zt_if_gt (tgt := 38) hC h (by decide) dX10_takeLandings_24 (fun h => ?_) (fun h => ?_)
        · refine zt_iconst hC ki_0 dX10_takeLandings_38 ?_
          obtain rfl := Option.some.inj h
          exact zt_zret hC rfl rfl (Or.inl rfl) (Nat.le_of_ble_eq_true rfl) (Nat.le_of_ble_eq_true rfl) dX10_takeLandings_39
        · refine zt_aload_n hC rfl dX10_takeLandings_27 ?_
          refine zt_gR hC h cl10 (k := 7) (by decide) rfl wd_121 (Or.inl rfl) dX10_takeLandings_28 (fun v6 h => ?_)
          refine zt_gI hC h cl1 (k := 0) (by decide) rfl wd_72 (Or.inl rfl) dX10_takeLandings_31 (fun v7 h => ?_)
          refine zt_iload_n hC rfl dX10_takeLandings_34 ?_
          refine zt_icmp_lt (tgt := 40) hC h (by decide) dX10_takeLandings_35 (fun h => ?_) (fun h => ?_)
          · refine zt_iconst hC ki_0 dX10_takeLandings_40 ?_
            refine zt_istore_n (lv' := [(2, .int (0 : Int32)), (0, .ref x0), (1, .int x1)]) hC (by decide) rfl dX10_takeLandings_41 ?_
            refine zt_keep [0, 1, 2] rfl ?_
            exact w_X10_takeLandings_42 N hC N x0 x1 (0 : Int32) M2 h
          · refine zt_iconst hC ki_0 dX10_takeLandings_38 ?_
            obtain rfl := Option.some.inj h
            exact zt_zret hC rfl rfl (Or.inl rfl) (Nat.le_of_ble_eq_true rfl) (Nat.le_of_ble_eq_true rfl) dX10_takeLandings_39
def rm_X10_takeSeats : Room := { frames := 0, cells := 0, slots := 0, locals := 0 }
theorem hd_X10_takeSeats : yX10_takeSeats.cls ≠ "java/lang/invoke/MethodHandle" ∧ yX10_takeSeats.cls ≠ "java/lang/invoke/VarHandle" ∧ (parseMethodDescriptor yX10_takeSeats.desc).map (fun d => d.parameters.length) = some 1 := by decide +kernel
def f_X10_takeSeats (N : Nat) (x0 : Nat) (x1 : Int32) (M : Mm) : Option (Int32 × Mm) :=
(if x1 < (1 : Int32) then
some ((0 : Int32), M)
else
(if (6 : Int32) < x1 then
some ((0 : Int32), M)
else
gR 10 M x0 7 (fun v1 =>
gI 1 M v1 2 (fun v2 =>
(if v2 ≤ x1 then
pI 10 M x0 4 x1 (fun M3 =>
some ((1 : Int32), M3))
else
some ((0 : Int32), M))))))
set_option maxRecDepth 100000 in
set_option maxHeartbeats 4000000 in
theorem c_X10_takeSeats (N : Nat) (x0 : Nat) (x1 : Int32) (M : Mm) (r : (Int32 × Mm)) (h : f_X10_takeSeats N x0 x1 M = some r) (l : Launch) (hfl : l.flags = flags0) {G : Gl} : MT l G yX10_takeSeats cX10_takeSeats 2 (some .boolean) rm_X10_takeSeats [.ref x0, .int x1] M (some (.int r.1)) r.2 := by
  unfold f_X10_takeSeats at h
  refine zt_start hfl (lv := [(0, .ref x0), (1, .int x1)]) (by decide) (Nat.le_of_ble_eq_true rfl) rfl wd_350 (fun X hC _ => ?_)
  refine zt_iload_n hC rfl dX10_takeSeats_0 ?_
  refine zt_iconst hC ki_1 dX10_takeSeats_1 ?_
  refine zt_icmp_lt (tgt := 22) hC h (by decide) dX10_takeSeats_2 (fun h => ?_) (fun h => ?_)
  · refine zt_iconst hC ki_0 dX10_takeSeats_22 ?_
    obtain rfl := Option.some.inj h
    exact zt_zret hC rfl rfl (Or.inl rfl) (Nat.le_of_ble_eq_true rfl) (Nat.le_of_ble_eq_true rfl) dX10_takeSeats_23
  · refine zt_iload_n hC rfl dX10_takeSeats_5 ?_
    refine zt_bipush hC kb_6 dX10_takeSeats_6 ?_
    refine zt_icmp_gt (tgt := 22) hC h (by decide) dX10_takeSeats_8 (fun h => ?_) (fun h => ?_)
    · refine zt_iconst hC ki_0 dX10_takeSeats_22 ?_
      obtain rfl := Option.some.inj h
      exact zt_zret hC rfl rfl (Or.inl rfl) (Nat.le_of_ble_eq_true rfl) (Nat.le_of_ble_eq_true rfl) dX10_takeSeats_23
    · refine zt_iload_n hC rfl dX10_takeSeats_11 ?_
      refine zt_aload_n hC rfl dX10_takeSeats_12 ?_
      refine zt_gR hC h cl10 (k := 7) (by decide) rfl wd_121 (Or.inl rfl) dX10_takeSeats_13 (fun v1 h => ?_)
      refine zt_gI hC h cl1 (k := 2) (by decide) rfl wd_82 (Or.inl rfl) dX10_takeSeats_16 (fun v2 h => ?_)
      refine zt_icmp_ge (tgt := 24) hC h (by decide) dX10_takeSeats_19 (fun h => ?_) (fun h => ?_)
      · refine zt_aload_n hC rfl dX10_takeSeats_24 ?_
        refine zt_iload_n hC rfl dX10_takeSeats_25 ?_
        refine zt_pI hC h cl10 (k := 4) (by decide) rfl wd_113 (Or.inl rfl) (Or.inl rfl) dX10_takeSeats_26 (fun M3 h => ?_)
        refine zt_iconst hC ki_1 dX10_takeSeats_29 ?_
        obtain rfl := Option.some.inj h
        exact zt_zret hC rfl rfl (Or.inr rfl) (Nat.le_of_ble_eq_true rfl) (Nat.le_of_ble_eq_true rfl) dX10_takeSeats_30
      · refine zt_iconst hC ki_0 dX10_takeSeats_22 ?_
        obtain rfl := Option.some.inj h
        exact zt_zret hC rfl rfl (Or.inl rfl) (Nat.le_of_ble_eq_true rfl) (Nat.le_of_ble_eq_true rfl) dX10_takeSeats_23
def rm_X10_changeSort : Room := { frames := 1, cells := 0, slots := 0, locals := 22 }
theorem hd_X10_changeSort : yX10_changeSort.cls ≠ "java/lang/invoke/MethodHandle" ∧ yX10_changeSort.cls ≠ "java/lang/invoke/VarHandle" ∧ (parseMethodDescriptor yX10_changeSort.desc).map (fun d => d.parameters.length) = some 3 := by decide +kernel
def f_X10_changeSort (N : Nat) (x0 : Nat) (x1 : Int32) (x2 : Int32) (x3 : Int32) (M : Mm) : Option (Unit × Mm) :=
gR 10 M x0 3 (fun v1 =>
bnd (f_X11_change N v1 ((x1 * (5 : Int32)) + x2) x3 M) (fun v2 M3 =>
some ((), M3)))
set_option maxRecDepth 100000 in
set_option maxHeartbeats 4000000 in
theorem c_X10_changeSort (N : Nat) (x0 : Nat) (x1 : Int32) (x2 : Int32) (x3 : Int32) (M : Mm) (r : (Unit × Mm)) (h : f_X10_changeSort N x0 x1 x2 x3 M = some r) (l : Launch) (hfl : l.flags = flags0) {G : Gl} : MT l G yX10_changeSort cX10_changeSort 4 none rm_X10_changeSort [.ref x0, .int x1, .int x2, .int x3] M none r.2 := by
  unfold f_X10_changeSort at h
  refine zt_start hfl (lv := [(0, .ref x0), (1, .int x1), (2, .int x2), (3, .int x3)]) (by decide) (Nat.le_of_ble_eq_true rfl) rfl wd_367 (fun X hC _ => ?_)
  refine zt_aload_n hC rfl dX10_changeSort_0 ?_
  refine zt_gR hC h cl10 (k := 3) (by decide) rfl wd_112 (Or.inl rfl) dX10_changeSort_1 (fun v1 h => ?_)
  refine zt_iload_n hC rfl dX10_changeSort_4 ?_
  refine zt_iconst hC ki_5 dX10_changeSort_5 ?_
  refine zt_imul hC dX10_changeSort_6 ?_
  refine zt_iload_n hC rfl dX10_changeSort_7 ?_
  refine zt_iadd hC dX10_changeSort_8 ?_
  refine zt_iload_n hC rfl dX10_changeSort_9 ?_
  obtain ⟨v2, M3, h4, h⟩ := bnd_some h
  refine zt_callSN (z := yX11_change) (As := [.ref v1, .int ((x1 * (5 : Int32)) + x2), .int x3]) (rest := []) (st1 := []) hC 3 (fun l hl => c_X11_change N v1 ((x1 * (5 : Int32)) + x2) x3 M (v2, M3) h4 l hl) wd_299 (by decide) wd_298 wd_1 hd_X11_change rfl ⟨⟨(Nat.le_of_ble_eq_true rfl), (Nat.le_of_ble_eq_true rfl)⟩, (Nat.le_of_ble_eq_true rfl), (Nat.le_of_ble_eq_true rfl)⟩ rfl (Nat.le_of_ble_eq_true rfl) rfl dX10_changeSort_10 ?_
  obtain rfl := Option.some.inj h
  exact zt_vret hC rfl rfl (Nat.le_of_ble_eq_true rfl) (Nat.le_of_ble_eq_true rfl) dX10_changeSort_13
def rm_X10_hasLanding : Room := { frames := 0, cells := 0, slots := 0, locals := 0 }
theorem hd_X10_hasLanding : yX10_hasLanding.cls ≠ "java/lang/invoke/MethodHandle" ∧ yX10_hasLanding.cls ≠ "java/lang/invoke/VarHandle" ∧ (parseMethodDescriptor yX10_hasLanding.desc).map (fun d => d.parameters.length) = some 1 := by decide +kernel
def f_X10_hasLanding (N : Nat) (x0 : Nat) (x1 : Int32) (M : Mm) : Option (Int32 × Mm) :=
(if x1 < 0 then
some ((0 : Int32), M)
else
gI 10 M x0 0 (fun v1 =>
(if v1 ≤ x1 then
some ((0 : Int32), M)
else
some ((1 : Int32), M))))
set_option maxRecDepth 100000 in
set_option maxHeartbeats 4000000 in
theorem c_X10_hasLanding (N : Nat) (x0 : Nat) (x1 : Int32) (M : Mm) (r : (Int32 × Mm)) (h : f_X10_hasLanding N x0 x1 M = some r) (l : Launch) (hfl : l.flags = flags0) {G : Gl} : MT l G yX10_hasLanding cX10_hasLanding 2 (some .boolean) rm_X10_hasLanding [.ref x0, .int x1] M (some (.int r.1)) r.2 := by
  unfold f_X10_hasLanding at h
  refine zt_start hfl (lv := [(0, .ref x0), (1, .int x1)]) (by decide) (Nat.le_of_ble_eq_true rfl) rfl wd_358 (fun X hC _ => ?_)
  refine zt_iload_n hC rfl dX10_hasLanding_0 ?_
  refine zt_if_lt (tgt := 16) hC h (by decide) dX10_hasLanding_1 (fun h => ?_) (fun h => ?_)
  · refine zt_iconst hC ki_0 dX10_hasLanding_16 ?_
    obtain rfl := Option.some.inj h
    exact zt_zret hC rfl rfl (Or.inl rfl) (Nat.le_of_ble_eq_true rfl) (Nat.le_of_ble_eq_true rfl) dX10_hasLanding_17
  · refine zt_iload_n hC rfl dX10_hasLanding_4 ?_
    refine zt_aload_n hC rfl dX10_hasLanding_5 ?_
    refine zt_gI hC h cl10 (k := 0) (by decide) rfl wd_102 (Or.inl rfl) dX10_hasLanding_6 (fun v1 h => ?_)
    refine zt_icmp_ge (tgt := 16) hC h (by decide) dX10_hasLanding_9 (fun h => ?_) (fun h => ?_)
    · refine zt_iconst hC ki_0 dX10_hasLanding_16 ?_
      obtain rfl := Option.some.inj h
      exact zt_zret hC rfl rfl (Or.inl rfl) (Nat.le_of_ble_eq_true rfl) (Nat.le_of_ble_eq_true rfl) dX10_hasLanding_17
    · refine zt_iconst hC ki_1 dX10_hasLanding_12 ?_
      refine zt_goto (tgt := 17) hC (by decide) dX10_hasLanding_13 ?_
      obtain rfl := Option.some.inj h
      exact zt_zret hC rfl rfl (Or.inr rfl) (Nat.le_of_ble_eq_true rfl) (Nat.le_of_ble_eq_true rfl) dX10_hasLanding_17
def rm_X10_takeSort : Room := { frames := 2, cells := 0, slots := 0, locals := 45 }
theorem hd_X10_takeSort : yX10_takeSort.cls ≠ "java/lang/invoke/MethodHandle" ∧ yX10_takeSort.cls ≠ "java/lang/invoke/VarHandle" ∧ (parseMethodDescriptor yX10_takeSort.desc).map (fun d => d.parameters.length) = some 5 := by decide +kernel
def f_X10_takeSort (N : Nat) (x0 : Nat) (x1 : Int32) (x2 : Int32) (x3 : Int32) (x4 : Int32) (x5 : Int32) (M : Mm) : Option (Int32 × Mm) :=
gI 10 M x0 2 (fun v1 =>
(if (5 : Int32) ≤ v1 then
some ((0 : Int32), M)
else
ck 10 M x0 (bnd (f_X10_hasLanding N x0 x1 M) (fun v2 M3 =>
(if v2 = 0 then
some ((0 : Int32), M3)
else
ck 10 M3 x0 (bnd (f_X10_hasLanding N x0 x2 M3) (fun v5 M6 =>
(if v5 = 0 then
some ((0 : Int32), M6)
else
(if x1 = x2 then
some ((0 : Int32), M6)
else
(if x3 < 0 then
some ((0 : Int32), M6)
else
(if (100 : Int32) < x3 then
some ((0 : Int32), M6)
else
(if x4 < (1 : Int32) then
some ((0 : Int32), M6)
else
(if (20 : Int32) < x4 then
some ((0 : Int32), M6)
else
(if x5 < 0 then
some ((0 : Int32), M6)
else
(if x5 ≤ (99 : Int32) then
gI 10 M6 x0 2 (fun v8 =>
ck 10 M6 x0 (bnd (f_X10_changeSort N x0 v8 (0 : Int32) x1 M6) (fun v9 M10 =>
gI 10 M10 x0 2 (fun v12 =>
ck 10 M10 x0 (bnd (f_X10_changeSort N x0 v12 (1 : Int32) x2 M10) (fun v13 M14 =>
gI 10 M14 x0 2 (fun v16 =>
ck 10 M14 x0 (bnd (f_X10_changeSort N x0 v16 (2 : Int32) x3 M14) (fun v17 M18 =>
gI 10 M18 x0 2 (fun v20 =>
ck 10 M18 x0 (bnd (f_X10_changeSort N x0 v20 (3 : Int32) x4 M18) (fun v21 M22 =>
gI 10 M22 x0 2 (fun v24 =>
ck 10 M22 x0 (bnd (f_X10_changeSort N x0 v24 (4 : Int32) x5 M22) (fun v25 M26 =>
gI 10 M26 x0 2 (fun v28 =>
pI 10 M26 x0 2 (v28 + (1 : Int32)) (fun M29 =>
some ((1 : Int32), M29))))))))))))))))))
else
some ((0 : Int32), M6))))))))))))))))
set_option maxRecDepth 100000 in
set_option maxHeartbeats 4000000 in
theorem c_X10_takeSort (N : Nat) (x0 : Nat) (x1 : Int32) (x2 : Int32) (x3 : Int32) (x4 : Int32) (x5 : Int32) (M : Mm) (r : (Int32 × Mm)) (h : f_X10_takeSort N x0 x1 x2 x3 x4 x5 M = some r) (l : Launch) (hfl : l.flags = flags0) {G : Gl} : MT l G yX10_takeSort cX10_takeSort 6 (some .boolean) rm_X10_takeSort [.ref x0, .int x1, .int x2, .int x3, .int x4, .int x5] M (some (.int r.1)) r.2 := by
  unfold f_X10_takeSort at h
  refine zt_start hfl (lv := [(0, .ref x0), (1, .int x1), (2, .int x2), (3, .int x3), (4, .int x4), (5, .int x5)]) (by decide) (Nat.le_of_ble_eq_true rfl) rfl wd_363 (fun X hC _ => ?_)
  refine zt_aload_n hC rfl dX10_takeSort_0 ?_
  refine zt_gI hC h cl10 (k := 2) (by decide) rfl wd_110 (Or.inl rfl) dX10_takeSort_1 (fun v1 h => ?_)
  refine zt_iconst hC ki_5 dX10_takeSort_4 ?_
  refine zt_icmp_ge (tgt := 29) hC h (by decide) dX10_takeSort_5 (fun h => ?_) (fun h => ?_)
  · refine zt_iconst hC ki_0 dX10_takeSort_29 ?_
    obtain rfl := Option.some.inj h
    exact zt_zret hC rfl rfl (Or.inl rfl) (Nat.le_of_ble_eq_true rfl) (Nat.le_of_ble_eq_true rfl) dX10_takeSort_30
  · refine zt_aload_n hC rfl dX10_takeSort_8 ?_
    refine zt_iload_n hC rfl dX10_takeSort_9 ?_
    obtain ⟨hk, h⟩ := ck_some h
    obtain ⟨v2, M3, h4, h⟩ := bnd_some h
    refine zt_callV (z := yX10_hasLanding) (As := [.int x1]) (rest := []) (st1 := (.int v2 :: [])) hC 1 hk cl10 (fun l hl => c_X10_hasLanding N x0 x1 M (v2, M3) h4 l hl) rfl wd_358 wd_355 wd_356 wd_357 wd_2 hd_X10_hasLanding rfl ⟨⟨(Nat.le_of_ble_eq_true rfl), (Nat.le_of_ble_eq_true rfl)⟩, (Nat.le_of_ble_eq_true rfl), (Nat.le_of_ble_eq_true rfl)⟩ rfl (Nat.le_of_ble_eq_true rfl) rfl dX10_takeSort_10 ?_
    refine zt_if_eq (tgt := 29) hC h (by decide) dX10_takeSort_13 (fun h => ?_) (fun h => ?_)
    · refine zt_iconst hC ki_0 dX10_takeSort_29 ?_
      obtain rfl := Option.some.inj h
      exact zt_zret hC rfl rfl (Or.inl rfl) (Nat.le_of_ble_eq_true rfl) (Nat.le_of_ble_eq_true rfl) dX10_takeSort_30
    · refine zt_aload_n hC rfl dX10_takeSort_16 ?_
      refine zt_iload_n hC rfl dX10_takeSort_17 ?_
      obtain ⟨hk, h⟩ := ck_some h
      obtain ⟨v5, M6, h7, h⟩ := bnd_some h
      refine zt_callV (z := yX10_hasLanding) (As := [.int x2]) (rest := []) (st1 := (.int v5 :: [])) hC 1 hk cl10 (fun l hl => c_X10_hasLanding N x0 x2 M3 (v5, M6) h7 l hl) rfl wd_358 wd_355 wd_356 wd_357 wd_2 hd_X10_hasLanding rfl ⟨⟨(Nat.le_of_ble_eq_true rfl), (Nat.le_of_ble_eq_true rfl)⟩, (Nat.le_of_ble_eq_true rfl), (Nat.le_of_ble_eq_true rfl)⟩ rfl (Nat.le_of_ble_eq_true rfl) rfl dX10_takeSort_18 ?_
      refine zt_if_eq (tgt := 29) hC h (by decide) dX10_takeSort_21 (fun h => ?_) (fun h => ?_)
      · refine zt_iconst hC ki_0 dX10_takeSort_29 ?_
        obtain rfl := Option.some.inj h
        exact zt_zret hC rfl rfl (Or.inl rfl) (Nat.le_of_ble_eq_true rfl) (Nat.le_of_ble_eq_true rfl) dX10_takeSort_30
      · refine zt_iload_n hC rfl dX10_takeSort_24 ?_
        refine zt_iload_n hC rfl dX10_takeSort_25 ?_
        refine zt_icmp_ne (tgt := 31) hC h (by decide) dX10_takeSort_26 (fun h => ?_) (fun h => ?_)
        · refine zt_iload_n hC rfl dX10_takeSort_31 ?_
          refine zt_if_lt (tgt := 66) hC h (by decide) dX10_takeSort_32 (fun h => ?_) (fun h => ?_)
          · refine zt_iconst hC ki_0 dX10_takeSort_66 ?_
            obtain rfl := Option.some.inj h
            exact zt_zret hC rfl rfl (Or.inl rfl) (Nat.le_of_ble_eq_true rfl) (Nat.le_of_ble_eq_true rfl) dX10_takeSort_67
          · refine zt_iload_n hC rfl dX10_takeSort_35 ?_
            refine zt_bipush hC kb_100 dX10_takeSort_36 ?_
            refine zt_icmp_gt (tgt := 66) hC h (by decide) dX10_takeSort_38 (fun h => ?_) (fun h => ?_)
            · refine zt_iconst hC ki_0 dX10_takeSort_66 ?_
              obtain rfl := Option.some.inj h
              exact zt_zret hC rfl rfl (Or.inl rfl) (Nat.le_of_ble_eq_true rfl) (Nat.le_of_ble_eq_true rfl) dX10_takeSort_67
            · refine zt_iload hC rfl dX10_takeSort_41 ?_
              refine zt_iconst hC ki_1 dX10_takeSort_43 ?_
              refine zt_icmp_lt (tgt := 66) hC h (by decide) dX10_takeSort_44 (fun h => ?_) (fun h => ?_)
              · refine zt_iconst hC ki_0 dX10_takeSort_66 ?_
                obtain rfl := Option.some.inj h
                exact zt_zret hC rfl rfl (Or.inl rfl) (Nat.le_of_ble_eq_true rfl) (Nat.le_of_ble_eq_true rfl) dX10_takeSort_67
              · refine zt_iload hC rfl dX10_takeSort_47 ?_
                refine zt_bipush hC kb_20 dX10_takeSort_49 ?_
                refine zt_icmp_gt (tgt := 66) hC h (by decide) dX10_takeSort_51 (fun h => ?_) (fun h => ?_)
                · refine zt_iconst hC ki_0 dX10_takeSort_66 ?_
                  obtain rfl := Option.some.inj h
                  exact zt_zret hC rfl rfl (Or.inl rfl) (Nat.le_of_ble_eq_true rfl) (Nat.le_of_ble_eq_true rfl) dX10_takeSort_67
                · refine zt_iload hC rfl dX10_takeSort_54 ?_
                  refine zt_if_lt (tgt := 66) hC h (by decide) dX10_takeSort_56 (fun h => ?_) (fun h => ?_)
                  · refine zt_iconst hC ki_0 dX10_takeSort_66 ?_
                    obtain rfl := Option.some.inj h
                    exact zt_zret hC rfl rfl (Or.inl rfl) (Nat.le_of_ble_eq_true rfl) (Nat.le_of_ble_eq_true rfl) dX10_takeSort_67
                  · refine zt_iload hC rfl dX10_takeSort_59 ?_
                    refine zt_bipush hC kb_99 dX10_takeSort_61 ?_
                    refine zt_icmp_le (tgt := 68) hC h (by decide) dX10_takeSort_63 (fun h => ?_) (fun h => ?_)
                    · refine zt_aload_n hC rfl dX10_takeSort_68 ?_
                      refine zt_aload_n hC rfl dX10_takeSort_69 ?_
                      refine zt_gI hC h cl10 (k := 2) (by decide) rfl wd_110 (Or.inl rfl) dX10_takeSort_70 (fun v8 h => ?_)
                      refine zt_iconst hC ki_0 dX10_takeSort_73 ?_
                      refine zt_iload_n hC rfl dX10_takeSort_74 ?_
                      obtain ⟨hk, h⟩ := ck_some h
                      obtain ⟨v9, M10, h11, h⟩ := bnd_some h
                      refine zt_callV (z := yX10_changeSort) (As := [.int v8, .int (0 : Int32), .int x1]) (rest := []) (st1 := []) hC 3 hk cl10 (fun l hl => c_X10_changeSort N x0 v8 (0 : Int32) x1 M6 (v9, M10) h11 l hl) rfl wd_367 wd_364 wd_365 wd_366 wd_2 hd_X10_changeSort rfl ⟨⟨(Nat.le_of_ble_eq_true rfl), (Nat.le_of_ble_eq_true rfl)⟩, (Nat.le_of_ble_eq_true rfl), (Nat.le_of_ble_eq_true rfl)⟩ rfl (Nat.le_of_ble_eq_true rfl) rfl dX10_takeSort_75 ?_
                      refine zt_aload_n hC rfl dX10_takeSort_78 ?_
                      refine zt_aload_n hC rfl dX10_takeSort_79 ?_
                      refine zt_gI hC h cl10 (k := 2) (by decide) rfl wd_110 (Or.inl rfl) dX10_takeSort_80 (fun v12 h => ?_)
                      refine zt_iconst hC ki_1 dX10_takeSort_83 ?_
                      refine zt_iload_n hC rfl dX10_takeSort_84 ?_
                      obtain ⟨hk, h⟩ := ck_some h
                      obtain ⟨v13, M14, h15, h⟩ := bnd_some h
                      refine zt_callV (z := yX10_changeSort) (As := [.int v12, .int (1 : Int32), .int x2]) (rest := []) (st1 := []) hC 3 hk cl10 (fun l hl => c_X10_changeSort N x0 v12 (1 : Int32) x2 M10 (v13, M14) h15 l hl) rfl wd_367 wd_364 wd_365 wd_366 wd_2 hd_X10_changeSort rfl ⟨⟨(Nat.le_of_ble_eq_true rfl), (Nat.le_of_ble_eq_true rfl)⟩, (Nat.le_of_ble_eq_true rfl), (Nat.le_of_ble_eq_true rfl)⟩ rfl (Nat.le_of_ble_eq_true rfl) rfl dX10_takeSort_85 ?_
                      refine zt_aload_n hC rfl dX10_takeSort_88 ?_
                      refine zt_aload_n hC rfl dX10_takeSort_89 ?_
                      refine zt_gI hC h cl10 (k := 2) (by decide) rfl wd_110 (Or.inl rfl) dX10_takeSort_90 (fun v16 h => ?_)
                      refine zt_iconst hC ki_2 dX10_takeSort_93 ?_
                      refine zt_iload_n hC rfl dX10_takeSort_94 ?_
                      obtain ⟨hk, h⟩ := ck_some h
                      obtain ⟨v17, M18, h19, h⟩ := bnd_some h
                      refine zt_callV (z := yX10_changeSort) (As := [.int v16, .int (2 : Int32), .int x3]) (rest := []) (st1 := []) hC 3 hk cl10 (fun l hl => c_X10_changeSort N x0 v16 (2 : Int32) x3 M14 (v17, M18) h19 l hl) rfl wd_367 wd_364 wd_365 wd_366 wd_2 hd_X10_changeSort rfl ⟨⟨(Nat.le_of_ble_eq_true rfl), (Nat.le_of_ble_eq_true rfl)⟩, (Nat.le_of_ble_eq_true rfl), (Nat.le_of_ble_eq_true rfl)⟩ rfl (Nat.le_of_ble_eq_true rfl) rfl dX10_takeSort_95 ?_
                      refine zt_aload_n hC rfl dX10_takeSort_98 ?_
                      refine zt_aload_n hC rfl dX10_takeSort_99 ?_
                      refine zt_gI hC h cl10 (k := 2) (by decide) rfl wd_110 (Or.inl rfl) dX10_takeSort_100 (fun v20 h => ?_)
                      refine zt_iconst hC ki_3 dX10_takeSort_103 ?_
                      refine zt_iload hC rfl dX10_takeSort_104 ?_
                      obtain ⟨hk, h⟩ := ck_some h
                      obtain ⟨v21, M22, h23, h⟩ := bnd_some h
                      refine zt_callV (z := yX10_changeSort) (As := [.int v20, .int (3 : Int32), .int x4]) (rest := []) (st1 := []) hC 3 hk cl10 (fun l hl => c_X10_changeSort N x0 v20 (3 : Int32) x4 M18 (v21, M22) h23 l hl) rfl wd_367 wd_364 wd_365 wd_366 wd_2 hd_X10_changeSort rfl ⟨⟨(Nat.le_of_ble_eq_true rfl), (Nat.le_of_ble_eq_true rfl)⟩, (Nat.le_of_ble_eq_true rfl), (Nat.le_of_ble_eq_true rfl)⟩ rfl (Nat.le_of_ble_eq_true rfl) rfl dX10_takeSort_106 ?_
                      refine zt_aload_n hC rfl dX10_takeSort_109 ?_
                      refine zt_aload_n hC rfl dX10_takeSort_110 ?_
                      refine zt_gI hC h cl10 (k := 2) (by decide) rfl wd_110 (Or.inl rfl) dX10_takeSort_111 (fun v24 h => ?_)
                      refine zt_iconst hC ki_4 dX10_takeSort_114 ?_
                      refine zt_iload hC rfl dX10_takeSort_115 ?_
                      obtain ⟨hk, h⟩ := ck_some h
                      obtain ⟨v25, M26, h27, h⟩ := bnd_some h
                      refine zt_callV (z := yX10_changeSort) (As := [.int v24, .int (4 : Int32), .int x5]) (rest := []) (st1 := []) hC 3 hk cl10 (fun l hl => c_X10_changeSort N x0 v24 (4 : Int32) x5 M22 (v25, M26) h27 l hl) rfl wd_367 wd_364 wd_365 wd_366 wd_2 hd_X10_changeSort rfl ⟨⟨(Nat.le_of_ble_eq_true rfl), (Nat.le_of_ble_eq_true rfl)⟩, (Nat.le_of_ble_eq_true rfl), (Nat.le_of_ble_eq_true rfl)⟩ rfl (Nat.le_of_ble_eq_true rfl) rfl dX10_takeSort_117 ?_
                      refine zt_aload_n hC rfl dX10_takeSort_120 ?_
                      refine zt_dup hC rfl dX10_takeSort_121 ?_
                      refine zt_gI hC h cl10 (k := 2) (by decide) rfl wd_110 (Or.inl rfl) dX10_takeSort_122 (fun v28 h => ?_)
                      refine zt_iconst hC ki_1 dX10_takeSort_125 ?_
                      refine zt_iadd hC dX10_takeSort_126 ?_
                      refine zt_pI hC h cl10 (k := 2) (by decide) rfl wd_110 (Or.inl rfl) (Or.inl rfl) dX10_takeSort_127 (fun M29 h => ?_)
                      refine zt_iconst hC ki_1 dX10_takeSort_130 ?_
                      obtain rfl := Option.some.inj h
                      exact zt_zret hC rfl rfl (Or.inr rfl) (Nat.le_of_ble_eq_true rfl) (Nat.le_of_ble_eq_true rfl) dX10_takeSort_131
                    · refine zt_iconst hC ki_0 dX10_takeSort_66 ?_
                      obtain rfl := Option.some.inj h
                      exact zt_zret hC rfl rfl (Or.inl rfl) (Nat.le_of_ble_eq_true rfl) (Nat.le_of_ble_eq_true rfl) dX10_takeSort_67
        · refine zt_iconst hC ki_0 dX10_takeSort_29 ?_
          obtain rfl := Option.some.inj h
          exact zt_zret hC rfl rfl (Or.inl rfl) (Nat.le_of_ble_eq_true rfl) (Nat.le_of_ble_eq_true rfl) dX10_takeSort_30
def rm_X10_takeWay : Room := { frames := 1, cells := 0, slots := 0, locals := 22 }
theorem hd_X10_takeWay : yX10_takeWay.cls ≠ "java/lang/invoke/MethodHandle" ∧ yX10_takeWay.cls ≠ "java/lang/invoke/VarHandle" ∧ (parseMethodDescriptor yX10_takeWay.desc).map (fun d => d.parameters.length) = some 3 := by decide +kernel
def f_X10_takeWay (N : Nat) (x0 : Nat) (x1 : Int32) (x2 : Int32) (x3 : Int32) (M : Mm) : Option (Int32 × Mm) :=
ck 10 M x0 (bnd (f_X10_hasLanding N x0 x1 M) (fun v1 M2 =>
(if v1 = 0 then
some ((0 : Int32), M2)
else
ck 10 M2 x0 (bnd (f_X10_hasLanding N x0 x2 M2) (fun v4 M5 =>
(if v4 = 0 then
some ((0 : Int32), M5)
else
(if x1 = x2 then
some ((0 : Int32), M5)
else
(if x3 < (1 : Int32) then
some ((0 : Int32), M5)
else
(if x3 ≤ (9 : Int32) then
gR 10 M5 x0 1 (fun v7 =>
bnd (f_X11_change N v7 ((x1 * (4 : Int32)) + x2) x3 M5) (fun v8 M9 =>
gR 10 M9 x0 1 (fun v11 =>
bnd (f_X11_change N v11 ((x2 * (4 : Int32)) + x1) x3 M9) (fun v12 M13 =>
some ((1 : Int32), M13)))))
else
some ((0 : Int32), M5))))))))))
set_option maxRecDepth 100000 in
set_option maxHeartbeats 4000000 in
theorem c_X10_takeWay (N : Nat) (x0 : Nat) (x1 : Int32) (x2 : Int32) (x3 : Int32) (M : Mm) (r : (Int32 × Mm)) (h : f_X10_takeWay N x0 x1 x2 x3 M = some r) (l : Launch) (hfl : l.flags = flags0) {G : Gl} : MT l G yX10_takeWay cX10_takeWay 4 (some .boolean) rm_X10_takeWay [.ref x0, .int x1, .int x2, .int x3] M (some (.int r.1)) r.2 := by
  unfold f_X10_takeWay at h
  refine zt_start hfl (lv := [(0, .ref x0), (1, .int x1), (2, .int x2), (3, .int x3)]) (by decide) (Nat.le_of_ble_eq_true rfl) rfl wd_354 (fun X hC _ => ?_)
  refine zt_aload_n hC rfl dX10_takeWay_0 ?_
  refine zt_iload_n hC rfl dX10_takeWay_1 ?_
  obtain ⟨hk, h⟩ := ck_some h
  obtain ⟨v1, M2, h3, h⟩ := bnd_some h
  refine zt_callV (z := yX10_hasLanding) (As := [.int x1]) (rest := []) (st1 := (.int v1 :: [])) hC 1 hk cl10 (fun l hl => c_X10_hasLanding N x0 x1 M (v1, M2) h3 l hl) rfl wd_358 wd_355 wd_356 wd_357 wd_2 hd_X10_hasLanding rfl ⟨⟨(Nat.le_of_ble_eq_true rfl), (Nat.le_of_ble_eq_true rfl)⟩, (Nat.le_of_ble_eq_true rfl), (Nat.le_of_ble_eq_true rfl)⟩ rfl (Nat.le_of_ble_eq_true rfl) rfl dX10_takeWay_2 ?_
  refine zt_if_eq (tgt := 32) hC h (by decide) dX10_takeWay_5 (fun h => ?_) (fun h => ?_)
  · refine zt_iconst hC ki_0 dX10_takeWay_32 ?_
    obtain rfl := Option.some.inj h
    exact zt_zret hC rfl rfl (Or.inl rfl) (Nat.le_of_ble_eq_true rfl) (Nat.le_of_ble_eq_true rfl) dX10_takeWay_33
  · refine zt_aload_n hC rfl dX10_takeWay_8 ?_
    refine zt_iload_n hC rfl dX10_takeWay_9 ?_
    obtain ⟨hk, h⟩ := ck_some h
    obtain ⟨v4, M5, h6, h⟩ := bnd_some h
    refine zt_callV (z := yX10_hasLanding) (As := [.int x2]) (rest := []) (st1 := (.int v4 :: [])) hC 1 hk cl10 (fun l hl => c_X10_hasLanding N x0 x2 M2 (v4, M5) h6 l hl) rfl wd_358 wd_355 wd_356 wd_357 wd_2 hd_X10_hasLanding rfl ⟨⟨(Nat.le_of_ble_eq_true rfl), (Nat.le_of_ble_eq_true rfl)⟩, (Nat.le_of_ble_eq_true rfl), (Nat.le_of_ble_eq_true rfl)⟩ rfl (Nat.le_of_ble_eq_true rfl) rfl dX10_takeWay_10 ?_
    refine zt_if_eq (tgt := 32) hC h (by decide) dX10_takeWay_13 (fun h => ?_) (fun h => ?_)
    · refine zt_iconst hC ki_0 dX10_takeWay_32 ?_
      obtain rfl := Option.some.inj h
      exact zt_zret hC rfl rfl (Or.inl rfl) (Nat.le_of_ble_eq_true rfl) (Nat.le_of_ble_eq_true rfl) dX10_takeWay_33
    · refine zt_iload_n hC rfl dX10_takeWay_16 ?_
      refine zt_iload_n hC rfl dX10_takeWay_17 ?_
      refine zt_icmp_eq (tgt := 32) hC h (by decide) dX10_takeWay_18 (fun h => ?_) (fun h => ?_)
      · refine zt_iconst hC ki_0 dX10_takeWay_32 ?_
        obtain rfl := Option.some.inj h
        exact zt_zret hC rfl rfl (Or.inl rfl) (Nat.le_of_ble_eq_true rfl) (Nat.le_of_ble_eq_true rfl) dX10_takeWay_33
      · refine zt_iload_n hC rfl dX10_takeWay_21 ?_
        refine zt_iconst hC ki_1 dX10_takeWay_22 ?_
        refine zt_icmp_lt (tgt := 32) hC h (by decide) dX10_takeWay_23 (fun h => ?_) (fun h => ?_)
        · refine zt_iconst hC ki_0 dX10_takeWay_32 ?_
          obtain rfl := Option.some.inj h
          exact zt_zret hC rfl rfl (Or.inl rfl) (Nat.le_of_ble_eq_true rfl) (Nat.le_of_ble_eq_true rfl) dX10_takeWay_33
        · refine zt_iload_n hC rfl dX10_takeWay_26 ?_
          refine zt_bipush hC kb_9 dX10_takeWay_27 ?_
          refine zt_icmp_le (tgt := 34) hC h (by decide) dX10_takeWay_29 (fun h => ?_) (fun h => ?_)
          · refine zt_aload_n hC rfl dX10_takeWay_34 ?_
            refine zt_gR hC h cl10 (k := 1) (by decide) rfl wd_109 (Or.inl rfl) dX10_takeWay_35 (fun v7 h => ?_)
            refine zt_iload_n hC rfl dX10_takeWay_38 ?_
            refine zt_iconst hC ki_4 dX10_takeWay_39 ?_
            refine zt_imul hC dX10_takeWay_40 ?_
            refine zt_iload_n hC rfl dX10_takeWay_41 ?_
            refine zt_iadd hC dX10_takeWay_42 ?_
            refine zt_iload_n hC rfl dX10_takeWay_43 ?_
            obtain ⟨v8, M9, h10, h⟩ := bnd_some h
            refine zt_callSN (z := yX11_change) (As := [.ref v7, .int ((x1 * (4 : Int32)) + x2), .int x3]) (rest := []) (st1 := []) hC 3 (fun l hl => c_X11_change N v7 ((x1 * (4 : Int32)) + x2) x3 M5 (v8, M9) h10 l hl) wd_299 (by decide) wd_298 wd_1 hd_X11_change rfl ⟨⟨(Nat.le_of_ble_eq_true rfl), (Nat.le_of_ble_eq_true rfl)⟩, (Nat.le_of_ble_eq_true rfl), (Nat.le_of_ble_eq_true rfl)⟩ rfl (Nat.le_of_ble_eq_true rfl) rfl dX10_takeWay_44 ?_
            refine zt_aload_n hC rfl dX10_takeWay_47 ?_
            refine zt_gR hC h cl10 (k := 1) (by decide) rfl wd_109 (Or.inl rfl) dX10_takeWay_48 (fun v11 h => ?_)
            refine zt_iload_n hC rfl dX10_takeWay_51 ?_
            refine zt_iconst hC ki_4 dX10_takeWay_52 ?_
            refine zt_imul hC dX10_takeWay_53 ?_
            refine zt_iload_n hC rfl dX10_takeWay_54 ?_
            refine zt_iadd hC dX10_takeWay_55 ?_
            refine zt_iload_n hC rfl dX10_takeWay_56 ?_
            obtain ⟨v12, M13, h14, h⟩ := bnd_some h
            refine zt_callSN (z := yX11_change) (As := [.ref v11, .int ((x2 * (4 : Int32)) + x1), .int x3]) (rest := []) (st1 := []) hC 3 (fun l hl => c_X11_change N v11 ((x2 * (4 : Int32)) + x1) x3 M9 (v12, M13) h14 l hl) wd_299 (by decide) wd_298 wd_1 hd_X11_change rfl ⟨⟨(Nat.le_of_ble_eq_true rfl), (Nat.le_of_ble_eq_true rfl)⟩, (Nat.le_of_ble_eq_true rfl), (Nat.le_of_ble_eq_true rfl)⟩ rfl (Nat.le_of_ble_eq_true rfl) rfl dX10_takeWay_57 ?_
            refine zt_iconst hC ki_1 dX10_takeWay_60 ?_
            obtain rfl := Option.some.inj h
            exact zt_zret hC rfl rfl (Or.inr rfl) (Nat.le_of_ble_eq_true rfl) (Nat.le_of_ble_eq_true rfl) dX10_takeWay_61
          · refine zt_iconst hC ki_0 dX10_takeWay_32 ?_
            obtain rfl := Option.some.inj h
            exact zt_zret hC rfl rfl (Or.inl rfl) (Nat.le_of_ble_eq_true rfl) (Nat.le_of_ble_eq_true rfl) dX10_takeWay_33
def rm_X5_changes : Room := { frames := 3, cells := 0, slots := 0, locals := 70 }
theorem hd_X5_changes : yX5_changes.cls ≠ "java/lang/invoke/MethodHandle" ∧ yX5_changes.cls ≠ "java/lang/invoke/VarHandle" ∧ (parseMethodDescriptor yX5_changes.desc).map (fun d => d.parameters.length) = some 1 := by decide +kernel
def f_X5_changes (N : Nat) (x0 : Nat) (x1 : Nat) (M : Mm) : Option (Int32 × Mm) :=
gI 5 M x0 4 (fun v1 =>
(if v1 = (98 : Int32) then
gR 5 M x0 5 (fun v2 =>
ald M v2 (0 : Int32) (fun v3 =>
ck 10 M x1 (bnd (f_X10_takeSeats N x1 v3 M) (fun v4 M5 =>
rq (v4 = 0 ∨ v4 = 1) (some (v4, M5))))))
else
(if v1 = (109 : Int32) then
gR 5 M x0 5 (fun v7 =>
ald M v7 (0 : Int32) (fun v8 =>
gR 5 M x0 5 (fun v9 =>
ald M v9 (1 : Int32) (fun v10 =>
gR 5 M x0 5 (fun v11 =>
ald M v11 (2 : Int32) (fun v12 =>
ck 10 M x1 (bnd (f_X10_takeWay N x1 v8 v10 v12 M) (fun v13 M14 =>
rq (v13 = 0 ∨ v13 = 1) (some (v13, M14))))))))))
else
(if v1 = (110 : Int32) then
gR 5 M x0 5 (fun v16 =>
ald M v16 (0 : Int32) (fun v17 =>
ck 10 M x1 (bnd (f_X10_takeLandings N x1 v17 M) (fun v18 M19 =>
rq (v18 = 0 ∨ v18 = 1) (some (v18, M19))))))
else
(if v1 = (115 : Int32) then
gR 5 M x0 5 (fun v21 =>
ald M v21 (0 : Int32) (fun v22 =>
gR 5 M x0 5 (fun v23 =>
ald M v23 (1 : Int32) (fun v24 =>
gR 5 M x0 5 (fun v25 =>
ald M v25 (2 : Int32) (fun v26 =>
gR 5 M x0 5 (fun v27 =>
ald M v27 (3 : Int32) (fun v28 =>
gR 5 M x0 5 (fun v29 =>
ald M v29 (4 : Int32) (fun v30 =>
ck 10 M x1 (bnd (f_X10_takeSort N x1 v22 v24 v26 v28 v30 M) (fun v31 M32 =>
rq (v31 = 0 ∨ v31 = 1) (some (v31, M32))))))))))))))
else
some ((0 : Int32), M))))))
set_option maxRecDepth 100000 in
set_option maxHeartbeats 4000000 in
theorem c_X5_changes (N : Nat) (x0 : Nat) (x1 : Nat) (M : Mm) (r : (Int32 × Mm)) (h : f_X5_changes N x0 x1 M = some r) (l : Launch) (hfl : l.flags = flags0) {G : Gl} : MT l G yX5_changes cX5_changes 2 (some .boolean) rm_X5_changes [.ref x0, .ref x1] M (some (.int r.1)) r.2 := by
  unfold f_X5_changes at h
  refine zt_start hfl (lv := [(0, .ref x0), (1, .ref x1)]) (by decide) (Nat.le_of_ble_eq_true rfl) rfl wd_334 (fun X hC _ => ?_)
  refine zt_aload_n hC rfl dX5_changes_0 ?_
  refine zt_gI hC h cl5 (k := 4) (by decide) rfl wd_188 (Or.inl rfl) dX5_changes_1 (fun v1 h => ?_)
  rcases ite_or h with ⟨c98, h⟩ | ⟨c98, h⟩
  · refine zt_lsw (tgt := 59) hC rfl (off := 55) (by rw [c98]; rfl) (by decide) dX5_changes_4 ?_
    refine zt_aload_n hC rfl dX5_changes_59 ?_
    refine zt_aload_n hC rfl dX5_changes_60 ?_
    refine zt_gR hC h cl5 (k := 5) (by decide) rfl wd_189 (Or.inl rfl) dX5_changes_61 (fun v2 h => ?_)
    refine zt_iconst hC ki_0 dX5_changes_64 ?_
    refine zt_ald hC h dX5_changes_65 (fun v3 h => ?_)
    obtain ⟨hk, h⟩ := ck_some h
    obtain ⟨v4, M5, h6, h⟩ := bnd_some h
    refine zt_callV (z := yX10_takeSeats) (As := [.int v3]) (rest := []) (st1 := (.int v4 :: [])) hC 1 hk cl10 (fun l hl => c_X10_takeSeats N x1 v3 M (v4, M5) h6 l hl) rfl wd_350 wd_347 wd_348 wd_349 wd_2 hd_X10_takeSeats rfl ⟨⟨(Nat.le_of_ble_eq_true rfl), (Nat.le_of_ble_eq_true rfl)⟩, (Nat.le_of_ble_eq_true rfl), (Nat.le_of_ble_eq_true rfl)⟩ rfl (Nat.le_of_ble_eq_true rfl) rfl dX5_changes_66 ?_
    obtain ⟨hz, h⟩ := rq_some h
    obtain rfl := Option.some.inj h
    exact zt_zret hC rfl rfl hz (Nat.le_of_ble_eq_true rfl) (Nat.le_of_ble_eq_true rfl) dX5_changes_69
  · rcases ite_or h with ⟨c109, h⟩ | ⟨c109, h⟩
    · refine zt_lsw (tgt := 70) hC rfl (off := 66) (by rw [c109]; rfl) (by decide) dX5_changes_4 ?_
      refine zt_aload_n hC rfl dX5_changes_70 ?_
      refine zt_aload_n hC rfl dX5_changes_71 ?_
      refine zt_gR hC h cl5 (k := 5) (by decide) rfl wd_189 (Or.inl rfl) dX5_changes_72 (fun v7 h => ?_)
      refine zt_iconst hC ki_0 dX5_changes_75 ?_
      refine zt_ald hC h dX5_changes_76 (fun v8 h => ?_)
      refine zt_aload_n hC rfl dX5_changes_77 ?_
      refine zt_gR hC h cl5 (k := 5) (by decide) rfl wd_189 (Or.inl rfl) dX5_changes_78 (fun v9 h => ?_)
      refine zt_iconst hC ki_1 dX5_changes_81 ?_
      refine zt_ald hC h dX5_changes_82 (fun v10 h => ?_)
      refine zt_aload_n hC rfl dX5_changes_83 ?_
      refine zt_gR hC h cl5 (k := 5) (by decide) rfl wd_189 (Or.inl rfl) dX5_changes_84 (fun v11 h => ?_)
      refine zt_iconst hC ki_2 dX5_changes_87 ?_
      refine zt_ald hC h dX5_changes_88 (fun v12 h => ?_)
      obtain ⟨hk, h⟩ := ck_some h
      obtain ⟨v13, M14, h15, h⟩ := bnd_some h
      refine zt_callV (z := yX10_takeWay) (As := [.int v8, .int v10, .int v12]) (rest := []) (st1 := (.int v13 :: [])) hC 3 hk cl10 (fun l hl => c_X10_takeWay N x1 v8 v10 v12 M (v13, M14) h15 l hl) rfl wd_354 wd_351 wd_352 wd_353 wd_2 hd_X10_takeWay rfl ⟨⟨(Nat.le_of_ble_eq_true rfl), (Nat.le_of_ble_eq_true rfl)⟩, (Nat.le_of_ble_eq_true rfl), (Nat.le_of_ble_eq_true rfl)⟩ rfl (Nat.le_of_ble_eq_true rfl) rfl dX5_changes_89 ?_
      obtain ⟨hz, h⟩ := rq_some h
      obtain rfl := Option.some.inj h
      exact zt_zret hC rfl rfl hz (Nat.le_of_ble_eq_true rfl) (Nat.le_of_ble_eq_true rfl) dX5_changes_92
    · rcases ite_or h with ⟨c110, h⟩ | ⟨c110, h⟩
      · refine zt_lsw (tgt := 48) hC rfl (off := 44) (by rw [c110]; rfl) (by decide) dX5_changes_4 ?_
        refine zt_aload_n hC rfl dX5_changes_48 ?_
        refine zt_aload_n hC rfl dX5_changes_49 ?_
        refine zt_gR hC h cl5 (k := 5) (by decide) rfl wd_189 (Or.inl rfl) dX5_changes_50 (fun v16 h => ?_)
        refine zt_iconst hC ki_0 dX5_changes_53 ?_
        refine zt_ald hC h dX5_changes_54 (fun v17 h => ?_)
        obtain ⟨hk, h⟩ := ck_some h
        obtain ⟨v18, M19, h20, h⟩ := bnd_some h
        refine zt_callV (z := yX10_takeLandings) (As := [.int v17]) (rest := []) (st1 := (.int v18 :: [])) hC 1 hk cl10 (fun l hl => c_X10_takeLandings N x1 v17 M (v18, M19) h20 l hl) rfl wd_338 wd_335 wd_336 wd_337 wd_2 hd_X10_takeLandings rfl ⟨⟨(Nat.le_of_ble_eq_true rfl), (Nat.le_of_ble_eq_true rfl)⟩, (Nat.le_of_ble_eq_true rfl), (Nat.le_of_ble_eq_true rfl)⟩ rfl (Nat.le_of_ble_eq_true rfl) rfl dX5_changes_55 ?_
        obtain ⟨hz, h⟩ := rq_some h
        obtain rfl := Option.some.inj h
        exact zt_zret hC rfl rfl hz (Nat.le_of_ble_eq_true rfl) (Nat.le_of_ble_eq_true rfl) dX5_changes_58
      · rcases ite_or h with ⟨c115, h⟩ | ⟨c115, h⟩
        · refine zt_lsw (tgt := 93) hC rfl (off := 89) (by rw [c115]; rfl) (by decide) dX5_changes_4 ?_
          refine zt_aload_n hC rfl dX5_changes_93 ?_
          refine zt_aload_n hC rfl dX5_changes_94 ?_
          refine zt_gR hC h cl5 (k := 5) (by decide) rfl wd_189 (Or.inl rfl) dX5_changes_95 (fun v21 h => ?_)
          refine zt_iconst hC ki_0 dX5_changes_98 ?_
          refine zt_ald hC h dX5_changes_99 (fun v22 h => ?_)
          refine zt_aload_n hC rfl dX5_changes_100 ?_
          refine zt_gR hC h cl5 (k := 5) (by decide) rfl wd_189 (Or.inl rfl) dX5_changes_101 (fun v23 h => ?_)
          refine zt_iconst hC ki_1 dX5_changes_104 ?_
          refine zt_ald hC h dX5_changes_105 (fun v24 h => ?_)
          refine zt_aload_n hC rfl dX5_changes_106 ?_
          refine zt_gR hC h cl5 (k := 5) (by decide) rfl wd_189 (Or.inl rfl) dX5_changes_107 (fun v25 h => ?_)
          refine zt_iconst hC ki_2 dX5_changes_110 ?_
          refine zt_ald hC h dX5_changes_111 (fun v26 h => ?_)
          refine zt_aload_n hC rfl dX5_changes_112 ?_
          refine zt_gR hC h cl5 (k := 5) (by decide) rfl wd_189 (Or.inl rfl) dX5_changes_113 (fun v27 h => ?_)
          refine zt_iconst hC ki_3 dX5_changes_116 ?_
          refine zt_ald hC h dX5_changes_117 (fun v28 h => ?_)
          refine zt_aload_n hC rfl dX5_changes_118 ?_
          refine zt_gR hC h cl5 (k := 5) (by decide) rfl wd_189 (Or.inl rfl) dX5_changes_119 (fun v29 h => ?_)
          refine zt_iconst hC ki_4 dX5_changes_122 ?_
          refine zt_ald hC h dX5_changes_123 (fun v30 h => ?_)
          obtain ⟨hk, h⟩ := ck_some h
          obtain ⟨v31, M32, h33, h⟩ := bnd_some h
          refine zt_callV (z := yX10_takeSort) (As := [.int v22, .int v24, .int v26, .int v28, .int v30]) (rest := []) (st1 := (.int v31 :: [])) hC 5 hk cl10 (fun l hl => c_X10_takeSort N x1 v22 v24 v26 v28 v30 M (v31, M32) h33 l hl) rfl wd_363 wd_360 wd_361 wd_362 wd_2 hd_X10_takeSort rfl ⟨⟨(Nat.le_of_ble_eq_true rfl), (Nat.le_of_ble_eq_true rfl)⟩, (Nat.le_of_ble_eq_true rfl), (Nat.le_of_ble_eq_true rfl)⟩ rfl (Nat.le_of_ble_eq_true rfl) rfl dX5_changes_124 ?_
          obtain ⟨hz, h⟩ := rq_some h
          obtain rfl := Option.some.inj h
          exact zt_zret hC rfl rfl hz (Nat.le_of_ble_eq_true rfl) (Nat.le_of_ble_eq_true rfl) dX5_changes_127
        · refine zt_lsw (tgt := 128) hC rfl (off := 124) (by rw [lv_osw c98 (by decide : Int32.toInt (98 : Int32) = 98), lv_osw c109 (by decide : Int32.toInt (109 : Int32) = 109), lv_osw c110 (by decide : Int32.toInt (110 : Int32) = 110), lv_osw c115 (by decide : Int32.toInt (115 : Int32) = 115)]; rfl) (by decide) dX5_changes_4 ?_
          refine zt_iconst hC ki_0 dX5_changes_128 ?_
          obtain rfl := Option.some.inj h
          exact zt_zret hC rfl rfl (Or.inl rfl) (Nat.le_of_ble_eq_true rfl) (Nat.le_of_ble_eq_true rfl) dX5_changes_129
def rm_X6_kind : Room := { frames := 0, cells := 0, slots := 0, locals := 0 }
theorem hd_X6_kind : yX6_kind.cls ≠ "java/lang/invoke/MethodHandle" ∧ yX6_kind.cls ≠ "java/lang/invoke/VarHandle" ∧ (parseMethodDescriptor yX6_kind.desc).map (fun d => d.parameters.length) = some 0 := by decide +kernel
theorem hds_X6_kind : yX6_kind.name ≠ "<init>" ∧ (parseMethodDescriptor yX6_kind.desc).map (fun d => d.parameters.length) = some 0 := by decide +kernel
def f_X6_kind (N : Nat) (x0 : Nat) (M : Mm) : Option (Int32 × Mm) :=
some ((0 : Int32), M)
set_option maxRecDepth 100000 in
set_option maxHeartbeats 4000000 in
theorem c_X6_kind (N : Nat) (x0 : Nat) (M : Mm) (r : (Int32 × Mm)) (h : f_X6_kind N x0 M = some r) (l : Launch) (hfl : l.flags = flags0) {G : Gl} : MT l G yX6_kind cX6_kind 1 (some .int) rm_X6_kind [.ref x0] M (some (.int r.1)) r.2 := by
  unfold f_X6_kind at h
  refine zt_start hfl (lv := [(0, .ref x0)]) (by decide) (Nat.le_of_ble_eq_true rfl) rfl wd_433 (fun X hC _ => ?_)
  refine zt_iconst hC ki_0 dX6_kind_0 ?_
  obtain rfl := Option.some.inj h
  exact zt_iret hC rfl rfl (Nat.le_of_ble_eq_true rfl) (Nat.le_of_ble_eq_true rfl) dX6_kind_1
def rm_X6_canFail : Room := { frames := 0, cells := 0, slots := 0, locals := 0 }
theorem hd_X6_canFail : yX6_canFail.cls ≠ "java/lang/invoke/MethodHandle" ∧ yX6_canFail.cls ≠ "java/lang/invoke/VarHandle" ∧ (parseMethodDescriptor yX6_canFail.desc).map (fun d => d.parameters.length) = some 0 := by decide +kernel
theorem hds_X6_canFail : yX6_canFail.name ≠ "<init>" ∧ (parseMethodDescriptor yX6_canFail.desc).map (fun d => d.parameters.length) = some 0 := by decide +kernel
def f_X6_canFail (N : Nat) (x0 : Nat) (M : Mm) : Option (Int32 × Mm) :=
gF M x0 (fun v1 =>
(if v1 = 0 then
some ((0 : Int32), M)
else
some ((1 : Int32), M)))
set_option maxRecDepth 100000 in
set_option maxHeartbeats 4000000 in
theorem c_X6_canFail (N : Nat) (x0 : Nat) (M : Mm) (r : (Int32 × Mm)) (h : f_X6_canFail N x0 M = some r) (l : Launch) (hfl : l.flags = flags0) {G : Gl} : MT l G yX6_canFail cX6_canFail 1 (some .boolean) rm_X6_canFail [.ref x0] M (some (.int r.1)) r.2 := by
  unfold f_X6_canFail at h
  refine zt_start hfl (lv := [(0, .ref x0)]) (by decide) (Nat.le_of_ble_eq_true rfl) rfl wd_850 (fun X hC _ => ?_)
  refine zt_aload_n hC rfl dX6_canFail_0 ?_
  refine zt_gF hC h wd_48 (Or.inl rfl) dX6_canFail_1 (fun v1 h => ?_)
  refine zt_if_eq (tgt := 11) hC h (by decide) dX6_canFail_4 (fun h => ?_) (fun h => ?_)
  · refine zt_iconst hC ki_0 dX6_canFail_11 ?_
    obtain rfl := Option.some.inj h
    exact zt_zret hC rfl rfl (Or.inl rfl) (Nat.le_of_ble_eq_true rfl) (Nat.le_of_ble_eq_true rfl) dX6_canFail_12
  · refine zt_iconst hC ki_1 dX6_canFail_7 ?_
    refine zt_goto (tgt := 12) hC (by decide) dX6_canFail_8 ?_
    obtain rfl := Option.some.inj h
    exact zt_zret hC rfl rfl (Or.inr rfl) (Nat.le_of_ble_eq_true rfl) (Nat.le_of_ble_eq_true rfl) dX6_canFail_12
def rm_X7_init : Room := { frames := 1, cells := 1, slots := 100, locals := 24 }
theorem hd_X7_init : yX7_init.cls ≠ "java/lang/invoke/MethodHandle" ∧ yX7_init.cls ≠ "java/lang/invoke/VarHandle" ∧ (parseMethodDescriptor yX7_init.desc).map (fun d => d.parameters.length) = some 0 := by decide +kernel
def f_X7_init (N : Nat) (x0 : Nat) (M : Mm) : Option (Unit × Mm) :=
pR 7 M x0 0 none (fun M1 =>
pI 7 M1 x0 1 (-2 : Int32) (fun M2 =>
pI 7 M2 x0 2 (0 : Int32) (fun M3 =>
nwo 1 100 M3 (fun a5 M4 =>
pR 7 M4 x0 3 (some a5) (fun M6 =>
some ((), M6))))))
set_option maxRecDepth 100000 in
set_option maxHeartbeats 4000000 in
theorem c_X7_init (N : Nat) (x0 : Nat) (M : Mm) (r : (Unit × Mm)) (h : f_X7_init N x0 M = some r) (l : Launch) (hfl : l.flags = flags0) {G : Gl} : MT l G yX7_init cX7_init 1 none rm_X7_init [.ref x0] M none r.2 := by
  unfold f_X7_init at h
  refine zt_start hfl (lv := [(0, .ref x0)]) (by decide) (Nat.le_of_ble_eq_true rfl) rfl wd_208 (fun X hC _ => ?_)
  refine zt_aload_n hC rfl dX7_init_0 ?_
  refine zt_objI (rest := []) hC wd_209 wd_28 wd_29 rfl (Nat.le_of_ble_eq_true rfl) (Nat.le_of_ble_eq_true rfl) dX7_init_1 ?_
  refine zt_aload_n hC rfl dX7_init_4 ?_
  refine zt_null hC dX7_init_5 ?_
  refine zt_pR hC h rfl cl7 (k := 0) (by decide) rfl wd_210 (Or.inl rfl) (Or.inl rfl) dX7_init_6 (fun M1 h => ?_)
  refine zt_aload_n hC rfl dX7_init_9 ?_
  refine zt_bipush hC kb_m2 dX7_init_10 ?_
  refine zt_pI hC h cl7 (k := 1) (by decide) rfl wd_212 (Or.inl rfl) (Or.inl rfl) dX7_init_12 (fun M2 h => ?_)
  refine zt_aload_n hC rfl dX7_init_15 ?_
  refine zt_iconst hC ki_0 dX7_init_16 ?_
  refine zt_pI hC h cl7 (k := 2) (by decide) rfl wd_214 (Or.inl rfl) (Or.inl rfl) dX7_init_17 (fun M3 h => ?_)
  refine zt_aload_n hC rfl dX7_init_20 ?_
  refine zt_bipush hC kb_100 dX7_init_21 ?_
  refine zt_newao (N := 100) hC h wd_65 (by decide) (by decide) (by decide) (Nat.le_of_ble_eq_true rfl) (Nat.le_of_ble_eq_true rfl) dX7_init_23 (fun a5 M4 h => ?_)
  refine zt_pR hC h rfl cl7 (k := 3) (by decide) rfl wd_216 (Or.inl rfl) (Or.inr ⟨rfl, rfl, rfl⟩) dX7_init_25 (fun M6 h => ?_)
  obtain rfl := Option.some.inj h
  exact zt_vret hC rfl rfl (Nat.le_of_ble_eq_true rfl) (Nat.le_of_ble_eq_true rfl) dX7_init_28
def rm_X7_clear : Room := { frames := 0, cells := 0, slots := 0, locals := 0 }
theorem hd_X7_clear : yX7_clear.cls ≠ "java/lang/invoke/MethodHandle" ∧ yX7_clear.cls ≠ "java/lang/invoke/VarHandle" ∧ (parseMethodDescriptor yX7_clear.desc).map (fun d => d.parameters.length) = some 0 := by decide +kernel
def f_X7_clear (N : Nat) (x0 : Nat) (M : Mm) : Option (Unit × Mm) :=
pR 7 M x0 0 none (fun M1 =>
pI 7 M1 x0 1 (-2 : Int32) (fun M2 =>
pI 7 M2 x0 2 (0 : Int32) (fun M3 =>
some ((), M3))))
set_option maxRecDepth 100000 in
set_option maxHeartbeats 4000000 in
theorem c_X7_clear (N : Nat) (x0 : Nat) (M : Mm) (r : (Unit × Mm)) (h : f_X7_clear N x0 M = some r) (l : Launch) (hfl : l.flags = flags0) {G : Gl} : MT l G yX7_clear cX7_clear 1 none rm_X7_clear [.ref x0] M none r.2 := by
  unfold f_X7_clear at h
  refine zt_start hfl (lv := [(0, .ref x0)]) (by decide) (Nat.le_of_ble_eq_true rfl) rfl wd_772 (fun X hC _ => ?_)
  refine zt_aload_n hC rfl dX7_clear_0 ?_
  refine zt_null hC dX7_clear_1 ?_
  refine zt_pR hC h rfl cl7 (k := 0) (by decide) rfl wd_210 (Or.inl rfl) (Or.inl rfl) dX7_clear_2 (fun M1 h => ?_)
  refine zt_aload_n hC rfl dX7_clear_5 ?_
  refine zt_bipush hC kb_m2 dX7_clear_6 ?_
  refine zt_pI hC h cl7 (k := 1) (by decide) rfl wd_212 (Or.inl rfl) (Or.inl rfl) dX7_clear_8 (fun M2 h => ?_)
  refine zt_aload_n hC rfl dX7_clear_11 ?_
  refine zt_iconst hC ki_0 dX7_clear_12 ?_
  refine zt_pI hC h cl7 (k := 2) (by decide) rfl wd_214 (Or.inl rfl) (Or.inl rfl) dX7_clear_13 (fun M3 h => ?_)
  obtain rfl := Option.some.inj h
  exact zt_vret hC rfl rfl (Nat.le_of_ble_eq_true rfl) (Nat.le_of_ble_eq_true rfl) dX7_clear_16
def rm_X7_makeRow : Room := { frames := 0, cells := 0, slots := 0, locals := 0 }
theorem hd_X7_makeRow : yX7_makeRow.cls ≠ "java/lang/invoke/MethodHandle" ∧ yX7_makeRow.cls ≠ "java/lang/invoke/VarHandle" ∧ (parseMethodDescriptor yX7_makeRow.desc).map (fun d => d.parameters.length) = some 2 := by decide +kernel
def b_X7_makeRow_12 (N : Nat) (k12 : Nat → Int32 → Mm → Option (Unit × Mm)) (x0 : Nat) (x3 : Int32) (M : Mm) : Option (Unit × Mm) :=
gR 7 M x0 3 (fun v1 =>
alen M v1 (fun v2 =>
(if v2 ≤ x3 then
some ((), M)
else
gR 7 M x0 3 (fun v3 =>
ast M v3 x3 (0 : Int32) (fun M4 =>
k12 x0 (x3 + (1 : Int32)) M4)))))
def l_X7_makeRow_12 (N : Nat) : Nat → Nat → Int32 → Mm → Option (Unit × Mm)
  | 0 => fun _ _ _ => none
  | n + 1 => b_X7_makeRow_12 N (l_X7_makeRow_12 N n)
set_option maxRecDepth 100000 in
set_option maxHeartbeats 4000000 in
theorem v_X7_makeRow_12 {X : Cx} {G : Gl} {r : (Unit × Mm)} (N : Nat) (hC : CX X G yX7_makeRow cX7_makeRow 4 none rm_X7_makeRow) (k12 : Nat → Int32 → Mm → Option (Unit × Mm)) (hk12 : ∀ (x0 : Nat) (x3 : Int32) (M : Mm), k12 x0 x3 M = some r → TW X G 4 (RQ X G none r.2 rm_X7_makeRow) 0 0 M 12 [(0, .ref x0), (3, .int x3)] []) (x0 : Nat) (x3 : Int32) (M : Mm) (h : b_X7_makeRow_12 N k12 x0 x3 M = some r) : TW X G 4 (RQ X G none r.2 rm_X7_makeRow) 0 0 M 12 [(0, .ref x0), (3, .int x3)] [] := by
  unfold b_X7_makeRow_12 at h
  refine zt_iload_n hC rfl dX7_makeRow_12 ?_
  refine zt_aload_n hC rfl dX7_makeRow_13 ?_
  refine zt_gR hC h cl7 (k := 3) (by decide) rfl wd_216 (Or.inl rfl) dX7_makeRow_14 (fun v1 h => ?_)
  refine zt_alen hC h dX7_makeRow_17 (fun v2 h => ?_)
  refine zt_icmp_ge (tgt := 34) hC h (by decide) dX7_makeRow_18 (fun h => ?_) (fun h => ?_)
  · obtain rfl := Option.some.inj h
    exact zt_vret hC rfl rfl (Nat.le_of_ble_eq_true rfl) (Nat.le_of_ble_eq_true rfl) dX7_makeRow_34
  · refine zt_aload_n hC rfl dX7_makeRow_21 ?_
    refine zt_gR hC h cl7 (k := 3) (by decide) rfl wd_216 (Or.inl rfl) dX7_makeRow_22 (fun v3 h => ?_)
    refine zt_iload_n hC rfl dX7_makeRow_25 ?_
    refine zt_iconst hC ki_0 dX7_makeRow_26 ?_
    refine zt_ast hC h dX7_makeRow_27 (fun M4 h => ?_)
    refine zt_iinc (v := (x3 + (1 : Int32))) (lv' := [(3, .int (x3 + (1 : Int32))), (0, .ref x0)]) hC rfl (by rw [ki_1]) (by decide) rfl dX7_makeRow_28 ?_
    refine zt_goto (tgt := 12) hC (by decide) dX7_makeRow_31 ?_
    refine zt_keep [0, 3] rfl ?_
    exact hk12 x0 (x3 + (1 : Int32)) M4 h
theorem w_X7_makeRow_12 {X : Cx} {G : Gl} {r : (Unit × Mm)} (N : Nat) (hC : CX X G yX7_makeRow cX7_makeRow 4 none rm_X7_makeRow) (n : Nat) : ∀ (x0 : Nat) (x3 : Int32) (M : Mm), l_X7_makeRow_12 N n x0 x3 M = some r → TW X G 4 (RQ X G none r.2 rm_X7_makeRow) 0 0 M 12 [(0, .ref x0), (3, .int x3)] [] := by
  induction n with
  | zero => intro  x0 x3 M h; cases (show none = some r from h)
  | succ n ih => intro  x0 x3 M h; exact v_X7_makeRow_12 N hC (l_X7_makeRow_12 N n) ih x0 x3 M h
def f_X7_makeRow (N : Nat) (x0 : Nat) (x1 : Int32) (x2 : Int32) (M : Mm) : Option (Unit × Mm) :=
pI 7 M x0 1 x1 (fun M1 =>
pI 7 M1 x0 2 x2 (fun M2 =>
l_X7_makeRow_12 N N x0 (0 : Int32) M2))
set_option maxRecDepth 100000 in
set_option maxHeartbeats 4000000 in
theorem c_X7_makeRow (N : Nat) (x0 : Nat) (x1 : Int32) (x2 : Int32) (M : Mm) (r : (Unit × Mm)) (h : f_X7_makeRow N x0 x1 x2 M = some r) (l : Launch) (hfl : l.flags = flags0) {G : Gl} : MT l G yX7_makeRow cX7_makeRow 4 none rm_X7_makeRow [.ref x0, .int x1, .int x2] M none r.2 := by
  unfold f_X7_makeRow at h
  refine zt_start hfl (lv := [(0, .ref x0), (1, .int x1), (2, .int x2)]) (by decide) (Nat.le_of_ble_eq_true rfl) rfl wd_780 (fun X hC _ => ?_)
  refine zt_aload_n hC rfl dX7_makeRow_0 ?_
  refine zt_iload_n hC rfl dX7_makeRow_1 ?_
  refine zt_pI hC h cl7 (k := 1) (by decide) rfl wd_212 (Or.inl rfl) (Or.inl rfl) dX7_makeRow_2 (fun M1 h => ?_)
  refine zt_aload_n hC rfl dX7_makeRow_5 ?_
  refine zt_iload_n hC rfl dX7_makeRow_6 ?_
  refine zt_pI hC h cl7 (k := 2) (by decide) rfl wd_214 (Or.inl rfl) (Or.inl rfl) dX7_makeRow_7 (fun M2 h => ?_)
  refine zt_iconst hC ki_0 dX7_makeRow_10 ?_
  refine zt_istore_n (lv' := [(3, .int (0 : Int32)), (0, .ref x0), (1, .int x1), (2, .int x2)]) hC (by decide) rfl dX7_makeRow_11 ?_
  refine zt_keep [0, 3] rfl ?_
  exact w_X7_makeRow_12 N hC N x0 (0 : Int32) M2 h
def rm_X7_hasRow : Room := { frames := 0, cells := 0, slots := 0, locals := 0 }
theorem hd_X7_hasRow : yX7_hasRow.cls ≠ "java/lang/invoke/MethodHandle" ∧ yX7_hasRow.cls ≠ "java/lang/invoke/VarHandle" ∧ (parseMethodDescriptor yX7_hasRow.desc).map (fun d => d.parameters.length) = some 0 := by decide +kernel
def f_X7_hasRow (N : Nat) (x0 : Nat) (M : Mm) : Option (Int32 × Mm) :=
gI 7 M x0 1 (fun v1 =>
(if v1 = (-2 : Int32) then
some ((0 : Int32), M)
else
some ((1 : Int32), M)))
set_option maxRecDepth 100000 in
set_option maxHeartbeats 4000000 in
theorem c_X7_hasRow (N : Nat) (x0 : Nat) (M : Mm) (r : (Int32 × Mm)) (h : f_X7_hasRow N x0 M = some r) (l : Launch) (hfl : l.flags = flags0) {G : Gl} : MT l G yX7_hasRow cX7_hasRow 1 (some .boolean) rm_X7_hasRow [.ref x0] M (some (.int r.1)) r.2 := by
  unfold f_X7_hasRow at h
  refine zt_start hfl (lv := [(0, .ref x0)]) (by decide) (Nat.le_of_ble_eq_true rfl) rfl wd_271 (fun X hC _ => ?_)
  refine zt_aload_n hC rfl dX7_hasRow_0 ?_
  refine zt_gI hC h cl7 (k := 1) (by decide) rfl wd_212 (Or.inl rfl) dX7_hasRow_1 (fun v1 h => ?_)
  refine zt_bipush hC kb_m2 dX7_hasRow_4 ?_
  refine zt_icmp_eq (tgt := 13) hC h (by decide) dX7_hasRow_6 (fun h => ?_) (fun h => ?_)
  · refine zt_iconst hC ki_0 dX7_hasRow_13 ?_
    obtain rfl := Option.some.inj h
    exact zt_zret hC rfl rfl (Or.inl rfl) (Nat.le_of_ble_eq_true rfl) (Nat.le_of_ble_eq_true rfl) dX7_hasRow_14
  · refine zt_iconst hC ki_1 dX7_hasRow_9 ?_
    refine zt_goto (tgt := 14) hC (by decide) dX7_hasRow_10 ?_
    obtain rfl := Option.some.inj h
    exact zt_zret hC rfl rfl (Or.inr rfl) (Nat.le_of_ble_eq_true rfl) (Nat.le_of_ble_eq_true rfl) dX7_hasRow_14
def rm_X7_isEmpty : Room := { frames := 1, cells := 0, slots := 0, locals := 20 }
theorem hd_X7_isEmpty : yX7_isEmpty.cls ≠ "java/lang/invoke/MethodHandle" ∧ yX7_isEmpty.cls ≠ "java/lang/invoke/VarHandle" ∧ (parseMethodDescriptor yX7_isEmpty.desc).map (fun d => d.parameters.length) = some 0 := by decide +kernel
def f_X7_isEmpty (N : Nat) (x0 : Nat) (M : Mm) : Option (Int32 × Mm) :=
(gN 7 M x0 0
(ck 7 M x0 (bnd (f_X7_hasRow N x0 M) (fun v2 M3 =>
(if v2 = 0 then
some ((1 : Int32), M3)
else
some ((0 : Int32), M3)))))
(fun v1 =>
some ((0 : Int32), M)))
set_option maxRecDepth 100000 in
set_option maxHeartbeats 4000000 in
theorem c_X7_isEmpty (N : Nat) (x0 : Nat) (M : Mm) (r : (Int32 × Mm)) (h : f_X7_isEmpty N x0 M = some r) (l : Launch) (hfl : l.flags = flags0) {G : Gl} : MT l G yX7_isEmpty cX7_isEmpty 1 (some .boolean) rm_X7_isEmpty [.ref x0] M (some (.int r.1)) r.2 := by
  unfold f_X7_isEmpty at h
  refine zt_start hfl (lv := [(0, .ref x0)]) (by decide) (Nat.le_of_ble_eq_true rfl) rfl wd_267 (fun X hC _ => ?_)
  refine zt_aload_n hC rfl dX7_isEmpty_0 ?_
  refine zt_gN hC h cl7 (k := 0) (by decide) rfl wd_210 (Or.inl rfl) dX7_isEmpty_1 (fun h => ?_) (fun v1 h => ?_)
  · refine zt_ifnonnullN hC dX7_isEmpty_4 ?_
    refine zt_aload_n hC rfl dX7_isEmpty_7 ?_
    obtain ⟨hk, h⟩ := ck_some h
    obtain ⟨v2, M3, h4, h⟩ := bnd_some h
    refine zt_callV (z := yX7_hasRow) (As := []) (rest := []) (st1 := (.int v2 :: [])) hC 0 hk cl7 (fun l hl => c_X7_hasRow N x0 M (v2, M3) h4 l hl) rfl wd_271 wd_268 wd_269 wd_270 wd_6 hd_X7_hasRow rfl ⟨⟨(Nat.le_of_ble_eq_true rfl), (Nat.le_of_ble_eq_true rfl)⟩, (Nat.le_of_ble_eq_true rfl), (Nat.le_of_ble_eq_true rfl)⟩ rfl (Nat.le_of_ble_eq_true rfl) rfl dX7_isEmpty_8 ?_
    refine zt_if_ne (tgt := 18) hC h (by decide) dX7_isEmpty_11 (fun h => ?_) (fun h => ?_)
    · refine zt_iconst hC ki_0 dX7_isEmpty_18 ?_
      obtain rfl := Option.some.inj h
      exact zt_zret hC rfl rfl (Or.inl rfl) (Nat.le_of_ble_eq_true rfl) (Nat.le_of_ble_eq_true rfl) dX7_isEmpty_19
    · refine zt_iconst hC ki_1 dX7_isEmpty_14 ?_
      refine zt_goto (tgt := 19) hC (by decide) dX7_isEmpty_15 ?_
      obtain rfl := Option.some.inj h
      exact zt_zret hC rfl rfl (Or.inr rfl) (Nat.le_of_ble_eq_true rfl) (Nat.le_of_ble_eq_true rfl) dX7_isEmpty_19
  · refine zt_ifnonnull (tgt := 18) hC (by decide) dX7_isEmpty_4 ?_
    refine zt_iconst hC ki_0 dX7_isEmpty_18 ?_
    obtain rfl := Option.some.inj h
    exact zt_zret hC rfl rfl (Or.inl rfl) (Nat.le_of_ble_eq_true rfl) (Nat.le_of_ble_eq_true rfl) dX7_isEmpty_19
def rm_X7_read : Room := { frames := 1, cells := 0, slots := 0, locals := 21 }
theorem hd_X7_read : yX7_read.cls ≠ "java/lang/invoke/MethodHandle" ∧ yX7_read.cls ≠ "java/lang/invoke/VarHandle" ∧ (parseMethodDescriptor yX7_read.desc).map (fun d => d.parameters.length) = some 1 := by decide +kernel
def f_X7_read (N : Nat) (x0 : Nat) (x1 : Int32) (M : Mm) : Option (Int32 × Mm) :=
gR 7 M x0 3 (fun v1 =>
bnd (f_X11_at N v1 x1 M) (fun v2 M3 =>
some (v2, M3)))
set_option maxRecDepth 100000 in
set_option maxHeartbeats 4000000 in
theorem c_X7_read (N : Nat) (x0 : Nat) (x1 : Int32) (M : Mm) (r : (Int32 × Mm)) (h : f_X7_read N x0 x1 M = some r) (l : Launch) (hfl : l.flags = flags0) {G : Gl} : MT l G yX7_read cX7_read 2 (some .int) rm_X7_read [.ref x0, .int x1] M (some (.int r.1)) r.2 := by
  unfold f_X7_read at h
  refine zt_start hfl (lv := [(0, .ref x0), (1, .int x1)]) (by decide) (Nat.le_of_ble_eq_true rfl) rfl wd_626 (fun X hC _ => ?_)
  refine zt_aload_n hC rfl dX7_read_0 ?_
  refine zt_gR hC h cl7 (k := 3) (by decide) rfl wd_216 (Or.inl rfl) dX7_read_1 (fun v1 h => ?_)
  refine zt_iload_n hC rfl dX7_read_4 ?_
  obtain ⟨v2, M3, h4, h⟩ := bnd_some h
  refine zt_callSN (z := yX11_at) (As := [.ref v1, .int x1]) (rest := []) (st1 := (.int v2 :: [])) hC 2 (fun l hl => c_X11_at N v1 x1 M (v2, M3) h4 l hl) wd_379 (by decide) wd_378 wd_1 hd_X11_at rfl ⟨⟨(Nat.le_of_ble_eq_true rfl), (Nat.le_of_ble_eq_true rfl)⟩, (Nat.le_of_ble_eq_true rfl), (Nat.le_of_ble_eq_true rfl)⟩ rfl (Nat.le_of_ble_eq_true rfl) rfl dX7_read_5 ?_
  obtain rfl := Option.some.inj h
  exact zt_iret hC rfl rfl (Nat.le_of_ble_eq_true rfl) (Nat.le_of_ble_eq_true rfl) dX7_read_8
def rm_X7_write : Room := { frames := 1, cells := 0, slots := 0, locals := 22 }
theorem hd_X7_write : yX7_write.cls ≠ "java/lang/invoke/MethodHandle" ∧ yX7_write.cls ≠ "java/lang/invoke/VarHandle" ∧ (parseMethodDescriptor yX7_write.desc).map (fun d => d.parameters.length) = some 2 := by decide +kernel
def j_X7_write_45 (N : Nat) (s0 : Int32) (s1 : Int32) (s2 : Nat) (M : Mm) : Option (Int32 × Mm) :=
bnd (f_X11_change N s2 s1 s0 M) (fun v1 M2 =>
some ((1 : Int32), M2))
set_option maxRecDepth 100000 in
set_option maxHeartbeats 4000000 in
theorem w_X7_write_45 {X : Cx} {G : Gl} {r : (Int32 × Mm)} (N : Nat) (hC : CX X G yX7_write cX7_write 3 (some .boolean) rm_X7_write) (s0 : Int32) (s1 : Int32) (s2 : Nat) (M : Mm) (h : j_X7_write_45 N s0 s1 s2 M = some r) : TW X G 3 (RQ X G (some (.int r.1)) r.2 rm_X7_write) 0 0 M 45 [] [.int s0, .int s1, .ref s2] := by
  unfold j_X7_write_45 at h
  obtain ⟨v1, M2, h3, h⟩ := bnd_some h
  refine zt_callSN (z := yX11_change) (As := [.ref s2, .int s1, .int s0]) (rest := []) (st1 := []) hC 3 (fun l hl => c_X11_change N s2 s1 s0 M (v1, M2) h3 l hl) wd_299 (by decide) wd_298 wd_1 hd_X11_change rfl ⟨⟨(Nat.le_of_ble_eq_true rfl), (Nat.le_of_ble_eq_true rfl)⟩, (Nat.le_of_ble_eq_true rfl), (Nat.le_of_ble_eq_true rfl)⟩ rfl (Nat.le_of_ble_eq_true rfl) rfl dX7_write_45 ?_
  refine zt_iconst hC ki_1 dX7_write_48 ?_
  obtain rfl := Option.some.inj h
  exact zt_zret hC rfl rfl (Or.inr rfl) (Nat.le_of_ble_eq_true rfl) (Nat.le_of_ble_eq_true rfl) dX7_write_49
def f_X7_write (N : Nat) (x0 : Nat) (x1 : Int32) (x2 : Int32) (M : Mm) : Option (Int32 × Mm) :=
(if x1 < 0 then
some ((0 : Int32), M)
else
gI 7 M x0 2 (fun v1 =>
(if x1 < v1 then
gR 7 M x0 3 (fun v2 =>
gI 7 M x0 1 (fun v3 =>
(if v3 = 0 then
j_X7_write_45 N (Int8.toInt32 (Int32.toInt8 x2)) x1 v2 M
else
gI 7 M x0 1 (fun v4 =>
(if v4 = (1 : Int32) then
j_X7_write_45 N (Int16.toInt32 (Int32.toInt16 x2)) x1 v2 M
else
j_X7_write_45 N x2 x1 v2 M)))))
else
some ((0 : Int32), M))))
set_option maxRecDepth 100000 in
set_option maxHeartbeats 4000000 in
theorem c_X7_write (N : Nat) (x0 : Nat) (x1 : Int32) (x2 : Int32) (M : Mm) (r : (Int32 × Mm)) (h : f_X7_write N x0 x1 x2 M = some r) (l : Launch) (hfl : l.flags = flags0) {G : Gl} : MT l G yX7_write cX7_write 3 (some .boolean) rm_X7_write [.ref x0, .int x1, .int x2] M (some (.int r.1)) r.2 := by
  unfold f_X7_write at h
  refine zt_start hfl (lv := [(0, .ref x0), (1, .int x1), (2, .int x2)]) (by decide) (Nat.le_of_ble_eq_true rfl) rfl wd_788 (fun X hC _ => ?_)
  refine zt_iload_n hC rfl dX7_write_0 ?_
  refine zt_if_lt (tgt := 12) hC h (by decide) dX7_write_1 (fun h => ?_) (fun h => ?_)
  · refine zt_iconst hC ki_0 dX7_write_12 ?_
    obtain rfl := Option.some.inj h
    exact zt_zret hC rfl rfl (Or.inl rfl) (Nat.le_of_ble_eq_true rfl) (Nat.le_of_ble_eq_true rfl) dX7_write_13
  · refine zt_iload_n hC rfl dX7_write_4 ?_
    refine zt_aload_n hC rfl dX7_write_5 ?_
    refine zt_gI hC h cl7 (k := 2) (by decide) rfl wd_214 (Or.inl rfl) dX7_write_6 (fun v1 h => ?_)
    refine zt_icmp_lt (tgt := 14) hC h (by decide) dX7_write_9 (fun h => ?_) (fun h => ?_)
    · refine zt_aload_n hC rfl dX7_write_14 ?_
      refine zt_gR hC h cl7 (k := 3) (by decide) rfl wd_216 (Or.inl rfl) dX7_write_15 (fun v2 h => ?_)
      refine zt_iload_n hC rfl dX7_write_18 ?_
      refine zt_aload_n hC rfl dX7_write_19 ?_
      refine zt_gI hC h cl7 (k := 1) (by decide) rfl wd_212 (Or.inl rfl) dX7_write_20 (fun v3 h => ?_)
      refine zt_if_ne (tgt := 31) hC h (by decide) dX7_write_23 (fun h => ?_) (fun h => ?_)
      · refine zt_aload_n hC rfl dX7_write_31 ?_
        refine zt_gI hC h cl7 (k := 1) (by decide) rfl wd_212 (Or.inl rfl) dX7_write_32 (fun v4 h => ?_)
        refine zt_iconst hC ki_1 dX7_write_35 ?_
        refine zt_icmp_ne (tgt := 44) hC h (by decide) dX7_write_36 (fun h => ?_) (fun h => ?_)
        · refine zt_iload_n hC rfl dX7_write_44 ?_
          refine zt_keep [] rfl ?_
          exact w_X7_write_45 N hC x2 x1 v2 M h
        · refine zt_iload_n hC rfl dX7_write_39 ?_
          refine zt_i2s hC dX7_write_40 ?_
          refine zt_goto (tgt := 45) hC (by decide) dX7_write_41 ?_
          refine zt_keep [] rfl ?_
          exact w_X7_write_45 N hC (Int16.toInt32 (Int32.toInt16 x2)) x1 v2 M h
      · refine zt_iload_n hC rfl dX7_write_26 ?_
        refine zt_i2b hC dX7_write_27 ?_
        refine zt_goto (tgt := 45) hC (by decide) dX7_write_28 ?_
        refine zt_keep [] rfl ?_
        exact w_X7_write_45 N hC (Int8.toInt32 (Int32.toInt8 x2)) x1 v2 M h
    · refine zt_iconst hC ki_0 dX7_write_12 ?_
      obtain rfl := Option.some.inj h
      exact zt_zret hC rfl rfl (Or.inl rfl) (Nat.le_of_ble_eq_true rfl) (Nat.le_of_ble_eq_true rfl) dX7_write_13
def rm_X7_hasPlaces : Room := { frames := 0, cells := 0, slots := 0, locals := 0 }
theorem hd_X7_hasPlaces : yX7_hasPlaces.cls ≠ "java/lang/invoke/MethodHandle" ∧ yX7_hasPlaces.cls ≠ "java/lang/invoke/VarHandle" ∧ (parseMethodDescriptor yX7_hasPlaces.desc).map (fun d => d.parameters.length) = some 2 := by decide +kernel
def f_X7_hasPlaces (N : Nat) (x0 : Nat) (x1 : Int32) (x2 : Int32) (M : Mm) : Option (Int32 × Mm) :=
(if x2 < 0 then
some ((0 : Int32), M)
else
(if x1 < 0 then
some ((0 : Int32), M)
else
gI 7 M x0 2 (fun v1 =>
(if v1 < x1 then
some ((0 : Int32), M)
else
gI 7 M x0 2 (fun v2 =>
(if (v2 - x1) < x2 then
some ((0 : Int32), M)
else
some ((1 : Int32), M)))))))
set_option maxRecDepth 100000 in
set_option maxHeartbeats 4000000 in
theorem c_X7_hasPlaces (N : Nat) (x0 : Nat) (x1 : Int32) (x2 : Int32) (M : Mm) (r : (Int32 × Mm)) (h : f_X7_hasPlaces N x0 x1 x2 M = some r) (l : Launch) (hfl : l.flags = flags0) {G : Gl} : MT l G yX7_hasPlaces cX7_hasPlaces 3 (some .boolean) rm_X7_hasPlaces [.ref x0, .int x1, .int x2] M (some (.int r.1)) r.2 := by
  unfold f_X7_hasPlaces at h
  refine zt_start hfl (lv := [(0, .ref x0), (1, .int x1), (2, .int x2)]) (by decide) (Nat.le_of_ble_eq_true rfl) rfl wd_797 (fun X hC _ => ?_)
  refine zt_iload_n hC rfl dX7_hasPlaces_0 ?_
  refine zt_if_lt (tgt := 30) hC h (by decide) dX7_hasPlaces_1 (fun h => ?_) (fun h => ?_)
  · refine zt_iconst hC ki_0 dX7_hasPlaces_30 ?_
    obtain rfl := Option.some.inj h
    exact zt_zret hC rfl rfl (Or.inl rfl) (Nat.le_of_ble_eq_true rfl) (Nat.le_of_ble_eq_true rfl) dX7_hasPlaces_31
  · refine zt_iload_n hC rfl dX7_hasPlaces_4 ?_
    refine zt_if_lt (tgt := 30) hC h (by decide) dX7_hasPlaces_5 (fun h => ?_) (fun h => ?_)
    · refine zt_iconst hC ki_0 dX7_hasPlaces_30 ?_
      obtain rfl := Option.some.inj h
      exact zt_zret hC rfl rfl (Or.inl rfl) (Nat.le_of_ble_eq_true rfl) (Nat.le_of_ble_eq_true rfl) dX7_hasPlaces_31
    · refine zt_iload_n hC rfl dX7_hasPlaces_8 ?_
      refine zt_aload_n hC rfl dX7_hasPlaces_9 ?_
      refine zt_gI hC h cl7 (k := 2) (by decide) rfl wd_214 (Or.inl rfl) dX7_hasPlaces_10 (fun v1 h => ?_)
      refine zt_icmp_gt (tgt := 30) hC h (by decide) dX7_hasPlaces_13 (fun h => ?_) (fun h => ?_)
      · refine zt_iconst hC ki_0 dX7_hasPlaces_30 ?_
        obtain rfl := Option.some.inj h
        exact zt_zret hC rfl rfl (Or.inl rfl) (Nat.le_of_ble_eq_true rfl) (Nat.le_of_ble_eq_true rfl) dX7_hasPlaces_31
      · refine zt_iload_n hC rfl dX7_hasPlaces_16 ?_
        refine zt_aload_n hC rfl dX7_hasPlaces_17 ?_
        refine zt_gI hC h cl7 (k := 2) (by decide) rfl wd_214 (Or.inl rfl) dX7_hasPlaces_18 (fun v2 h => ?_)
        refine zt_iload_n hC rfl dX7_hasPlaces_21 ?_
        refine zt_isub hC dX7_hasPlaces_22 ?_
        refine zt_icmp_gt (tgt := 30) hC h (by decide) dX7_hasPlaces_23 (fun h => ?_) (fun h => ?_)
        · refine zt_iconst hC ki_0 dX7_hasPlaces_30 ?_
          obtain rfl := Option.some.inj h
          exact zt_zret hC rfl rfl (Or.inl rfl) (Nat.le_of_ble_eq_true rfl) (Nat.le_of_ble_eq_true rfl) dX7_hasPlaces_31
        · refine zt_iconst hC ki_1 dX7_hasPlaces_26 ?_
          refine zt_goto (tgt := 31) hC (by decide) dX7_hasPlaces_27 ?_
          obtain rfl := Option.some.inj h
          exact zt_zret hC rfl rfl (Or.inr rfl) (Nat.le_of_ble_eq_true rfl) (Nat.le_of_ble_eq_true rfl) dX7_hasPlaces_31
def rm_X7_holdsKinds : Room := { frames := 2, cells := 0, slots := 0, locals := 42 }
theorem hd_X7_holdsKinds : yX7_holdsKinds.cls ≠ "java/lang/invoke/MethodHandle" ∧ yX7_holdsKinds.cls ≠ "java/lang/invoke/VarHandle" ∧ (parseMethodDescriptor yX7_holdsKinds.desc).map (fun d => d.parameters.length) = some 0 := by decide +kernel
def b_X7_holdsKinds_2 (N : Nat) (k2 : Nat → Int32 → Mm → Option (Int32 × Mm)) (x0 : Nat) (x1 : Int32) (M : Mm) : Option (Int32 × Mm) :=
gI 7 M x0 2 (fun v1 =>
(if v1 ≤ x1 then
gI 7 M x0 2 (fun v2 =>
(if v2 < (1 : Int32) then
some ((0 : Int32), M)
else
gI 7 M x0 2 (fun v3 =>
(if (7 : Int32) < v3 then
some ((0 : Int32), M)
else
some ((1 : Int32), M)))))
else
ck 7 M x0 (bnd (f_X7_read N x0 x1 M) (fun v4 M5 =>
(if v4 < 0 then
some ((0 : Int32), M5)
else
ck 7 M5 x0 (bnd (f_X7_read N x0 x1 M5) (fun v7 M8 =>
(if v7 < (7 : Int32) then
k2 x0 (x1 + (1 : Int32)) M8
else
some ((0 : Int32), M8)))))))))
def l_X7_holdsKinds_2 (N : Nat) : Nat → Nat → Int32 → Mm → Option (Int32 × Mm)
  | 0 => fun _ _ _ => none
  | n + 1 => b_X7_holdsKinds_2 N (l_X7_holdsKinds_2 N n)
set_option maxRecDepth 100000 in
set_option maxHeartbeats 4000000 in
theorem v_X7_holdsKinds_2 {X : Cx} {G : Gl} {r : (Int32 × Mm)} (N : Nat) (hC : CX X G yX7_holdsKinds cX7_holdsKinds 2 (some .boolean) rm_X7_holdsKinds) (k2 : Nat → Int32 → Mm → Option (Int32 × Mm)) (hk2 : ∀ (x0 : Nat) (x1 : Int32) (M : Mm), k2 x0 x1 M = some r → TW X G 2 (RQ X G (some (.int r.1)) r.2 rm_X7_holdsKinds) 0 0 M 2 [(0, .ref x0), (1, .int x1)] []) (x0 : Nat) (x1 : Int32) (M : Mm) (h : b_X7_holdsKinds_2 N k2 x0 x1 M = some r) : TW X G 2 (RQ X G (some (.int r.1)) r.2 rm_X7_holdsKinds) 0 0 M 2 [(0, .ref x0), (1, .int x1)] [] := by
  unfold b_X7_holdsKinds_2 at h
  refine zt_iload_n hC rfl dX7_holdsKinds_2 ?_
  refine zt_aload_n hC rfl dX7_holdsKinds_3 ?_
  refine zt_gI hC h cl7 (k := 2) (by decide) rfl wd_214 (Or.inl rfl) dX7_holdsKinds_4 (fun v1 h => ?_)
  refine zt_icmp_ge (tgt := 36) hC h (by decide) dX7_holdsKinds_7 (fun h => ?_) (fun h => ?_)
  · refine zt_aload_n hC rfl dX7_holdsKinds_36 ?_
    refine zt_gI hC h cl7 (k := 2) (by decide) rfl wd_214 (Or.inl rfl) dX7_holdsKinds_37 (fun v2 h => ?_)
    refine zt_iconst hC ki_1 dX7_holdsKinds_40 ?_
    refine zt_icmp_lt (tgt := 57) hC h (by decide) dX7_holdsKinds_41 (fun h => ?_) (fun h => ?_)
    · refine zt_iconst hC ki_0 dX7_holdsKinds_57 ?_
      obtain rfl := Option.some.inj h
      exact zt_zret hC rfl rfl (Or.inl rfl) (Nat.le_of_ble_eq_true rfl) (Nat.le_of_ble_eq_true rfl) dX7_holdsKinds_58
    · refine zt_aload_n hC rfl dX7_holdsKinds_44 ?_
      refine zt_gI hC h cl7 (k := 2) (by decide) rfl wd_214 (Or.inl rfl) dX7_holdsKinds_45 (fun v3 h => ?_)
      refine zt_bipush hC kb_7 dX7_holdsKinds_48 ?_
      refine zt_icmp_gt (tgt := 57) hC h (by decide) dX7_holdsKinds_50 (fun h => ?_) (fun h => ?_)
      · refine zt_iconst hC ki_0 dX7_holdsKinds_57 ?_
        obtain rfl := Option.some.inj h
        exact zt_zret hC rfl rfl (Or.inl rfl) (Nat.le_of_ble_eq_true rfl) (Nat.le_of_ble_eq_true rfl) dX7_holdsKinds_58
      · refine zt_iconst hC ki_1 dX7_holdsKinds_53 ?_
        refine zt_goto (tgt := 58) hC (by decide) dX7_holdsKinds_54 ?_
        obtain rfl := Option.some.inj h
        exact zt_zret hC rfl rfl (Or.inr rfl) (Nat.le_of_ble_eq_true rfl) (Nat.le_of_ble_eq_true rfl) dX7_holdsKinds_58
  · refine zt_aload_n hC rfl dX7_holdsKinds_10 ?_
    refine zt_iload_n hC rfl dX7_holdsKinds_11 ?_
    obtain ⟨hk, h⟩ := ck_some h
    obtain ⟨v4, M5, h6, h⟩ := bnd_some h
    refine zt_callV (z := yX7_read) (As := [.int x1]) (rest := []) (st1 := (.int v4 :: [])) hC 1 hk cl7 (fun l hl => c_X7_read N x0 x1 M (v4, M5) h6 l hl) rfl wd_626 wd_623 wd_624 wd_625 wd_6 hd_X7_read rfl ⟨⟨(Nat.le_of_ble_eq_true rfl), (Nat.le_of_ble_eq_true rfl)⟩, (Nat.le_of_ble_eq_true rfl), (Nat.le_of_ble_eq_true rfl)⟩ rfl (Nat.le_of_ble_eq_true rfl) rfl dX7_holdsKinds_12 ?_
    refine zt_if_lt (tgt := 28) hC h (by decide) dX7_holdsKinds_15 (fun h => ?_) (fun h => ?_)
    · refine zt_iconst hC ki_0 dX7_holdsKinds_28 ?_
      obtain rfl := Option.some.inj h
      exact zt_zret hC rfl rfl (Or.inl rfl) (Nat.le_of_ble_eq_true rfl) (Nat.le_of_ble_eq_true rfl) dX7_holdsKinds_29
    · refine zt_aload_n hC rfl dX7_holdsKinds_18 ?_
      refine zt_iload_n hC rfl dX7_holdsKinds_19 ?_
      obtain ⟨hk, h⟩ := ck_some h
      obtain ⟨v7, M8, h9, h⟩ := bnd_some h
      refine zt_callV (z := yX7_read) (As := [.int x1]) (rest := []) (st1 := (.int v7 :: [])) hC 1 hk cl7 (fun l hl => c_X7_read N x0 x1 M5 (v7, M8) h9 l hl) rfl wd_626 wd_623 wd_624 wd_625 wd_6 hd_X7_read rfl ⟨⟨(Nat.le_of_ble_eq_true rfl), (Nat.le_of_ble_eq_true rfl)⟩, (Nat.le_of_ble_eq_true rfl), (Nat.le_of_ble_eq_true rfl)⟩ rfl (Nat.le_of_ble_eq_true rfl) rfl dX7_holdsKinds_20 ?_
      refine zt_bipush hC kb_7 dX7_holdsKinds_23 ?_
      refine zt_icmp_lt (tgt := 30) hC h (by decide) dX7_holdsKinds_25 (fun h => ?_) (fun h => ?_)
      · refine zt_iinc (v := (x1 + (1 : Int32))) (lv' := [(1, .int (x1 + (1 : Int32))), (0, .ref x0)]) hC rfl (by rw [ki_1]) (by decide) rfl dX7_holdsKinds_30 ?_
        refine zt_goto (tgt := 2) hC (by decide) dX7_holdsKinds_33 ?_
        refine zt_keep [0, 1] rfl ?_
        exact hk2 x0 (x1 + (1 : Int32)) M8 h
      · refine zt_iconst hC ki_0 dX7_holdsKinds_28 ?_
        obtain rfl := Option.some.inj h
        exact zt_zret hC rfl rfl (Or.inl rfl) (Nat.le_of_ble_eq_true rfl) (Nat.le_of_ble_eq_true rfl) dX7_holdsKinds_29
theorem w_X7_holdsKinds_2 {X : Cx} {G : Gl} {r : (Int32 × Mm)} (N : Nat) (hC : CX X G yX7_holdsKinds cX7_holdsKinds 2 (some .boolean) rm_X7_holdsKinds) (n : Nat) : ∀ (x0 : Nat) (x1 : Int32) (M : Mm), l_X7_holdsKinds_2 N n x0 x1 M = some r → TW X G 2 (RQ X G (some (.int r.1)) r.2 rm_X7_holdsKinds) 0 0 M 2 [(0, .ref x0), (1, .int x1)] [] := by
  induction n with
  | zero => intro  x0 x1 M h; cases (show none = some r from h)
  | succ n ih => intro  x0 x1 M h; exact v_X7_holdsKinds_2 N hC (l_X7_holdsKinds_2 N n) ih x0 x1 M h
def f_X7_holdsKinds (N : Nat) (x0 : Nat) (M : Mm) : Option (Int32 × Mm) :=
l_X7_holdsKinds_2 N N x0 (0 : Int32) M
set_option maxRecDepth 100000 in
set_option maxHeartbeats 4000000 in
theorem c_X7_holdsKinds (N : Nat) (x0 : Nat) (M : Mm) (r : (Int32 × Mm)) (h : f_X7_holdsKinds N x0 M = some r) (l : Launch) (hfl : l.flags = flags0) {G : Gl} : MT l G yX7_holdsKinds cX7_holdsKinds 2 (some .boolean) rm_X7_holdsKinds [.ref x0] M (some (.int r.1)) r.2 := by
  unfold f_X7_holdsKinds at h
  refine zt_start hfl (lv := [(0, .ref x0)]) (by decide) (Nat.le_of_ble_eq_true rfl) rfl wd_622 (fun X hC _ => ?_)
  refine zt_iconst hC ki_0 dX7_holdsKinds_0 ?_
  refine zt_istore_n (lv' := [(1, .int (0 : Int32)), (0, .ref x0)]) hC (by decide) rfl dX7_holdsKinds_1 ?_
  refine zt_keep [0, 1] rfl ?_
  exact w_X7_holdsKinds_2 N hC N x0 (0 : Int32) M h
def rm_X7_leastNumber : Room := { frames := 0, cells := 0, slots := 0, locals := 0 }
theorem hd_X7_leastNumber : yX7_leastNumber.cls ≠ "java/lang/invoke/MethodHandle" ∧ yX7_leastNumber.cls ≠ "java/lang/invoke/VarHandle" ∧ (parseMethodDescriptor yX7_leastNumber.desc).map (fun d => d.parameters.length) = some 0 := by decide +kernel
def f_X7_leastNumber (N : Nat) (x0 : Nat) (M : Mm) : Option (Int32 × Mm) :=
gI 7 M x0 1 (fun v1 =>
(if v1 = 0 then
some ((-128 : Int32), M)
else
gI 7 M x0 1 (fun v2 =>
(if v2 = (1 : Int32) then
some ((-32768 : Int32), M)
else
some ((-2147483648 : Int32), M)))))
set_option maxRecDepth 100000 in
set_option maxHeartbeats 4000000 in
theorem c_X7_leastNumber (N : Nat) (x0 : Nat) (M : Mm) (r : (Int32 × Mm)) (h : f_X7_leastNumber N x0 M = some r) (l : Launch) (hfl : l.flags = flags0) {G : Gl} : MT l G yX7_leastNumber cX7_leastNumber 1 (some .int) rm_X7_leastNumber [.ref x0] M (some (.int r.1)) r.2 := by
  unfold f_X7_leastNumber at h
  refine zt_start hfl (lv := [(0, .ref x0)]) (by decide) (Nat.le_of_ble_eq_true rfl) rfl wd_746 (fun X hC _ => ?_)
  refine zt_aload_n hC rfl dX7_leastNumber_0 ?_
  refine zt_gI hC h cl7 (k := 1) (by decide) rfl wd_212 (Or.inl rfl) dX7_leastNumber_1 (fun v1 h => ?_)
  refine zt_if_ne (tgt := 12) hC h (by decide) dX7_leastNumber_4 (fun h => ?_) (fun h => ?_)
  · refine zt_aload_n hC rfl dX7_leastNumber_12 ?_
    refine zt_gI hC h cl7 (k := 1) (by decide) rfl wd_212 (Or.inl rfl) dX7_leastNumber_13 (fun v2 h => ?_)
    refine zt_iconst hC ki_1 dX7_leastNumber_16 ?_
    refine zt_icmp_ne (tgt := 26) hC h (by decide) dX7_leastNumber_17 (fun h => ?_) (fun h => ?_)
    · refine zt_ldc hC wd_747 dX7_leastNumber_26 ?_
      obtain rfl := Option.some.inj h
      exact zt_iret hC rfl rfl (Nat.le_of_ble_eq_true rfl) (Nat.le_of_ble_eq_true rfl) dX7_leastNumber_28
    · refine zt_sipush hC ks_m32768 dX7_leastNumber_20 ?_
      refine zt_goto (tgt := 28) hC (by decide) dX7_leastNumber_23 ?_
      obtain rfl := Option.some.inj h
      exact zt_iret hC rfl rfl (Nat.le_of_ble_eq_true rfl) (Nat.le_of_ble_eq_true rfl) dX7_leastNumber_28
  · refine zt_bipush hC kb_m128 dX7_leastNumber_7 ?_
    refine zt_goto (tgt := 28) hC (by decide) dX7_leastNumber_9 ?_
    obtain rfl := Option.some.inj h
    exact zt_iret hC rfl rfl (Nat.le_of_ble_eq_true rfl) (Nat.le_of_ble_eq_true rfl) dX7_leastNumber_28
def rm_X9_init : Room := { frames := 2, cells := 0, slots := 0, locals := 45 }
theorem hd_X9_init : yX9_init.cls ≠ "java/lang/invoke/MethodHandle" ∧ yX9_init.cls ≠ "java/lang/invoke/VarHandle" ∧ (parseMethodDescriptor yX9_init.desc).map (fun d => d.parameters.length) = some 1 := by decide +kernel
def f_X9_init (N : Nat) (x0 : Nat) (x1 : Int32) (M : Mm) : Option (Unit × Mm) :=
bnd (f_X6_init N x0 x1 M) (fun v1 M2 =>
some ((), M2))
set_option maxRecDepth 100000 in
set_option maxHeartbeats 4000000 in
theorem c_X9_init (N : Nat) (x0 : Nat) (x1 : Int32) (M : Mm) (r : (Unit × Mm)) (h : f_X9_init N x0 x1 M = some r) (l : Launch) (hfl : l.flags = flags0) {G : Gl} : MT l G yX9_init cX9_init 2 none rm_X9_init [.ref x0, .int x1] M none r.2 := by
  unfold f_X9_init at h
  refine zt_start hfl (lv := [(0, .ref x0), (1, .int x1)]) (by decide) (Nat.le_of_ble_eq_true rfl) rfl wd_636 (fun X hC _ => ?_)
  refine zt_aload_n hC rfl dX9_init_0 ?_
  refine zt_iload_n hC rfl dX9_init_1 ?_
  obtain ⟨v1, M2, h3, h⟩ := bnd_some h
  refine zt_callI (z := yX6_init) (As := [.int x1]) (rest := []) hC 1 (fun l hl => c_X6_init N x0 x1 M (v1, M2) h3 l hl) wd_46 wd_637 wd_45 wd_4 rfl hd_X6_init rfl ⟨⟨(Nat.le_of_ble_eq_true rfl), (Nat.le_of_ble_eq_true rfl)⟩, (Nat.le_of_ble_eq_true rfl), (Nat.le_of_ble_eq_true rfl)⟩ rfl (Nat.le_of_ble_eq_true rfl) dX9_init_2 ?_
  obtain rfl := Option.some.inj h
  exact zt_vret hC rfl rfl (Nat.le_of_ble_eq_true rfl) (Nat.le_of_ble_eq_true rfl) dX9_init_5
def rm_X8_init : Room := { frames := 3, cells := 0, slots := 0, locals := 66 }
theorem hd_X8_init : yX8_init.cls ≠ "java/lang/invoke/MethodHandle" ∧ yX8_init.cls ≠ "java/lang/invoke/VarHandle" ∧ (parseMethodDescriptor yX8_init.desc).map (fun d => d.parameters.length) = some 1 := by decide +kernel
def f_X8_init (N : Nat) (x0 : Nat) (x1 : Int32) (M : Mm) : Option (Unit × Mm) :=
bnd (f_X9_init N x0 x1 M) (fun v1 M2 =>
some ((), M2))
set_option maxRecDepth 100000 in
set_option maxHeartbeats 4000000 in
theorem c_X8_init (N : Nat) (x0 : Nat) (x1 : Int32) (M : Mm) (r : (Unit × Mm)) (h : f_X8_init N x0 x1 M = some r) (l : Launch) (hfl : l.flags = flags0) {G : Gl} : MT l G yX8_init cX8_init 2 none rm_X8_init [.ref x0, .int x1] M none r.2 := by
  unfold f_X8_init at h
  refine zt_start hfl (lv := [(0, .ref x0), (1, .int x1)]) (by decide) (Nat.le_of_ble_eq_true rfl) rfl wd_674 (fun X hC _ => ?_)
  refine zt_aload_n hC rfl dX8_init_0 ?_
  refine zt_iload_n hC rfl dX8_init_1 ?_
  obtain ⟨v1, M2, h3, h⟩ := bnd_some h
  refine zt_callI (z := yX9_init) (As := [.int x1]) (rest := []) hC 1 (fun l hl => c_X9_init N x0 x1 M (v1, M2) h3 l hl) wd_636 wd_675 wd_635 wd_13 rfl hd_X9_init rfl ⟨⟨(Nat.le_of_ble_eq_true rfl), (Nat.le_of_ble_eq_true rfl)⟩, (Nat.le_of_ble_eq_true rfl), (Nat.le_of_ble_eq_true rfl)⟩ rfl (Nat.le_of_ble_eq_true rfl) dX8_init_2 ?_
  obtain rfl := Option.some.inj h
  exact zt_vret hC rfl rfl (Nat.le_of_ble_eq_true rfl) (Nat.le_of_ble_eq_true rfl) dX8_init_5
def rm_X8_kind : Room := { frames := 0, cells := 0, slots := 0, locals := 0 }
theorem hd_X8_kind : yX8_kind.cls ≠ "java/lang/invoke/MethodHandle" ∧ yX8_kind.cls ≠ "java/lang/invoke/VarHandle" ∧ (parseMethodDescriptor yX8_kind.desc).map (fun d => d.parameters.length) = some 0 := by decide +kernel
def f_X8_kind (N : Nat) (x0 : Nat) (M : Mm) : Option (Int32 × Mm) :=
some ((6 : Int32), M)
set_option maxRecDepth 100000 in
set_option maxHeartbeats 4000000 in
theorem c_X8_kind (N : Nat) (x0 : Nat) (M : Mm) (r : (Int32 × Mm)) (h : f_X8_kind N x0 M = some r) (l : Launch) (hfl : l.flags = flags0) {G : Gl} : MT l G yX8_kind cX8_kind 1 (some .int) rm_X8_kind [.ref x0] M (some (.int r.1)) r.2 := by
  unfold f_X8_kind at h
  refine zt_start hfl (lv := [(0, .ref x0)]) (by decide) (Nat.le_of_ble_eq_true rfl) rfl wd_429 (fun X hC _ => ?_)
  refine zt_bipush hC kb_6 dX8_kind_0 ?_
  obtain rfl := Option.some.inj h
  exact zt_iret hC rfl rfl (Nat.le_of_ble_eq_true rfl) (Nat.le_of_ble_eq_true rfl) dX8_kind_2
def rm_X8_heading : Room := { frames := 0, cells := 0, slots := 0, locals := 0 }
theorem hd_X8_heading : yX8_heading.cls ≠ "java/lang/invoke/MethodHandle" ∧ yX8_heading.cls ≠ "java/lang/invoke/VarHandle" ∧ (parseMethodDescriptor yX8_heading.desc).map (fun d => d.parameters.length) = some 2 := by decide +kernel
def f_X8_heading (N : Nat) (x0 : Nat) (x1 : Nat) (x2 : Nat) (M : Mm) : Option (Int32 × Mm) :=
gI 10 M x1 0 (fun v1 =>
(if v1 ≤ 0 then
some ((-1 : Int32), M)
else
gF M x0 (fun v2 =>
gI 10 M x1 0 (fun v3 =>
irm v2 v3 (fun v4 =>
some (v4, M))))))
set_option maxRecDepth 100000 in
set_option maxHeartbeats 4000000 in
theorem c_X8_heading (N : Nat) (x0 : Nat) (x1 : Nat) (x2 : Nat) (M : Mm) (r : (Int32 × Mm)) (h : f_X8_heading N x0 x1 x2 M = some r) (l : Launch) (hfl : l.flags = flags0) {G : Gl} : MT l G yX8_heading cX8_heading 3 (some .int) rm_X8_heading [.ref x0, .ref x1, .ref x2] M (some (.int r.1)) r.2 := by
  unfold f_X8_heading at h
  refine zt_start hfl (lv := [(0, .ref x0), (1, .ref x1), (2, .ref x2)]) (by decide) (Nat.le_of_ble_eq_true rfl) rfl wd_528 (fun X hC _ => ?_)
  refine zt_aload_n hC rfl dX8_heading_0 ?_
  refine zt_gI hC h cl10 (k := 0) (by decide) rfl wd_103 (Or.inl rfl) dX8_heading_1 (fun v1 h => ?_)
  refine zt_if_le (tgt := 19) hC h (by decide) dX8_heading_4 (fun h => ?_) (fun h => ?_)
  · refine zt_iconst hC ki_m1 dX8_heading_19 ?_
    obtain rfl := Option.some.inj h
    exact zt_iret hC rfl rfl (Nat.le_of_ble_eq_true rfl) (Nat.le_of_ble_eq_true rfl) dX8_heading_20
  · refine zt_aload_n hC rfl dX8_heading_7 ?_
    refine zt_gF hC h wd_55 (Or.inr wd_56) dX8_heading_8 (fun v2 h => ?_)
    refine zt_aload_n hC rfl dX8_heading_11 ?_
    refine zt_gI hC h cl10 (k := 0) (by decide) rfl wd_103 (Or.inl rfl) dX8_heading_12 (fun v3 h => ?_)
    refine zt_irem hC h dX8_heading_15 (fun v4 h => ?_)
    refine zt_goto (tgt := 20) hC (by decide) dX8_heading_16 ?_
    obtain rfl := Option.some.inj h
    exact zt_iret hC rfl rfl (Nat.le_of_ble_eq_true rfl) (Nat.le_of_ble_eq_true rfl) dX8_heading_20
def rm_X9_cost : Room := { frames := 1, cells := 0, slots := 0, locals := 20 }
theorem hd_X9_cost : yX9_cost.cls ≠ "java/lang/invoke/MethodHandle" ∧ yX9_cost.cls ≠ "java/lang/invoke/VarHandle" ∧ (parseMethodDescriptor yX9_cost.desc).map (fun d => d.parameters.length) = some 0 := by decide +kernel
theorem hds_X9_cost : yX9_cost.name ≠ "<init>" ∧ (parseMethodDescriptor yX9_cost.desc).map (fun d => d.parameters.length) = some 0 := by decide +kernel
def f_X9_cost (N : Nat) (x0 : Nat) (M : Mm) : Option (Int32 × Mm) :=
rq (isRule (M.1 x0).1 = true) (bnd (f_X6_cost N x0 M) (fun v1 M2 =>
gF M2 x0 (fun v4 =>
some ((v1 + v4), M2))))
set_option maxRecDepth 100000 in
set_option maxHeartbeats 4000000 in
theorem c_X9_cost (N : Nat) (x0 : Nat) (M : Mm) (r : (Int32 × Mm)) (h : f_X9_cost N x0 M = some r) (l : Launch) (hfl : l.flags = flags0) {G : Gl} : MT l G yX9_cost cX9_cost 1 (some .int) rm_X9_cost [.ref x0] M (some (.int r.1)) r.2 := by
  unfold f_X9_cost at h
  refine zt_start hfl (lv := [(0, .ref x0)]) (by decide) (Nat.le_of_ble_eq_true rfl) rfl wd_827 (fun X hC _ => ?_)
  refine zt_aload_n hC rfl dX9_cost_0 ?_
  obtain ⟨hk, h⟩ := rq_some h
  obtain ⟨ci, C, T, hk, hcl, -, -, -⟩ := rule_cl hk
  obtain ⟨v1, M2, h3, h⟩ := bnd_some h
  refine zt_callSU (z := yX6_cost) (As := []) (rest := []) (st1 := (.int v1 :: [])) hC 0 hk hcl (fun l hl => c_X6_cost N x0 M (v1, M2) h3 l hl) wd_830 wd_828 wd_805 wd_639 wd_803 wd_4 hds_X6_cost rfl ⟨⟨(Nat.le_of_ble_eq_true rfl), (Nat.le_of_ble_eq_true rfl)⟩, (Nat.le_of_ble_eq_true rfl), (Nat.le_of_ble_eq_true rfl)⟩ rfl (Nat.le_of_ble_eq_true rfl) rfl dX9_cost_1 ?_
  refine zt_aload_n hC rfl dX9_cost_4 ?_
  refine zt_gF hC h wd_49 (Or.inr wd_50) dX9_cost_5 (fun v4 h => ?_)
  refine zt_iadd hC dX9_cost_8 ?_
  obtain rfl := Option.some.inj h
  exact zt_iret hC rfl rfl (Nat.le_of_ble_eq_true rfl) (Nat.le_of_ble_eq_true rfl) dX9_cost_9
def rm_X8_cost : Room := { frames := 2, cells := 0, slots := 0, locals := 40 }
theorem hd_X8_cost : yX8_cost.cls ≠ "java/lang/invoke/MethodHandle" ∧ yX8_cost.cls ≠ "java/lang/invoke/VarHandle" ∧ (parseMethodDescriptor yX8_cost.desc).map (fun d => d.parameters.length) = some 0 := by decide +kernel
def f_X8_cost (N : Nat) (x0 : Nat) (M : Mm) : Option (Int32 × Mm) :=
rq (isRule (M.1 x0).1 = true) (bnd (f_X9_cost N x0 M) (fun v1 M2 =>
some ((v1 / (2 : Int32)), M2)))
set_option maxRecDepth 100000 in
set_option maxHeartbeats 4000000 in
theorem c_X8_cost (N : Nat) (x0 : Nat) (M : Mm) (r : (Int32 × Mm)) (h : f_X8_cost N x0 M = some r) (l : Launch) (hfl : l.flags = flags0) {G : Gl} : MT l G yX8_cost cX8_cost 1 (some .int) rm_X8_cost [.ref x0] M (some (.int r.1)) r.2 := by
  unfold f_X8_cost at h
  refine zt_start hfl (lv := [(0, .ref x0)]) (by decide) (Nat.le_of_ble_eq_true rfl) rfl wd_824 (fun X hC _ => ?_)
  refine zt_aload_n hC rfl dX8_cost_0 ?_
  obtain ⟨hk, h⟩ := rq_some h
  obtain ⟨ci, C, T, hk, hcl, -, -, -⟩ := rule_cl hk
  obtain ⟨v1, M2, h3, h⟩ := bnd_some h
  refine zt_callSU (z := yX9_cost) (As := []) (rest := []) (st1 := (.int v1 :: [])) hC 0 hk hcl (fun l hl => c_X9_cost N x0 M (v1, M2) h3 l hl) wd_827 wd_825 wd_1375 wd_677 wd_826 wd_13 hds_X9_cost rfl ⟨⟨(Nat.le_of_ble_eq_true rfl), (Nat.le_of_ble_eq_true rfl)⟩, (Nat.le_of_ble_eq_true rfl), (Nat.le_of_ble_eq_true rfl)⟩ rfl (Nat.le_of_ble_eq_true rfl) rfl dX8_cost_1 ?_
  refine zt_iconst hC ki_2 dX8_cost_4 ?_
  refine zt_idivc hC (by decide) dX8_cost_5 ?_
  obtain rfl := Option.some.inj h
  exact zt_iret hC rfl rfl (Nat.le_of_ble_eq_true rfl) (Nat.le_of_ble_eq_true rfl) dX8_cost_6
def rm_X9_kind : Room := { frames := 0, cells := 0, slots := 0, locals := 0 }
theorem hd_X9_kind : yX9_kind.cls ≠ "java/lang/invoke/MethodHandle" ∧ yX9_kind.cls ≠ "java/lang/invoke/VarHandle" ∧ (parseMethodDescriptor yX9_kind.desc).map (fun d => d.parameters.length) = some 0 := by decide +kernel
theorem hds_X9_kind : yX9_kind.name ≠ "<init>" ∧ (parseMethodDescriptor yX9_kind.desc).map (fun d => d.parameters.length) = some 0 := by decide +kernel
def f_X9_kind (N : Nat) (x0 : Nat) (M : Mm) : Option (Int32 × Mm) :=
some ((1 : Int32), M)
set_option maxRecDepth 100000 in
set_option maxHeartbeats 4000000 in
theorem c_X9_kind (N : Nat) (x0 : Nat) (M : Mm) (r : (Int32 × Mm)) (h : f_X9_kind N x0 M = some r) (l : Launch) (hfl : l.flags = flags0) {G : Gl} : MT l G yX9_kind cX9_kind 1 (some .int) rm_X9_kind [.ref x0] M (some (.int r.1)) r.2 := by
  unfold f_X9_kind at h
  refine zt_start hfl (lv := [(0, .ref x0)]) (by decide) (Nat.le_of_ble_eq_true rfl) rfl wd_432 (fun X hC _ => ?_)
  refine zt_iconst hC ki_1 dX9_kind_0 ?_
  obtain rfl := Option.some.inj h
  exact zt_iret hC rfl rfl (Nat.le_of_ble_eq_true rfl) (Nat.le_of_ble_eq_true rfl) dX9_kind_1
def rm_X9_heading : Room := { frames := 0, cells := 0, slots := 0, locals := 0 }
theorem hd_X9_heading : yX9_heading.cls ≠ "java/lang/invoke/MethodHandle" ∧ yX9_heading.cls ≠ "java/lang/invoke/VarHandle" ∧ (parseMethodDescriptor yX9_heading.desc).map (fun d => d.parameters.length) = some 2 := by decide +kernel
theorem hds_X9_heading : yX9_heading.name ≠ "<init>" ∧ (parseMethodDescriptor yX9_heading.desc).map (fun d => d.parameters.length) = some 2 := by decide +kernel
def f_X9_heading (N : Nat) (x0 : Nat) (x1 : Nat) (x2 : Nat) (M : Mm) : Option (Int32 × Mm) :=
gI 1 M x2 0 (fun v1 =>
gI 10 M x1 0 (fun v2 =>
(if v2 ≤ (v1 + (1 : Int32)) then
some ((0 : Int32), M)
else
gI 1 M x2 0 (fun v3 =>
some ((v3 + (1 : Int32)), M)))))
set_option maxRecDepth 100000 in
set_option maxHeartbeats 4000000 in
theorem c_X9_heading (N : Nat) (x0 : Nat) (x1 : Nat) (x2 : Nat) (M : Mm) (r : (Int32 × Mm)) (h : f_X9_heading N x0 x1 x2 M = some r) (l : Launch) (hfl : l.flags = flags0) {G : Gl} : MT l G yX9_heading cX9_heading 3 (some .int) rm_X9_heading [.ref x0, .ref x1, .ref x2] M (some (.int r.1)) r.2 := by
  unfold f_X9_heading at h
  refine zt_start hfl (lv := [(0, .ref x0), (1, .ref x1), (2, .ref x2)]) (by decide) (Nat.le_of_ble_eq_true rfl) rfl wd_529 (fun X hC _ => ?_)
  refine zt_aload_n hC rfl dX9_heading_0 ?_
  refine zt_gI hC h cl1 (k := 0) (by decide) rfl wd_69 (Or.inl rfl) dX9_heading_1 (fun v1 h => ?_)
  refine zt_iconst hC ki_1 dX9_heading_4 ?_
  refine zt_iadd hC dX9_heading_5 ?_
  refine zt_aload_n hC rfl dX9_heading_6 ?_
  refine zt_gI hC h cl10 (k := 0) (by decide) rfl wd_106 (Or.inl rfl) dX9_heading_7 (fun v2 h => ?_)
  refine zt_icmp_ge (tgt := 22) hC h (by decide) dX9_heading_10 (fun h => ?_) (fun h => ?_)
  · refine zt_iconst hC ki_0 dX9_heading_22 ?_
    obtain rfl := Option.some.inj h
    exact zt_iret hC rfl rfl (Nat.le_of_ble_eq_true rfl) (Nat.le_of_ble_eq_true rfl) dX9_heading_23
  · refine zt_aload_n hC rfl dX9_heading_13 ?_
    refine zt_gI hC h cl1 (k := 0) (by decide) rfl wd_69 (Or.inl rfl) dX9_heading_14 (fun v3 h => ?_)
    refine zt_iconst hC ki_1 dX9_heading_17 ?_
    refine zt_iadd hC dX9_heading_18 ?_
    refine zt_goto (tgt := 23) hC (by decide) dX9_heading_19 ?_
    obtain rfl := Option.some.inj h
    exact zt_iret hC rfl rfl (Nat.le_of_ble_eq_true rfl) (Nat.le_of_ble_eq_true rfl) dX9_heading_23
def d_Turn_heading (N : Nat) (a : Nat) (p0 : Nat) (p1 : Nat) (M : Mm) : Option (Int32 × Mm) := (if (M.1 a).1 = 9 + 4 then f_X9_heading N a p0 p1 M else (if (M.1 a).1 = 8 + 4 then f_X8_heading N a p0 p1 M else none))
theorem d_Turn_heading_some {N : Nat} {a : Nat} {p0 : Nat} {p1 : Nat} {M : Mm} {r : Int32 × Mm} (h : d_Turn_heading N a p0 p1 M = some r) : ((M.1 a).1 = 9 + 4 ∧ f_X9_heading N a p0 p1 M = some r) ∨ ((M.1 a).1 = 8 + 4 ∧ f_X8_heading N a p0 p1 M = some r) := by
  unfold d_Turn_heading at h
  rcases ite_or h with ⟨c, h⟩ | ⟨c, h⟩
  · exact Or.inl ⟨c, h⟩
  · clear c
    rcases ite_or h with ⟨c, h⟩ | ⟨c, h⟩
    · exact Or.inr (⟨c, h⟩)
    · cases h
theorem hdo_d_Turn_heading : ("FerryBells$Turn" : String) ≠ "java/lang/invoke/MethodHandle" ∧ ("FerryBells$Turn" : String) ≠ "java/lang/invoke/VarHandle" ∧ (parseMethodDescriptor "(LFerryBells$World;LFerryBells$Boat;)I").map (fun d => d.parameters.length) = some 2 := by decide +kernel
def rm_X9_choose : Room := { frames := 1, cells := 0, slots := 0, locals := 22 }
theorem hd_X9_choose : yX9_choose.cls ≠ "java/lang/invoke/MethodHandle" ∧ yX9_choose.cls ≠ "java/lang/invoke/VarHandle" ∧ (parseMethodDescriptor yX9_choose.desc).map (fun d => d.parameters.length) = some 2 := by decide +kernel
theorem hds_X9_choose : yX9_choose.name ≠ "<init>" ∧ (parseMethodDescriptor yX9_choose.desc).map (fun d => d.parameters.length) = some 2 := by decide +kernel
def f_X9_choose (N : Nat) (x0 : Nat) (x1 : Nat) (x2 : Nat) (M : Mm) : Option (Int32 × Mm) :=
gF M x0 (fun v1 =>
(if (v1 + (1 : Int32)) ≤ 0 then
some ((-1 : Int32), M)
else
gI 10 M x1 6 (fun v2 =>
irm v2 (v1 + (1 : Int32)) (fun v3 =>
(if v3 = 0 then
bnd (d_Turn_heading N x0 x1 x2 M) (fun v4 M5 =>
some (v4, M5))
else
some ((-1 : Int32), M))))))
set_option maxRecDepth 100000 in
set_option maxHeartbeats 4000000 in
theorem c_X9_choose (N : Nat) (x0 : Nat) (x1 : Nat) (x2 : Nat) (M : Mm) (r : (Int32 × Mm)) (h : f_X9_choose N x0 x1 x2 M = some r) (l : Launch) (hfl : l.flags = flags0) {G : Gl} : MT l G yX9_choose cX9_choose 4 (some .int) rm_X9_choose [.ref x0, .ref x1, .ref x2] M (some (.int r.1)) r.2 := by
  unfold f_X9_choose at h
  refine zt_start hfl (lv := [(0, .ref x0), (1, .ref x1), (2, .ref x2)]) (by decide) (Nat.le_of_ble_eq_true rfl) rfl wd_521 (fun X hC _ => ?_)
  refine zt_aload_n hC rfl dX9_choose_0 ?_
  refine zt_gF hC h wd_49 (Or.inr wd_50) dX9_choose_1 (fun v1 h => ?_)
  refine zt_iconst hC ki_1 dX9_choose_4 ?_
  refine zt_iadd hC dX9_choose_5 ?_
  refine zt_istore_n (lv' := [(3, .int (v1 + (1 : Int32))), (0, .ref x0), (1, .ref x1), (2, .ref x2)]) hC (by decide) rfl dX9_choose_6 ?_
  refine zt_iload_n hC rfl dX9_choose_7 ?_
  refine zt_if_le (tgt := 29) hC h (by decide) dX9_choose_8 (fun h => ?_) (fun h => ?_)
  · refine zt_iconst hC ki_m1 dX9_choose_29 ?_
    obtain rfl := Option.some.inj h
    exact zt_iret hC rfl rfl (Nat.le_of_ble_eq_true rfl) (Nat.le_of_ble_eq_true rfl) dX9_choose_30
  · refine zt_aload_n hC rfl dX9_choose_11 ?_
    refine zt_gI hC h cl10 (k := 6) (by decide) rfl wd_119 (Or.inl rfl) dX9_choose_12 (fun v2 h => ?_)
    refine zt_iload_n hC rfl dX9_choose_15 ?_
    refine zt_irem hC h dX9_choose_16 (fun v3 h => ?_)
    refine zt_if_ne (tgt := 29) hC h (by decide) dX9_choose_17 (fun h => ?_) (fun h => ?_)
    · refine zt_iconst hC ki_m1 dX9_choose_29 ?_
      obtain rfl := Option.some.inj h
      exact zt_iret hC rfl rfl (Nat.le_of_ble_eq_true rfl) (Nat.le_of_ble_eq_true rfl) dX9_choose_30
    · refine zt_aload_n hC rfl dX9_choose_20 ?_
      refine zt_aload_n hC rfl dX9_choose_21 ?_
      refine zt_aload_n hC rfl dX9_choose_22 ?_
      obtain ⟨v4, M5, h6, h⟩ := bnd_some h
      have kk : TW X G 4 (RQ X G (some (.int r.1)) r.2 rm_X9_choose) 0 0 M5 26 [(3, .int (v1 + (1 : Int32))), (0, .ref x0), (1, .ref x1), (2, .ref x2)] (.int v4 :: []) := by
        refine zt_goto (tgt := 30) hC (by decide) dX9_choose_26 ?_
        obtain rfl := Option.some.inj h
        exact zt_iret hC rfl rfl (Nat.le_of_ble_eq_true rfl) (Nat.le_of_ble_eq_true rfl) dX9_choose_30
      rcases d_Turn_heading_some h6 with ⟨hk, h6⟩ | ⟨hk, h6⟩
      · exact zt_callO (z := yX9_heading) (As := [.ref x1, .ref x2]) (rest := []) (st1 := (.int v4 :: [])) hC 2 hk cl9 (fun l hl => c_X9_heading N x0 x1 x2 M (v4, M5) h6 l hl) wd_529 wd_522 wd_525 wd_523 wd_529 wd_524 wd_523 wd_13 hdo_d_Turn_heading rfl ⟨⟨(Nat.le_of_ble_eq_true rfl), (Nat.le_of_ble_eq_true rfl)⟩, (Nat.le_of_ble_eq_true rfl), (Nat.le_of_ble_eq_true rfl)⟩ rfl (Nat.le_of_ble_eq_true rfl) rfl dX9_choose_23 kk
      · exact zt_callO (z := yX8_heading) (As := [.ref x1, .ref x2]) (rest := []) (st1 := (.int v4 :: [])) hC 2 hk cl8 (fun l hl => c_X8_heading N x0 x1 x2 M (v4, M5) h6 l hl) wd_528 wd_522 wd_525 wd_523 wd_529 wd_526 wd_527 wd_15 hdo_d_Turn_heading rfl ⟨⟨(Nat.le_of_ble_eq_true rfl), (Nat.le_of_ble_eq_true rfl)⟩, (Nat.le_of_ble_eq_true rfl), (Nat.le_of_ble_eq_true rfl)⟩ rfl (Nat.le_of_ble_eq_true rfl) rfl dX9_choose_23 kk
def rm_X10_init : Room := { frames := 3, cells := 11, slots := 165, locals := 65 }
theorem hd_X10_init : yX10_init.cls ≠ "java/lang/invoke/MethodHandle" ∧ yX10_init.cls ≠ "java/lang/invoke/VarHandle" ∧ (parseMethodDescriptor yX10_init.desc).map (fun d => d.parameters.length) = some 1 := by decide +kernel
def b_X10_init_122 (N : Nat) (k122 : Nat → Int32 → Nat → Nat → Mm → Option (Unit × Mm)) (x0 : Nat) (x2 : Int32) (gc gs : Nat) (M : Mm) : Option (Unit × Mm) :=
gR 10 M x0 1 (fun v1 =>
alen M v1 (fun v2 =>
(if v2 ≤ x2 then
rq (gc ≤ 11 ∧ gs ≤ 165) (some ((), M))
else
gR 10 M x0 1 (fun v3 =>
ast M v3 x2 (3 : Int32) (fun M4 =>
k122 x0 (x2 + (1 : Int32)) gc gs M4)))))
def l_X10_init_122 (N : Nat) : Nat → Nat → Int32 → Nat → Nat → Mm → Option (Unit × Mm)
  | 0 => fun _ _ _ _ _ => none
  | n + 1 => b_X10_init_122 N (l_X10_init_122 N n)
set_option maxRecDepth 100000 in
set_option maxHeartbeats 4000000 in
theorem v_X10_init_122 {X : Cx} {G : Gl} {r : (Unit × Mm)} (N : Nat) (hC : CX X G yX10_init cX10_init 3 none rm_X10_init) (k122 : Nat → Int32 → Nat → Nat → Mm → Option (Unit × Mm)) (hk122 : ∀ (x0 : Nat) (x2 : Int32) (gc gs : Nat) (M : Mm), k122 x0 x2 gc gs M = some r → TW X G 3 (RQ X G none r.2 rm_X10_init) gc gs M 122 [(0, .ref x0), (2, .int x2)] []) (x0 : Nat) (x2 : Int32) (gc gs : Nat) (M : Mm) (h : b_X10_init_122 N k122 x0 x2 gc gs M = some r) : TW X G 3 (RQ X G none r.2 rm_X10_init) gc gs M 122 [(0, .ref x0), (2, .int x2)] [] := by
  unfold b_X10_init_122 at h
  refine zt_iload_n hC rfl dX10_init_122 ?_
  refine zt_aload_n hC rfl dX10_init_123 ?_
  refine zt_gR hC h cl10 (k := 1) (by decide) rfl wd_109 (Or.inl rfl) dX10_init_124 (fun v1 h => ?_)
  refine zt_alen hC h dX10_init_127 (fun v2 h => ?_)
  refine zt_icmp_ge (tgt := 144) hC h (by decide) dX10_init_128 (fun h => ?_) (fun h => ?_)
  · obtain ⟨hg, h⟩ := rq_some h
    obtain rfl := Option.some.inj h
    exact zt_vret hC rfl rfl hg.1 hg.2 dX10_init_144
  · refine zt_aload_n hC rfl dX10_init_131 ?_
    refine zt_gR hC h cl10 (k := 1) (by decide) rfl wd_109 (Or.inl rfl) dX10_init_132 (fun v3 h => ?_)
    refine zt_iload_n hC rfl dX10_init_135 ?_
    refine zt_iconst hC ki_3 dX10_init_136 ?_
    refine zt_ast hC h dX10_init_137 (fun M4 h => ?_)
    refine zt_iinc (v := (x2 + (1 : Int32))) (lv' := [(2, .int (x2 + (1 : Int32))), (0, .ref x0)]) hC rfl (by rw [ki_1]) (by decide) rfl dX10_init_138 ?_
    refine zt_goto (tgt := 122) hC (by decide) dX10_init_141 ?_
    refine zt_keep [0, 2] rfl ?_
    exact hk122 x0 (x2 + (1 : Int32)) gc gs M4 h
theorem w_X10_init_122 {X : Cx} {G : Gl} {r : (Unit × Mm)} (N : Nat) (hC : CX X G yX10_init cX10_init 3 none rm_X10_init) (n : Nat) : ∀ (x0 : Nat) (x2 : Int32) (gc gs : Nat) (M : Mm), l_X10_init_122 N n x0 x2 gc gs M = some r → TW X G 3 (RQ X G none r.2 rm_X10_init) gc gs M 122 [(0, .ref x0), (2, .int x2)] [] := by
  induction n with
  | zero => intro  x0 x2 gc gs M h; cases (show none = some r from h)
  | succ n ih => intro  x0 x2 gc gs M h; exact v_X10_init_122 N hC (l_X10_init_122 N n) ih x0 x2 gc gs M h
def f_X10_init (N : Nat) (x0 : Nat) (x1 : Nat) (M : Mm) : Option (Unit × Mm) :=
pI 10 M x0 0 (3 : Int32) (fun M1 =>
nwo 1 16 M1 (fun a3 M2 =>
pR 10 M2 x0 1 (some a3) (fun M4 =>
pI 10 M4 x0 2 (0 : Int32) (fun M5 =>
nwo 1 25 M5 (fun a7 M6 =>
pR 10 M6 x0 3 (some a7) (fun M8 =>
pI 10 M8 x0 4 (3 : Int32) (fun M9 =>
pI 10 M9 x0 5 (1 : Int32) (fun M10 =>
pI 10 M10 x0 6 (0 : Int32) (fun M11 =>
nwo 5 0 M11 (fun a13 M12 =>
bnd (f_X1_init N a13 M12) (fun v14 M15 =>
pR 10 M15 x0 7 (some a13) (fun M17 =>
nwo 5 0 M17 (fun a19 M18 =>
bnd (f_X1_init N a19 M18) (fun v20 M21 =>
pR 10 M21 x0 8 (some a19) (fun M23 =>
pZ 10 M23 x0 9 (0 : Int32) (fun M24 =>
nwo 1 4 M24 (fun a26 M25 =>
pR 10 M25 x0 10 (some a26) (fun M27 =>
nwo 1 48 M27 (fun a29 M28 =>
pR 10 M28 x0 11 (some a29) (fun M30 =>
nwo 1 48 M30 (fun a32 M31 =>
pR 10 M31 x0 12 (some a32) (fun M33 =>
pI 10 M33 x0 13 (0 : Int32) (fun M34 =>
pI 10 M34 x0 14 (0 : Int32) (fun M35 =>
pI 10 M35 x0 15 (0 : Int32) (fun M36 =>
pI 10 M36 x0 16 (0 : Int32) (fun M37 =>
pR 10 M37 x0 17 (some x1) (fun M38 =>
l_X10_init_122 N N x0 (0 : Int32) 11 165 M38)))))))))))))))))))))))))))
set_option maxRecDepth 100000 in
set_option maxHeartbeats 4000000 in
theorem c_X10_init (N : Nat) (x0 : Nat) (x1 : Nat) (M : Mm) (r : (Unit × Mm)) (h : f_X10_init N x0 x1 M = some r) (l : Launch) (hfl : l.flags = flags0) {G : Gl} : MT l G yX10_init cX10_init 3 none rm_X10_init [.ref x0, .ref x1] M none r.2 := by
  unfold f_X10_init at h
  refine zt_start hfl (lv := [(0, .ref x0), (1, .ref x1)]) (by decide) (Nat.le_of_ble_eq_true rfl) rfl wd_34 (fun X hC _ => ?_)
  refine zt_aload_n hC rfl dX10_init_0 ?_
  refine zt_objI (rest := []) hC wd_35 wd_28 wd_29 rfl (Nat.le_of_ble_eq_true rfl) (Nat.le_of_ble_eq_true rfl) dX10_init_1 ?_
  refine zt_aload_n hC rfl dX10_init_4 ?_
  refine zt_iconst hC ki_3 dX10_init_5 ?_
  refine zt_pI hC h cl10 (k := 0) (by decide) rfl wd_102 (Or.inl rfl) (Or.inl rfl) dX10_init_6 (fun M1 h => ?_)
  refine zt_aload_n hC rfl dX10_init_9 ?_
  refine zt_bipush hC kb_16 dX10_init_10 ?_
  refine zt_newao (N := 16) hC h wd_65 (by decide) (by decide) (by decide) (Nat.le_of_ble_eq_true rfl) (Nat.le_of_ble_eq_true rfl) dX10_init_12 (fun a3 M2 h => ?_)
  refine zt_pR hC h rfl cl10 (k := 1) (by decide) rfl wd_109 (Or.inl rfl) (Or.inr ⟨rfl, rfl, rfl⟩) dX10_init_14 (fun M4 h => ?_)
  refine zt_aload_n hC rfl dX10_init_17 ?_
  refine zt_iconst hC ki_0 dX10_init_18 ?_
  refine zt_pI hC h cl10 (k := 2) (by decide) rfl wd_110 (Or.inl rfl) (Or.inl rfl) dX10_init_19 (fun M5 h => ?_)
  refine zt_aload_n hC rfl dX10_init_22 ?_
  refine zt_bipush hC kb_25 dX10_init_23 ?_
  refine zt_newao (N := 25) hC h wd_65 (by decide) (by decide) (by decide) (Nat.le_of_ble_eq_true rfl) (Nat.le_of_ble_eq_true rfl) dX10_init_25 (fun a7 M6 h => ?_)
  refine zt_pR hC h rfl cl10 (k := 3) (by decide) rfl wd_112 (Or.inl rfl) (Or.inr ⟨rfl, rfl, rfl⟩) dX10_init_27 (fun M8 h => ?_)
  refine zt_aload_n hC rfl dX10_init_30 ?_
  refine zt_iconst hC ki_3 dX10_init_31 ?_
  refine zt_pI hC h cl10 (k := 4) (by decide) rfl wd_113 (Or.inl rfl) (Or.inl rfl) dX10_init_32 (fun M9 h => ?_)
  refine zt_aload_n hC rfl dX10_init_35 ?_
  refine zt_iconst hC ki_1 dX10_init_36 ?_
  refine zt_pI hC h cl10 (k := 5) (by decide) rfl wd_116 (Or.inl rfl) (Or.inl rfl) dX10_init_37 (fun M10 h => ?_)
  refine zt_aload_n hC rfl dX10_init_40 ?_
  refine zt_iconst hC ki_0 dX10_init_41 ?_
  refine zt_pI hC h cl10 (k := 6) (by decide) rfl wd_118 (Or.inl rfl) (Or.inl rfl) dX10_init_42 (fun M11 h => ?_)
  refine zt_aload_n hC rfl dX10_init_45 ?_
  refine zt_newo hC h cl1 wd_36 wd_37 wd_3 (Nat.le_of_ble_eq_true rfl) (Nat.le_of_ble_eq_true rfl) dX10_init_46 (fun a13 M12 h => ?_)
  refine zt_dup hC rfl dX10_init_49 ?_
  obtain ⟨v14, M15, h16, h⟩ := bnd_some h
  refine zt_callIN (z := yX1_init) (As := []) (rest := [.ref a13, .ref x0]) hC 0 (fun l hl => c_X1_init N a13 M12 (v14, M15) h16 l hl) wd_40 (by decide) wd_39 wd_3 rfl hd_X1_init rfl ⟨⟨(Nat.le_of_ble_eq_true rfl), (Nat.le_of_ble_eq_true rfl)⟩, (Nat.le_of_ble_eq_true rfl), (Nat.le_of_ble_eq_true rfl)⟩ rfl (Nat.le_of_ble_eq_true rfl) dX10_init_50 ?_
  refine zt_pR hC h rfl cl10 (k := 7) (by decide) rfl wd_121 (Or.inl rfl) (Or.inr ⟨rfl, rfl, rfl⟩) dX10_init_53 (fun M17 h => ?_)
  refine zt_aload_n hC rfl dX10_init_56 ?_
  refine zt_newo hC h cl1 wd_36 wd_37 wd_3 (Nat.le_of_ble_eq_true rfl) (Nat.le_of_ble_eq_true rfl) dX10_init_57 (fun a19 M18 h => ?_)
  refine zt_dup hC rfl dX10_init_60 ?_
  obtain ⟨v20, M21, h22, h⟩ := bnd_some h
  refine zt_callIN (z := yX1_init) (As := []) (rest := [.ref a19, .ref x0]) hC 0 (fun l hl => c_X1_init N a19 M18 (v20, M21) h22 l hl) wd_40 (by decide) wd_39 wd_3 rfl hd_X1_init rfl ⟨⟨(Nat.le_of_ble_eq_true rfl), (Nat.le_of_ble_eq_true rfl)⟩, (Nat.le_of_ble_eq_true rfl), (Nat.le_of_ble_eq_true rfl)⟩ rfl (Nat.le_of_ble_eq_true rfl) dX10_init_61 ?_
  refine zt_pR hC h rfl cl10 (k := 8) (by decide) rfl wd_123 (Or.inl rfl) (Or.inr ⟨rfl, rfl, rfl⟩) dX10_init_64 (fun M23 h => ?_)
  refine zt_aload_n hC rfl dX10_init_67 ?_
  refine zt_iconst hC ki_0 dX10_init_68 ?_
  refine zt_pZ hC h cl10 (k := 9) (by decide) rfl wd_125 (Or.inl rfl) (Or.inl rfl) dX10_init_69 (fun M24 h => ?_)
  refine zt_aload_n hC rfl dX10_init_72 ?_
  refine zt_iconst hC ki_4 dX10_init_73 ?_
  refine zt_newao (N := 4) hC h wd_65 (by decide) (by decide) (by decide) (Nat.le_of_ble_eq_true rfl) (Nat.le_of_ble_eq_true rfl) dX10_init_74 (fun a26 M25 h => ?_)
  refine zt_pR hC h rfl cl10 (k := 10) (by decide) rfl wd_127 (Or.inl rfl) (Or.inr ⟨rfl, rfl, rfl⟩) dX10_init_76 (fun M27 h => ?_)
  refine zt_aload_n hC rfl dX10_init_79 ?_
  refine zt_bipush hC kb_48 dX10_init_80 ?_
  refine zt_newao (N := 48) hC h wd_65 (by decide) (by decide) (by decide) (Nat.le_of_ble_eq_true rfl) (Nat.le_of_ble_eq_true rfl) dX10_init_82 (fun a29 M28 h => ?_)
  refine zt_pR hC h rfl cl10 (k := 11) (by decide) rfl wd_128 (Or.inl rfl) (Or.inr ⟨rfl, rfl, rfl⟩) dX10_init_84 (fun M30 h => ?_)
  refine zt_aload_n hC rfl dX10_init_87 ?_
  refine zt_bipush hC kb_48 dX10_init_88 ?_
  refine zt_newao (N := 48) hC h wd_65 (by decide) (by decide) (by decide) (Nat.le_of_ble_eq_true rfl) (Nat.le_of_ble_eq_true rfl) dX10_init_90 (fun a32 M31 h => ?_)
  refine zt_pR hC h rfl cl10 (k := 12) (by decide) rfl wd_129 (Or.inl rfl) (Or.inr ⟨rfl, rfl, rfl⟩) dX10_init_92 (fun M33 h => ?_)
  refine zt_aload_n hC rfl dX10_init_95 ?_
  refine zt_iconst hC ki_0 dX10_init_96 ?_
  refine zt_pI hC h cl10 (k := 13) (by decide) rfl wd_130 (Or.inl rfl) (Or.inl rfl) dX10_init_97 (fun M34 h => ?_)
  refine zt_aload_n hC rfl dX10_init_100 ?_
  refine zt_iconst hC ki_0 dX10_init_101 ?_
  refine zt_pI hC h cl10 (k := 14) (by decide) rfl wd_132 (Or.inl rfl) (Or.inl rfl) dX10_init_102 (fun M35 h => ?_)
  refine zt_aload_n hC rfl dX10_init_105 ?_
  refine zt_iconst hC ki_0 dX10_init_106 ?_
  refine zt_pI hC h cl10 (k := 15) (by decide) rfl wd_134 (Or.inl rfl) (Or.inl rfl) dX10_init_107 (fun M36 h => ?_)
  refine zt_aload_n hC rfl dX10_init_110 ?_
  refine zt_iconst hC ki_0 dX10_init_111 ?_
  refine zt_pI hC h cl10 (k := 16) (by decide) rfl wd_136 (Or.inl rfl) (Or.inl rfl) dX10_init_112 (fun M37 h => ?_)
  refine zt_aload_n hC rfl dX10_init_115 ?_
  refine zt_aload_n hC rfl dX10_init_116 ?_
  refine zt_pR hC h rfl cl10 (k := 17) (by decide) rfl wd_137 (Or.inl rfl) (Or.inr ⟨rfl, rfl, rfl⟩) dX10_init_117 (fun M38 h => ?_)
  refine zt_iconst hC ki_0 dX10_init_120 ?_
  refine zt_istore_n (lv' := [(2, .int (0 : Int32)), (0, .ref x0), (1, .ref x1)]) hC (by decide) rfl dX10_init_121 ?_
  refine zt_keep [0, 2] rfl ?_
  exact w_X10_init_122 N hC N x0 (0 : Int32) 11 165 M38 h
def rm_X10_initn : Room := { frames := 3, cells := 11, slots := 165, locals := 65 }
def b_X10_initn_122 (N : Nat) (k122 : Nat → Int32 → Nat → Nat → Mm → Option (Unit × Mm)) (x0 : Nat) (x2 : Int32) (gc gs : Nat) (M : Mm) : Option (Unit × Mm) :=
gR 10 M x0 1 (fun v1 =>
alen M v1 (fun v2 =>
(if v2 ≤ x2 then
rq (gc ≤ 11 ∧ gs ≤ 165) (some ((), M))
else
gR 10 M x0 1 (fun v3 =>
ast M v3 x2 (3 : Int32) (fun M4 =>
k122 x0 (x2 + (1 : Int32)) gc gs M4)))))
def l_X10_initn_122 (N : Nat) : Nat → Nat → Int32 → Nat → Nat → Mm → Option (Unit × Mm)
  | 0 => fun _ _ _ _ _ => none
  | n + 1 => b_X10_initn_122 N (l_X10_initn_122 N n)
set_option maxRecDepth 100000 in
set_option maxHeartbeats 4000000 in
theorem v_X10_initn_122 {X : Cx} {G : Gl} {r : (Unit × Mm)} (N : Nat) (hC : CX X G yX10_init cX10_init 3 none rm_X10_initn) (k122 : Nat → Int32 → Nat → Nat → Mm → Option (Unit × Mm)) (hk122 : ∀ (x0 : Nat) (x2 : Int32) (gc gs : Nat) (M : Mm), k122 x0 x2 gc gs M = some r → TW X G 3 (RQ X G none r.2 rm_X10_initn) gc gs M 122 [(0, .ref x0), (2, .int x2)] []) (x0 : Nat) (x2 : Int32) (gc gs : Nat) (M : Mm) (h : b_X10_initn_122 N k122 x0 x2 gc gs M = some r) : TW X G 3 (RQ X G none r.2 rm_X10_initn) gc gs M 122 [(0, .ref x0), (2, .int x2)] [] := by
  unfold b_X10_initn_122 at h
  refine zt_iload_n hC rfl dX10_init_122 ?_
  refine zt_aload_n hC rfl dX10_init_123 ?_
  refine zt_gR hC h cl10 (k := 1) (by decide) rfl wd_109 (Or.inl rfl) dX10_init_124 (fun v1 h => ?_)
  refine zt_alen hC h dX10_init_127 (fun v2 h => ?_)
  refine zt_icmp_ge (tgt := 144) hC h (by decide) dX10_init_128 (fun h => ?_) (fun h => ?_)
  · obtain ⟨hg, h⟩ := rq_some h
    obtain rfl := Option.some.inj h
    exact zt_vret hC rfl rfl hg.1 hg.2 dX10_init_144
  · refine zt_aload_n hC rfl dX10_init_131 ?_
    refine zt_gR hC h cl10 (k := 1) (by decide) rfl wd_109 (Or.inl rfl) dX10_init_132 (fun v3 h => ?_)
    refine zt_iload_n hC rfl dX10_init_135 ?_
    refine zt_iconst hC ki_3 dX10_init_136 ?_
    refine zt_ast hC h dX10_init_137 (fun M4 h => ?_)
    refine zt_iinc (v := (x2 + (1 : Int32))) (lv' := [(2, .int (x2 + (1 : Int32))), (0, .ref x0)]) hC rfl (by rw [ki_1]) (by decide) rfl dX10_init_138 ?_
    refine zt_goto (tgt := 122) hC (by decide) dX10_init_141 ?_
    refine zt_keep [0, 2] rfl ?_
    exact hk122 x0 (x2 + (1 : Int32)) gc gs M4 h
theorem w_X10_initn_122 {X : Cx} {G : Gl} {r : (Unit × Mm)} (N : Nat) (hC : CX X G yX10_init cX10_init 3 none rm_X10_initn) (n : Nat) : ∀ (x0 : Nat) (x2 : Int32) (gc gs : Nat) (M : Mm), l_X10_initn_122 N n x0 x2 gc gs M = some r → TW X G 3 (RQ X G none r.2 rm_X10_initn) gc gs M 122 [(0, .ref x0), (2, .int x2)] [] := by
  induction n with
  | zero => intro  x0 x2 gc gs M h; cases (show none = some r from h)
  | succ n ih => intro  x0 x2 gc gs M h; exact v_X10_initn_122 N hC (l_X10_initn_122 N n) ih x0 x2 gc gs M h
def f_X10_initn (N : Nat) (x0 : Nat) (M : Mm) : Option (Unit × Mm) :=
pI 10 M x0 0 (3 : Int32) (fun M1 =>
nwo 1 16 M1 (fun a3 M2 =>
pR 10 M2 x0 1 (some a3) (fun M4 =>
pI 10 M4 x0 2 (0 : Int32) (fun M5 =>
nwo 1 25 M5 (fun a7 M6 =>
pR 10 M6 x0 3 (some a7) (fun M8 =>
pI 10 M8 x0 4 (3 : Int32) (fun M9 =>
pI 10 M9 x0 5 (1 : Int32) (fun M10 =>
pI 10 M10 x0 6 (0 : Int32) (fun M11 =>
nwo 5 0 M11 (fun a13 M12 =>
bnd (f_X1_init N a13 M12) (fun v14 M15 =>
pR 10 M15 x0 7 (some a13) (fun M17 =>
nwo 5 0 M17 (fun a19 M18 =>
bnd (f_X1_init N a19 M18) (fun v20 M21 =>
pR 10 M21 x0 8 (some a19) (fun M23 =>
pZ 10 M23 x0 9 (0 : Int32) (fun M24 =>
nwo 1 4 M24 (fun a26 M25 =>
pR 10 M25 x0 10 (some a26) (fun M27 =>
nwo 1 48 M27 (fun a29 M28 =>
pR 10 M28 x0 11 (some a29) (fun M30 =>
nwo 1 48 M30 (fun a32 M31 =>
pR 10 M31 x0 12 (some a32) (fun M33 =>
pI 10 M33 x0 13 (0 : Int32) (fun M34 =>
pI 10 M34 x0 14 (0 : Int32) (fun M35 =>
pI 10 M35 x0 15 (0 : Int32) (fun M36 =>
pI 10 M36 x0 16 (0 : Int32) (fun M37 =>
pR 10 M37 x0 17 none (fun M38 =>
l_X10_initn_122 N N x0 (0 : Int32) 11 165 M38)))))))))))))))))))))))))))
set_option maxRecDepth 100000 in
set_option maxHeartbeats 4000000 in
theorem c_X10_initn (N : Nat) (x0 : Nat) (M : Mm) (r : (Unit × Mm)) (h : f_X10_initn N x0 M = some r) (l : Launch) (hfl : l.flags = flags0) {G : Gl} : MT l G yX10_init cX10_init 3 none rm_X10_initn [.ref x0, .null] M none r.2 := by
  unfold f_X10_initn at h
  refine zt_start hfl (lv := [(0, .ref x0), (1, .null)]) (by decide) (Nat.le_of_ble_eq_true rfl) rfl wd_34 (fun X hC _ => ?_)
  refine zt_aload_n hC rfl dX10_init_0 ?_
  refine zt_objI (rest := []) hC wd_35 wd_28 wd_29 rfl (Nat.le_of_ble_eq_true rfl) (Nat.le_of_ble_eq_true rfl) dX10_init_1 ?_
  refine zt_aload_n hC rfl dX10_init_4 ?_
  refine zt_iconst hC ki_3 dX10_init_5 ?_
  refine zt_pI hC h cl10 (k := 0) (by decide) rfl wd_102 (Or.inl rfl) (Or.inl rfl) dX10_init_6 (fun M1 h => ?_)
  refine zt_aload_n hC rfl dX10_init_9 ?_
  refine zt_bipush hC kb_16 dX10_init_10 ?_
  refine zt_newao (N := 16) hC h wd_65 (by decide) (by decide) (by decide) (Nat.le_of_ble_eq_true rfl) (Nat.le_of_ble_eq_true rfl) dX10_init_12 (fun a3 M2 h => ?_)
  refine zt_pR hC h rfl cl10 (k := 1) (by decide) rfl wd_109 (Or.inl rfl) (Or.inr ⟨rfl, rfl, rfl⟩) dX10_init_14 (fun M4 h => ?_)
  refine zt_aload_n hC rfl dX10_init_17 ?_
  refine zt_iconst hC ki_0 dX10_init_18 ?_
  refine zt_pI hC h cl10 (k := 2) (by decide) rfl wd_110 (Or.inl rfl) (Or.inl rfl) dX10_init_19 (fun M5 h => ?_)
  refine zt_aload_n hC rfl dX10_init_22 ?_
  refine zt_bipush hC kb_25 dX10_init_23 ?_
  refine zt_newao (N := 25) hC h wd_65 (by decide) (by decide) (by decide) (Nat.le_of_ble_eq_true rfl) (Nat.le_of_ble_eq_true rfl) dX10_init_25 (fun a7 M6 h => ?_)
  refine zt_pR hC h rfl cl10 (k := 3) (by decide) rfl wd_112 (Or.inl rfl) (Or.inr ⟨rfl, rfl, rfl⟩) dX10_init_27 (fun M8 h => ?_)
  refine zt_aload_n hC rfl dX10_init_30 ?_
  refine zt_iconst hC ki_3 dX10_init_31 ?_
  refine zt_pI hC h cl10 (k := 4) (by decide) rfl wd_113 (Or.inl rfl) (Or.inl rfl) dX10_init_32 (fun M9 h => ?_)
  refine zt_aload_n hC rfl dX10_init_35 ?_
  refine zt_iconst hC ki_1 dX10_init_36 ?_
  refine zt_pI hC h cl10 (k := 5) (by decide) rfl wd_116 (Or.inl rfl) (Or.inl rfl) dX10_init_37 (fun M10 h => ?_)
  refine zt_aload_n hC rfl dX10_init_40 ?_
  refine zt_iconst hC ki_0 dX10_init_41 ?_
  refine zt_pI hC h cl10 (k := 6) (by decide) rfl wd_118 (Or.inl rfl) (Or.inl rfl) dX10_init_42 (fun M11 h => ?_)
  refine zt_aload_n hC rfl dX10_init_45 ?_
  refine zt_newo hC h cl1 wd_36 wd_37 wd_3 (Nat.le_of_ble_eq_true rfl) (Nat.le_of_ble_eq_true rfl) dX10_init_46 (fun a13 M12 h => ?_)
  refine zt_dup hC rfl dX10_init_49 ?_
  obtain ⟨v14, M15, h16, h⟩ := bnd_some h
  refine zt_callIN (z := yX1_init) (As := []) (rest := [.ref a13, .ref x0]) hC 0 (fun l hl => c_X1_init N a13 M12 (v14, M15) h16 l hl) wd_40 (by decide) wd_39 wd_3 rfl hd_X1_init rfl ⟨⟨(Nat.le_of_ble_eq_true rfl), (Nat.le_of_ble_eq_true rfl)⟩, (Nat.le_of_ble_eq_true rfl), (Nat.le_of_ble_eq_true rfl)⟩ rfl (Nat.le_of_ble_eq_true rfl) dX10_init_50 ?_
  refine zt_pR hC h rfl cl10 (k := 7) (by decide) rfl wd_121 (Or.inl rfl) (Or.inr ⟨rfl, rfl, rfl⟩) dX10_init_53 (fun M17 h => ?_)
  refine zt_aload_n hC rfl dX10_init_56 ?_
  refine zt_newo hC h cl1 wd_36 wd_37 wd_3 (Nat.le_of_ble_eq_true rfl) (Nat.le_of_ble_eq_true rfl) dX10_init_57 (fun a19 M18 h => ?_)
  refine zt_dup hC rfl dX10_init_60 ?_
  obtain ⟨v20, M21, h22, h⟩ := bnd_some h
  refine zt_callIN (z := yX1_init) (As := []) (rest := [.ref a19, .ref x0]) hC 0 (fun l hl => c_X1_init N a19 M18 (v20, M21) h22 l hl) wd_40 (by decide) wd_39 wd_3 rfl hd_X1_init rfl ⟨⟨(Nat.le_of_ble_eq_true rfl), (Nat.le_of_ble_eq_true rfl)⟩, (Nat.le_of_ble_eq_true rfl), (Nat.le_of_ble_eq_true rfl)⟩ rfl (Nat.le_of_ble_eq_true rfl) dX10_init_61 ?_
  refine zt_pR hC h rfl cl10 (k := 8) (by decide) rfl wd_123 (Or.inl rfl) (Or.inr ⟨rfl, rfl, rfl⟩) dX10_init_64 (fun M23 h => ?_)
  refine zt_aload_n hC rfl dX10_init_67 ?_
  refine zt_iconst hC ki_0 dX10_init_68 ?_
  refine zt_pZ hC h cl10 (k := 9) (by decide) rfl wd_125 (Or.inl rfl) (Or.inl rfl) dX10_init_69 (fun M24 h => ?_)
  refine zt_aload_n hC rfl dX10_init_72 ?_
  refine zt_iconst hC ki_4 dX10_init_73 ?_
  refine zt_newao (N := 4) hC h wd_65 (by decide) (by decide) (by decide) (Nat.le_of_ble_eq_true rfl) (Nat.le_of_ble_eq_true rfl) dX10_init_74 (fun a26 M25 h => ?_)
  refine zt_pR hC h rfl cl10 (k := 10) (by decide) rfl wd_127 (Or.inl rfl) (Or.inr ⟨rfl, rfl, rfl⟩) dX10_init_76 (fun M27 h => ?_)
  refine zt_aload_n hC rfl dX10_init_79 ?_
  refine zt_bipush hC kb_48 dX10_init_80 ?_
  refine zt_newao (N := 48) hC h wd_65 (by decide) (by decide) (by decide) (Nat.le_of_ble_eq_true rfl) (Nat.le_of_ble_eq_true rfl) dX10_init_82 (fun a29 M28 h => ?_)
  refine zt_pR hC h rfl cl10 (k := 11) (by decide) rfl wd_128 (Or.inl rfl) (Or.inr ⟨rfl, rfl, rfl⟩) dX10_init_84 (fun M30 h => ?_)
  refine zt_aload_n hC rfl dX10_init_87 ?_
  refine zt_bipush hC kb_48 dX10_init_88 ?_
  refine zt_newao (N := 48) hC h wd_65 (by decide) (by decide) (by decide) (Nat.le_of_ble_eq_true rfl) (Nat.le_of_ble_eq_true rfl) dX10_init_90 (fun a32 M31 h => ?_)
  refine zt_pR hC h rfl cl10 (k := 12) (by decide) rfl wd_129 (Or.inl rfl) (Or.inr ⟨rfl, rfl, rfl⟩) dX10_init_92 (fun M33 h => ?_)
  refine zt_aload_n hC rfl dX10_init_95 ?_
  refine zt_iconst hC ki_0 dX10_init_96 ?_
  refine zt_pI hC h cl10 (k := 13) (by decide) rfl wd_130 (Or.inl rfl) (Or.inl rfl) dX10_init_97 (fun M34 h => ?_)
  refine zt_aload_n hC rfl dX10_init_100 ?_
  refine zt_iconst hC ki_0 dX10_init_101 ?_
  refine zt_pI hC h cl10 (k := 14) (by decide) rfl wd_132 (Or.inl rfl) (Or.inl rfl) dX10_init_102 (fun M35 h => ?_)
  refine zt_aload_n hC rfl dX10_init_105 ?_
  refine zt_iconst hC ki_0 dX10_init_106 ?_
  refine zt_pI hC h cl10 (k := 15) (by decide) rfl wd_134 (Or.inl rfl) (Or.inl rfl) dX10_init_107 (fun M36 h => ?_)
  refine zt_aload_n hC rfl dX10_init_110 ?_
  refine zt_iconst hC ki_0 dX10_init_111 ?_
  refine zt_pI hC h cl10 (k := 16) (by decide) rfl wd_136 (Or.inl rfl) (Or.inl rfl) dX10_init_112 (fun M37 h => ?_)
  refine zt_aload_n hC rfl dX10_init_115 ?_
  refine zt_aload_nN hC rfl dX10_init_116 ?_
  refine zt_pR hC h rfl cl10 (k := 17) (by decide) rfl wd_137 (Or.inl rfl) (Or.inr ⟨rfl, rfl, rfl⟩) dX10_init_117 (fun M38 h => ?_)
  refine zt_iconst hC ki_0 dX10_init_120 ?_
  refine zt_istore_n (lv' := [(2, .int (0 : Int32)), (0, .ref x0), (1, .null)]) hC (by decide) rfl dX10_init_121 ?_
  refine zt_keep [0, 2] rfl ?_
  exact w_X10_initn_122 N hC N x0 (0 : Int32) 11 165 M38 h
def rm_X10_becomeRiver : Room := { frames := 2, cells := 0, slots := 0, locals := 101 }
theorem hd_X10_becomeRiver : yX10_becomeRiver.cls ≠ "java/lang/invoke/MethodHandle" ∧ yX10_becomeRiver.cls ≠ "java/lang/invoke/VarHandle" ∧ (parseMethodDescriptor yX10_becomeRiver.desc).map (fun d => d.parameters.length) = some 1 := by decide +kernel
def f_X10_becomeRiver (N : Nat) (x0 : Nat) (x1 : Nat) (M : Mm) : Option (Unit × Mm) :=
gI 10 M x1 0 (fun v1 =>
pI 10 M x0 0 v1 (fun M2 =>
gR 10 M2 x1 1 (fun v3 =>
gR 10 M2 x0 1 (fun v4 =>
bnd (f_X11_copyAll N v3 v4 M2) (fun v5 M6 =>
gI 10 M6 x1 2 (fun v8 =>
pI 10 M6 x0 2 v8 (fun M9 =>
gR 10 M9 x1 3 (fun v10 =>
gR 10 M9 x0 3 (fun v11 =>
bnd (f_X11_copyAll N v10 v11 M9) (fun v12 M13 =>
gI 10 M13 x1 4 (fun v15 =>
pI 10 M13 x0 4 v15 (fun M16 =>
some ((), M16)))))))))))))
set_option maxRecDepth 100000 in
set_option maxHeartbeats 4000000 in
theorem c_X10_becomeRiver (N : Nat) (x0 : Nat) (x1 : Nat) (M : Mm) (r : (Unit × Mm)) (h : f_X10_becomeRiver N x0 x1 M = some r) (l : Launch) (hfl : l.flags = flags0) {G : Gl} : MT l G yX10_becomeRiver cX10_becomeRiver 2 none rm_X10_becomeRiver [.ref x0, .ref x1] M none r.2 := by
  unfold f_X10_becomeRiver at h
  refine zt_start hfl (lv := [(0, .ref x0), (1, .ref x1)]) (by decide) (Nat.le_of_ble_eq_true rfl) rfl wd_315 (fun X hC _ => ?_)
  refine zt_aload_n hC rfl dX10_becomeRiver_0 ?_
  refine zt_aload_n hC rfl dX10_becomeRiver_1 ?_
  refine zt_gI hC h cl10 (k := 0) (by decide) rfl wd_102 (Or.inl rfl) dX10_becomeRiver_2 (fun v1 h => ?_)
  refine zt_pI hC h cl10 (k := 0) (by decide) rfl wd_102 (Or.inl rfl) (Or.inl rfl) dX10_becomeRiver_5 (fun M2 h => ?_)
  refine zt_aload_n hC rfl dX10_becomeRiver_8 ?_
  refine zt_gR hC h cl10 (k := 1) (by decide) rfl wd_109 (Or.inl rfl) dX10_becomeRiver_9 (fun v3 h => ?_)
  refine zt_aload_n hC rfl dX10_becomeRiver_12 ?_
  refine zt_gR hC h cl10 (k := 1) (by decide) rfl wd_109 (Or.inl rfl) dX10_becomeRiver_13 (fun v4 h => ?_)
  obtain ⟨v5, M6, h7, h⟩ := bnd_some h
  refine zt_callSN (z := yX11_copyAll) (As := [.ref v3, .ref v4]) (rest := []) (st1 := []) hC 2 (fun l hl => c_X11_copyAll N v3 v4 M2 (v5, M6) h7 l hl) wd_318 (by decide) wd_317 wd_1 hd_X11_copyAll rfl ⟨⟨(Nat.le_of_ble_eq_true rfl), (Nat.le_of_ble_eq_true rfl)⟩, (Nat.le_of_ble_eq_true rfl), (Nat.le_of_ble_eq_true rfl)⟩ rfl (Nat.le_of_ble_eq_true rfl) rfl dX10_becomeRiver_16 ?_
  refine zt_aload_n hC rfl dX10_becomeRiver_19 ?_
  refine zt_aload_n hC rfl dX10_becomeRiver_20 ?_
  refine zt_gI hC h cl10 (k := 2) (by decide) rfl wd_110 (Or.inl rfl) dX10_becomeRiver_21 (fun v8 h => ?_)
  refine zt_pI hC h cl10 (k := 2) (by decide) rfl wd_110 (Or.inl rfl) (Or.inl rfl) dX10_becomeRiver_24 (fun M9 h => ?_)
  refine zt_aload_n hC rfl dX10_becomeRiver_27 ?_
  refine zt_gR hC h cl10 (k := 3) (by decide) rfl wd_112 (Or.inl rfl) dX10_becomeRiver_28 (fun v10 h => ?_)
  refine zt_aload_n hC rfl dX10_becomeRiver_31 ?_
  refine zt_gR hC h cl10 (k := 3) (by decide) rfl wd_112 (Or.inl rfl) dX10_becomeRiver_32 (fun v11 h => ?_)
  obtain ⟨v12, M13, h14, h⟩ := bnd_some h
  refine zt_callSN (z := yX11_copyAll) (As := [.ref v10, .ref v11]) (rest := []) (st1 := []) hC 2 (fun l hl => c_X11_copyAll N v10 v11 M9 (v12, M13) h14 l hl) wd_318 (by decide) wd_317 wd_1 hd_X11_copyAll rfl ⟨⟨(Nat.le_of_ble_eq_true rfl), (Nat.le_of_ble_eq_true rfl)⟩, (Nat.le_of_ble_eq_true rfl), (Nat.le_of_ble_eq_true rfl)⟩ rfl (Nat.le_of_ble_eq_true rfl) rfl dX10_becomeRiver_35 ?_
  refine zt_aload_n hC rfl dX10_becomeRiver_38 ?_
  refine zt_aload_n hC rfl dX10_becomeRiver_39 ?_
  refine zt_gI hC h cl10 (k := 4) (by decide) rfl wd_113 (Or.inl rfl) dX10_becomeRiver_40 (fun v15 h => ?_)
  refine zt_pI hC h cl10 (k := 4) (by decide) rfl wd_113 (Or.inl rfl) (Or.inl rfl) dX10_becomeRiver_43 (fun M16 h => ?_)
  obtain rfl := Option.some.inj h
  exact zt_vret hC rfl rfl (Nat.le_of_ble_eq_true rfl) (Nat.le_of_ble_eq_true rfl) dX10_becomeRiver_46
def rm_X10_become : Room := { frames := 3, cells := 0, slots := 0, locals := 122 }
theorem hd_X10_become : yX10_become.cls ≠ "java/lang/invoke/MethodHandle" ∧ yX10_become.cls ≠ "java/lang/invoke/VarHandle" ∧ (parseMethodDescriptor yX10_become.desc).map (fun d => d.parameters.length) = some 1 := by decide +kernel
def f_X10_become (N : Nat) (x0 : Nat) (x1 : Nat) (M : Mm) : Option (Unit × Mm) :=
ck 10 M x0 (bnd (f_X10_becomeRiver N x0 x1 M) (fun v1 M2 =>
gI 10 M2 x1 5 (fun v4 =>
pI 10 M2 x0 5 v4 (fun M5 =>
gI 10 M5 x1 6 (fun v6 =>
pI 10 M5 x0 6 v6 (fun M7 =>
gR 10 M7 x0 7 (fun v8 =>
gR 10 M7 x1 7 (fun v9 =>
ck 1 M7 v8 (bnd (f_X1_become N v8 v9 M7) (fun v10 M11 =>
gR 10 M11 x0 8 (fun v13 =>
gR 10 M11 x1 8 (fun v14 =>
ck 1 M11 v13 (bnd (f_X1_become N v13 v14 M11) (fun v15 M16 =>
gI 10 M16 x1 9 (fun v18 =>
pZ 10 M16 x0 9 v18 (fun M19 =>
gR 10 M19 x1 10 (fun v20 =>
gR 10 M19 x0 10 (fun v21 =>
bnd (f_X11_copyAll N v20 v21 M19) (fun v22 M23 =>
gR 10 M23 x1 11 (fun v25 =>
gR 10 M23 x0 11 (fun v26 =>
bnd (f_X11_copyAll N v25 v26 M23) (fun v27 M28 =>
gR 10 M28 x1 12 (fun v30 =>
gR 10 M28 x0 12 (fun v31 =>
bnd (f_X11_copyAll N v30 v31 M28) (fun v32 M33 =>
gI 10 M33 x1 13 (fun v35 =>
pI 10 M33 x0 13 v35 (fun M36 =>
gI 10 M36 x1 14 (fun v37 =>
pI 10 M36 x0 14 v37 (fun M38 =>
gI 10 M38 x1 15 (fun v39 =>
pI 10 M38 x0 15 v39 (fun M40 =>
gI 10 M40 x1 16 (fun v41 =>
pI 10 M40 x0 16 v41 (fun M42 =>
some ((), M42))))))))))))))))))))))))))))))))))
set_option maxRecDepth 100000 in
set_option maxHeartbeats 4000000 in
theorem c_X10_become (N : Nat) (x0 : Nat) (x1 : Nat) (M : Mm) (r : (Unit × Mm)) (h : f_X10_become N x0 x1 M = some r) (l : Launch) (hfl : l.flags = flags0) {G : Gl} : MT l G yX10_become cX10_become 2 none rm_X10_become [.ref x0, .ref x1] M none r.2 := by
  unfold f_X10_become at h
  refine zt_start hfl (lv := [(0, .ref x0), (1, .ref x1)]) (by decide) (Nat.le_of_ble_eq_true rfl) rfl wd_311 (fun X hC _ => ?_)
  refine zt_aload_n hC rfl dX10_become_0 ?_
  refine zt_aload_n hC rfl dX10_become_1 ?_
  obtain ⟨hk, h⟩ := ck_some h
  obtain ⟨v1, M2, h3, h⟩ := bnd_some h
  refine zt_callV (z := yX10_becomeRiver) (As := [.ref x1]) (rest := []) (st1 := []) hC 1 hk cl10 (fun l hl => c_X10_becomeRiver N x0 x1 M (v1, M2) h3 l hl) rfl wd_315 wd_312 wd_314 ws_7 wd_2 hd_X10_becomeRiver rfl ⟨⟨(Nat.le_of_ble_eq_true rfl), (Nat.le_of_ble_eq_true rfl)⟩, (Nat.le_of_ble_eq_true rfl), (Nat.le_of_ble_eq_true rfl)⟩ rfl (Nat.le_of_ble_eq_true rfl) rfl dX10_become_2 ?_
  refine zt_aload_n hC rfl dX10_become_5 ?_
  refine zt_aload_n hC rfl dX10_become_6 ?_
  refine zt_gI hC h cl10 (k := 5) (by decide) rfl wd_116 (Or.inl rfl) dX10_become_7 (fun v4 h => ?_)
  refine zt_pI hC h cl10 (k := 5) (by decide) rfl wd_116 (Or.inl rfl) (Or.inl rfl) dX10_become_10 (fun M5 h => ?_)
  refine zt_aload_n hC rfl dX10_become_13 ?_
  refine zt_aload_n hC rfl dX10_become_14 ?_
  refine zt_gI hC h cl10 (k := 6) (by decide) rfl wd_118 (Or.inl rfl) dX10_become_15 (fun v6 h => ?_)
  refine zt_pI hC h cl10 (k := 6) (by decide) rfl wd_118 (Or.inl rfl) (Or.inl rfl) dX10_become_18 (fun M7 h => ?_)
  refine zt_aload_n hC rfl dX10_become_21 ?_
  refine zt_gR hC h cl10 (k := 7) (by decide) rfl wd_121 (Or.inl rfl) dX10_become_22 (fun v8 h => ?_)
  refine zt_aload_n hC rfl dX10_become_25 ?_
  refine zt_gR hC h cl10 (k := 7) (by decide) rfl wd_121 (Or.inl rfl) dX10_become_26 (fun v9 h => ?_)
  obtain ⟨hk, h⟩ := ck_some h
  obtain ⟨v10, M11, h12, h⟩ := bnd_some h
  refine zt_callV (z := yX1_become) (As := [.ref v9]) (rest := []) (st1 := []) hC 1 hk cl1 (fun l hl => c_X1_become N v8 v9 M7 (v10, M11) h12 l hl) rfl wd_328 wd_325 wd_326 wd_327 wd_3 hd_X1_become rfl ⟨⟨(Nat.le_of_ble_eq_true rfl), (Nat.le_of_ble_eq_true rfl)⟩, (Nat.le_of_ble_eq_true rfl), (Nat.le_of_ble_eq_true rfl)⟩ rfl (Nat.le_of_ble_eq_true rfl) rfl dX10_become_29 ?_
  refine zt_aload_n hC rfl dX10_become_32 ?_
  refine zt_gR hC h cl10 (k := 8) (by decide) rfl wd_123 (Or.inl rfl) dX10_become_33 (fun v13 h => ?_)
  refine zt_aload_n hC rfl dX10_become_36 ?_
  refine zt_gR hC h cl10 (k := 8) (by decide) rfl wd_123 (Or.inl rfl) dX10_become_37 (fun v14 h => ?_)
  obtain ⟨hk, h⟩ := ck_some h
  obtain ⟨v15, M16, h17, h⟩ := bnd_some h
  refine zt_callV (z := yX1_become) (As := [.ref v14]) (rest := []) (st1 := []) hC 1 hk cl1 (fun l hl => c_X1_become N v13 v14 M11 (v15, M16) h17 l hl) rfl wd_328 wd_325 wd_326 wd_327 wd_3 hd_X1_become rfl ⟨⟨(Nat.le_of_ble_eq_true rfl), (Nat.le_of_ble_eq_true rfl)⟩, (Nat.le_of_ble_eq_true rfl), (Nat.le_of_ble_eq_true rfl)⟩ rfl (Nat.le_of_ble_eq_true rfl) rfl dX10_become_40 ?_
  refine zt_aload_n hC rfl dX10_become_43 ?_
  refine zt_aload_n hC rfl dX10_become_44 ?_
  refine zt_gI hC h cl10 (k := 9) (by decide) rfl wd_125 (Or.inl rfl) dX10_become_45 (fun v18 h => ?_)
  refine zt_pZ hC h cl10 (k := 9) (by decide) rfl wd_125 (Or.inl rfl) (Or.inl rfl) dX10_become_48 (fun M19 h => ?_)
  refine zt_aload_n hC rfl dX10_become_51 ?_
  refine zt_gR hC h cl10 (k := 10) (by decide) rfl wd_127 (Or.inl rfl) dX10_become_52 (fun v20 h => ?_)
  refine zt_aload_n hC rfl dX10_become_55 ?_
  refine zt_gR hC h cl10 (k := 10) (by decide) rfl wd_127 (Or.inl rfl) dX10_become_56 (fun v21 h => ?_)
  obtain ⟨v22, M23, h24, h⟩ := bnd_some h
  refine zt_callSN (z := yX11_copyAll) (As := [.ref v20, .ref v21]) (rest := []) (st1 := []) hC 2 (fun l hl => c_X11_copyAll N v20 v21 M19 (v22, M23) h24 l hl) wd_318 (by decide) wd_317 wd_1 hd_X11_copyAll rfl ⟨⟨(Nat.le_of_ble_eq_true rfl), (Nat.le_of_ble_eq_true rfl)⟩, (Nat.le_of_ble_eq_true rfl), (Nat.le_of_ble_eq_true rfl)⟩ rfl (Nat.le_of_ble_eq_true rfl) rfl dX10_become_59 ?_
  refine zt_aload_n hC rfl dX10_become_62 ?_
  refine zt_gR hC h cl10 (k := 11) (by decide) rfl wd_128 (Or.inl rfl) dX10_become_63 (fun v25 h => ?_)
  refine zt_aload_n hC rfl dX10_become_66 ?_
  refine zt_gR hC h cl10 (k := 11) (by decide) rfl wd_128 (Or.inl rfl) dX10_become_67 (fun v26 h => ?_)
  obtain ⟨v27, M28, h29, h⟩ := bnd_some h
  refine zt_callSN (z := yX11_copyAll) (As := [.ref v25, .ref v26]) (rest := []) (st1 := []) hC 2 (fun l hl => c_X11_copyAll N v25 v26 M23 (v27, M28) h29 l hl) wd_318 (by decide) wd_317 wd_1 hd_X11_copyAll rfl ⟨⟨(Nat.le_of_ble_eq_true rfl), (Nat.le_of_ble_eq_true rfl)⟩, (Nat.le_of_ble_eq_true rfl), (Nat.le_of_ble_eq_true rfl)⟩ rfl (Nat.le_of_ble_eq_true rfl) rfl dX10_become_70 ?_
  refine zt_aload_n hC rfl dX10_become_73 ?_
  refine zt_gR hC h cl10 (k := 12) (by decide) rfl wd_129 (Or.inl rfl) dX10_become_74 (fun v30 h => ?_)
  refine zt_aload_n hC rfl dX10_become_77 ?_
  refine zt_gR hC h cl10 (k := 12) (by decide) rfl wd_129 (Or.inl rfl) dX10_become_78 (fun v31 h => ?_)
  obtain ⟨v32, M33, h34, h⟩ := bnd_some h
  refine zt_callSN (z := yX11_copyAll) (As := [.ref v30, .ref v31]) (rest := []) (st1 := []) hC 2 (fun l hl => c_X11_copyAll N v30 v31 M28 (v32, M33) h34 l hl) wd_318 (by decide) wd_317 wd_1 hd_X11_copyAll rfl ⟨⟨(Nat.le_of_ble_eq_true rfl), (Nat.le_of_ble_eq_true rfl)⟩, (Nat.le_of_ble_eq_true rfl), (Nat.le_of_ble_eq_true rfl)⟩ rfl (Nat.le_of_ble_eq_true rfl) rfl dX10_become_81 ?_
  refine zt_aload_n hC rfl dX10_become_84 ?_
  refine zt_aload_n hC rfl dX10_become_85 ?_
  refine zt_gI hC h cl10 (k := 13) (by decide) rfl wd_130 (Or.inl rfl) dX10_become_86 (fun v35 h => ?_)
  refine zt_pI hC h cl10 (k := 13) (by decide) rfl wd_130 (Or.inl rfl) (Or.inl rfl) dX10_become_89 (fun M36 h => ?_)
  refine zt_aload_n hC rfl dX10_become_92 ?_
  refine zt_aload_n hC rfl dX10_become_93 ?_
  refine zt_gI hC h cl10 (k := 14) (by decide) rfl wd_132 (Or.inl rfl) dX10_become_94 (fun v37 h => ?_)
  refine zt_pI hC h cl10 (k := 14) (by decide) rfl wd_132 (Or.inl rfl) (Or.inl rfl) dX10_become_97 (fun M38 h => ?_)
  refine zt_aload_n hC rfl dX10_become_100 ?_
  refine zt_aload_n hC rfl dX10_become_101 ?_
  refine zt_gI hC h cl10 (k := 15) (by decide) rfl wd_134 (Or.inl rfl) dX10_become_102 (fun v39 h => ?_)
  refine zt_pI hC h cl10 (k := 15) (by decide) rfl wd_134 (Or.inl rfl) (Or.inl rfl) dX10_become_105 (fun M40 h => ?_)
  refine zt_aload_n hC rfl dX10_become_108 ?_
  refine zt_aload_n hC rfl dX10_become_109 ?_
  refine zt_gI hC h cl10 (k := 16) (by decide) rfl wd_136 (Or.inl rfl) dX10_become_110 (fun v41 h => ?_)
  refine zt_pI hC h cl10 (k := 16) (by decide) rfl wd_136 (Or.inl rfl) (Or.inl rfl) dX10_become_113 (fun M42 h => ?_)
  obtain rfl := Option.some.inj h
  exact zt_vret hC rfl rfl (Nat.le_of_ble_eq_true rfl) (Nat.le_of_ble_eq_true rfl) dX10_become_116
def rm_X10_beginDay : Room := { frames := 3, cells := 0, slots := 0, locals := 122 }
theorem hd_X10_beginDay : yX10_beginDay.cls ≠ "java/lang/invoke/MethodHandle" ∧ yX10_beginDay.cls ≠ "java/lang/invoke/VarHandle" ∧ (parseMethodDescriptor yX10_beginDay.desc).map (fun d => d.parameters.length) = some 4 := by decide +kernel
def b_X10_beginDay_33 (N : Nat) (k33 : Nat → Int32 → Mm → Option (Unit × Mm)) (x0 : Nat) (x5 : Int32) (M : Mm) : Option (Unit × Mm) :=
gR 10 M x0 10 (fun v1 =>
alen M v1 (fun v2 =>
(if v2 ≤ x5 then
pI 10 M x0 13 (0 : Int32) (fun M3 =>
pI 10 M3 x0 14 (0 : Int32) (fun M4 =>
pI 10 M4 x0 15 (0 : Int32) (fun M5 =>
pI 10 M5 x0 16 (0 : Int32) (fun M6 =>
some ((), M6)))))
else
gR 10 M x0 10 (fun v7 =>
ast M v7 x5 (0 : Int32) (fun M8 =>
k33 x0 (x5 + (1 : Int32)) M8)))))
def l_X10_beginDay_33 (N : Nat) : Nat → Nat → Int32 → Mm → Option (Unit × Mm)
  | 0 => fun _ _ _ => none
  | n + 1 => b_X10_beginDay_33 N (l_X10_beginDay_33 N n)
set_option maxRecDepth 100000 in
set_option maxHeartbeats 4000000 in
theorem v_X10_beginDay_33 {X : Cx} {G : Gl} {r : (Unit × Mm)} (N : Nat) (hC : CX X G yX10_beginDay cX10_beginDay 6 none rm_X10_beginDay) (k33 : Nat → Int32 → Mm → Option (Unit × Mm)) (hk33 : ∀ (x0 : Nat) (x5 : Int32) (M : Mm), k33 x0 x5 M = some r → TW X G 6 (RQ X G none r.2 rm_X10_beginDay) 0 0 M 33 [(0, .ref x0), (5, .int x5)] []) (x0 : Nat) (x5 : Int32) (M : Mm) (h : b_X10_beginDay_33 N k33 x0 x5 M = some r) : TW X G 6 (RQ X G none r.2 rm_X10_beginDay) 0 0 M 33 [(0, .ref x0), (5, .int x5)] [] := by
  unfold b_X10_beginDay_33 at h
  refine zt_iload hC rfl dX10_beginDay_33 ?_
  refine zt_aload_n hC rfl dX10_beginDay_35 ?_
  refine zt_gR hC h cl10 (k := 10) (by decide) rfl wd_127 (Or.inl rfl) dX10_beginDay_36 (fun v1 h => ?_)
  refine zt_alen hC h dX10_beginDay_39 (fun v2 h => ?_)
  refine zt_icmp_ge (tgt := 57) hC h (by decide) dX10_beginDay_40 (fun h => ?_) (fun h => ?_)
  · refine zt_aload_n hC rfl dX10_beginDay_57 ?_
    refine zt_iconst hC ki_0 dX10_beginDay_58 ?_
    refine zt_pI hC h cl10 (k := 13) (by decide) rfl wd_130 (Or.inl rfl) (Or.inl rfl) dX10_beginDay_59 (fun M3 h => ?_)
    refine zt_aload_n hC rfl dX10_beginDay_62 ?_
    refine zt_iconst hC ki_0 dX10_beginDay_63 ?_
    refine zt_pI hC h cl10 (k := 14) (by decide) rfl wd_132 (Or.inl rfl) (Or.inl rfl) dX10_beginDay_64 (fun M4 h => ?_)
    refine zt_aload_n hC rfl dX10_beginDay_67 ?_
    refine zt_iconst hC ki_0 dX10_beginDay_68 ?_
    refine zt_pI hC h cl10 (k := 15) (by decide) rfl wd_134 (Or.inl rfl) (Or.inl rfl) dX10_beginDay_69 (fun M5 h => ?_)
    refine zt_aload_n hC rfl dX10_beginDay_72 ?_
    refine zt_iconst hC ki_0 dX10_beginDay_73 ?_
    refine zt_pI hC h cl10 (k := 16) (by decide) rfl wd_136 (Or.inl rfl) (Or.inl rfl) dX10_beginDay_74 (fun M6 h => ?_)
    obtain rfl := Option.some.inj h
    exact zt_vret hC rfl rfl (Nat.le_of_ble_eq_true rfl) (Nat.le_of_ble_eq_true rfl) dX10_beginDay_77
  · refine zt_aload_n hC rfl dX10_beginDay_43 ?_
    refine zt_gR hC h cl10 (k := 10) (by decide) rfl wd_127 (Or.inl rfl) dX10_beginDay_44 (fun v7 h => ?_)
    refine zt_iload hC rfl dX10_beginDay_47 ?_
    refine zt_iconst hC ki_0 dX10_beginDay_49 ?_
    refine zt_ast hC h dX10_beginDay_50 (fun M8 h => ?_)
    refine zt_iinc (v := (x5 + (1 : Int32))) (lv' := [(5, .int (x5 + (1 : Int32))), (0, .ref x0)]) hC rfl (by rw [ki_1]) (by decide) rfl dX10_beginDay_51 ?_
    refine zt_goto (tgt := 33) hC (by decide) dX10_beginDay_54 ?_
    refine zt_keep [0, 5] rfl ?_
    exact hk33 x0 (x5 + (1 : Int32)) M8 h
theorem w_X10_beginDay_33 {X : Cx} {G : Gl} {r : (Unit × Mm)} (N : Nat) (hC : CX X G yX10_beginDay cX10_beginDay 6 none rm_X10_beginDay) (n : Nat) : ∀ (x0 : Nat) (x5 : Int32) (M : Mm), l_X10_beginDay_33 N n x0 x5 M = some r → TW X G 6 (RQ X G none r.2 rm_X10_beginDay) 0 0 M 33 [(0, .ref x0), (5, .int x5)] [] := by
  induction n with
  | zero => intro  x0 x5 M h; cases (show none = some r from h)
  | succ n ih => intro  x0 x5 M h; exact v_X10_beginDay_33 N hC (l_X10_beginDay_33 N n) ih x0 x5 M h
def f_X10_beginDay (N : Nat) (x0 : Nat) (x1 : Nat) (x2 : Nat) (x3 : Int32) (x4 : Int32) (M : Mm) : Option (Unit × Mm) :=
ck 10 M x0 (bnd (f_X10_becomeRiver N x0 x1 M) (fun v1 M2 =>
pI 10 M2 x0 5 x4 (fun M4 =>
pI 10 M4 x0 6 (0 : Int32) (fun M5 =>
gR 10 M5 x0 7 (fun v6 =>
ck 1 M5 v6 (bnd (f_X1_begin N v6 x2 x3 M5) (fun v7 M8 =>
pZ 10 M8 x0 9 (0 : Int32) (fun M10 =>
l_X10_beginDay_33 N N x0 (0 : Int32) M10))))))))
set_option maxRecDepth 100000 in
set_option maxHeartbeats 4000000 in
theorem c_X10_beginDay (N : Nat) (x0 : Nat) (x1 : Nat) (x2 : Nat) (x3 : Int32) (x4 : Int32) (M : Mm) (r : (Unit × Mm)) (h : f_X10_beginDay N x0 x1 x2 x3 x4 M = some r) (l : Launch) (hfl : l.flags = flags0) {G : Gl} : MT l G yX10_beginDay cX10_beginDay 6 none rm_X10_beginDay [.ref x0, .ref x1, .ref x2, .int x3, .int x4] M none r.2 := by
  unfold f_X10_beginDay at h
  refine zt_start hfl (lv := [(0, .ref x0), (1, .ref x1), (2, .ref x2), (3, .int x3), (4, .int x4)]) (by decide) (Nat.le_of_ble_eq_true rfl) rfl wd_593 (fun X hC _ => ?_)
  refine zt_aload_n hC rfl dX10_beginDay_0 ?_
  refine zt_aload_n hC rfl dX10_beginDay_1 ?_
  obtain ⟨hk, h⟩ := ck_some h
  obtain ⟨v1, M2, h3, h⟩ := bnd_some h
  refine zt_callV (z := yX10_becomeRiver) (As := [.ref x1]) (rest := []) (st1 := []) hC 1 hk cl10 (fun l hl => c_X10_becomeRiver N x0 x1 M (v1, M2) h3 l hl) rfl wd_315 wd_312 wd_314 ws_7 wd_2 hd_X10_becomeRiver rfl ⟨⟨(Nat.le_of_ble_eq_true rfl), (Nat.le_of_ble_eq_true rfl)⟩, (Nat.le_of_ble_eq_true rfl), (Nat.le_of_ble_eq_true rfl)⟩ rfl (Nat.le_of_ble_eq_true rfl) rfl dX10_beginDay_2 ?_
  refine zt_aload_n hC rfl dX10_beginDay_5 ?_
  refine zt_iload hC rfl dX10_beginDay_6 ?_
  refine zt_pI hC h cl10 (k := 5) (by decide) rfl wd_116 (Or.inl rfl) (Or.inl rfl) dX10_beginDay_8 (fun M4 h => ?_)
  refine zt_aload_n hC rfl dX10_beginDay_11 ?_
  refine zt_iconst hC ki_0 dX10_beginDay_12 ?_
  refine zt_pI hC h cl10 (k := 6) (by decide) rfl wd_118 (Or.inl rfl) (Or.inl rfl) dX10_beginDay_13 (fun M5 h => ?_)
  refine zt_aload_n hC rfl dX10_beginDay_16 ?_
  refine zt_gR hC h cl10 (k := 7) (by decide) rfl wd_121 (Or.inl rfl) dX10_beginDay_17 (fun v6 h => ?_)
  refine zt_aload_n hC rfl dX10_beginDay_20 ?_
  refine zt_iload_n hC rfl dX10_beginDay_21 ?_
  obtain ⟨hk, h⟩ := ck_some h
  obtain ⟨v7, M8, h9, h⟩ := bnd_some h
  refine zt_callV (z := yX1_begin) (As := [.ref x2, .int x3]) (rest := []) (st1 := []) hC 2 hk cl1 (fun l hl => c_X1_begin N v6 x2 x3 M5 (v7, M8) h9 l hl) rfl wd_597 wd_594 wd_595 wd_596 wd_3 hd_X1_begin rfl ⟨⟨(Nat.le_of_ble_eq_true rfl), (Nat.le_of_ble_eq_true rfl)⟩, (Nat.le_of_ble_eq_true rfl), (Nat.le_of_ble_eq_true rfl)⟩ rfl (Nat.le_of_ble_eq_true rfl) rfl dX10_beginDay_22 ?_
  refine zt_aload_n hC rfl dX10_beginDay_25 ?_
  refine zt_iconst hC ki_0 dX10_beginDay_26 ?_
  refine zt_pZ hC h cl10 (k := 9) (by decide) rfl wd_125 (Or.inl rfl) (Or.inl rfl) dX10_beginDay_27 (fun M10 h => ?_)
  refine zt_iconst hC ki_0 dX10_beginDay_30 ?_
  refine zt_istore (lv' := [(5, .int (0 : Int32)), (0, .ref x0), (1, .ref x1), (2, .ref x2), (3, .int x3), (4, .int x4)]) hC (by decide) rfl dX10_beginDay_31 ?_
  refine zt_keep [0, 5] rfl ?_
  exact w_X10_beginDay_33 N hC N x0 (0 : Int32) M10 h
def rm_X10_hasSort : Room := { frames := 0, cells := 0, slots := 0, locals := 0 }
theorem hd_X10_hasSort : yX10_hasSort.cls ≠ "java/lang/invoke/MethodHandle" ∧ yX10_hasSort.cls ≠ "java/lang/invoke/VarHandle" ∧ (parseMethodDescriptor yX10_hasSort.desc).map (fun d => d.parameters.length) = some 1 := by decide +kernel
def f_X10_hasSort (N : Nat) (x0 : Nat) (x1 : Int32) (M : Mm) : Option (Int32 × Mm) :=
(if x1 < 0 then
some ((0 : Int32), M)
else
gI 10 M x0 2 (fun v1 =>
(if v1 ≤ x1 then
some ((0 : Int32), M)
else
some ((1 : Int32), M))))
set_option maxRecDepth 100000 in
set_option maxHeartbeats 4000000 in
theorem c_X10_hasSort (N : Nat) (x0 : Nat) (x1 : Int32) (M : Mm) (r : (Int32 × Mm)) (h : f_X10_hasSort N x0 x1 M = some r) (l : Launch) (hfl : l.flags = flags0) {G : Gl} : MT l G yX10_hasSort cX10_hasSort 2 (some .boolean) rm_X10_hasSort [.ref x0, .int x1] M (some (.int r.1)) r.2 := by
  unfold f_X10_hasSort at h
  refine zt_start hfl (lv := [(0, .ref x0), (1, .int x1)]) (by decide) (Nat.le_of_ble_eq_true rfl) rfl wd_387 (fun X hC _ => ?_)
  refine zt_iload_n hC rfl dX10_hasSort_0 ?_
  refine zt_if_lt (tgt := 16) hC h (by decide) dX10_hasSort_1 (fun h => ?_) (fun h => ?_)
  · refine zt_iconst hC ki_0 dX10_hasSort_16 ?_
    obtain rfl := Option.some.inj h
    exact zt_zret hC rfl rfl (Or.inl rfl) (Nat.le_of_ble_eq_true rfl) (Nat.le_of_ble_eq_true rfl) dX10_hasSort_17
  · refine zt_iload_n hC rfl dX10_hasSort_4 ?_
    refine zt_aload_n hC rfl dX10_hasSort_5 ?_
    refine zt_gI hC h cl10 (k := 2) (by decide) rfl wd_110 (Or.inl rfl) dX10_hasSort_6 (fun v1 h => ?_)
    refine zt_icmp_ge (tgt := 16) hC h (by decide) dX10_hasSort_9 (fun h => ?_) (fun h => ?_)
    · refine zt_iconst hC ki_0 dX10_hasSort_16 ?_
      obtain rfl := Option.some.inj h
      exact zt_zret hC rfl rfl (Or.inl rfl) (Nat.le_of_ble_eq_true rfl) (Nat.le_of_ble_eq_true rfl) dX10_hasSort_17
    · refine zt_iconst hC ki_1 dX10_hasSort_12 ?_
      refine zt_goto (tgt := 17) hC (by decide) dX10_hasSort_13 ?_
      obtain rfl := Option.some.inj h
      exact zt_zret hC rfl rfl (Or.inr rfl) (Nat.le_of_ble_eq_true rfl) (Nat.le_of_ble_eq_true rfl) dX10_hasSort_17
def rm_X10_way : Room := { frames := 1, cells := 0, slots := 0, locals := 21 }
theorem hd_X10_way : yX10_way.cls ≠ "java/lang/invoke/MethodHandle" ∧ yX10_way.cls ≠ "java/lang/invoke/VarHandle" ∧ (parseMethodDescriptor yX10_way.desc).map (fun d => d.parameters.length) = some 2 := by decide +kernel
def f_X10_way (N : Nat) (x0 : Nat) (x1 : Int32) (x2 : Int32) (M : Mm) : Option (Int32 × Mm) :=
gR 10 M x0 1 (fun v1 =>
bnd (f_X11_at N v1 ((x1 * (4 : Int32)) + x2) M) (fun v2 M3 =>
some (v2, M3)))
set_option maxRecDepth 100000 in
set_option maxHeartbeats 4000000 in
theorem c_X10_way (N : Nat) (x0 : Nat) (x1 : Int32) (x2 : Int32) (M : Mm) (r : (Int32 × Mm)) (h : f_X10_way N x0 x1 x2 M = some r) (l : Launch) (hfl : l.flags = flags0) {G : Gl} : MT l G yX10_way cX10_way 3 (some .int) rm_X10_way [.ref x0, .int x1, .int x2] M (some (.int r.1)) r.2 := by
  unfold f_X10_way at h
  refine zt_start hfl (lv := [(0, .ref x0), (1, .int x1), (2, .int x2)]) (by decide) (Nat.le_of_ble_eq_true rfl) rfl wd_376 (fun X hC _ => ?_)
  refine zt_aload_n hC rfl dX10_way_0 ?_
  refine zt_gR hC h cl10 (k := 1) (by decide) rfl wd_109 (Or.inl rfl) dX10_way_1 (fun v1 h => ?_)
  refine zt_iload_n hC rfl dX10_way_4 ?_
  refine zt_iconst hC ki_4 dX10_way_5 ?_
  refine zt_imul hC dX10_way_6 ?_
  refine zt_iload_n hC rfl dX10_way_7 ?_
  refine zt_iadd hC dX10_way_8 ?_
  obtain ⟨v2, M3, h4, h⟩ := bnd_some h
  refine zt_callSN (z := yX11_at) (As := [.ref v1, .int ((x1 * (4 : Int32)) + x2)]) (rest := []) (st1 := (.int v2 :: [])) hC 2 (fun l hl => c_X11_at N v1 ((x1 * (4 : Int32)) + x2) M (v2, M3) h4 l hl) wd_379 (by decide) wd_378 wd_1 hd_X11_at rfl ⟨⟨(Nat.le_of_ble_eq_true rfl), (Nat.le_of_ble_eq_true rfl)⟩, (Nat.le_of_ble_eq_true rfl), (Nat.le_of_ble_eq_true rfl)⟩ rfl (Nat.le_of_ble_eq_true rfl) rfl dX10_way_9 ?_
  obtain rfl := Option.some.inj h
  exact zt_iret hC rfl rfl (Nat.le_of_ble_eq_true rfl) (Nat.le_of_ble_eq_true rfl) dX10_way_12
def rm_X10_sortsFrom : Room := { frames := 1, cells := 0, slots := 0, locals := 23 }
theorem hd_X10_sortsFrom : yX10_sortsFrom.cls ≠ "java/lang/invoke/MethodHandle" ∧ yX10_sortsFrom.cls ≠ "java/lang/invoke/VarHandle" ∧ (parseMethodDescriptor yX10_sortsFrom.desc).map (fun d => d.parameters.length) = some 1 := by decide +kernel
def b_X10_sortsFrom_4 (N : Nat) (k4 : Nat → Int32 → Int32 → Int32 → Mm → Option (Int32 × Mm)) (x0 : Nat) (x1 : Int32) (x2 : Int32) (x3 : Int32) (M : Mm) : Option (Int32 × Mm) :=
gI 10 M x0 2 (fun v1 =>
(if v1 ≤ x3 then
some (x2, M)
else
ck 10 M x0 (bnd (f_X10_ofSort N x0 x3 (0 : Int32) M) (fun v2 M3 =>
(if v2 = x1 then
k4 x0 x1 (x2 + (1 : Int32)) (x3 + (1 : Int32)) M3
else
k4 x0 x1 x2 (x3 + (1 : Int32)) M3)))))
def l_X10_sortsFrom_4 (N : Nat) : Nat → Nat → Int32 → Int32 → Int32 → Mm → Option (Int32 × Mm)
  | 0 => fun _ _ _ _ _ => none
  | n + 1 => b_X10_sortsFrom_4 N (l_X10_sortsFrom_4 N n)
set_option maxRecDepth 100000 in
set_option maxHeartbeats 4000000 in
theorem v_X10_sortsFrom_4 {X : Cx} {G : Gl} {r : (Int32 × Mm)} (N : Nat) (hC : CX X G yX10_sortsFrom cX10_sortsFrom 4 (some .int) rm_X10_sortsFrom) (k4 : Nat → Int32 → Int32 → Int32 → Mm → Option (Int32 × Mm)) (hk4 : ∀ (x0 : Nat) (x1 : Int32) (x2 : Int32) (x3 : Int32) (M : Mm), k4 x0 x1 x2 x3 M = some r → TW X G 4 (RQ X G (some (.int r.1)) r.2 rm_X10_sortsFrom) 0 0 M 4 [(0, .ref x0), (1, .int x1), (2, .int x2), (3, .int x3)] []) (x0 : Nat) (x1 : Int32) (x2 : Int32) (x3 : Int32) (M : Mm) (h : b_X10_sortsFrom_4 N k4 x0 x1 x2 x3 M = some r) : TW X G 4 (RQ X G (some (.int r.1)) r.2 rm_X10_sortsFrom) 0 0 M 4 [(0, .ref x0), (1, .int x1), (2, .int x2), (3, .int x3)] [] := by
  unfold b_X10_sortsFrom_4 at h
  refine zt_iload_n hC rfl dX10_sortsFrom_4 ?_
  refine zt_aload_n hC rfl dX10_sortsFrom_5 ?_
  refine zt_gI hC h cl10 (k := 2) (by decide) rfl wd_110 (Or.inl rfl) dX10_sortsFrom_6 (fun v1 h => ?_)
  refine zt_icmp_ge (tgt := 31) hC h (by decide) dX10_sortsFrom_9 (fun h => ?_) (fun h => ?_)
  · refine zt_iload_n hC rfl dX10_sortsFrom_31 ?_
    obtain rfl := Option.some.inj h
    exact zt_iret hC rfl rfl (Nat.le_of_ble_eq_true rfl) (Nat.le_of_ble_eq_true rfl) dX10_sortsFrom_32
  · refine zt_aload_n hC rfl dX10_sortsFrom_12 ?_
    refine zt_iload_n hC rfl dX10_sortsFrom_13 ?_
    refine zt_iconst hC ki_0 dX10_sortsFrom_14 ?_
    obtain ⟨hk, h⟩ := ck_some h
    obtain ⟨v2, M3, h4, h⟩ := bnd_some h
    refine zt_callV (z := yX10_ofSort) (As := [.int x3, .int (0 : Int32)]) (rest := []) (st1 := (.int v2 :: [])) hC 2 hk cl10 (fun l hl => c_X10_ofSort N x0 x3 (0 : Int32) M (v2, M3) h4 l hl) rfl wd_346 wd_343 wd_344 wd_345 wd_2 hd_X10_ofSort rfl ⟨⟨(Nat.le_of_ble_eq_true rfl), (Nat.le_of_ble_eq_true rfl)⟩, (Nat.le_of_ble_eq_true rfl), (Nat.le_of_ble_eq_true rfl)⟩ rfl (Nat.le_of_ble_eq_true rfl) rfl dX10_sortsFrom_15 ?_
    refine zt_iload_n hC rfl dX10_sortsFrom_18 ?_
    refine zt_icmp_ne (tgt := 25) hC h (by decide) dX10_sortsFrom_19 (fun h => ?_) (fun h => ?_)
    · refine zt_iinc (v := (x3 + (1 : Int32))) (lv' := [(3, .int (x3 + (1 : Int32))), (0, .ref x0), (1, .int x1), (2, .int x2)]) hC rfl (by rw [ki_1]) (by decide) rfl dX10_sortsFrom_25 ?_
      refine zt_goto (tgt := 4) hC (by decide) dX10_sortsFrom_28 ?_
      refine zt_keep [0, 1, 2, 3] rfl ?_
      exact hk4 x0 x1 x2 (x3 + (1 : Int32)) M3 h
    · refine zt_iinc (v := (x2 + (1 : Int32))) (lv' := [(2, .int (x2 + (1 : Int32))), (0, .ref x0), (1, .int x1), (3, .int x3)]) hC rfl (by rw [ki_1]) (by decide) rfl dX10_sortsFrom_22 ?_
      refine zt_iinc (v := (x3 + (1 : Int32))) (lv' := [(3, .int (x3 + (1 : Int32))), (2, .int (x2 + (1 : Int32))), (0, .ref x0), (1, .int x1)]) hC rfl (by rw [ki_1]) (by decide) rfl dX10_sortsFrom_25 ?_
      refine zt_goto (tgt := 4) hC (by decide) dX10_sortsFrom_28 ?_
      refine zt_keep [0, 1, 2, 3] rfl ?_
      exact hk4 x0 x1 (x2 + (1 : Int32)) (x3 + (1 : Int32)) M3 h
theorem w_X10_sortsFrom_4 {X : Cx} {G : Gl} {r : (Int32 × Mm)} (N : Nat) (hC : CX X G yX10_sortsFrom cX10_sortsFrom 4 (some .int) rm_X10_sortsFrom) (n : Nat) : ∀ (x0 : Nat) (x1 : Int32) (x2 : Int32) (x3 : Int32) (M : Mm), l_X10_sortsFrom_4 N n x0 x1 x2 x3 M = some r → TW X G 4 (RQ X G (some (.int r.1)) r.2 rm_X10_sortsFrom) 0 0 M 4 [(0, .ref x0), (1, .int x1), (2, .int x2), (3, .int x3)] [] := by
  induction n with
  | zero => intro  x0 x1 x2 x3 M h; cases (show none = some r from h)
  | succ n ih => intro  x0 x1 x2 x3 M h; exact v_X10_sortsFrom_4 N hC (l_X10_sortsFrom_4 N n) ih x0 x1 x2 x3 M h
def f_X10_sortsFrom (N : Nat) (x0 : Nat) (x1 : Int32) (M : Mm) : Option (Int32 × Mm) :=
l_X10_sortsFrom_4 N N x0 x1 (0 : Int32) (0 : Int32) M
set_option maxRecDepth 100000 in
set_option maxHeartbeats 4000000 in
theorem c_X10_sortsFrom (N : Nat) (x0 : Nat) (x1 : Int32) (M : Mm) (r : (Int32 × Mm)) (h : f_X10_sortsFrom N x0 x1 M = some r) (l : Launch) (hfl : l.flags = flags0) {G : Gl} : MT l G yX10_sortsFrom cX10_sortsFrom 4 (some .int) rm_X10_sortsFrom [.ref x0, .int x1] M (some (.int r.1)) r.2 := by
  unfold f_X10_sortsFrom at h
  refine zt_start hfl (lv := [(0, .ref x0), (1, .int x1)]) (by decide) (Nat.le_of_ble_eq_true rfl) rfl wd_733 (fun X hC _ => ?_)
  refine zt_iconst hC ki_0 dX10_sortsFrom_0 ?_
  refine zt_istore_n (lv' := [(2, .int (0 : Int32)), (0, .ref x0), (1, .int x1)]) hC (by decide) rfl dX10_sortsFrom_1 ?_
  refine zt_iconst hC ki_0 dX10_sortsFrom_2 ?_
  refine zt_istore_n (lv' := [(3, .int (0 : Int32)), (2, .int (0 : Int32)), (0, .ref x0), (1, .int x1)]) hC (by decide) rfl dX10_sortsFrom_3 ?_
  refine zt_keep [0, 1, 2, 3] rfl ?_
  exact w_X10_sortsFrom_4 N hC N x0 x1 (0 : Int32) (0 : Int32) M h
def rm_X10_comesInAll : Room := { frames := 1, cells := 0, slots := 0, locals := 23 }
theorem hd_X10_comesInAll : yX10_comesInAll.cls ≠ "java/lang/invoke/MethodHandle" ∧ yX10_comesInAll.cls ≠ "java/lang/invoke/VarHandle" ∧ (parseMethodDescriptor yX10_comesInAll.desc).map (fun d => d.parameters.length) = some 0 := by decide +kernel
def b_X10_comesInAll_4 (N : Nat) (k4 : Nat → Int32 → Int32 → Mm → Option (Int32 × Mm)) (x0 : Nat) (x1 : Int32) (x2 : Int32) (M : Mm) : Option (Int32 × Mm) :=
gI 10 M x0 2 (fun v1 =>
(if v1 ≤ x2 then
some (x1, M)
else
ck 10 M x0 (bnd (f_X10_ofSort N x0 x2 (2 : Int32) M) (fun v2 M3 =>
k4 x0 (x1 + v2) (x2 + (1 : Int32)) M3))))
def l_X10_comesInAll_4 (N : Nat) : Nat → Nat → Int32 → Int32 → Mm → Option (Int32 × Mm)
  | 0 => fun _ _ _ _ => none
  | n + 1 => b_X10_comesInAll_4 N (l_X10_comesInAll_4 N n)
set_option maxRecDepth 100000 in
set_option maxHeartbeats 4000000 in
theorem v_X10_comesInAll_4 {X : Cx} {G : Gl} {r : (Int32 × Mm)} (N : Nat) (hC : CX X G yX10_comesInAll cX10_comesInAll 3 (some .int) rm_X10_comesInAll) (k4 : Nat → Int32 → Int32 → Mm → Option (Int32 × Mm)) (hk4 : ∀ (x0 : Nat) (x1 : Int32) (x2 : Int32) (M : Mm), k4 x0 x1 x2 M = some r → TW X G 3 (RQ X G (some (.int r.1)) r.2 rm_X10_comesInAll) 0 0 M 4 [(0, .ref x0), (1, .int x1), (2, .int x2)] []) (x0 : Nat) (x1 : Int32) (x2 : Int32) (M : Mm) (h : b_X10_comesInAll_4 N k4 x0 x1 x2 M = some r) : TW X G 3 (RQ X G (some (.int r.1)) r.2 rm_X10_comesInAll) 0 0 M 4 [(0, .ref x0), (1, .int x1), (2, .int x2)] [] := by
  unfold b_X10_comesInAll_4 at h
  refine zt_iload_n hC rfl dX10_comesInAll_4 ?_
  refine zt_aload_n hC rfl dX10_comesInAll_5 ?_
  refine zt_gI hC h cl10 (k := 2) (by decide) rfl wd_110 (Or.inl rfl) dX10_comesInAll_6 (fun v1 h => ?_)
  refine zt_icmp_ge (tgt := 27) hC h (by decide) dX10_comesInAll_9 (fun h => ?_) (fun h => ?_)
  · refine zt_iload_n hC rfl dX10_comesInAll_27 ?_
    obtain rfl := Option.some.inj h
    exact zt_iret hC rfl rfl (Nat.le_of_ble_eq_true rfl) (Nat.le_of_ble_eq_true rfl) dX10_comesInAll_28
  · refine zt_iload_n hC rfl dX10_comesInAll_12 ?_
    refine zt_aload_n hC rfl dX10_comesInAll_13 ?_
    refine zt_iload_n hC rfl dX10_comesInAll_14 ?_
    refine zt_iconst hC ki_2 dX10_comesInAll_15 ?_
    obtain ⟨hk, h⟩ := ck_some h
    obtain ⟨v2, M3, h4, h⟩ := bnd_some h
    refine zt_callV (z := yX10_ofSort) (As := [.int x2, .int (2 : Int32)]) (rest := [.int x1]) (st1 := (.int v2 :: [.int x1])) hC 2 hk cl10 (fun l hl => c_X10_ofSort N x0 x2 (2 : Int32) M (v2, M3) h4 l hl) rfl wd_346 wd_343 wd_344 wd_345 wd_2 hd_X10_ofSort rfl ⟨⟨(Nat.le_of_ble_eq_true rfl), (Nat.le_of_ble_eq_true rfl)⟩, (Nat.le_of_ble_eq_true rfl), (Nat.le_of_ble_eq_true rfl)⟩ rfl (Nat.le_of_ble_eq_true rfl) rfl dX10_comesInAll_16 ?_
    refine zt_iadd hC dX10_comesInAll_19 ?_
    refine zt_istore_n (lv' := [(1, .int (x1 + v2)), (0, .ref x0), (2, .int x2)]) hC (by decide) rfl dX10_comesInAll_20 ?_
    refine zt_iinc (v := (x2 + (1 : Int32))) (lv' := [(2, .int (x2 + (1 : Int32))), (1, .int (x1 + v2)), (0, .ref x0)]) hC rfl (by rw [ki_1]) (by decide) rfl dX10_comesInAll_21 ?_
    refine zt_goto (tgt := 4) hC (by decide) dX10_comesInAll_24 ?_
    refine zt_keep [0, 1, 2] rfl ?_
    exact hk4 x0 (x1 + v2) (x2 + (1 : Int32)) M3 h
theorem w_X10_comesInAll_4 {X : Cx} {G : Gl} {r : (Int32 × Mm)} (N : Nat) (hC : CX X G yX10_comesInAll cX10_comesInAll 3 (some .int) rm_X10_comesInAll) (n : Nat) : ∀ (x0 : Nat) (x1 : Int32) (x2 : Int32) (M : Mm), l_X10_comesInAll_4 N n x0 x1 x2 M = some r → TW X G 3 (RQ X G (some (.int r.1)) r.2 rm_X10_comesInAll) 0 0 M 4 [(0, .ref x0), (1, .int x1), (2, .int x2)] [] := by
  induction n with
  | zero => intro  x0 x1 x2 M h; cases (show none = some r from h)
  | succ n ih => intro  x0 x1 x2 M h; exact v_X10_comesInAll_4 N hC (l_X10_comesInAll_4 N n) ih x0 x1 x2 M h
def f_X10_comesInAll (N : Nat) (x0 : Nat) (M : Mm) : Option (Int32 × Mm) :=
l_X10_comesInAll_4 N N x0 (0 : Int32) (0 : Int32) M
set_option maxRecDepth 100000 in
set_option maxHeartbeats 4000000 in
theorem c_X10_comesInAll (N : Nat) (x0 : Nat) (M : Mm) (r : (Int32 × Mm)) (h : f_X10_comesInAll N x0 M = some r) (l : Launch) (hfl : l.flags = flags0) {G : Gl} : MT l G yX10_comesInAll cX10_comesInAll 3 (some .int) rm_X10_comesInAll [.ref x0] M (some (.int r.1)) r.2 := by
  unfold f_X10_comesInAll at h
  refine zt_start hfl (lv := [(0, .ref x0)]) (by decide) (Nat.le_of_ble_eq_true rfl) rfl wd_764 (fun X hC _ => ?_)
  refine zt_iconst hC ki_0 dX10_comesInAll_0 ?_
  refine zt_istore_n (lv' := [(1, .int (0 : Int32)), (0, .ref x0)]) hC (by decide) rfl dX10_comesInAll_1 ?_
  refine zt_iconst hC ki_0 dX10_comesInAll_2 ?_
  refine zt_istore_n (lv' := [(2, .int (0 : Int32)), (1, .int (0 : Int32)), (0, .ref x0)]) hC (by decide) rfl dX10_comesInAll_3 ?_
  refine zt_keep [0, 1, 2] rfl ?_
  exact w_X10_comesInAll_4 N hC N x0 (0 : Int32) (0 : Int32) M h
def rm_X10_whoStands : Room := { frames := 1, cells := 0, slots := 0, locals := 21 }
theorem hd_X10_whoStands : yX10_whoStands.cls ≠ "java/lang/invoke/MethodHandle" ∧ yX10_whoStands.cls ≠ "java/lang/invoke/VarHandle" ∧ (parseMethodDescriptor yX10_whoStands.desc).map (fun d => d.parameters.length) = some 2 := by decide +kernel
def f_X10_whoStands (N : Nat) (x0 : Nat) (x1 : Int32) (x2 : Int32) (M : Mm) : Option (Int32 × Mm) :=
gR 10 M x0 11 (fun v1 =>
bnd (f_X11_at N v1 ((x1 * (12 : Int32)) + x2) M) (fun v2 M3 =>
some (v2, M3)))
set_option maxRecDepth 100000 in
set_option maxHeartbeats 4000000 in
theorem c_X10_whoStands (N : Nat) (x0 : Nat) (x1 : Int32) (x2 : Int32) (M : Mm) (r : (Int32 × Mm)) (h : f_X10_whoStands N x0 x1 x2 M = some r) (l : Launch) (hfl : l.flags = flags0) {G : Gl} : MT l G yX10_whoStands cX10_whoStands 3 (some .int) rm_X10_whoStands [.ref x0, .int x1, .int x2] M (some (.int r.1)) r.2 := by
  unfold f_X10_whoStands at h
  refine zt_start hfl (lv := [(0, .ref x0), (1, .int x1), (2, .int x2)]) (by decide) (Nat.le_of_ble_eq_true rfl) rfl wd_564 (fun X hC _ => ?_)
  refine zt_aload_n hC rfl dX10_whoStands_0 ?_
  refine zt_gR hC h cl10 (k := 11) (by decide) rfl wd_128 (Or.inl rfl) dX10_whoStands_1 (fun v1 h => ?_)
  refine zt_iload_n hC rfl dX10_whoStands_4 ?_
  refine zt_bipush hC kb_12 dX10_whoStands_5 ?_
  refine zt_imul hC dX10_whoStands_7 ?_
  refine zt_iload_n hC rfl dX10_whoStands_8 ?_
  refine zt_iadd hC dX10_whoStands_9 ?_
  obtain ⟨v2, M3, h4, h⟩ := bnd_some h
  refine zt_callSN (z := yX11_at) (As := [.ref v1, .int ((x1 * (12 : Int32)) + x2)]) (rest := []) (st1 := (.int v2 :: [])) hC 2 (fun l hl => c_X11_at N v1 ((x1 * (12 : Int32)) + x2) M (v2, M3) h4 l hl) wd_379 (by decide) wd_378 wd_1 hd_X11_at rfl ⟨⟨(Nat.le_of_ble_eq_true rfl), (Nat.le_of_ble_eq_true rfl)⟩, (Nat.le_of_ble_eq_true rfl), (Nat.le_of_ble_eq_true rfl)⟩ rfl (Nat.le_of_ble_eq_true rfl) rfl dX10_whoStands_10 ?_
  obtain rfl := Option.some.inj h
  exact zt_iret hC rfl rfl (Nat.le_of_ble_eq_true rfl) (Nat.le_of_ble_eq_true rfl) dX10_whoStands_13
def rm_X10_gain : Room := { frames := 0, cells := 0, slots := 0, locals := 0 }
theorem hd_X10_gain : yX10_gain.cls ≠ "java/lang/invoke/MethodHandle" ∧ yX10_gain.cls ≠ "java/lang/invoke/VarHandle" ∧ (parseMethodDescriptor yX10_gain.desc).map (fun d => d.parameters.length) = some 0 := by decide +kernel
def f_X10_gain (N : Nat) (x0 : Nat) (M : Mm) : Option (Int32 × Mm) :=
gI 10 M x0 15 (fun v1 =>
gI 10 M x0 13 (fun v2 =>
some ((v1 - v2), M)))
set_option maxRecDepth 100000 in
set_option maxHeartbeats 4000000 in
theorem c_X10_gain (N : Nat) (x0 : Nat) (M : Mm) (r : (Int32 × Mm)) (h : f_X10_gain N x0 M = some r) (l : Launch) (hfl : l.flags = flags0) {G : Gl} : MT l G yX10_gain cX10_gain 1 (some .int) rm_X10_gain [.ref x0] M (some (.int r.1)) r.2 := by
  unfold f_X10_gain at h
  refine zt_start hfl (lv := [(0, .ref x0)]) (by decide) (Nat.le_of_ble_eq_true rfl) rfl wd_614 (fun X hC _ => ?_)
  refine zt_aload_n hC rfl dX10_gain_0 ?_
  refine zt_gI hC h cl10 (k := 15) (by decide) rfl wd_134 (Or.inl rfl) dX10_gain_1 (fun v1 h => ?_)
  refine zt_aload_n hC rfl dX10_gain_4 ?_
  refine zt_gI hC h cl10 (k := 13) (by decide) rfl wd_130 (Or.inl rfl) dX10_gain_5 (fun v2 h => ?_)
  refine zt_isub hC dX10_gain_8 ?_
  obtain rfl := Option.some.inj h
  exact zt_iret hC rfl rfl (Nat.le_of_ble_eq_true rfl) (Nat.le_of_ble_eq_true rfl) dX10_gain_9
def rm_X10_figureOf : Room := { frames := 0, cells := 0, slots := 0, locals := 0 }
theorem hd_X10_figureOf : yX10_figureOf.cls ≠ "java/lang/invoke/MethodHandle" ∧ yX10_figureOf.cls ≠ "java/lang/invoke/VarHandle" ∧ (parseMethodDescriptor yX10_figureOf.desc).map (fun d => d.parameters.length) = some 1 := by decide +kernel
def f_X10_figureOf (N : Nat) (x0 : Nat) (x1 : Int32) (M : Mm) : Option (Int32 × Mm) :=
(if x1 = (0 : Int32) then
gI 10 M x0 13 (fun v1 =>
some (v1, M))
else
(if x1 = (1 : Int32) then
gI 10 M x0 14 (fun v2 =>
some (v2, M))
else
(if x1 = (2 : Int32) then
gI 10 M x0 15 (fun v3 =>
some (v3, M))
else
(if x1 = (3 : Int32) then
gI 10 M x0 16 (fun v4 =>
some (v4, M))
else
some ((-1 : Int32), M)))))
set_option maxRecDepth 100000 in
set_option maxHeartbeats 4000000 in
theorem c_X10_figureOf (N : Nat) (x0 : Nat) (x1 : Int32) (M : Mm) (r : (Int32 × Mm)) (h : f_X10_figureOf N x0 x1 M = some r) (l : Launch) (hfl : l.flags = flags0) {G : Gl} : MT l G yX10_figureOf cX10_figureOf 2 (some .int) rm_X10_figureOf [.ref x0, .int x1] M (some (.int r.1)) r.2 := by
  unfold f_X10_figureOf at h
  refine zt_start hfl (lv := [(0, .ref x0), (1, .int x1)]) (by decide) (Nat.le_of_ble_eq_true rfl) rfl wd_578 (fun X hC _ => ?_)
  refine zt_iload_n hC rfl dX10_figureOf_0 ?_
  rcases ite_or h with ⟨c0, h⟩ | ⟨c0, h⟩
  · refine zt_tsIn (tgt := 32) hC c0 (by decide) (by decide) rfl (by decide) dX10_figureOf_1 ?_
    refine zt_aload_n hC rfl dX10_figureOf_32 ?_
    refine zt_gI hC h cl10 (k := 13) (by decide) rfl wd_130 (Or.inl rfl) dX10_figureOf_33 (fun v1 h => ?_)
    obtain rfl := Option.some.inj h
    exact zt_iret hC rfl rfl (Nat.le_of_ble_eq_true rfl) (Nat.le_of_ble_eq_true rfl) dX10_figureOf_36
  · rcases ite_or h with ⟨c1, h⟩ | ⟨c1, h⟩
    · refine zt_tsIn (tgt := 37) hC c1 (by decide) (by decide) rfl (by decide) dX10_figureOf_1 ?_
      refine zt_aload_n hC rfl dX10_figureOf_37 ?_
      refine zt_gI hC h cl10 (k := 14) (by decide) rfl wd_132 (Or.inl rfl) dX10_figureOf_38 (fun v2 h => ?_)
      obtain rfl := Option.some.inj h
      exact zt_iret hC rfl rfl (Nat.le_of_ble_eq_true rfl) (Nat.le_of_ble_eq_true rfl) dX10_figureOf_41
    · rcases ite_or h with ⟨c2, h⟩ | ⟨c2, h⟩
      · refine zt_tsIn (tgt := 42) hC c2 (by decide) (by decide) rfl (by decide) dX10_figureOf_1 ?_
        refine zt_aload_n hC rfl dX10_figureOf_42 ?_
        refine zt_gI hC h cl10 (k := 15) (by decide) rfl wd_134 (Or.inl rfl) dX10_figureOf_43 (fun v3 h => ?_)
        obtain rfl := Option.some.inj h
        exact zt_iret hC rfl rfl (Nat.le_of_ble_eq_true rfl) (Nat.le_of_ble_eq_true rfl) dX10_figureOf_46
      · rcases ite_or h with ⟨c3, h⟩ | ⟨c3, h⟩
        · refine zt_tsIn (tgt := 47) hC c3 (by decide) (by decide) rfl (by decide) dX10_figureOf_1 ?_
          refine zt_aload_n hC rfl dX10_figureOf_47 ?_
          refine zt_gI hC h cl10 (k := 16) (by decide) rfl wd_136 (Or.inl rfl) dX10_figureOf_48 (fun v4 h => ?_)
          obtain rfl := Option.some.inj h
          exact zt_iret hC rfl rfl (Nat.le_of_ble_eq_true rfl) (Nat.le_of_ble_eq_true rfl) dX10_figureOf_51
        · refine zt_tsOut (tgt := 52) hC (by have e0 := sw_ne c0 (j := 0) (by decide); have e1 := sw_ne c1 (j := 1) (by decide); have e2 := sw_ne c2 (j := 2) (by decide); have e3 := sw_ne c3 (j := 3) (by decide); omega) (by decide) dX10_figureOf_1 ?_
          refine zt_iconst hC ki_m1 dX10_figureOf_52 ?_
          obtain rfl := Option.some.inj h
          exact zt_iret hC rfl rfl (Nat.le_of_ble_eq_true rfl) (Nat.le_of_ble_eq_true rfl) dX10_figureOf_53
