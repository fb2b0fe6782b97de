/-! element, toss, and the law's element. -/
section ELEM
variable {X : Cx} {G : Gl} {y : MethodName} {cc : ByteArray} {nL : Nat} {ret : Option FieldType} {rm : Room} {Q : State → Prop} {cs ss : Nat} {M : Mm} {pc : Nat} {lv : List (Nat × Value)} {st : List Value}
theorem zt_lald (hC : CX X G y cc nL ret rm) {a : Nat} {i : Int32} (ht : (M.1 a).1 = 2) (hi : inA i (M.1 a).2 = true) (hdg : decode cc pc = .ok (.laload, 1))
    (kk : TW X G nL Q cs ss M (pc + 1) lv (.long (M.2.2.1 a i.toNatClampNeg) :: st)) : TW X G nL Q cs ss M pc lv (.int i :: .ref a :: st) := by
  obtain ⟨p, l, e, R, s, m, args, below, meth, c⟩ := X
  intro H locs ls hP hS hl
  have hin := inA_iff hi
  have hlt : i.toNatClampNeg < (M.1 a).2 := Nat.not_le.mp fun q => hin (Or.inr q)
  obtain ⟨hba, hcell⟩ := Cel_long (hP.2.2 a) ht
  exact W.lald (v := .long (M.2.2.1 a i.toNatClampNeg)) hC.1.1 hC.1.2.1 hcell ((hC.2.1.1.2 1 _ rfl).1 _ (fun j => .long (M.2.2.1 a j))) (fun q => by cases q) (by show ¬ (i < 0 ∨ (arrV _ _ _).slots.size ≤ _); rw [arrV_size]; exact hin) (by show (arrV _ _ _).slots[_]? = _; rw [arrV_read _ _ hlt]) rfl rfl hdg (kk H locs ls hP hS hl)
theorem zt_last (hC : CX X G y cc nL ret rm) {a : Nat} {i : Int32} {x : Int64} (ht : (M.1 a).1 = 2) (hi : inA i (M.1 a).2 = true) (hdg : decode cc pc = .ok (.lastore, 1))
    (kk : TW X G nL Q cs ss (sL M a i.toNatClampNeg x) (pc + 1) lv st) : TW X G nL Q cs ss M pc lv (.long x :: .int i :: .ref a :: st) := by
  obtain ⟨p, l, e, R, s, m, args, below, meth, c⟩ := X
  intro H locs ls hP hS hl
  have hin := inA_iff hi
  obtain ⟨hba, hcell⟩ := Cel_long (hP.2.2 a) ht
  refine W.last hC.1.1 hC.1.2.1 hcell ((hC.2.1.1.2 1 _ rfl).1 _ (fun j => .long (M.2.2.1 a j))) (fun q => by cases q) (by show ¬ (i < 0 ∨ (arrV _ _ _).slots.size ≤ _); rw [arrV_size]; exact hin) rfl rfl hdg fun H1 e1 e2 e3 => ?_
  refine kk H1 _ ls ⟨by rw [e2, hP.1]; rfl, hP.2.1, fun b => ?_⟩ (hS.put e2 e3 hba) hl
  by_cases hb2 : b = a
  · subst hb2
    unfold Cel
    rw [show ((sL M b i.toNatClampNeg x).1 b).1 = 2 from ht]
    refine ⟨hba, ?_⟩
    rw [e1, vp_cell_l, vp_cell_l, arrV_store]
    congr 2
    funext j
    by_cases hj : j = i.toNatClampNeg <;> simp [updV, sL, up2, hj]
  · exact Cel_kept (hP.2.2 b) rfl rfl (up2_ne hb2) rfl (e3 b hb2)
theorem xb_t {c : Prop} [Decidable c] (h : c) : (if c then some () else none) = some () := if_pos h
theorem xb_f {c : Prop} [Decidable c] (h : ¬ c) : (if c then none else some ()) = some () := if_neg h
set_option maxRecDepth 100000 in
set_option maxHeartbeats 4000000 in
theorem c_X11_element {l : Launch} (hfl : l.flags = flags0) {N x0 : Nat} {x1 x2 : Int32} {o : Oc} (hk : (M.1 x0).1 = 11 + 4) {v1 : Option Nat} (h1 : f_X11_shelfAt N x0 x1 M = some (v1, M))
    (hn : v1 = none → o = .inr xIAE) (hs : ∀ a, v1 = some a → (M.1 a).1 = 7 + 4 ∧ ∃ hr, f_X7_hasRow N a M = some (hr, M) ∧ ((hr = 0 ∨ x2 < 0 ∨ ¬ x2 < M.2.1 a 2) → o = .inr xISE) ∧ ((¬ hr = 0 ∧ ¬ x2 < 0 ∧ x2 < M.2.1 a 2) → ∃ v, f_X7_read N a x2 M = some (v, M) ∧ o = .inl (some (.long v.toInt64)))) :
    MO l G yX11_element (Cond.code yX11_element cX11_element 4 (some .long)) rm_X11_element [.ref x0, .int x1, .int x2] M o M := by
  refine zx_start hfl (lv := [(0, .ref x0), (1, .int x1), (2, .int x2)]) (by decide) (Nat.le_of_ble_eq_true rfl) rfl (fun X hC hX hT => ?_) (st_of hfl)
  refine zt_aload_n hC rfl dX11_element_0 ?_
  refine zt_iload_n hC rfl dX11_element_1 ?_
  refine zt_callV (z := yX11_shelfAt) (As := [.int x1]) (rest := []) (st1 := (va_rf v1 :: [])) hC 1 hk cl11 (fun l hl => c_X11_shelfAt N x0 x1 M (v1, M) h1 l hl) rfl wd_263 wd_260 wd_262 ws_1 wd_1 hd_X11_shelfAt rfl ⟨⟨(Nat.le_of_ble_eq_true rfl), (Nat.le_of_ble_eq_true rfl)⟩, (Nat.le_of_ble_eq_true rfl), (Nat.le_of_ble_eq_true rfl)⟩ rfl (Nat.le_of_ble_eq_true rfl) rfl dX11_element_2 ?_
  cases v1 with
  | none =>
    obtain rfl := hn rfl
    refine zt_astore_nN (lv' := [(3, .null), (0, .ref x0), (1, .int x1), (2, .int x2)]) hC (by decide) rfl dX11_element_5 ?_
    refine zt_aload_nN hC rfl dX11_element_6 ?_
    refine zt_ifnonnullN hC dX11_element_7 ?_
    exact zx_throwSW (text := "no such shelf") (ps := [16, 880, 889, 893, 896, 898, 881, 882, 28, 29, 883, 888, 894, 914, 870, 915, 872, 916, 874, 884, 886, 876, 910, 911,
    913, 876, 943, 944, 945, 904, 904, 905, 906, 907, 907, 908, 909, 910, 976, 933, 935, 891, 936, 937, 938, 939, 879,
    878, 940]) hC hX hT (by decide) (by decide) (by decide) wd_836 wd_19 (by decide +kernel) (by decide +kernel) (by decide +kernel) dX11_element_10 dX11_element_13 dX11_element_14 dX11_element_17 dX11_element_20 rfl ⟨Nat.le_of_ble_eq_true rfl, Nat.le_of_ble_eq_true rfl, Nat.le_of_ble_eq_true rfl, Nat.le_of_ble_eq_true rfl⟩
  | some a =>
    obtain ⟨ha, hr, h2, h3, h4⟩ := hs a rfl
    have TH : o = .inr xISE → TW X G 4 (RQX X G o M rm_X11_element) 0 0 M 40 [(3, .ref a), (0, .ref x0), (1, .int x1), (2, .int x2)] [] := by
      rintro rfl
      exact zx_throwSW (text := "no row, or no such place") (ps := [16, 880, 889, 893, 896, 898, 881, 882, 28, 29, 883, 888, 894, 914, 870, 915, 872, 916, 874, 884, 886, 876, 910, 911,
    913, 876, 961, 962, 963, 904, 904, 905, 906, 907, 907, 908, 909, 910, 978, 951, 953, 892, 954, 955, 956, 957, 879,
    878, 958]) hC hX hT (by decide) (by decide) (by decide) wd_837 wd_20 (by decide +kernel) (by decide +kernel) (by decide +kernel) dX11_element_40 dX11_element_43 dX11_element_44 dX11_element_47 dX11_element_50 rfl ⟨Nat.le_of_ble_eq_true rfl, Nat.le_of_ble_eq_true rfl, Nat.le_of_ble_eq_true rfl, Nat.le_of_ble_eq_true rfl⟩
    refine zt_astore_n (lv' := [(3, .ref a), (0, .ref x0), (1, .int x1), (2, .int x2)]) hC (by decide) rfl dX11_element_5 ?_
    refine zt_aload_n hC rfl dX11_element_6 ?_
    refine zt_ifnonnull (tgt := 21) hC (by decide) dX11_element_7 ?_
    refine zt_aload_n hC rfl dX11_element_21 ?_
    refine zt_callV (z := yX7_hasRow) (As := []) (rest := []) (st1 := (.int hr :: [])) hC 0 ha cl7 (fun l hl => c_X7_hasRow N a M (hr, M) h2 l hl) rfl wd_271 wd_272 wd_269 wd_270 wd_6 hd_X7_hasRow rfl ⟨⟨(Nat.le_of_ble_eq_true rfl), (Nat.le_of_ble_eq_true rfl)⟩, (Nat.le_of_ble_eq_true rfl), (Nat.le_of_ble_eq_true rfl)⟩ rfl (Nat.le_of_ble_eq_true rfl) rfl dX11_element_22 ?_
    by_cases c1 : hr = 0
    · exact zt_if_eq (tgt := 40) hC (xb_t c1) (by decide) dX11_element_25 (fun _ => TH (h3 (Or.inl c1))) (fun q => by cases q)
    refine zt_if_eq (tgt := 40) hC (xb_f c1) (by decide) dX11_element_25 (fun q => by cases q) (fun _ => ?_)
    refine zt_iload_n hC rfl dX11_element_28 ?_
    by_cases c2 : x2 < 0
    · exact zt_if_lt (tgt := 40) hC (xb_t c2) (by decide) dX11_element_29 (fun _ => TH (h3 (Or.inr (Or.inl c2)))) (fun q => by cases q)
    refine zt_if_lt (tgt := 40) hC (xb_f c2) (by decide) dX11_element_29 (fun q => by cases q) (fun _ => ?_)
    refine zt_iload_n hC rfl dX11_element_32 ?_
    refine zt_aload_n hC rfl dX11_element_33 ?_
    refine zt_gI (κ := some) (r := M.2.1 a 2) hC (if_pos ha) cl7 (k := 2) (by decide) rfl wd_215 (Or.inl rfl) dX11_element_34 (fun v h => ?_)
    cases h
    by_cases c3 : x2 < M.2.1 a 2
    · refine zt_icmp_lt (tgt := 51) hC (xb_t c3) (by decide) dX11_element_37 (fun _ => ?_) (fun q => by cases q)
      obtain ⟨v, h5, rfl⟩ := h4 ⟨c1, c2, c3⟩
      refine zt_aload_n hC rfl dX11_element_51 ?_
      refine zt_iload_n hC rfl dX11_element_52 ?_
      refine zt_callV (z := yX7_read) (As := [.int x2]) (rest := []) (st1 := (.int v :: [])) hC 1 ha cl7 (fun l hl => c_X7_read N a x2 M (v, M) h5 l hl) rfl wd_626 wd_628 wd_624 wd_625 wd_6 hd_X7_read rfl ⟨⟨(Nat.le_of_ble_eq_true rfl), (Nat.le_of_ble_eq_true rfl)⟩, (Nat.le_of_ble_eq_true rfl), (Nat.le_of_ble_eq_true rfl)⟩ rfl (Nat.le_of_ble_eq_true rfl) rfl dX11_element_53 ?_
      refine zt_i2l hC dX11_element_56 ?_
      exact zx_lret (k := 0) hC rfl rfl (Nat.le_of_ble_eq_true rfl) (Nat.le_of_ble_eq_true rfl) dX11_element_57
    · refine zt_icmp_lt (tgt := 51) hC (xb_f c3) (by decide) dX11_element_37 (fun q => by cases q) (fun _ => TH (h3 (Or.inr (Or.inr c3))))
set_option maxRecDepth 100000 in
set_option maxHeartbeats 4000000 in
theorem c_Lel {l : Launch} (hfl : l.flags = flags0) {x0 out : Nat} {x1 x2 : Int32} {o : Oc} {M' : Mm} {r : Int32} (hk : (M.1 x0).1 = 11 + 4) (ho : M.1 out = (2, 1)) (hM : ∀ l : Launch, l.flags = flags0 → MO l G yX11_element (Cond.code yX11_element cX11_element 4 (some .long)) rm_X11_element [.ref x0, .int x1, .int x2] M o M)
    (hr : (∃ v, o = .inl (some (.long v)) ∧ r = 0 ∧ M' = sL M out 0 v) ∨ (o = .inr xIAE ∧ r = 1 ∧ M' = M) ∨ (o = .inr xISE ∧ r = 2 ∧ M' = M)) :
    MO l G yLel (Cond.codeWith yLel cLel 5 (some .int) [(0, 9, 12, 13), (0, 9, 16, 15)]) rm_Lel [.ref x0, .int x1, .int x2, .ref out] M (.inl (some (.int r))) M' := by
  refine zx_startW hfl (lv := [(0, .ref x0), (1, .int x1), (2, .int x2), (3, .ref out)]) (by decide) (Nat.le_of_ble_eq_true rfl) rfl (fun X hC hX hT => ?_)
  refine zt_aload_n hC rfl (show decode cLel 0 = .ok (.aload_n 3, 1) by decide +kernel) ?_
  refine zt_iconst hC ki_0 (show decode cLel 1 = .ok (.iconst 0, 1) by decide +kernel) ?_
  refine zt_aload_n hC rfl (show decode cLel 2 = .ok (.aload_n 0, 1) by decide +kernel) ?_
  refine zt_iload_n hC rfl (show decode cLel 3 = .ok (.iload_n 1, 1) by decide +kernel) ?_
  refine zt_iload_n hC rfl (show decode cLel 4 = .ok (.iload_n 2, 1) by decide +kernel) ?_
  refine zx_callV (z := yX11_element) (As := [.int x1, .int x2]) (rest := [.int 0, .ref out]) hC hX 2 hk cl11 hM rfl wd_974 wd_971 wd_972 wd_973 wd_1 (by decide +kernel) rfl ⟨⟨(Nat.le_of_ble_eq_true rfl), (Nat.le_of_ble_eq_true rfl)⟩, (Nat.le_of_ble_eq_true rfl), (Nat.le_of_ble_eq_true rfl)⟩ rfl (Nat.le_of_ble_eq_true rfl) (show decode cLel 5 = .ok (.invokevirtual 7, 3) by decide +kernel) (fun E k hE => ?_) (fun v k hv => ?_)
  · rcases hr with ⟨v, rfl, -, -⟩ | ⟨rfl, rfl, rfl⟩ | ⟨rfl, rfl, rfl⟩
    · cases hE
    · cases hE
      refine zx_catch hC hX hT [] (0, 9, 12, 13) [(0, 9, 16, 15)] rfl (fun z hz => by cases hz) (by decide) (by decide) wd_969 (by decide) (fun q => ?_)
      refine zt_astore (lv' := [(4, .ref q), (0, .ref x0), (1, .int x1), (2, .int x2), (3, .ref out)]) hC (by decide) rfl (show decode cLel 12 = .ok (.astore 4, 2) by decide +kernel) ?_
      refine zt_iconst hC (show Int32.ofInt 1 = (1 : Int32) by decide) (show decode cLel 14 = .ok (.iconst 1, 1) by decide +kernel) ?_
      exact zx_iret (k := k) hC rfl rfl (Nat.le_of_ble_eq_true rfl) (Nat.le_of_ble_eq_true rfl) (show decode cLel 15 = .ok (.ireturn, 1) by decide +kernel)
    · cases hE
      refine zx_catch hC hX hT [(0, 9, 12, 13)] (0, 9, 16, 15) [] rfl (fun z hz => by rw [List.mem_singleton.mp hz]; exact ⟨by decide, xIAE, wd_969, by decide⟩) (by decide) (by decide) wd_970 (by decide) (fun q => ?_)
      refine zt_astore (lv' := [(4, .ref q), (0, .ref x0), (1, .int x1), (2, .int x2), (3, .ref out)]) hC (by decide) rfl (show decode cLel 16 = .ok (.astore 4, 2) by decide +kernel) ?_
      refine zt_iconst hC ki_2 (show decode cLel 18 = .ok (.iconst 2, 1) by decide +kernel) ?_
      exact zx_iret (k := k) hC rfl rfl (Nat.le_of_ble_eq_true rfl) (Nat.le_of_ble_eq_true rfl) (show decode cLel 19 = .ok (.ireturn, 1) by decide +kernel)
  · rcases hr with ⟨w, rfl, rfl, rfl⟩ | ⟨rfl, -, -⟩ | ⟨rfl, -, -⟩
    · cases hv
      refine zt_last hC (show ((adv M k).1 out).1 = 2 by rw [show (adv M k).1 out = M.1 out from rfl, ho]) (by rw [show (adv M k).1 out = M.1 out from rfl, ho]; decide) (show decode cLel 8 = .ok (.lastore, 1) by decide +kernel) ?_
      refine zt_goto (tgt := 20) hC (by decide) (show decode cLel 9 = .ok (.goto 11, 3) by decide +kernel) ?_
      refine zt_iconst hC ki_0 (show decode cLel 20 = .ok (.iconst 0, 1) by decide +kernel) ?_
      exact zx_iret (k := k) hC rfl rfl (Nat.le_of_ble_eq_true rfl) (Nat.le_of_ble_eq_true rfl) (show decode cLel 21 = .ok (.ireturn, 1) by decide +kernel)
    · cases hv
    · cases hv
theorem hdo_fail : ("FerryBells$Rule" : String) ≠ "java/lang/invoke/MethodHandle" ∧ ("FerryBells$Rule" : String) ≠ "java/lang/invoke/VarHandle" ∧ (parseMethodDescriptor "()V").map (fun d => d.parameters.length) = some 0 := by decide +kernel
theorem hdo_canFail : ("FerryBells$Rule" : String) ≠ "java/lang/invoke/MethodHandle" ∧ ("FerryBells$Rule" : String) ≠ "java/lang/invoke/VarHandle" ∧ (parseMethodDescriptor "()Z").map (fun d => d.parameters.length) = some 0 := by decide +kernel
def tossH : List (Nat × Nat × Nat × Nat) := [(26, 32, 33, 337), (26, 32, 42, 298), (26, 32, 52, 308)]
/-- what a rule's failure gives, by its class -/
def tossV (M : Mm) (a : Nat) (r : Int32) : Prop := ((M.1 a).1 = 3 + 4 ∧ r = -15) ∨ (((M.1 a).1 = 0 + 4 ∨ (M.1 a).1 = 2 + 4 ∨ (M.1 a).1 = 4 + 4 ∨ (M.1 a).1 = 6 + 4 ∨ (M.1 a).1 = 8 + 4 ∨ (M.1 a).1 = 9 + 4) ∧ ((M.2.1 a 0 = 0 ∧ r = -15) ∨ (¬ M.2.1 a 0 = 0 ∧ ((((M.1 a).1 = 0 + 4 ∨ (M.1 a).1 = 2 + 4) ∧ r = M.2.1 a 0 + 100) ∨ ((M.1 a).1 = 8 + 4 ∧ r = (5 + M.2.1 a 0) / 2 + 200) ∨ (((M.1 a).1 = 4 + 4 ∨ (M.1 a).1 = 6 + 4 ∨ (M.1 a).1 = 9 + 4) ∧ r = M.2.1 a 0)))))
set_option maxRecDepth 100000 in
set_option maxHeartbeats 4000000 in
theorem c_X11_toss {l : Launch} (hfl : l.flags = flags0) {N x0 : Nat} {x1 r : Int32} (hk : (M.1 x0).1 = 11 + 4) {v1 : Option Nat} (h1 : f_X11_ruleAt N x0 x1 M = some (v1, M)) (hn : v1 = none → f_X11_refuseRule N x0 x1 M = some (r, M)) (hs : ∀ a, v1 = some a → tossV M a r) :
    MO l G yX11_toss (Cond.codeWith yX11_toss cX11_toss 4 (some .int) tossH) rm_X11_toss [.ref x0, .int x1] M (.inl (some (.int r))) M := by
  refine zx_startW hfl (lv := [(0, .ref x0), (1, .int x1)]) (by decide) (Nat.le_of_ble_eq_true rfl) rfl (fun X hC hX hT => ?_)
  refine zt_aload_n hC rfl dX11_toss_0 ?_
  refine zt_iload_n hC rfl dX11_toss_1 ?_
  refine zt_callV (z := yX11_ruleAt) (As := [.int x1]) (rest := []) (st1 := (va_rf v1 :: [])) hC 1 hk cl11 (fun l hl => c_X11_ruleAt N x0 x1 M (v1, M) h1 l hl) rfl wd_406 wd_403 wd_405 ws_8 wd_1 hd_X11_ruleAt rfl ⟨⟨(Nat.le_of_ble_eq_true rfl), (Nat.le_of_ble_eq_true rfl)⟩, (Nat.le_of_ble_eq_true rfl), (Nat.le_of_ble_eq_true rfl)⟩ rfl (Nat.le_of_ble_eq_true rfl) rfl dX11_toss_2 ?_
  cases v1 with
  | none =>
    have h2 := hn rfl
    refine zt_astore_nN (lv' := [(2, .null), (0, .ref x0), (1, .int x1)]) hC (by decide) rfl dX11_toss_5 ?_
    refine zt_aload_nN hC rfl dX11_toss_6 ?_
    refine zt_ifnonnullN hC dX11_toss_7 ?_
    refine zt_aload_n hC rfl dX11_toss_10 ?_
    refine zt_iload_n hC rfl dX11_toss_11 ?_
    refine zt_callV (z := yX11_refuseRule) (As := [.int x1]) (rest := []) (st1 := (.int r :: [])) hC 1 hk cl11 (fun l hl => c_X11_refuseRule N x0 x1 M (r, M) h2 l hl) rfl wd_410 wd_407 wd_409 ws_9 wd_1 hd_X11_refuseRule rfl ⟨⟨(Nat.le_of_ble_eq_true rfl), (Nat.le_of_ble_eq_true rfl)⟩, (Nat.le_of_ble_eq_true rfl), (Nat.le_of_ble_eq_true rfl)⟩ rfl (Nat.le_of_ble_eq_true rfl) rfl dX11_toss_12 ?_
    exact zx_iret (k := 0) hC rfl rfl (Nat.le_of_ble_eq_true rfl) (Nat.le_of_ble_eq_true rfl) dX11_toss_15
  | some a =>
    have hv := hs a rfl
    refine zt_astore_n (lv' := [(2, .ref a), (0, .ref x0), (1, .int x1)]) hC (by decide) rfl dX11_toss_5 ?_
    refine zt_aload_n hC rfl dX11_toss_6 ?_
    refine zt_ifnonnull (tgt := 16) hC (by decide) dX11_toss_7 ?_
    refine zt_aload_n hC rfl dX11_toss_16 ?_
    have NO : r = -15 → TW X G 4 (RQX X G (.inl (some (.int r))) M rm_X11_toss) 0 0 M 20 [(2, .ref a), (0, .ref x0), (1, .int x1)] [.int 0] := by
      rintro rfl
      refine zt_if_ne (tgt := 26) hC (xb_t rfl) (by decide) dX11_toss_20 (fun q => by cases q) (fun _ => ?_)
      refine zt_bipush hC kb_m15 dX11_toss_23 ?_
      exact zx_iret (k := 0) hC rfl rfl (Nat.le_of_ble_eq_true rfl) (Nat.le_of_ble_eq_true rfl) dX11_toss_25
    rcases hv with ⟨ka, rfl⟩ | ⟨ka, hv⟩
    · exact zt_callO (z := yX3_canFail) (As := []) (rest := []) (st1 := (.int 0 :: [])) hC 0 ka cl3 (fun l hl => c_X3_canFail N a M (0, M) rfl l hl) wd_846 wd_838 wd_841 wd_839 wd_850 wd_844 wd_845 wd_14 hdo_canFail rfl ⟨⟨(Nat.le_of_ble_eq_true rfl), (Nat.le_of_ble_eq_true rfl)⟩, (Nat.le_of_ble_eq_true rfl), (Nat.le_of_ble_eq_true rfl)⟩ rfl (Nat.le_of_ble_eq_true rfl) rfl dX11_toss_17 (NO rfl)
    · have hR : isRule (M.1 a).1 = true := by rcases ka with k | k | k | k | k | k <;> rw [k] <;> rfl
      -- canFail, of the class that the receiver has
      have CF : ∀ f : Int32, f_X6_canFail N a M = some (f, M) → TW X G 4 (RQX X G (.inl (some (.int r))) M rm_X11_toss) 0 0 M 20 [(2, .ref a), (0, .ref x0), (1, .int x1)] [.int f] → TW X G 4 (RQX X G (.inl (some (.int r))) M rm_X11_toss) 0 0 M 17 [(2, .ref a), (0, .ref x0), (1, .int x1)] [.ref a] := by
        intro f hf kk
        rcases ka with k | k | k | k | k | k
        · exact zt_callO (z := yX6_canFail) (As := []) (rest := []) (st1 := (.int f :: [])) hC 0 k cl0 (fun l hl => c_X6_canFail N a M (f, M) hf l hl) wd_850 wd_838 wd_841 wd_839 wd_850 wd_842 wd_839 wd_4 hdo_canFail rfl ⟨⟨(Nat.le_of_ble_eq_true rfl), (Nat.le_of_ble_eq_true rfl)⟩, (Nat.le_of_ble_eq_true rfl), (Nat.le_of_ble_eq_true rfl)⟩ rfl (Nat.le_of_ble_eq_true rfl) rfl dX11_toss_17 kk
        · exact zt_callO (z := yX6_canFail) (As := []) (rest := []) (st1 := (.int f :: [])) hC 0 k cl2 (fun l hl => c_X6_canFail N a M (f, M) hf l hl) wd_850 wd_838 wd_841 wd_839 wd_850 wd_843 wd_839 wd_4 hdo_canFail rfl ⟨⟨(Nat.le_of_ble_eq_true rfl), (Nat.le_of_ble_eq_true rfl)⟩, (Nat.le_of_ble_eq_true rfl), (Nat.le_of_ble_eq_true rfl)⟩ rfl (Nat.le_of_ble_eq_true rfl) rfl dX11_toss_17 kk
        · exact zt_callO (z := yX6_canFail) (As := []) (rest := []) (st1 := (.int f :: [])) hC 0 k cl4 (fun l hl => c_X6_canFail N a M (f, M) hf l hl) wd_850 wd_838 wd_841 wd_839 wd_850 wd_847 wd_839 wd_4 hdo_canFail rfl ⟨⟨(Nat.le_of_ble_eq_true rfl), (Nat.le_of_ble_eq_true rfl)⟩, (Nat.le_of_ble_eq_true rfl), (Nat.le_of_ble_eq_true rfl)⟩ rfl (Nat.le_of_ble_eq_true rfl) rfl dX11_toss_17 kk
        · exact zt_callO (z := yX6_canFail) (As := []) (rest := []) (st1 := (.int f :: [])) hC 0 k cl6 (fun l hl => c_X6_canFail N a M (f, M) hf l hl) wd_850 wd_838 wd_841 wd_839 wd_850 wd_840 wd_839 wd_4 hdo_canFail rfl ⟨⟨(Nat.le_of_ble_eq_true rfl), (Nat.le_of_ble_eq_true rfl)⟩, (Nat.le_of_ble_eq_true rfl), (Nat.le_of_ble_eq_true rfl)⟩ rfl (Nat.le_of_ble_eq_true rfl) rfl dX11_toss_17 kk
        · exact zt_callO (z := yX6_canFail) (As := []) (rest := []) (st1 := (.int f :: [])) hC 0 k cl8 (fun l hl => c_X6_canFail N a M (f, M) hf l hl) wd_850 wd_838 wd_841 wd_839 wd_850 wd_848 wd_839 wd_4 hdo_canFail rfl ⟨⟨(Nat.le_of_ble_eq_true rfl), (Nat.le_of_ble_eq_true rfl)⟩, (Nat.le_of_ble_eq_true rfl), (Nat.le_of_ble_eq_true rfl)⟩ rfl (Nat.le_of_ble_eq_true rfl) rfl dX11_toss_17 kk
        · exact zt_callO (z := yX6_canFail) (As := []) (rest := []) (st1 := (.int f :: [])) hC 0 k cl9 (fun l hl => c_X6_canFail N a M (f, M) hf l hl) wd_850 wd_838 wd_841 wd_839 wd_850 wd_849 wd_839 wd_4 hdo_canFail rfl ⟨⟨(Nat.le_of_ble_eq_true rfl), (Nat.le_of_ble_eq_true rfl)⟩, (Nat.le_of_ble_eq_true rfl), (Nat.le_of_ble_eq_true rfl)⟩ rfl (Nat.le_of_ble_eq_true rfl) rfl dX11_toss_17 kk
      rcases hv with ⟨h0, hr⟩ | ⟨h0, hv⟩
      · exact CF 0 (by unfold f_X6_canFail gF; rw [if_pos hR]; exact if_pos h0) (NO hr)
      · refine CF 1 (by unfold f_X6_canFail gF; rw [if_pos hR]; exact if_neg h0) ?_
        refine zt_if_ne (tgt := 26) hC (xb_f (c := (1 : Int32) = 0) (by decide)) (by decide) dX11_toss_20 (fun _ => ?_) (fun q => by cases q)
        refine zt_aload_n hC rfl dX11_toss_26 ?_
        have H1 : ∀ k, r = M.2.1 a 0 + 100 → TWX X G 4 (RQX X G (.inl (some (.int r))) M rm_X11_toss) (0 + rm_fail.cells) (0 + rm_fail.slots) (adv M k) xUOE 27 [(2, .ref a), (0, .ref x0), (1, .int x1)] [] := by
          rintro k rfl
          refine zx_catch hC hX hT [] (26, 32, 33, 337) [(26, 32, 42, 298), (26, 32, 52, 308)] rfl (fun z hz => by cases hz) (by decide) (by decide) wd_835 (by decide) (fun q => ?_)
          refine zt_astore_n (lv' := [(3, .ref q), (2, .ref a), (0, .ref x0), (1, .int x1)]) hC (by decide) rfl dX11_toss_33 ?_
          refine zt_aload_n hC rfl dX11_toss_34 ?_
          refine zt_gF (κ := some) (r := M.2.1 a 0) hC (if_pos hR) wd_61 (Or.inl rfl) dX11_toss_35 (fun v h => ?_)
          cases h
          refine zt_bipush hC kb_100 dX11_toss_38 ?_
          refine zt_iadd hC dX11_toss_40 ?_
          exact zx_iret (k := k) hC rfl rfl (Nat.le_of_ble_eq_true rfl) (Nat.le_of_ble_eq_true rfl) dX11_toss_41
        have H2 : ∀ k, (M.1 a).1 = 8 + 4 → r = (5 + M.2.1 a 0) / 2 + 200 → TWX X G 4 (RQX X G (.inl (some (.int r))) M rm_X11_toss) (0 + rm_fail.cells) (0 + rm_fail.slots) (adv M k) xIAE 27 [(2, .ref a), (0, .ref x0), (1, .int x1)] [] := by
          rintro k k8 rfl
          refine zx_catch hC hX hT [(26, 32, 33, 337)] (26, 32, 42, 298) [(26, 32, 52, 308)] rfl (fun z hz => by rw [List.mem_singleton.mp hz]; exact ⟨by decide, xUOE, wd_835, by decide⟩) (by decide) (by decide) wd_836 (by decide) (fun q => ?_)
          refine zt_astore_n (lv' := [(3, .ref q), (2, .ref a), (0, .ref x0), (1, .int x1)]) hC (by decide) rfl dX11_toss_42 ?_
          refine zt_aload_n hC rfl dX11_toss_43 ?_
          have hcs : f_X8_cost N a (adv M k) = some ((5 + M.2.1 a 0) / 2, adv M k) := by
            have hR' : isRule ((adv M k).1 a).1 = true := hR
            simp only [f_X8_cost, f_X9_cost, f_X6_cost, rq, gF, bnd, if_pos hR', Option.elim_some]
            rfl
          refine zt_callO (z := yX8_cost) (As := []) (rest := []) (st1 := (.int ((5 + M.2.1 a 0) / 2) :: [])) hC 0 (M := adv M k) k8 cl8 (fun l hl => c_X8_cost N a (adv M k) (_, adv M k) hcs l hl) wd_824 wd_802 wd_805 wd_803 wd_830 wd_822 wd_823 wd_15 hdo_d_Rule_cost rfl ⟨⟨(Nat.le_of_ble_eq_true rfl), (Nat.le_of_ble_eq_true rfl)⟩, (Nat.le_of_ble_eq_true rfl), (Nat.le_of_ble_eq_true rfl)⟩ rfl (Nat.le_of_ble_eq_true rfl) rfl dX11_toss_44 ?_
          refine zt_sipush hC ks_200 dX11_toss_47 ?_
          refine zt_iadd hC dX11_toss_50 ?_
          exact zx_iret (k := k) hC rfl rfl (Nat.le_of_ble_eq_true rfl) (Nat.le_of_ble_eq_true rfl) dX11_toss_51
        have H3 : ∀ k, r = M.2.1 a 0 → TWX X G 4 (RQX X G (.inl (some (.int r))) M rm_X11_toss) (0 + rm_fail.cells) (0 + rm_fail.slots) (adv M k) xISE 27 [(2, .ref a), (0, .ref x0), (1, .int x1)] [] := by
          rintro k rfl
          refine zx_catch hC hX hT [(26, 32, 33, 337), (26, 32, 42, 298)] (26, 32, 52, 308) [] rfl (fun z hz => by
            rcases List.mem_cons.mp hz with rfl | hz
            · exact ⟨by decide, xUOE, wd_835, by decide⟩
            · rw [List.mem_singleton.mp hz]; exact ⟨by decide, xIAE, wd_836, by decide⟩) (by decide) (by decide) wd_837 (by decide) (fun q => ?_)
          refine zt_astore_n (lv' := [(3, .ref q), (2, .ref a), (0, .ref x0), (1, .int x1)]) hC (by decide) rfl dX11_toss_52 ?_
          refine zt_aload_n hC rfl dX11_toss_53 ?_
          refine zt_gF (κ := some) (r := M.2.1 a 0) hC (if_pos hR) wd_61 (Or.inl rfl) dX11_toss_54 (fun v h => ?_)
          cases h
          exact zx_iret (k := k) hC rfl rfl (Nat.le_of_ble_eq_true rfl) (Nat.le_of_ble_eq_true rfl) dX11_toss_57
        rcases hv with ⟨kb | kb, hr⟩ | ⟨kb, hr⟩ | ⟨kb | kb | kb, hr⟩
        · exact zx_callO (z := yX2_fail) (As := []) (rest := []) hC hX 0 kb cl0 (fun l hl => c_X2_fail hl) wd_857 wd_851 wd_854 wd_852 wd_949 wd_855 wd_856 wd_11 hdo_fail rfl ⟨⟨(Nat.le_of_ble_eq_true rfl), (Nat.le_of_ble_eq_true rfl)⟩, (Nat.le_of_ble_eq_true rfl), (Nat.le_of_ble_eq_true rfl)⟩ rfl (Nat.le_of_ble_eq_true rfl) dX11_toss_27 (fun E k hE => by cases hE; exact H1 k hr) (fun v k hv => by cases hv)
        · exact zx_callO (z := yX2_fail) (As := []) (rest := []) hC hX 0 kb cl2 (fun l hl => c_X2_fail hl) wd_857 wd_851 wd_854 wd_852 wd_949 wd_926 wd_856 wd_11 hdo_fail rfl ⟨⟨(Nat.le_of_ble_eq_true rfl), (Nat.le_of_ble_eq_true rfl)⟩, (Nat.le_of_ble_eq_true rfl), (Nat.le_of_ble_eq_true rfl)⟩ rfl (Nat.le_of_ble_eq_true rfl) dX11_toss_27 (fun E k hE => by cases hE; exact H1 k hr) (fun v k hv => by cases hv)
        · exact zx_callO (z := yX8_fail) (As := []) (rest := []) hC hX 0 kb cl8 (fun l hl => c_X8_fail hl) wd_931 wd_851 wd_854 wd_852 wd_949 wd_929 wd_930 wd_15 hdo_fail rfl ⟨⟨(Nat.le_of_ble_eq_true rfl), (Nat.le_of_ble_eq_true rfl)⟩, (Nat.le_of_ble_eq_true rfl), (Nat.le_of_ble_eq_true rfl)⟩ rfl (Nat.le_of_ble_eq_true rfl) dX11_toss_27 (fun E k hE => by cases hE; exact H2 k kb hr) (fun v k hv => by cases hv)
        · exact zx_callO (z := yX6_fail) (As := []) (rest := []) hC hX 0 kb cl4 (fun l hl => c_X6_fail hl) wd_949 wd_851 wd_854 wd_852 wd_949 wd_928 wd_852 wd_4 hdo_fail rfl ⟨⟨(Nat.le_of_ble_eq_true rfl), (Nat.le_of_ble_eq_true rfl)⟩, (Nat.le_of_ble_eq_true rfl), (Nat.le_of_ble_eq_true rfl)⟩ rfl (Nat.le_of_ble_eq_true rfl) dX11_toss_27 (fun E k hE => by cases hE; exact H3 k hr) (fun v k hv => by cases hv)
        · exact zx_callO (z := yX6_fail) (As := []) (rest := []) hC hX 0 kb cl6 (fun l hl => c_X6_fail hl) wd_949 wd_851 wd_854 wd_852 wd_949 wd_853 wd_852 wd_4 hdo_fail rfl ⟨⟨(Nat.le_of_ble_eq_true rfl), (Nat.le_of_ble_eq_true rfl)⟩, (Nat.le_of_ble_eq_true rfl), (Nat.le_of_ble_eq_true rfl)⟩ rfl (Nat.le_of_ble_eq_true rfl) dX11_toss_27 (fun E k hE => by cases hE; exact H3 k hr) (fun v k hv => by cases hv)
        · exact zx_callO (z := yX6_fail) (As := []) (rest := []) hC hX 0 kb cl9 (fun l hl => c_X6_fail hl) wd_949 wd_851 wd_854 wd_852 wd_949 wd_948 wd_852 wd_4 hdo_fail rfl ⟨⟨(Nat.le_of_ble_eq_true rfl), (Nat.le_of_ble_eq_true rfl)⟩, (Nat.le_of_ble_eq_true rfl), (Nat.le_of_ble_eq_true rfl)⟩ rfl (Nat.le_of_ble_eq_true rfl) dX11_toss_27 (fun E k hE => by cases hE; exact H3 k hr) (fun v k hv => by cases hv)
end ELEM
