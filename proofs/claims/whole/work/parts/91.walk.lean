/-! The law from its entry to its loop. -/
section WALK
variable {X : Cx} {G : Gl} {bS b L : Nat} {xs : Nat → Int32} {Q : State → Prop}
theorem zl_start (hC : CX X G x cL_law 8 ret room_1) (hX : XX X G) (hW : LWX X G bS L xs) (hL : L ≤ 3072) (hend : ∀ (M : Mm) (cs ss : Nat), cs ≤ 10000 → ss ≤ 20000 → TW X G 8 Q cs ss M 1679 [] []) : TW X G 8 Q 0 0 (M00 b) 0 [(0, .ref bS)] [] := by
  refine zt_new (ci := 11) (N := 8) hC cl11 wd_22 wd_23 wd_1 (Nat.le_of_ble_eq_true rfl) (Nat.le_of_ble_eq_true rfl) dL_law_0 ?_
  refine zt_dup hC rfl dL_law_3 ?_
  obtain ⟨u1, u2, u3, u4⟩ := nw_f (M := M00 b) (t := 15) (k := 0)
  obtain ⟨Mc, ec, hCM, kc, tc⟩ := z_class (N := 1000) (M := nw (M00 b) 15 0) (b := b) (by decide) u3 u1
  refine zt_callI (z := yX11_init) (b := b) (As := []) (rest := [.ref b]) (M' := Mc) hC 0 (fun l hl => c_X11_init 1000 b _ ((), Mc) ec l hl) wd_26 wd_24 wd_25 wd_1 rfl hd_X11_init rfl ⟨⟨Nat.le_of_ble_eq_true rfl, Nat.le_of_ble_eq_true rfl⟩, Nat.le_of_ble_eq_true rfl, Nat.le_of_ble_eq_true rfl⟩ rfl (Nat.le_of_ble_eq_true rfl) dL_law_4 ?_
  refine zt_astore_n (lv' := [(1, .ref b), (0, .ref bS)]) hC (by decide) rfl dL_law_7 ?_
  have hcx : nx Mc = b + 104 := hCM.1
  refine zt_new (ci := 12) (N := 19) hC cl12 wd_979 wd_980 wd_7 (Nat.le_of_ble_eq_true rfl) (Nat.le_of_ble_eq_true rfl) dL_law_8 ?_
  rw [hcx]
  refine zt_dup hC rfl dL_law_11 ?_
  obtain ⟨v1, v2, v3, v4⟩ := nw_f (M := Mc) (t := 16) (k := 0)
  rw [hcx] at v1 v2 v3 v4
  obtain ⟨Md, ed, hd1, hd2, hd3, hd4, hd5, hd6, hd7⟩ := z_model (N := 1000) (M := nw Mc 16 0) (b := b) (by decide) (by rw [v3]) v1 (fun j => by
    show upR Mc.2.1 (nx Mc) (fun _ => 0) (b + 104) j = 0
    rw [hcx]
    simp [upR])
  refine zt_callI (z := yX12_init) (b := mc b 0) (As := []) (rest := [.ref (mc b 0)]) (M' := Md) hC 0 (fun l hl => c_X12_init 1000 (mc b 0) _ ((), Md) ed l hl) wd_983 wd_981 wd_982 wd_7 rfl hd_X12_init rfl ⟨⟨Nat.le_of_ble_eq_true rfl, Nat.le_of_ble_eq_true rfl⟩, Nat.le_of_ble_eq_true rfl, Nat.le_of_ble_eq_true rfl⟩ rfl (Nat.le_of_ble_eq_true rfl) dL_law_12 ?_
  refine zt_astore_n (lv' := [(2, .ref (mc b 0)), (1, .ref b), (0, .ref bS)]) hC (by decide) rfl dL_law_15 ?_
  refine zt_iconst (v := 1) hC (by decide) dL_law_16 ?_
  refine zt_newl (N := 1) hC wd_1372 (by decide) (by decide) (Nat.le_of_ble_eq_true rfl) (Nat.le_of_ble_eq_true rfl) (Nat.le_of_ble_eq_true rfl) dL_law_17 ?_
  rw [hd1]
  refine zt_astore_n (lv' := [(3, .ref (b + 116)), (2, .ref (mc b 0)), (1, .ref b), (0, .ref bS)]) hC (by decide) rfl dL_law_19 ?_
  refine zt_iconst (v := nI 0) hC (by decide) dL_law_20 ?_
  refine zt_istore (lv' := lvL bS b (nI (6 * 0))) hC (by decide) rfl dL_law_21 ?_
  exact zl_loop hC hX hW hL hend 512 0 _ _ _ (by omega) (by omega) (Nat.le_of_ble_eq_true rfl) (Nat.le_of_ble_eq_true rfl) (z_start hCM.2 hcx (fun q hq => by
    rw [tc q hq, u4 q (by show b + 1 ≤ q; omega)]
    rfl) hd1 hd2 hd3 hd4 hd5 hd6 hd7)
end WALK
