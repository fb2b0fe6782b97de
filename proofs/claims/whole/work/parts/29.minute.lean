/-! A minute of a class' world: bring, pass. -/
theorem sne {S T : SP} (h : T.1 = S.1) (k : Nat) : sn T k = sn S k := congrFun h k
def restS (S : SP) : SP := if sn S 4 = 1 then boardB (landB S 0) 0 else boardB (boardB (landB (landB S 0) 1) 0) 1
theorem bringS_eq (S : SP) : bringS S = restS (comeS S) := by
  have h : ∀ (k t : Nat) (S : SP), (comeN S k t).1 = S.1 := by
    intro k
    induction k with
    | zero => intro t S; rfl
    | succ k ih => intro t S; show (comeN (come1 S t) k (t + 1)).1 = _; rw [ih, sn_come1]
  unfold bringS restS comeS
  simp only [sn, h]
theorem sn_comeN : ∀ (k t : Nat) (S : SP), (comeN S k t).1 = S.1 := by
  intro k
  induction k with
  | zero => intro t S; rfl
  | succ k ih => intro t S; show (comeN (come1 S t) k (t + 1)).1 = _; rw [ih, sn_come1]
theorem WF_comeN : ∀ (k t : Nat) (S : SP), t + k = sn S 1 → WF S → WF (comeN S k t) := by
  intro k
  induction k with
  | zero => intro t S _ wf; exact wf
  | succ k ih =>
    intro t S hk wf
    exact ih (t + 1) _ (by rw [sne (sn_come1 t) 1]; omega) (WF_come1 wf (by omega))
theorem sn_comeS (S : SP) : (comeS S).1 = S.1 := sn_comeN _ _ _
theorem WF_comeS {S : SP} (wf : WF S) : WF (comeS S) := WF_comeN _ _ _ (by omega) wf
theorem sn_restS (S : SP) : (restS S).1 = S.1 := by
  unfold restS
  split
  · rw [sn_boardB, sn_landB]
  · rw [sn_boardB, sn_boardB, sn_landB, sn_landB]
theorem two_of {S : SP} (wf : WF S) (h : ¬ sn S 4 = 1) : sn S 4 = 2 := by
  have := wf.1.2.2.2.2.1
  omega
theorem WF_restS {S : SP} (wf : WF S) : WF (restS S) := by
  have h4 := wf.1.2.2.2.2.1
  unfold restS
  split
  · exact WF_boardB (WF_landB wf (by omega)) (by rw [sne (sn_landB 0) 4]; omega)
  · rename_i hn
    have := two_of wf hn
    exact WF_boardB (WF_boardB (WF_landB (WF_landB wf (by omega)) (by rw [sne (sn_landB 0) 4]; omega)) (by rw [sne (sn_landB 1) 4, sne (sn_landB 0) 4]; omega)) (by rw [sne (sn_boardB 0) 4, sne (sn_landB 1) 4, sne (sn_landB 0) 4]; omega)
theorem WF_bringS {S : SP} (wf : WF S) : WF (bringS S) := by rw [bringS_eq]; exact WF_restS (WF_comeS wf)
theorem sn_bringS (S : SP) : (bringS S).1 = S.1 := by rw [bringS_eq, sn_restS, sn_comeS]
def asksS (S : SP) : SP := if sn S 4 = 1 then askB S 0 else askB (askB S 0) 1
theorem sn_asksS (S : SP) : (asksS S).1 = S.1 := by
  unfold asksS
  split
  · exact sn_askB _
  · rw [sn_askB, sn_askB]
theorem WF_asksS {S : SP} (wf : WF S) : WF (asksS S) := by
  have h4 := wf.1.2.2.2.2.1
  unfold asksS
  split
  · exact WF_askB wf (by omega)
  · rename_i hn
    have := two_of wf hn
    exact WF_askB (WF_askB wf (by omega)) (by rw [sne (sn_askB 0) 4]; omega)
theorem minS_eq (S : SP) : minS S = closeS (asksS (bringS S)) := by
  unfold minS asksS
  have : sn (bringS S) 4 = sn S 4 := by rw [sn, sn_bringS]
  rw [this]
  split <;> rfl
theorem WF_minS {S : SP} (wf : WF S) (hm : sn S 3 < 5000) : WF (minS S) := by
  rw [minS_eq]
  exact WF_closeS (WF_asksS (WF_bringS wf)) (by rw [sn, sn_asksS, sn_bringS]; exact hm)
theorem sn_minS (S : SP) : (minS S).1 = upN S.1 3 (sn S 3 + 1) := by
  rw [minS_eq]
  show upN (asksS (bringS S)).1 3 ((asksS (bringS S)).1 3 + 1) = _
  rw [sn_asksS, sn_bringS]
section MINUTE
variable {b : Nat} {M : Mm} {w : Nat} {N : Nat}
theorem WRel_b9 {S : SP} {r : WR} (hr : WRel M S r) (wf : WF S) : (r.1 0 9 = 0) ↔ sn S 4 = 1 := by
  have h4 := wf.1.2.2.2.2.1
  rw [hr.1.2.2.2.2, nI_z (by omega)]
  omega
theorem k_rest {S : SP} {r : WR} (h : LAY b M) (hw : w < 7) (hr : WRel M S r) (wf : WF S) (hN : 20 ≤ N) {t : Nat} (ht : sn S 1 ≤ t) (ht2 : t < 100) (k2 : Nat → Int32 → Mm → Option (Unit × Mm)) : ∃ r', b_X10_bring_2 N k2 (wA b w 0) (nI t) (SW b M w r) = some ((), SW b M w r') ∧ WRel M (restS S) r' := by
  have h4 := wf.1.2.2.2.2.1
  unfold b_X10_bring_2
  rw [q_gI h hw, hr.1.2.1, if_pos (nI_le ht (by omega)), q_gR h hw (l := lb 0) (by decide), q_ck h hw]
  obtain ⟨r1, e1, w1⟩ := k_sail h hw hr wf (x := 0) (by omega) (show 10 ≤ N by omega)
  have f1 := WF_landB wf (x := 0) (by omega)
  rw [e1, bnd_one, q_gI h hw]
  have hs : sn (landB S 0) 4 = sn S 4 := by rw [sn, sn_landB]
  unfold restS
  by_cases hc : sn S 4 = 1
  · rw [if_pos ((WRel_b9 w1 f1).mpr (by rw [hs]; exact hc)), if_pos hc]
    unfold j_X10_bring_87
    rw [q_gR h hw (l := lb 0) (by decide), q_ck h hw]
    obtain ⟨r2, e2, w2⟩ := k_board h hw w1 f1 (x := 0) (by omega) hN
    have f2 := WF_boardB f1 (x := 0) (by omega)
    rw [e2, bnd_one, q_gI h hw, if_pos ((WRel_b9 w2 f2).mpr (by rw [sn, sn_boardB, ← sn, hs]; exact hc))]
    exact ⟨r2, rfl, w2⟩
  · have h2 := two_of wf hc
    rw [if_neg (fun q => hc (by rw [← hs]; exact (WRel_b9 w1 f1).mp q)), if_neg hc, q_gR h hw (l := lb 1) (by decide), q_ck h hw]
    obtain ⟨r1', e1', w1'⟩ := k_sail h hw w1 f1 (x := 1) (by omega) (show 10 ≤ N by omega)
    have f1' := WF_landB f1 (x := 1) (by omega)
    have hs' : sn (landB (landB S 0) 1) 4 = sn S 4 := by rw [sn, sn_landB, sn_landB]
    rw [e1', bnd_one]
    unfold j_X10_bring_87
    rw [q_gR h hw (l := lb 0) (by decide), q_ck h hw]
    obtain ⟨r2, e2, w2⟩ := k_board h hw w1' f1' (x := 0) (by omega) hN
    have f2 := WF_boardB f1' (x := 0) (by omega)
    have hs2 : sn (boardB (landB (landB S 0) 1) 0) 4 = sn S 4 := by rw [sn, sn_boardB, ← sn, hs']
    rw [e2, bnd_one, q_gI h hw, if_neg (fun q => hc (by rw [← hs2]; exact (WRel_b9 w2 f2).mp q)), q_gR h hw (l := lb 1) (by decide), q_ck h hw]
    obtain ⟨r3, e3, w3⟩ := k_board h hw w2 f2 (x := 1) (by omega) hN
    rw [e3, bnd_one]
    exact ⟨r3, rfl, w3⟩
theorem s_bring (h : LAY b M) (hw : w < 7) (hN : 20 ≤ N) : ∀ (k t : Nat) (S : SP) (r : WR) (fu : Nat), t + k = sn S 1 → k + 1 ≤ fu → WRel M S r → WF S → ∃ r', l_X10_bring_2 N fu (wA b w 0) (nI t) (SW b M w r) = some ((), SW b M w r') ∧ WRel M (restS (comeN S k t)) r' := by
  intro k
  induction k with
  | zero =>
    intro t S r fu hk hf hr wf
    obtain ⟨fu, rfl, -⟩ := fuel_s hf
    have h5 := wf.1.2.1
    exact k_rest h hw hr wf hN (by omega) (by omega) _
  | succ k ih =>
    intro t S r fu hk hf hr wf
    obtain ⟨fu, rfl, hf2⟩ := fuel_s hf
    have h5 := wf.1.2.1
    have ht : t < sn S 1 := by omega
    show ∃ r', b_X10_bring_2 N (l_X10_bring_2 N fu) _ _ _ = _ ∧ WRel M (restS (comeN (come1 S t) k (t + 1))) r'
    unfold b_X10_bring_2
    rw [q_gI h hw, hr.1.2.1, if_neg (nI_ge ht (by omega)), q_gI h hw, q_pI h hw, q_gI h hw, q_ck h hw, hr.2.1.1]
    have hr1 : WRel M (ssc S 0 (zN (sc S 0))) (up2 r.1 0 5 (zN (sc S 0)), r.2) := by
      obtain ⟨a1, a2, a3, a4, a5, a6⟩ := hr
      have h2 := wf.1.2.2.2.2.1.2
      refine ⟨?_, ⟨?_, ?_, ?_, ?_, ?_⟩, ?_, ?_, ?_, ?_⟩
      · simp [up2, a1, ssc]
      · simp [up2]; rfl
      · simp [up2, a2]; rfl
      · simp [up2, a2]; rfl
      · simp [up2, a2]; rfl
      · simp [up2, a2]; rfl
      · intro i hi; simp [up2]; exact a3 i hi
      · intro t k ht hk; simp [up2]; exact a4 t k ht hk
      · intro x hx
        have hx2 : x < 2 := Nat.lt_of_lt_of_le hx h2
        have hlb : lb x ≠ 0 := by unfold lb; omega
        exact BRel_of (a5 x hx) (by funext j; simp [up2, hlb]) (by funext j; simp [up2]) rfl
      · intro l hl
        obtain ⟨q1, q2⟩ := a6 l hl
        exact ⟨by simp [up2]; exact q1, fun j p hj => by simp [up2]; exact q2 j p hj⟩
    have wf1 : WF (ssc S 0 (zN (sc S 0))) := WF_ssc wf _ _
    have hgo : sc S 0 * 1103515245 + 12345 = zN (sc S 0) := rfl
    rw [hgo, show ((2 : Int32)) = nI 2 from rfl, k_ofSort h hw hr1 wf1 (k := 2) ht (by decide), bnd_one]
    have hz5 : (up2 r.1 0 5 (zN (sc S 0)), r.2).1 0 5 = zN (sc S 0) := by simp [up2]
    rw [hz5]
    have hcm : come1 S t = if nI (sf S t 2) ≤ zV (zN (sc S 0)) then ssc S 0 (zN (sc S 0)) else comeQ (ssc S 0 (zN (sc S 0))) t := rfl
    have hsn1 : ∀ S', S' = come1 S t → t + 1 + k = sn S' 1 := fun S' e => by rw [e, sne (sn_come1 t) 1]; omega
    have hv : (zN (sc S 0) &&& 2147483647) / 65536 - (zN (sc S 0) &&& 2147483647) / 65536 / 100 * 100 = zV (zN (sc S 0)) := rfl
    rw [hv]
    have hsf : sf (ssc S 0 (zN (sc S 0))) t 2 = sf S t 2 := rfl
    rw [hsf]
    by_cases hc : nI (sf S t 2) ≤ zV (zN (sc S 0))
    · rw [if_pos hc] at hcm ⊢
      rw [nI_1]
      have := ih (t + 1) (come1 S t) (up2 r.1 0 5 (zN (sc S 0)), r.2) fu (hsn1 _ rfl) (by omega) (by rw [hcm]; exact hr1) (by rw [hcm]; exact wf1)
      exact this
    · rw [if_neg hc] at hcm ⊢
      rw [q_ck h hw, show ((0 : Int32)) = nI 0 from rfl, k_ofSort h hw hr1 wf1 (k := 0) ht (by decide), bnd_one, q_ck h hw]
      obtain ⟨r2, e2, w2⟩ := k_come (N := N) h hw hr1 wf1 (t := t) ht
      rw [e2, bnd_one, nI_1]
      exact ih (t + 1) (come1 S t) r2 fu (hsn1 _ rfl) (by omega) (by rw [hcm]; exact w2) (by rw [hcm]; exact WF_comeQ wf1 ht)
theorem k_bring {S : SP} {r : WR} (h : LAY b M) (hw : w < 7) (hr : WRel M S r) (wf : WF S) (hN : 20 ≤ N) : ∃ r', f_X10_bring N (wA b w 0) (SW b M w r) = some ((), SW b M w r') ∧ WRel M (bringS S) r' := by
  have h5 := wf.1.2.1
  unfold f_X10_bring
  rw [bringS_eq]
  exact s_bring h hw hN (sn S 1) 0 S r N (by omega) (by omega) hr wf
theorem s_pass (h : LAY b M) (hw : w < 7) (hN : 20 ≤ N) {n : Nat} (hn : n ≤ 5000) : ∀ (k i : Nat) (S : SP) (r : WR) (fu : Nat), i + k = n → k + 1 ≤ fu → sn S 3 + k ≤ 5000 → WRel M S r → WF S → ∃ r', l_X10_pass_2 N fu (wA b w 0) (nI n) (nI i) (SW b M w r) = some ((), SW b M w r') ∧ WRel M (passS S k) r' ∧ WF (passS S k) := by
  intro k
  induction k with
  | zero =>
    intro i S r fu hk hf hm hr wf
    obtain ⟨fu, rfl, -⟩ := fuel_s hf
    show ∃ r', b_X10_pass_2 N (l_X10_pass_2 N fu) _ _ _ _ = _ ∧ _
    unfold b_X10_pass_2
    rw [if_pos (nI_le (by omega) (by omega))]
    exact ⟨r, rfl, hr, wf⟩
  | succ k ih =>
    intro i S r fu hk hf hm hr wf
    obtain ⟨fu, rfl, hf2⟩ := fuel_s hf
    have h4 := wf.1.2.2.2.2.1
    show ∃ r', b_X10_pass_2 N (l_X10_pass_2 N fu) _ _ _ _ = _ ∧ WRel M (passS (minS S) k) r' ∧ WF (passS (minS S) k)
    have hnext : ∀ r1, WRel M (asksS (bringS S)) r1 → ∃ r', j_X10_pass_34 N (l_X10_pass_2 N fu) (wA b w 0) (nI n) (nI i) (SW b M w r1) = some ((), SW b M w r') ∧ WRel M (passS (minS S) k) r' ∧ WF (passS (minS S) k) := by
      intro r1 h1
      unfold j_X10_pass_34
      rw [q_ck h hw]
      obtain ⟨r2, e2, w2⟩ := k_close (N := N) h hw h1 (WF_asksS (WF_bringS wf)) hN
      rw [e2, bnd_one, nI_1]
      refine ih (i + 1) (minS S) r2 fu (by omega) (by omega) ?_ (by rw [minS_eq]; exact w2) (WF_minS wf (by omega))
      rw [sn, sn_minS, upN_s S.1 3 _]
      omega
    unfold b_X10_pass_2
    rw [if_neg (nI_ge (by omega) (by omega)), q_ck h hw]
    obtain ⟨r1, e1, w1⟩ := k_bring (N := N) h hw hr wf hN
    have f1 := WF_bringS wf
    have s1 := sn_bringS S
    rw [e1, bnd_one, q_gR h hw (l := lb 0) (by decide), q_ck h hw]
    obtain ⟨r2, e2, w2⟩ := k_ask (N := N) h hw w1 f1 (x := 0) (by rw [sne s1 4]; omega) (by omega)
    have f2 := WF_askB f1 (x := 0) (by rw [sne s1 4]; omega)
    have s2 : (askB (bringS S) 0).1 = S.1 := by rw [sn_askB, s1]
    rw [e2, bnd_one, q_gI h hw]
    by_cases hc : sn S 4 = 1
    · rw [if_pos ((WRel_b9 w2 f2).mpr (by rw [sn, s2]; exact hc))]
      apply hnext
      unfold asksS
      rw [if_pos (by rw [sn, s1]; exact hc)]
      exact w2
    · rw [if_neg (fun q => hc (by have := (WRel_b9 w2 f2).mp q; rw [sn, s2] at this; exact this)), q_gR h hw (l := lb 1) (by decide), q_ck h hw]
      have h2 := two_of wf hc
      obtain ⟨r3, e3, w3⟩ := k_ask (N := N) h hw w2 f2 (x := 1) (by rw [sne s2 4]; omega) (by omega)
      rw [e3, bnd_one]
      apply hnext
      unfold asksS
      rw [if_neg (by rw [sn, s1]; exact hc)]
      exact w3
theorem k_pass {S : SP} {r : WR} (h : LAY b M) (hw : w < 7) (hr : WRel M S r) (wf : WF S) {n : Nat} (hm : sn S 3 + n ≤ 5000) (hN : 20 ≤ N) (hN2 : n + 1 ≤ N) : ∃ r', f_X10_pass N (wA b w 0) (nI n) (SW b M w r) = some ((), SW b M w r') ∧ WRel M (passS S n) r' ∧ WF (passS S n) := by
  unfold f_X10_pass
  exact s_pass h hw hN (by omega) n 0 S r N (by omega) hN2 hm hr wf
end MINUTE
