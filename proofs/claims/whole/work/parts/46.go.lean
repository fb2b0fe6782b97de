/-! go, tell. -/
section GO
variable {b : Nat} {M M2 : Mm} {S : SP} {pic : Option SP} {sh : Nat → SV} {r : Nat → Nat → Int32} {N : Nat}
theorem up2_id {r : Nat → Nat → Int32} {p k : Nat} {v : Int32} (h : r p k = v) : up2 r p k v = r := by
  funext a j
  simp only [up2]
  split
  · split
    · subst_vars; rfl
    · rfl
  · rfl
theorem s_go38 (hl : MLAY b M2) {n : Nat} (hn : n ≤ 5000) (hN : 20 ≤ N) : ∀ (k i fu : Nat) (S : SP) (r : Nat → Nat → Int32), i + k = n → k + 1 ≤ fu → sn S 3 + k ≤ 5000 → sn S 4 = 1 → KRel K0 S (r 1) → WF S → r 0 18 = 0 → ∃ g', l_X12_go_38 N fu (mc b 0) (nI n) (nI i) (MW b M2 r) = some (nI (sn S 3 + k), MW b M2 (upR r 1 g')) ∧ KRel K0 (passS S k) g' := by
  intro k
  induction k with
  | zero =>
    intro i fu S r hi hf hm h4 hk wf h18
    obtain ⟨fu, rfl, -⟩ := fuel_s hf
    refine ⟨r 1, ?_, hk⟩
    show b_X12_go_38 N (l_X12_go_38 N fu) _ _ _ _ = _
    unfold b_X12_go_38
    have e : upR r 1 (r 1) = r := by
      funext a j
      simp only [upR]
      split
      · subst_vars; rfl
      · rfl
    rw [if_pos (nI_le (by omega) (by omega)), n_gR hl (p := 1) (by decide), show (3 : Int32) = nI 3 from rfl, n_ald hl (by decide) (by decide) (by decide), hk.1.2.2.2, e, Nat.add_zero]
  | succ k ih =>
    intro i fu S r hi hf hm h4 hk wf h18
    obtain ⟨fu, rfl, hf2⟩ := fuel_s hf
    have hA : AI (MW b M2 r) (mc b 1) 174 := AI_MW hl (by decide) (by decide)
    have h18' : (MW b M2 r).2.1 (mc b 0) 18 = 0 := by rw [MW_i (by decide)]; exact h18
    obtain ⟨g', c1, c2⟩ := m_minute (N := N) hA (o := mc b 0) (by unfold mc; omega) hl.1 h18' (g := r 1) hk wf hN
    have hs4 : sn (minS S) 4 = sn S 4 := by
      show (minS S).1 4 = _
      rw [sn_minS]
      exact upN_n _ _ (by decide)
    have hs3 : sn (minS S) 3 = sn S 3 + 1 := by
      show (minS S).1 3 = _
      rw [sn_minS]
      exact upN_s _ _ _
    rw [← MW_as (by decide), sG_MW (by decide), h4] at c1
    obtain ⟨g'', e1, e2⟩ := ih (i + 1) fu (minS S) (upR r 1 g') (by omega) (by omega) (by omega) (by omega) (by rw [upR_s]; exact c2) (WF_minS wf (by omega)) (by rw [upR_n (by decide)]; exact h18)
    refine ⟨g'', ?_, e2⟩
    rw [upR_R, hs3] at e1
    show b_X12_go_38 N (l_X12_go_38 N fu) _ _ _ _ = _
    unfold b_X12_go_38
    rw [if_neg (nI_ge (by omega) (by omega)), n_gR hl (p := 1) (by decide), n_ck hl, show (1 : Int32) = nI 1 from rfl, c1, bnd_one, nI_add, e1, show sn S 3 + 1 + k = sn S 3 + (k + 1) by omega]
theorem T_go (hc : CLS b S pic sh M) (hl : MLAY b M2) (hm : MDR S pic sh r) (hi : INV S pic) (hN : 100 ≤ N) (x : Int32) : AGREE b M M2 (f_X11_go N b x M) (f_X12_go N (mc b 0) x (MW b M2 r)) := by
  obtain ⟨⟨hL, hX, hNB⟩, ⟨hr, wf, h1⟩, -⟩ := id hc
  have hM : SW b M 0 (gW b M 0) = M := SW_get (by decide)
  have hk := hm.1
  have hmin := hi.1.1
  obtain ⟨q6, hq6⟩ := hNB 0 (by decide) 6 (Or.inr rfl)
  by_cases hx : 1 ≤ x ∧ x ≤ 60
  · obtain ⟨n, hn, rfl⟩ := in_nat2 (n := 60) (Int32.le_trans (by decide) hx.1) hx.2 rfl (by decide)
    have e999 : (999 : Int32) = nI 999 := rfl
    by_cases hfit : sn S 3 + n ≤ 999
    · obtain ⟨r', p1, p2, p3⟩ := k_pass (N := N) hL (w := 0) (by decide) hr wf (n := n) (by omega) (by omega) (by omega)
      have hq := KP_SW (by decide) (KP_f_X10_pass N (wA b 0 0) (nI n) (SW b M 0 (gW b M 0))) p1 (l := 6) (Or.inr rfl)
      have h4' : sn (passS S n) 4 = 1 := by rw [sn_passS, if_neg (by decide)]; exact h1
      obtain ⟨g', d1, d2⟩ := s_go38 (N := N) (b := b) hl (n := n) (by omega) (by omega) n 0 N S r (by omega) (by omega) (by omega) h1 hk wf hm.2.2.2.1
      refine ⟨nI (sn S 3 + n), passS S n, pic, sh, SW b M 0 r', upR r 1 g', ?_, ?_, CLS_real hc p2 p3 h4' ⟨q6, by rw [hq]; exact hq6⟩, FR_SW (by decide), MDR_real hm d2, ⟨CNT_passS wf h1 hfit hi.1, hi.2⟩⟩
      · conv => lhs; rw [← hM]
        unfold f_X11_go
        rw [if_neg (Int32.not_lt.mpr hx.1), if_pos hx.2, c_real hX (by decide), q_gI hL (by decide), hr.1.2.2.2.1, nI_add, e999, if_pos (nI_le hfit (by decide)), c_real hX (by decide), q_ck hL (by decide), p1, bnd_one, c_real hX (by decide), q_gI hL (by decide), p2.1.2.2.2.1, sn_passS, if_pos rfl]
      · unfold f_X12_go
        rw [m_isIn (nI n) 1 60 1 60 rfl rfl, bnd_one, b32_if, if_pos hx, n_gR hl (p := 1) (by decide), show (3 : Int32) = nI 3 from rfl, n_ald hl (by decide) (by decide) (by decide), hk.1.2.2.2, nI_add, e999, if_pos (nI_le hfit (by decide)), n_pI hl, up2_id hm.2.2.2.1]
        exact d1
    · refine AGREE_same hc hm hi (-2) ?_ ?_
      · conv => lhs; rw [← hM]
        unfold f_X11_go
        rw [if_neg (Int32.not_lt.mpr hx.1), if_pos hx.2, c_real hX (by decide), q_gI hL (by decide), hr.1.2.2.2.1, nI_add, e999, if_neg (nI_ge (by omega) (by omega)), hM]
      · unfold f_X12_go
        rw [m_isIn (nI n) 1 60 1 60 rfl rfl, bnd_one, b32_if, if_pos hx, n_gR hl (p := 1) (by decide), show (3 : Int32) = nI 3 from rfl, n_ald hl (by decide) (by decide) (by decide), hk.1.2.2.2, nI_add, e999, if_neg (nI_ge (by omega) (by omega))]
  · refine AGREE_same hc hm hi (-1) ?_ ?_
    · unfold f_X11_go
      by_cases h0 : x < 1
      · rw [if_pos h0]
      · rw [if_neg h0, if_neg (fun q => hx ⟨Int32.not_lt.mp h0, q⟩)]
    · unfold f_X12_go
      rw [m_isIn x 1 60 1 60 rfl rfl, bnd_one, b32_if, if_neg hx]
theorem sn_sendS {x : Nat} {to : Option Nat} (k : Nat) : sn (sendB S x to) k = sn S k := sne (sn_sendB x to) k
theorem C13_send {x w e : Nat} {to : Option Nat} (h : C13 S w e) : C13 (sendB S x to) w e := by
  unfold sendB
  split
  · exact h
  · split
    · exact h
    · exact h
theorem T_tell (hc : CLS b S pic sh M) (hl : MLAY b M2) (hm : MDR S pic sh r) (hi : INV S pic) (x : Int32) : AGREE b M M2 (f_X11_tell N b x M) (f_X12_tell N (mc b 0) x (MW b M2 r)) := by
  obtain ⟨⟨hL, hX, hNB⟩, ⟨hr, wf, h1⟩, -⟩ := id hc
  have hM : SW b M 0 (gW b M 0) = M := SW_get (by decide)
  have hk := hm.1
  have hL4 := wf.1.1
  obtain ⟨q6, hq6⟩ := hNB 0 (by decide) 6 (Or.inr rfl)
  obtain ⟨w1, w2, w3, w4, w5, w6, w7⟩ := wf.2.1 0 (by omega)
  obtain ⟨b1, b2, b3, b4, -⟩ := hr.2.2.2.2.1 0 (by omega)
  obtain ⟨k1, k2, k3, k5, k6, k7, k8⟩ := hk.2.2.2.2.1 0 (by omega)
  have e0 : (gW b M 0).1 3 0 = nI (sB S 0).1 := b1
  have e1 : (gW b M 0).1 3 1 = nI (sB S 0).2.1 := b2
  have hA : ∀ r', AI (MW b M2 r') (mc b 1) 174 := fun r' => AI_MW hl (by decide) (by decide)
  have hat : f_X12_isAt N (mc b 1) 0 (MW b M2 r) = some (b32 ((sB S 0).2.1 = 0), MW b M2 r) := by
    rw [MW_as (show 1 < 12 by decide)]
    exact m_isAt (M := MW b M2 r) (hA r) (x := 0) (by omega) wf hk
  by_cases hx : 0 ≤ x ∧ x < nI (sn S 0)
  · obtain ⟨t, ht, rfl⟩ := in_nat hx.1 hx.2 (by omega)
    by_cases hz : (sB S 0).2.1 = 0
    · have bo : f_X12_boatOf N (mc b 1) 0 0 (MW b M2 r) = some (nI (sB S 0).1, MW b M2 r) := by
        have k1' : r 1 (50 + 12 * 0 + 0) = nI (sB S 0).1 := by
          have : r 1 (50 + 12 * 0) = if (sB S 0).2.1 = 0 then nI (sB S 0).1 else -4 := k1
          rw [if_pos hz] at this
          exact this
        rw [MW_as (show 1 < 12 by decide), ← k1']
        exact m_boatOf (M := MW b M2 r) (hA r) (x := 0) 0 0 rfl (by decide) (by decide)
      by_cases hp : (sB S 0).1 = t
      · refine AGREE_same hc hm hi (-3) ?_ ?_
        · conv => lhs; rw [← hM]
          unfold f_X11_tell
          rw [c_real hX (by decide), q_ck hL (by decide), e_hasLanding hL (by decide), bnd_one, b32_if, hr.1.1, if_pos hx, c_real hX (by decide), q_gR hL (by decide) (l := 3) (by decide), q_bgI hL (by decide) (l := 3) (Or.inl rfl), e1, if_neg (fun q => by have := (nI_0lt (by omega)).mp q; omega), c_real hX (by decide), q_gR hL (by decide) (l := 3) (by decide), q_bgI hL (by decide) (l := 3) (Or.inl rfl), e0, if_pos (by rw [hp]), hM]
        · unfold f_X12_tell
          rw [n_ck hl, m_isLanding hl hk wf, bnd_one, b32_if, if_pos hx, n_gR hl (p := 1) (by decide), hat, bnd_one, b32_if, if_pos hz, n_gR hl (p := 1) (by decide), bo, bnd_one, if_pos (by rw [hp])]
      · obtain ⟨r', p1, p2⟩ := k_send (N := N) hL (w := 0) (by decide) hr wf (x := 0) (by omega) (some t) (fun t' h => by cases h; omega)
        have hq := KP_SW (by decide) (KP_f_X10_send N (wA b 0 0) (wA b 0 (lb 0)) (oI (some t)) (SW b M 0 (gW b M 0))) p1 (l := 6) (Or.inr rfl)
        obtain ⟨g', d1, d2⟩ := m_leaves (N := N) (M := MW b M2 r) (hA r) (g := r 1) hk wf (x := 0) (by omega) hz ht (fun q => hp q.symm)
        rw [← MW_as (by decide), sG_MW (by decide)] at d1
        have d1' : f_X12_leaves N (mc b 1) 0 (nI t) (MW b M2 r) = some ((), MW b M2 (upR r 1 g')) := d1
        have wf' : WF (sendB S 0 (some t)) := WF_sendB wf (by omega) _
        have h4' : sn (sendB S 0 (some t)) 4 = 1 := by rw [sn_sendS]; exact h1
        have hleft := (p2.2.2.2.2.1 0 (by omega)).2.1
        have hleft' : r'.1 3 1 = nI (sB (sendB S 0 (some t)) 0).2.1 := hleft
        have hml : g' (50 + 12 * 0 + 2) = nI (sB (sendB S 0 (some t)) 0).2.1 := (d2.2.2.2.2.1 0 (by omega)).2.2.1
        refine ⟨nI (sB (sendB S 0 (some t)) 0).2.1, sendB S 0 (some t), pic, sh, SW b M 0 r', upR r 1 g', ?_, ?_, CLS_real hc p2 wf' h4' ⟨q6, by rw [hq]; exact hq6⟩, FR_SW (by decide), MDR_real hm d2, ⟨?_, hi.2⟩⟩
        · conv => lhs; rw [← hM]
          unfold f_X11_tell
          have p1' : f_X10_send N (wA b 0 0) (wA b 0 3) (nI t) (SW b M 0 (gW b M 0)) = some ((), SW b M 0 r') := p1
          rw [c_real hX (by decide), q_ck hL (by decide), e_hasLanding hL (by decide), bnd_one, b32_if, hr.1.1, if_pos hx, c_real hX (by decide), q_gR hL (by decide) (l := 3) (by decide), q_bgI hL (by decide) (l := 3) (Or.inl rfl), e1, if_neg (fun q => by have := (nI_0lt (by omega)).mp q; omega), c_real hX (by decide), q_gR hL (by decide) (l := 3) (by decide), q_bgI hL (by decide) (l := 3) (Or.inl rfl), e0, if_neg (fun q => hp ((nI_eq (by omega) (by omega)).mp q)), c_real hX (by decide), c_real hX (by decide), q_gR hL (by decide) (l := 3) (by decide), q_ck hL (by decide), p1', bnd_one, c_real hX (by decide), q_gR hL (by decide) (l := 3) (by decide), q_bgI hL (by decide) (l := 3) (Or.inl rfl), hleft']
        · unfold f_X12_tell
          have bo2 : f_X12_boatOf N (mc b 1) 0 2 (MW b M2 (upR r 1 g')) = some (nI (sB (sendB S 0 (some t)) 0).2.1, MW b M2 (upR r 1 g')) := by
            rw [MW_as (show 1 < 12 by decide), ← hml]
            have := m_boatOf (N := N) (M := MW b M2 (upR r 1 g')) (g := upR r 1 g' 1) (hA _) (x := 0) 2 2 rfl (by decide) (by decide)
            rw [show upR r 1 g' 1 = g' from upR_s] at this ⊢
            exact this
          rw [n_ck hl, m_isLanding hl hk wf, bnd_one, b32_if, if_pos hx, n_gR hl (p := 1) (by decide), hat, bnd_one, b32_if, if_pos hz, n_gR hl (p := 1) (by decide), bo, bnd_one, if_neg (fun q => hp ((nI_eq (by omega) (by omega)).mp q)), n_gR hl (p := 1) (by decide), d1', bnd_one, n_gR hl (p := 1) (by decide), bo2, bnd_one]
        · obtain ⟨⟨c1, wt, er, c2, c3, c4, c5⟩, -⟩ := hi
          have hC := C13_send (x := 0) (to := some t) (show C13 S wt er from ⟨c2, c4⟩)
          exact ⟨by rw [sn_sendS]; exact c1, wt, er, hC.1, by rw [sn_sendS]; exact c3, hC.2, by rw [sn_sendS]; exact c5⟩
    · refine AGREE_same hc hm hi (-3) ?_ ?_
      · conv => lhs; rw [← hM]
        unfold f_X11_tell
        rw [c_real hX (by decide), q_ck hL (by decide), e_hasLanding hL (by decide), bnd_one, b32_if, hr.1.1, if_pos hx, c_real hX (by decide), q_gR hL (by decide) (l := 3) (by decide), q_bgI hL (by decide) (l := 3) (Or.inl rfl), e1, if_pos ((nI_0lt (by omega)).mpr (by omega)), hM]
      · unfold f_X12_tell
        rw [n_ck hl, m_isLanding hl hk wf, bnd_one, b32_if, if_pos hx, n_gR hl (p := 1) (by decide), hat, bnd_one, b32_if, if_neg hz]
  · refine AGREE_same hc hm hi (-1) ?_ ?_
    · conv => lhs; rw [← hM]
      unfold f_X11_tell
      rw [c_real hX (by decide), q_ck hL (by decide), e_hasLanding hL (by decide), bnd_one, b32_if, hr.1.1, if_neg hx, hM]
    · unfold f_X12_tell
      rw [n_ck hl, m_isLanding hl hk wf, bnd_one, b32_if, if_neg hx]
end GO
