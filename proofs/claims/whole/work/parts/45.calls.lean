/-! comes, set, rule, go, tell. -/
section CALLS
variable {b : Nat} {M M2 : Mm} {S : SP} {pic : Option SP} {sh : Nat → SV} {r : Nat → Nat → Int32} {N : Nat}
theorem upR_up2 {r : Nat → Nat → Int32} {p k : Nat} {v : Int32} : up2 r p k v = upR r p (upN (r p) k v) := by
  funext a j
  simp only [up2, upR, upN]
  split
  · subst_vars; rfl
  · rfl
theorem upR_s {r : Nat → Nat → Int32} {p : Nat} {g : Nat → Int32} : upR r p g p = g := by funext j; simp [upR]
theorem upR_n {r : Nat → Nat → Int32} {p q : Nat} {g : Nat → Int32} (h : q ≠ p) : upR r p g q = r q := by funext j; simp [upR, h]
theorem upR_R {r : Nat → Nat → Int32} {p : Nat} {g g' : Nat → Int32} : upR (upR r p g) p g' = upR r p g' := by
  funext a j
  simp only [upR]
  split <;> rfl
theorem MDR_real (hm : MDR S pic sh r) {S' : SP} {g' : Nat → Int32} (hk : KRel K0 S' g') : MDR S' pic sh (upR r 1 g') := by
  obtain ⟨a1, a2, a3, a4, a5⟩ := hm
  have e : ∀ p, p ≠ 1 → upR r 1 g' p = r p := fun p hp => by funext j; simp [upR, hp]
  have e1 : upR r 1 g' 1 = g' := by funext j; simp [upR]
  refine ⟨by rw [e1]; exact hk, fun P hP => by rw [e 2 (by decide)]; exact a2 P hP, by rw [e 0 (by decide)]; exact a3, by rw [e 0 (by decide)]; exact a4, fun d hd => ?_⟩
  unfold SHm
  rw [e 5 (by decide), e 6 (by decide), e 7 (by decide), e 8 (by decide), e 9 (by decide), e 10 (by decide)]
  exact a5 d hd
theorem k_changeSort {w : Nat} {q : WR} (hL : LAY b M) (hw : w < 7) {t k : Nat} {v : Int32} (ht : t < 5) (hk : k < 5) : f_X10_changeSort N (wA b w 0) (nI t) (nI k) v (SW b M w q) = some ((), SW b M w (up2 q.1 2 (t * 5 + k) v, q.2)) := by
  unfold f_X10_changeSort
  rw [q_gR hL hw (l := 2) (by decide), nIm5, nI_add, k_change hL hw (n := 25) (by decide) rfl (by omega), bnd_one]
theorem T_comes (hc : CLS b S pic sh M) (hl : MLAY b M2) (hm : MDR S pic sh r) (hi : INV S pic) (x y : Int32) : AGREE b M M2 (f_X11_comes N b x y M) (f_X12_comes_ N (mc b 0) x y (MW b M2 r)) := by
  obtain ⟨⟨hL, hX, hNB⟩, ⟨hr, wf, h1⟩, -⟩ := id hc
  have hM : SW b M 0 (gW b M 0) = M := SW_get (by decide)
  have hk := hm.1
  have h5 := wf.1.2.1
  by_cases hx : 0 ≤ x ∧ x < nI (sn S 1)
  · obtain ⟨t, ht, rfl⟩ := in_nat hx.1 hx.2 (by omega)
    by_cases hy : 0 ≤ y ∧ y ≤ 100
    · obtain ⟨n, hn, rfl⟩ := in_nat2 (n := 100) hy.1 hy.2 rfl (by decide)
      obtain ⟨q6, hq6⟩ := hNB 0 (by decide) 6 (Or.inr rfl)
      have wf' : WF (ssf S t 2 n) := WF_ssf wf (Or.inl ⟨rfl, hn⟩)
      refine ⟨nI (sf S t 2), ssf S t 2 n, pic, sh, SW b M 0 (up2 (gW b M 0).1 2 (t * 5 + 2) (nI n), (gW b M 0).2), upR r 1 (upN (r 1) (25 + 5 * t + 2) (nI n)), ?_, ?_, CLS_real hc (WRel_ssf hr wf ht (by decide) (fun h => absurd h (by decide))) wf' h1 ⟨q6, hq6⟩, FR_SW (by decide), MDR_real hm (KRel_ssf hk wf ht (by decide)), hi⟩
      · conv => lhs; rw [← hM]
        unfold f_X11_comes
        rw [c_real hX (by decide), q_ck hL (by decide), e_hasSort hL (by decide), bnd_one, b32_if, hr.1.2.1, if_pos hx, if_neg (Int32.not_lt.mpr hy.1), if_pos hy.2, c_real hX (by decide), q_ck hL (by decide), show (2 : Int32) = nI 2 from rfl, k_ofSort hL (by decide) hr wf ht (by decide), bnd_one, c_real hX (by decide), q_ck hL (by decide), k_changeSort hL (by decide) (by omega) (by decide), bnd_one]
      · unfold f_X12_comes_ f_X12_becomes
        rw [n_ck hl, m_isSort hl hk wf, bnd_one, b32_if, if_pos hx, m_isIn (nI n) 0 100 0 100 rfl rfl, bnd_one, b32_if, if_pos hy, n_ck hl, n_gR hl (p := 1) (by decide), show (2 : Int32) = nI 2 from rfl, iS, n_ald hl (by decide) (by decide) (show 25 + 5 * t + 2 < 174 by omega), n_gR hl (p := 1) (by decide), n_ast hl (by decide) (by decide) (show 25 + 5 * t + 2 < 174 by omega), bnd_one, m_sort hk ht (by decide), upR_up2]
    · refine AGREE_same hc hm hi (-1) ?_ ?_
      · conv => lhs; rw [← hM]
        unfold f_X11_comes
        rw [c_real hX (by decide), q_ck hL (by decide), e_hasSort hL (by decide), bnd_one, b32_if, hr.1.2.1, if_pos hx]
        by_cases h0 : y < 0
        · rw [if_pos h0, hM]
        · rw [if_neg h0, if_neg (fun q => hy ⟨Int32.not_lt.mp h0, q⟩), hM]
      · unfold f_X12_comes_
        rw [n_ck hl, m_isSort hl hk wf, bnd_one, b32_if, if_pos hx, m_isIn y 0 100 0 100 rfl rfl, bnd_one, b32_if, if_neg hy]
  · refine AGREE_same hc hm hi (-1) ?_ ?_
    · conv => lhs; rw [← hM]
      unfold f_X11_comes
      rw [c_real hX (by decide), q_ck hL (by decide), e_hasSort hL (by decide), bnd_one, b32_if, hr.1.2.1, if_neg hx, hM]
    · unfold f_X12_comes_
      rw [n_ck hl, m_isSort hl hk wf, bnd_one, b32_if, if_neg hx]
theorem T_set (hc : CLS b S pic sh M) (hl : MLAY b M2) (hm : MDR S pic sh r) (hi : INV S pic) (x y : Int32) : AGREE b M M2 (f_X11_set N b x y M) (f_X12_set N (mc b 0) x y (MW b M2 r)) := by
  obtain ⟨⟨hL, hX, hNB⟩, ⟨hr, wf, h1⟩, -⟩ := id hc
  have hM : SW b M 0 (gW b M 0) = M := SW_get (by decide)
  have hk := hm.1
  obtain ⟨q6, hq6⟩ := hNB 0 (by decide) 6 (Or.inr rfl)
  have h6 := B6 wf (x := 0) (by omega)
  by_cases hx1 : x = 1
  · refine ⟨sc S 0, ssc S 0 y, pic, sh, SW b M 0 (up2 (gW b M 0).1 0 5 y, (gW b M 0).2), upR r 1 (upN (r 1) (4 + 0) y), ?_, ?_, CLS_real hc (WRel_z hr wf) (WF_ssc wf _ _) h1 ⟨q6, hq6⟩, FR_SW (by decide), MDR_real hm (K_c hk wf (by decide)), ⟨hi.1, hi.2⟩⟩
    · conv => lhs; rw [← hM]
      unfold f_X11_set
      rw [if_pos hx1, c_real hX (by decide), q_gI hL (by decide), c_real hX (by decide), q_pI hL (by decide), hr.2.1.1]
    · unfold f_X12_set f_X12_becomes
      rw [if_pos hx1, n_ck hl, n_gR hl (p := 1) (by decide), show (4 : Int32) = nI 4 from rfl, n_ald hl (by decide) (by decide) (by decide), n_gR hl (p := 1) (by decide), n_ast hl (by decide) (by decide) (by decide), bnd_one, hk.2.1.1, upR_up2]
  · by_cases hx0 : x = 0
    · by_cases hy : 1 ≤ y ∧ y ≤ 6
      · obtain ⟨n, hn, rfl⟩ := in_nat2 (n := 6) (Int32.le_trans (by decide) hy.1) hy.2 rfl (by decide)
        have hn1 : 1 ≤ n := (nI_leI (a := 1) (by decide) (by omega)).mp hy.1
        obtain ⟨b1, b2, b3, b4, -⟩ := hr.2.2.2.2.1 0 (by omega)
        obtain ⟨k1, k2, k3, k5, k6, k7, k8⟩ := hk.2.2.2.2.1 0 (by omega)
        have e2 : (gW b M 0).1 3 2 = nI (sB S 0).2.2.length := b3
        have hA : AI (MW b M2 r) (mc b 1) 174 := AI_MW hl (by decide) (by decide)
        have bo : f_X12_boatOf N (mc b 1) 0 3 (MW b M2 r) = some (nI (sB S 0).2.2.length, MW b M2 r) := by
          have k5' : r 1 (50 + 12 * 0 + 3) = nI (sB S 0).2.2.length := k5
          rw [MW_as (show 1 < 12 by decide), ← k5']
          exact m_boatOf (M := MW b M2 r) hA (x := 0) 3 3 rfl (by decide) (by decide)
        by_cases hfit : (sB S 0).2.2.length ≤ n
        · have wf' : WF (ssn S 2 n) := WF_seats wf ⟨hn1, hn⟩ (fun x hx => by have : x = 0 := by omega
                                                                             subst this; exact hfit)
          refine ⟨nI (sn S 2), ssn S 2 n, pic, sh, SW b M 0 (up2 (gW b M 0).1 0 4 (nI n), (gW b M 0).2), upR r 1 (upN (r 1) 2 (nI n)), ?_, ?_, CLS_real hc (WRel_seats hr wf) wf' (by rw [show sn (ssn S 2 n) 4 = sn S 4 from upN_n (k := 2) (j := 4) S.1 n (by decide)]; exact h1) ⟨q6, hq6⟩, FR_SW (by decide), MDR_real hm (KRel_seats hk wf), ⟨?_, hi.2⟩⟩
          · conv => lhs; rw [← hM]
            unfold f_X11_set f_X10_takeSeats
            rw [if_neg hx1, if_pos hx0, if_neg (Int32.not_lt.mpr hy.1), if_pos hy.2, c_real hX (by decide), q_gI hL (by decide), c_real hX (by decide), q_ck hL (by decide), if_neg (Int32.not_lt.mpr hy.1), if_neg (Int32.not_lt.mpr hy.2), q_gR hL (by decide) (l := 3) (by decide), q_bgI hL (by decide) (l := 3) (Or.inl rfl), e2, if_pos (nI_le hfit (by omega)), q_pI hL (by decide), bnd_one, if_neg (by decide), hr.1.2.2.1]
          · unfold f_X12_set f_X12_becomes
            rw [if_neg hx1, if_pos hx0, m_isIn (nI n) 1 6 1 6 rfl rfl, bnd_one, b32_if, if_pos hy, n_gR hl (p := 1) (by decide), bo, bnd_one, if_pos (nI_le hfit (by omega)), n_ck hl, n_gR hl (p := 1) (by decide), show (2 : Int32) = nI 2 from rfl, n_ald hl (by decide) (by decide) (by decide), n_gR hl (p := 1) (by decide), n_ast hl (by decide) (by decide) (by decide), bnd_one, hk.1.2.2.1, upR_up2]
          · obtain ⟨⟨c1, w, e, c2⟩, -⟩ := hi
            have : sn (ssn S 2 n) 3 = sn S 3 := upN_n (k := 2) (j := 3) S.1 n (by decide)
            exact ⟨by rw [this]; exact c1, w, e, by rw [this]; exact c2⟩
        · refine AGREE_same hc hm hi (-3) ?_ ?_
          · conv => lhs; rw [← hM]
            unfold f_X11_set f_X10_takeSeats
            rw [if_neg hx1, if_pos hx0, if_neg (Int32.not_lt.mpr hy.1), if_pos hy.2, c_real hX (by decide), q_gI hL (by decide), c_real hX (by decide), q_ck hL (by decide), if_neg (Int32.not_lt.mpr hy.1), if_neg (Int32.not_lt.mpr hy.2), q_gR hL (by decide) (l := 3) (by decide), q_bgI hL (by decide) (l := 3) (Or.inl rfl), e2, if_neg (nI_ge (by omega) (by omega)), bnd_one, if_pos rfl, hM]
          · unfold f_X12_set
            rw [if_neg hx1, if_pos hx0, m_isIn (nI n) 1 6 1 6 rfl rfl, bnd_one, b32_if, if_pos hy, n_gR hl (p := 1) (by decide), bo, bnd_one, if_neg (nI_ge (by omega) (by omega))]
      · refine AGREE_same hc hm hi (-1) ?_ ?_
        · unfold f_X11_set
          rw [if_neg hx1, if_pos hx0]
          by_cases h1 : y < 1
          · rw [if_pos h1]
          · rw [if_neg h1, if_neg (fun q => hy ⟨Int32.not_lt.mp h1, q⟩)]
        · unfold f_X12_set
          rw [if_neg hx1, if_pos hx0, m_isIn y 1 6 1 6 rfl rfl, bnd_one, b32_if, if_neg hy]
    · refine AGREE_same hc hm hi (-1) ?_ ?_
      · unfold f_X11_set; rw [if_neg hx1, if_neg hx0]
      · unfold f_X12_set; rw [if_neg hx1, if_neg hx0]
theorem T_rule (hc : CLS b S pic sh M) (hl : MLAY b M2) (hm : MDR S pic sh r) (hi : INV S pic) (x : Int32) : AGREE b M M2 (f_X11_rule N b x M) (f_X12_rule N (mc b 0) x (MW b M2 r)) := by
  obtain ⟨⟨hL, hX, hNB⟩, ⟨hr, wf, h1⟩, -⟩ := id hc
  have hM : SW b M 0 (gW b M 0) = M := SW_get (by decide)
  have hk := hm.1
  obtain ⟨q6, hq6⟩ := hNB 0 (by decide) 6 (Or.inr rfl)
  rcases rule_split (N := N) hc hl hm x with ⟨d, q, kd, fg, hd, rfl, hq, e1, e2, e9, e10⟩ | ⟨c, hc0, hcc, e1, e2, e3⟩
  · refine ⟨nI kd, ssK S 0 (kd, fg), pic, sh, SW b M 0 ((gW b M 0).1, upq (gW b M 0).2 3 (some q)), upR r 1 (upN (upN (r 1) 54 (nI kd)) 55 (nI fg)), ?_, ?_, CLS_real hc (WRel_ssK hr h1 hq) (WF_ssK wf hq.2.2.1 hq.2.2.2) h1 ⟨q6, by simp [upq]; exact hq6⟩, FR_SW (by decide), MDR_real hm (KRel_ssK hk wf h1), ⟨hi.1, hi.2⟩⟩
    · unfold f_X11_rule onn
      rw [d_ck hX, e1, bnd_one, Option.elim_some]
      conv => lhs; rw [← hM]
      rw [c_real hX (by decide), q_gR hL (by decide) (l := 3) (by decide), q_bpR hL (by decide) (l := 3) (Or.inl rfl), q_kind hL (by decide) hq, bnd_one]
    · unfold f_X12_rule f_X12_sets
      have hA : ∀ (r' : Nat → Nat → Int32) (j : Nat) (v : Int32) (κ : Mm → Option (Int32 × Mm)), j < 174 → ast (MW b M2 r') (mc b 1) (nI j) v κ = κ (MW b M2 (up2 r' 1 j v)) := fun r' j v κ hj => n_ast hl (by decide) (by decide) hj
      rw [n_ck hl, e2, bnd_one, if_pos rfl, n_gR hl (p := 1) (by decide), n_gR hl (p := 9) (by decide), n_ald hl (by decide) (by decide) hd, e9, show (50 : Int32) + 12 * 0 + 4 = nI 54 from rfl, n_ast hl (by decide) (by decide) (by decide), bnd_one, n_gR hl (p := 1) (by decide), n_gR hl (p := 10) (by decide), n_ald hl (by decide) (by decide) hd, show (50 : Int32) + 12 * 0 + 5 = nI 55 from rfl, n_ast hl (by decide) (by decide) (by decide), bnd_one, n_gR hl (p := 9) (by decide), n_ald hl (by decide) (by decide) hd]
      have e9' : up2 (up2 r 1 54 (nI kd)) 1 55 (up2 r 1 54 (nI kd) 10 d) 9 d = nI kd := by simp [up2, e9]
      have e10' : up2 r 1 54 (nI kd) 10 d = nI fg := by simp [up2, e10]
      rw [e9', e10', upR_up2, upR_up2, upR_s, upR_R]
  · refine AGREE_same hc hm hi c ?_ ?_
    · unfold f_X11_rule onn
      rw [d_ck hX, e1, bnd_one, Option.elim_none, d_ck hX, e2, bnd_one]
    · unfold f_X12_rule
      rw [n_ck hl, e3, bnd_one, if_neg hc0]
end CALLS
