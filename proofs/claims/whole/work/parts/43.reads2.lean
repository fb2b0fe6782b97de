/-! More calls that only read. -/
theorem m1_of {x : Int32} (h1 : ¬ x < -1) (h0 : x < 0) : x = -1 := by
  rw [Int32.lt_iff_toInt_lt] at h1 h0
  apply Int32.toInt_inj.mp
  have e1 : (-1 : Int32).toInt = -1 := rfl
  have e0 : (0 : Int32).toInt = 0 := rfl
  rw [e1] at h1
  rw [e0] at h0
  rw [e1]
  omega
def sumL (S : SP) : Nat → Nat → Nat
  | 0, _ => 0
  | k + 1, l => (sQ S l).length + sumL S k (l + 1)
def sumC (S : SP) : Nat → Nat → Nat
  | 0, _ => 0
  | k + 1, t => sf S t 2 + sumC S k (t + 1)
theorem sumL_more (S : SP) (e : Nat) : ∀ (k l : Nat), (∀ l', l + k ≤ l' → sQ S l' = []) → sumL S (k + e) l = sumL S k l := by
  intro k
  induction k with
  | zero =>
    intro l h
    rw [Nat.zero_add]
    show sumL S e l = 0
    have : ∀ e l, (∀ l', l ≤ l' → sQ S l' = []) → sumL S e l = 0 := by
      intro e
      induction e with
      | zero => intro l _; rfl
      | succ e ih => intro l h; show (sQ S l).length + sumL S e (l + 1) = 0; rw [h l (Nat.le_refl _), ih (l + 1) (fun l' hl => h l' (by omega))]; rfl
    exact this e l (fun l' hl => h l' (by omega))
  | succ k ih =>
    intro l h
    rw [show k + 1 + e = k + e + 1 by omega]
    show (sQ S l).length + sumL S (k + e) (l + 1) = (sQ S l).length + sumL S k (l + 1)
    rw [ih (l + 1) (fun l' hl => h l' (by omega))]
def costV (kd fg : Nat) : Int32 := match kd with
  | 1 => 5 + nI fg
  | 2 => 10
  | 3 => 11
  | 4 => 5 - nI fg
  | 5 => 11 + nI fg
  | 6 => (5 + nI fg) / 2
  | _ => 5
section READS2
variable {b : Nat} {M M2 : Mm} {S : SP} {pic : Option SP} {sh : Nat → SV} {r : Nat → Nat → Int32} {N : Nat}
theorem T_stand (hc : CLS b S pic sh M) (hl : MLAY b M2) (hm : MDR S pic sh r) (hi : INV S pic) (x y z : Int32) : AGREE b M M2 (f_X11_stand N b x y z M) (f_X12_stand N (mc b 0) x y z (MW b M2 r)) := by
  obtain ⟨⟨hL, hX, -⟩, ⟨hr, wf, h1⟩, -⟩ := id hc
  have hM : SW b M 0 (gW b M 0) = M := SW_get (by decide)
  have hk := hm.1
  have hL4 := wf.1.1
  by_cases hx : 0 ≤ x ∧ x < nI (sn S 0)
  · obtain ⟨l, hll, rfl⟩ := in_nat hx.1 hx.2 (by omega)
    have hq12 := WF_q12 wf l
    have hA : AI (MW b M2 r) (mc b 1) 174 := AI_MW hl (by decide) (by decide)
    have hQ := hk.2.2.2.2.2 l (by omega)
    by_cases hy : y < -1
    · refine AGREE_same hc hm hi (-1) ?_ ?_
      · conv => lhs; rw [← hM]
        unfold f_X11_stand
        rw [c_real hX (by decide), q_ck hL (by decide), e_hasLanding hL (by decide), bnd_one, b32_if, hr.1.1, if_pos hx, if_pos hy, hM]
      · unfold f_X12_stand
        rw [n_ck hl, m_isLanding hl hk wf, bnd_one, b32_if, if_pos hx, if_pos hy]
    · by_cases hz : 0 ≤ z ∧ z ≤ 1
      · have hcl : ∀ v, (if y = -1 then some (nI (sQ S l).length, M) else if y < nI (sQ S l).length then (if z = 0 then bnd (f_X10_whoStands N (wA b 0 0) (nI l) y (SW b M 0 (gW b M 0))) (fun v M => some (v, M)) else bnd (f_X10_sinceStands N (wA b 0 0) (nI l) y (SW b M 0 (gW b M 0))) (fun v M => some (v, M))) else some (-4, M)) = some (v, M) → f_X11_stand N b (nI l) y z M = some (v, M) := by
          intro v hv
          conv => lhs; rw [← hM]
          unfold f_X11_stand
          rw [c_real hX (by decide), q_ck hL (by decide), e_hasLanding hL (by decide), bnd_one, b32_if, hr.1.1, if_pos hx, if_neg hy, if_neg (Int32.not_lt.mpr hz.1), if_pos hz.2, c_real hX (by decide), q_ck hL (by decide), k_standingAt hL (by decide) hr (by omega), bnd_one, c_real hX (by decide), q_ck hL (by decide), c_real hX (by decide), q_ck hL (by decide), ← hv]
          have hM' := hM
          split
          · rw [hM']
          · split
            · rfl
            · rw [hM']
        have hmo : ∀ v, (if 0 ≤ y then (if y < nI (sQ S l).length then (if z = 0 then ald (MW b M2 r) (mc b 1) (74 + 25 * nI l + 1 + y) (fun v => some (v, MW b M2 r)) else bnd (f_X12_sinceOf N (mc b 1) (nI l) y (MW b M2 r)) (fun v M => some (v, M))) else some (-4, MW b M2 r)) else some (nI (sQ S l).length, MW b M2 r)) = some (v, MW b M2 r) → f_X12_stand N (mc b 0) (nI l) y z (MW b M2 r) = some (v, MW b M2 r) := by
          intro v hv
          unfold f_X12_stand
          have e : f_X12_standing N (mc b 1) (nI l) (MW b M2 r) = some (nI (sQ S l).length, MW b M2 r) := by
            rw [MW_as (show 1 < 12 by decide), m_standing (M := MW b M2 r) hA (by omega), hQ.1]
          rw [n_ck hl, m_isLanding hl hk wf, bnd_one, b32_if, if_pos hx, if_neg hy, m_isIn z 0 1 0 1 rfl rfl, bnd_one, b32_if, if_pos hz, n_gR hl (p := 1) (by decide), n_gR hl (p := 1) (by decide), e, bnd_one, n_gR hl (p := 1) (by decide), n_gR hl (p := 1) (by decide), bnd_one]
          exact hv
        by_cases hy0 : y < 0
        · have hym := m1_of hy hy0
          subst hym
          exact AGREE_same hc hm hi (nI (sQ S l).length) (hcl _ (if_pos rfl)) (hmo _ (if_neg (by decide)))
        · obtain ⟨j, hj, rfl⟩ := nI_of hy0
          have hne : ¬ nI j = -1 := fun q => hy0 (by rw [q]; decide)
          by_cases hjl : j < (sQ S l).length
          · obtain ⟨p, hp⟩ : ∃ p, (sQ S l)[j]? = some p := ⟨_, List.getElem?_eq_getElem hjl⟩
            obtain ⟨f1, f2⟩ := (hr.2.2.2.2.2 l (by omega)).2 j p hp
            obtain ⟨g1, g2⟩ := hQ.2 j p hp
            by_cases hz0 : z = 0
            · refine AGREE_same hc hm hi (nI p.1) (hcl _ ?_) (hmo _ ?_)
              · rw [if_neg hne, if_pos (nI_lt hjl (by omega)), if_pos hz0, e_whoStands hL (by decide), bnd_one, nIm12, nI_add, rd_nI (by omega) (by decide), f1, hM]
              · rw [if_pos (Int32.not_lt.mp hy0), if_pos (nI_lt hjl (by omega)), if_pos hz0, iQ, nI_1, nI_add, n_ald hl (by decide) (by decide) (show 74 + 25 * l + 1 + j < 174 by omega), g1]
            · refine AGREE_same hc hm hi (nI (since S p)) (hcl _ ?_) (hmo _ ?_)
              · rw [if_neg hne, if_pos (nI_lt hjl (by omega)), if_neg hz0, e_sinceStands hL (by decide), since_at hr wf (by omega) hp, bnd_one, hM]
              · rw [if_pos (Int32.not_lt.mp hy0), if_pos (nI_lt hjl (by omega)), if_neg hz0, MW_as (show 1 < 12 by decide), m_sinceOf (M := MW b M2 r) hA (by omega) (by omega), bnd_one, g2, ← MW_as (by decide)]
                rfl
          · refine AGREE_same hc hm hi (-4) (hcl _ ?_) (hmo _ ?_)
            · rw [if_neg hne, if_neg (fun q => hjl ((nI_ltI hj (by omega)).mp q))]
            · rw [if_pos (Int32.not_lt.mp hy0), if_neg (fun q => hjl ((nI_ltI hj (by omega)).mp q))]
      · refine AGREE_same hc hm hi (-1) ?_ ?_
        · conv => lhs; rw [← hM]
          unfold f_X11_stand
          rw [c_real hX (by decide), q_ck hL (by decide), e_hasLanding hL (by decide), bnd_one, b32_if, hr.1.1, if_pos hx, if_neg hy]
          by_cases hz0 : z < 0
          · rw [if_pos hz0, hM]
          · rw [if_neg hz0, if_neg (fun q => hz ⟨Int32.not_lt.mp hz0, q⟩), hM]
        · unfold f_X12_stand
          rw [n_ck hl, m_isLanding hl hk wf, bnd_one, b32_if, if_pos hx, if_neg hy, m_isIn z 0 1 0 1 rfl rfl, bnd_one, b32_if, if_neg hz]
  · refine AGREE_same hc hm hi (-1) ?_ ?_
    · conv => lhs; rw [← hM]
      unfold f_X11_stand
      rw [c_real hX (by decide), q_ck hL (by decide), e_hasLanding hL (by decide), bnd_one, b32_if, hr.1.1, if_neg hx, hM]
    · unfold f_X12_stand
      rw [n_ck hl, m_isLanding hl hk wf, bnd_one, b32_if, if_neg hx]
theorem T_aboard (hc : CLS b S pic sh M) (hl : MLAY b M2) (hm : MDR S pic sh r) (hi : INV S pic) (x : Int32) : AGREE b M M2 (f_X11_aboard N b x M) (f_X12_aboard N (mc b 0) x (MW b M2 r)) := by
  obtain ⟨⟨hL, hX, -⟩, ⟨hr, wf, h1⟩, -⟩ := id hc
  have hM : SW b M 0 (gW b M 0) = M := SW_get (by decide)
  have hk := hm.1
  have h6 := B6 wf (x := 0) (by omega)
  obtain ⟨b1, b2, b3, b4, -⟩ := hr.2.2.2.2.1 0 (by omega)
  obtain ⟨k1, k2, k3, k5, k6, k7, k8⟩ := hk.2.2.2.2.1 0 (by omega)
  have hA : AI (MW b M2 r) (mc b 1) 174 := AI_MW hl (by decide) (by decide)
  have bo : ∀ (i : Int32) (j : Nat), i = nI j → j < 12 → f_X12_boatOf N (mc b 1) 0 i (MW b M2 r) = some (r 1 (50 + 12 * 0 + j), MW b M2 r) := fun i j hij hj => by
    rw [MW_as (show 1 < 12 by decide)]
    exact m_boatOf (M := MW b M2 r) hA (x := 0) i j hij (by decide) hj
  have k5' : r 1 (50 + 12 * 0 + 3) = nI (sB S 0).2.2.length := k5
  have e2 : (gW b M 0).1 3 2 = nI (sB S 0).2.2.length := b3
  by_cases h0 : 0 ≤ x
  · obtain ⟨j, hj, rfl⟩ := nI_of (Int32.not_lt.mpr h0)
    by_cases hjl : j < (sB S 0).2.2.length
    · obtain ⟨t, ht⟩ : ∃ t, (sB S 0).2.2[j]? = some t := ⟨_, List.getElem?_eq_getElem hjl⟩
      have f1 : (gW b M 0).1 4 j = nI t := b4 j t ht
      have f2 : r 1 (50 + 12 * 0 + 6 + j) = nI t := k8 j t ht
      refine AGREE_same hc hm hi (nI t) ?_ ?_
      · conv => lhs; rw [← hM]
        unfold f_X11_aboard
        rw [if_pos h0, c_real hX (by decide), q_gR hL (by decide) (l := 3) (by decide), q_bgI hL (by decide) (l := 3) (Or.inl rfl), e2, if_neg (nI_ge hjl (by omega)), c_real hX (by decide), q_gR hL (by decide) (l := 3) (by decide), q_bseat hL (by decide) (l := 3) (Or.inl rfl), k_at hL (by decide) (n := 6) (by decide) rfl (by omega), bnd_one, f1, hM]
      · unfold f_X12_aboard
        rw [if_pos h0, n_gR hl (p := 1) (by decide), bo 3 3 rfl (by decide), bnd_one, k5', if_neg (nI_ge hjl (by omega)), n_gR hl (p := 1) (by decide), bo (6 + nI j) (6 + j) (by rw [show (6 : Int32) = nI 6 from rfl, nI_add]) (by omega), bnd_one, show 50 + 12 * 0 + (6 + j) = 50 + 12 * 0 + 6 + j by omega, f2]
    · refine AGREE_same hc hm hi (-4) ?_ ?_
      · conv => lhs; rw [← hM]
        unfold f_X11_aboard
        rw [if_pos h0, c_real hX (by decide), q_gR hL (by decide) (l := 3) (by decide), q_bgI hL (by decide) (l := 3) (Or.inl rfl), e2, if_pos (nI_le (by omega) hj), hM]
      · unfold f_X12_aboard
        rw [if_pos h0, n_gR hl (p := 1) (by decide), bo 3 3 rfl (by decide), bnd_one, k5', if_pos (nI_le (by omega) hj)]
  · refine AGREE_same hc hm hi (-1) ?_ ?_
    · unfold f_X11_aboard; rw [if_neg h0]
    · unfold f_X12_aboard; rw [if_neg h0]
theorem s_sumL (hL : LAY b M) {q : WR} (hr : WRel M S q) : ∀ (k l : Nat) (acc : Int32) (fu : Nat), l + k = 4 → k + 1 ≤ fu → l_X10_standingInAll_13 N fu acc (wA b 0 9) (nI 4) (nI l) (SW b M 0 q) = some (acc + nI (sumL S k l), SW b M 0 q) := by
  intro k
  induction k with
  | zero =>
    intro l acc fu hk hf
    obtain ⟨fu, rfl, -⟩ := fuel_s hf
    show b_X10_standingInAll_13 N (l_X10_standingInAll_13 N fu) _ _ _ _ _ = _
    unfold b_X10_standingInAll_13
    rw [if_pos (nI_le (by omega) (by omega))]
    show some (acc, _) = some (acc + nI 0, _)
    rw [nI_0, Int32.add_zero]
  | succ k ih =>
    intro l acc fu hk hf
    obtain ⟨fu, rfl, hf2⟩ := fuel_s hf
    show b_X10_standingInAll_13 N (l_X10_standingInAll_13 N fu) _ _ _ _ _ = _
    unfold b_X10_standingInAll_13
    rw [if_neg (nI_ge (by omega) (by omega)), q_ald hL (by decide) (l := 9) (by decide) rfl (inA_nI (by show l < 4; omega) (by decide)), nIc (by omega), (hr.2.2.2.2.2 l (by omega)).1, nI_1, ih (l + 1) _ fu (by omega) (by omega), Int32.add_assoc, nI_add]
    rfl
theorem k_standingInAll (hL : LAY b M) {q : WR} (hr : WRel M S q) (hN : 20 ≤ N) : f_X10_standingInAll N (wA b 0 0) (SW b M 0 q) = some (nI (sumL S 4 0), SW b M 0 q) := by
  unfold f_X10_standingInAll
  rw [q_gR hL (by decide) (l := 9) (by decide), q_alen hL (by decide) (l := 9) (by decide) rfl, show nI (kW 9).2 = nI 4 from rfl, show l_X10_standingInAll_13 N N 0 (wA b 0 9) (nI 4) 0 (SW b M 0 q) = l_X10_standingInAll_13 N N 0 (wA b 0 9) (nI 4) (nI 0) (SW b M 0 q) from rfl, s_sumL hL hr 4 0 0 N (by omega) (by omega), Int32.zero_add]
theorem s_sumC (hL : LAY b M) {q : WR} (hr : WRel M S q) (wf : WF S) : ∀ (k t : Nat) (acc : Int32) (fu : Nat), t + k = sn S 1 → k + 1 ≤ fu → l_X10_comesInAll_4 N fu (wA b 0 0) acc (nI t) (SW b M 0 q) = some (acc + nI (sumC S k t), SW b M 0 q) := by
  have h5 := wf.1.2.1
  intro k
  induction k with
  | zero =>
    intro t acc fu hk hf
    obtain ⟨fu, rfl, -⟩ := fuel_s hf
    show b_X10_comesInAll_4 N (l_X10_comesInAll_4 N fu) _ _ _ _ = _
    unfold b_X10_comesInAll_4
    rw [q_gI hL (by decide), hr.1.2.1, if_pos (nI_le (by omega) (by omega))]
    show some (acc, _) = some (acc + nI 0, _)
    rw [nI_0, Int32.add_zero]
  | succ k ih =>
    intro t acc fu hk hf
    obtain ⟨fu, rfl, hf2⟩ := fuel_s hf
    show b_X10_comesInAll_4 N (l_X10_comesInAll_4 N fu) _ _ _ _ = _
    unfold b_X10_comesInAll_4
    rw [q_gI hL (by decide), hr.1.2.1, if_neg (nI_ge (by omega) (by omega)), q_ck hL (by decide), show (2 : Int32) = nI 2 from rfl, k_ofSort hL (by decide) hr wf (by omega) (by decide), bnd_one, nI_1, ih (t + 1) _ fu (by omega) (by omega), Int32.add_assoc, nI_add]
    rfl
theorem s_msumL (hl : MLAY b M2) (hk : KRel K0 S (r 1)) (wf : WF S) : ∀ (k l : Nat) (acc : Int32) (fu : Nat), l + k = sn S 0 → k + 1 ≤ fu → l_X12_count_49 N fu (mc b 0) acc (nI l) (MW b M2 r) = some (acc + nI (sumL S k l), MW b M2 r) := by
  have hL := wf.1.1
  have hA : AI (MW b M2 r) (mc b 1) 174 := AI_MW hl (by decide) (by decide)
  intro k
  induction k with
  | zero =>
    intro l acc fu hkl hf
    obtain ⟨fu, rfl, -⟩ := fuel_s hf
    show b_X12_count_49 N (l_X12_count_49 N fu) _ _ _ _ = _
    unfold b_X12_count_49
    rw [n_gR hl (p := 1) (by decide), show (0 : Int32) = nI 0 from rfl, n_ald hl (by decide) (by decide) (by decide), hk.1.1, if_pos (nI_le (by omega) (by omega))]
    show some (acc, _) = some (acc + nI 0, _)
    rw [nI_0, Int32.add_zero]
  | succ k ih =>
    intro l acc fu hkl hf
    obtain ⟨fu, rfl, hf2⟩ := fuel_s hf
    show b_X12_count_49 N (l_X12_count_49 N fu) _ _ _ _ = _
    unfold b_X12_count_49
    have e : f_X12_standing N (mc b 1) (nI l) (MW b M2 r) = some (nI (sQ S l).length, MW b M2 r) := by
      rw [MW_as (show 1 < 12 by decide), m_standing (M := MW b M2 r) hA (by omega), (hk.2.2.2.2.2 l (by omega)).1]
    rw [n_gR hl (p := 1) (by decide), show (0 : Int32) = nI 0 from rfl, n_ald hl (by decide) (by decide) (by decide), hk.1.1, if_neg (nI_ge (by omega) (by omega)), n_gR hl (p := 1) (by decide), e, bnd_one, nI_1, ih (l + 1) _ fu (by omega) (by omega), Int32.add_assoc, nI_add]
    rfl
theorem s_msumC (hl : MLAY b M2) (hk : KRel K0 S (r 1)) (wf : WF S) : ∀ (k t : Nat) (acc : Int32) (fu : Nat), t + k = sn S 1 → k + 1 ≤ fu → l_X12_count_80 N fu (mc b 0) acc (nI t) (MW b M2 r) = some (acc + nI (sumC S k t), MW b M2 r) := by
  have h5 := wf.1.2.1
  have hA : AI (MW b M2 r) (mc b 1) 174 := AI_MW hl (by decide) (by decide)
  intro k
  induction k with
  | zero =>
    intro t acc fu hkl hf
    obtain ⟨fu, rfl, -⟩ := fuel_s hf
    show b_X12_count_80 N (l_X12_count_80 N fu) _ _ _ _ = _
    unfold b_X12_count_80
    rw [n_gR hl (p := 1) (by decide), show (1 : Int32) = nI 1 from rfl, n_ald hl (by decide) (by decide) (by decide), hk.1.2.1, if_pos (nI_le (by omega) (by omega))]
    show some (acc, _) = some (acc + nI 0, _)
    rw [nI_0, Int32.add_zero]
  | succ k ih =>
    intro t acc fu hkl hf
    obtain ⟨fu, rfl, hf2⟩ := fuel_s hf
    show b_X12_count_80 N (l_X12_count_80 N fu) _ _ _ _ = _
    unfold b_X12_count_80
    have e : f_X12_get N (mc b 1) (nI t) 2 (MW b M2 r) = some (nI (sf S t 2), MW b M2 r) := by
      rw [MW_as (show 1 < 12 by decide), m_get (M := MW b M2 r) hA 2 2 rfl (by omega) (by decide), m_sort hk (by omega) (by decide)]
    rw [n_gR hl (p := 1) (by decide), show (1 : Int32) = nI 1 from rfl, n_ald hl (by decide) (by decide) (by decide), hk.1.2.1, if_neg (nI_ge (by omega) (by omega)), n_gR hl (p := 1) (by decide), e, bnd_one, nI_add, ih (t + 1) _ fu (by omega) (by omega), Int32.add_assoc, nI_add]
    rfl
theorem T_count (hc : CLS b S pic sh M) (hl : MLAY b M2) (hm : MDR S pic sh r) (hi : INV S pic) (hN : 20 ≤ N) (x : Int32) : AGREE b M M2 (f_X11_count N b x M) (f_X12_count N (mc b 0) x (MW b M2 r)) := by
  obtain ⟨⟨hL, hX, -⟩, ⟨hr, wf, h1⟩, -⟩ := id hc
  have hM : SW b M 0 (gW b M 0) = M := SW_get (by decide)
  have hk := hm.1
  have hL4 := wf.1.1
  have h5 := wf.1.2.1
  have hsum : sumL S 4 0 = sumL S (sn S 0) 0 := by
    have := sumL_more S (4 - sn S 0) (sn S 0) 0 (fun l' hl' => (wf.2.2 l').2.1 (by omega))
    rw [show sn S 0 + (4 - sn S 0) = 4 by omega] at this
    exact this
  refine AGREE_same hc hm hi (if x = 0 then nI (sn S 0) else if x = 1 then nI (sn S 1) else if x = 2 then nI (sn S 2) else if x = 3 then nI (sn S 3) else if x = 4 then nI (sumL S 4 0) else if x = 5 then nI (sumC S (sn S 1) 0) else -1) ?_ ?_
  · conv => lhs; rw [← hM]
    unfold f_X11_count f_X10_comesInAll
    have e5 := s_sumC (N := N) hL hr wf (sn S 1) 0 0 N (by omega) (by omega)
    rw [show nI 0 = (0 : Int32) from rfl, Int32.zero_add] at e5
    rw [c_real hX (by decide), c_real hX (by decide), c_real hX (by decide), c_real hX (by decide), c_real hX (by decide), c_real hX (by decide), q_gI hL (by decide), q_gI hL (by decide), q_gI hL (by decide), q_gI hL (by decide), q_ck hL (by decide), q_ck hL (by decide), k_standingInAll hL hr hN, e5]
    simp only [bnd_one, hr.1.1, hr.1.2.1, hr.1.2.2.1, hr.1.2.2.2.1, hM]
    repeat (first | rfl | split)
  · unfold f_X12_count
    have e4 := s_msumL (N := N) hl hk wf (sn S 0) 0 0 N (by omega) (by omega)
    have e5 := s_msumC (N := N) hl hk wf (sn S 1) 0 0 N (by omega) (by omega)
    rw [show nI 0 = (0 : Int32) from rfl, Int32.zero_add] at e4 e5
    rw [e4, e5, hsum]
    have ea : ∀ j : Nat, j < 174 → x = nI j → ald (MW b M2 r) (mc b 1) x (fun v => some (v, MW b M2 r)) = some (r 1 j, MW b M2 r) := fun j hj hx => by rw [hx, n_ald hl (by decide) (by decide) hj]
    rw [n_gR hl (p := 1) (by decide)]
    by_cases h0 : x = 0
    · rw [if_pos h0, if_pos h0, ea 0 (by decide) h0, hk.1.1]
    · rw [if_neg h0, if_neg h0]
      by_cases h1 : x = 1
      · rw [if_pos h1, if_pos h1, ea 1 (by decide) h1, hk.1.2.1]
      · rw [if_neg h1, if_neg h1]
        by_cases h2 : x = 2
        · rw [if_pos h2, if_pos h2, ea 2 (by decide) h2, hk.1.2.2.1]
        · rw [if_neg h2, if_neg h2]
          by_cases h3 : x = 3
          · rw [if_pos h3, if_pos h3, ea 3 (by decide) h3, hk.1.2.2.2]
          · rw [if_neg h3, if_neg h3]
            repeat (first | rfl | split)
theorem q_cost (hL : LAY b M) {w : Nat} (hw : w < 7) {q : WR} {p kd fg : Nat} (hq : isRl M p kd fg) : d_Rule_cost N p (SW b M w q) = some (costV kd fg, SW b M w q) := by
  have h1 : ((SW b M w q).1 p).1 = rtag kd := hq.1
  have hr : ∀ κ : Option (Int32 × Mm), rq (isRule ((SW b M w q).1 p).1 = true) κ = κ := fun κ => q_rule hL hw hq
  have hg : ∀ κ : Int32 → Option (Int32 × Mm), gF (SW b M w q) p κ = κ (nI fg) := fun κ => q_gF hL hw hq
  obtain ⟨-, -, hk, -⟩ := hq
  unfold d_Rule_cost f_X8_cost f_X0_cost f_X9_cost f_X3_cost f_X2_cost f_X4_cost f_X6_cost
  simp only [hr, bnd_one, hg]
  match kd, hk with
  | 0, _ => rw [if_pos (by rw [h1]; rfl)]; rfl
  | 1, _ => rw [if_neg (by rw [h1]; decide), if_neg (by rw [h1]; decide), if_neg (by rw [h1]; decide), if_neg (by rw [h1]; decide), if_neg (by rw [h1]; decide), if_neg (by rw [h1]; decide), if_pos (by rw [h1]; rfl)]; rfl
  | 2, _ => rw [if_neg (by rw [h1]; decide), if_neg (by rw [h1]; decide), if_neg (by rw [h1]; decide), if_neg (by rw [h1]; decide), if_pos (by rw [h1]; rfl)]; rfl
  | 3, _ => rw [if_neg (by rw [h1]; decide), if_neg (by rw [h1]; decide), if_pos (by rw [h1]; rfl)]; rfl
  | 4, _ => rw [if_neg (by rw [h1]; decide), if_neg (by rw [h1]; decide), if_neg (by rw [h1]; decide), if_pos (by rw [h1]; rfl)]; rfl
  | 5, _ => rw [if_neg (by rw [h1]; decide), if_pos (by rw [h1]; rfl)]; rfl
  | 6, _ => rw [if_neg (by rw [h1]; decide), if_neg (by rw [h1]; decide), if_neg (by rw [h1]; decide), if_neg (by rw [h1]; decide), if_neg (by rw [h1]; decide), if_pos (by rw [h1]; rfl)]; rfl
theorem m_careOf (hl : MLAY b M2) {d kd fg : Nat} (hd : d < 8) (h9 : r 9 d = nI kd) (h10 : r 10 d = nI fg) (hk : kd < 7) : f_X12_careOf N (mc b 0) (nI d) (MW b M2 r) = some (costV kd fg, MW b M2 r) := by
  unfold f_X12_careOf
  rw [n_gR hl (p := 10) (by decide), n_ald hl (by decide) (by decide) hd, n_gR hl (p := 9) (by decide), n_ald hl (by decide) (by decide) hd, h9, h10]
  match kd, hk with
  | 0, _ => rfl
  | 1, _ => rfl
  | 2, _ => rfl
  | 3, _ => rfl
  | 4, _ => rfl
  | 5, _ => rfl
  | 6, _ => rfl
theorem T_care (hc : CLS b S pic sh M) (hl : MLAY b M2) (hm : MDR S pic sh r) (hi : INV S pic) (x : Int32) : AGREE b M M2 (f_X11_care N b x M) (f_X12_care N (mc b 0) x (MW b M2 r)) := by
  obtain ⟨⟨hL, hX, -⟩, ⟨hr, wf, h1⟩, -⟩ := id hc
  have hM : SW b M 0 (gW b M 0) = M := SW_get (by decide)
  rcases rule_split (N := N) hc hl hm x with ⟨d, q, kd, fg, hd, rfl, hq, e1, e2, e9, e10⟩ | ⟨c, hc0, hcc, e1, e2, e3⟩
  · refine AGREE_same hc hm hi (costV kd fg) ?_ ?_
    · unfold f_X11_care
      rw [d_ck hX, e1, bnd_one]
      unfold onn
      have := q_cost (N := N) hL (w := 0) (q := gW b M 0) (by decide) hq
      rw [hM] at this
      simp only [Option.elim_some]
      rw [this, bnd_one]
    · unfold f_X12_care
      rw [n_ck hl, e2, bnd_one, if_pos rfl, n_ck hl, m_careOf hl hd e9 e10 hq.2.2.1, bnd_one]
  · refine AGREE_same hc hm hi (-1000000000 + c) ?_ ?_
    · unfold f_X11_care
      rw [d_ck hX, e1, bnd_one]
      show ck 11 M b (bnd (f_X11_refuseRule N b x M) _) = _
      rw [d_ck hX, e2, bnd_one]
    · unfold f_X12_care
      rw [n_ck hl, e3, bnd_one, if_neg hc0]
end READS2
