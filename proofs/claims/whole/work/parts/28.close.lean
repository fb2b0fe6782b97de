/-! Asking, waiting, the whole minute: the class' world. -/
section CLOSE
variable {b : Nat} {M : Mm} {w : Nat} {N : Nat}
theorem WRel_b {S : SP} {r r' : WR} {x : Nat} {v : Nat × Nat × List Nat} (hr : WRel M S r) (h2 : sn S 4 ≤ 2) (hx : x < sn S 4) (h0 : ∀ q, q ≠ lb x → q ≠ lb x + 1 → r'.1 q = r.1 q) (hq : r'.2 = r.2) (hb : r'.1 (lb x) 0 = nI v.1 ∧ r'.1 (lb x) 1 = nI v.2.1 ∧ r'.1 (lb x) 2 = nI v.2.2.length ∧ ∀ j t, v.2.2[j]? = some t → r'.1 (lb x + 1) j = nI t) : WRel M (ssB S x v) r' := by
  have hl := lb_cases (Nat.lt_of_lt_of_le hx h2)
  have e0 : r'.1 0 = r.1 0 := by rcases hl with e | e <;> exact h0 0 (by rw [e]; decide) (by rw [e]; decide)
  have := WRel_B (r' := r') hr h2 hx (fun q _ q1 q2 => h0 q q1 q2) (fun k _ _ => by rw [e0]) hq hb
  rw [e0, hr.2.1.2.2.2.1, hr.2.1.2.2.2.2] at this
  have hid : ssc (ssc (ssB S x v) 3 (sc S 3)) 4 (sc S 4) = ssB S x v := by
    unfold ssc ssB
    congr 1
    congr 1
    funext j
    simp only [upN]
    split
    · subst_vars; rfl
    · split
      · subst_vars; rfl
      · rfl
  rw [hid] at this
  exact this
theorem k_send {S : SP} {r : WR} (h : LAY b M) (hw : w < 7) (hr : WRel M S r) (wf : WF S) {x : Nat} (hx : x < sn S 4) (to : Option Nat) (hto : ∀ t, to = some t → t < 2 ^ 30) : ∃ r', f_X10_send N (wA b w 0) (wA b w (lb x)) (oI to) (SW b M w r) = some ((), SW b M w r') ∧ WRel M (sendB S x to) r' := by
  have h2 := wf.1.2.2.2.2.1.2
  have hl := lb_cases (Nat.lt_of_lt_of_le hx h2)
  have hL := wf.1.1
  obtain ⟨w1, w2, w3, w4, w5, w6, w7⟩ := wf.2.1 x hx
  obtain ⟨b1, b2, b3, b4, b5⟩ := hr.2.2.2.2.1 x hx
  unfold f_X10_send
  rw [q_ck h hw, e_hasLanding h hw, bnd_one, b32_if, hr.1.1]
  cases to with
  | none =>
    rw [if_neg (by rintro ⟨q, -⟩; revert q; decide)]
    exact ⟨r, rfl, hr⟩
  | some t =>
    have ht := hto t rfl
    show ∃ r', (if 0 ≤ nI t ∧ nI t < nI (sn S 0) then _ else _) = _ ∧ _
    unfold sendB
    by_cases hc : t < sn S 0
    · rw [if_pos ⟨nI_pos' (by omega), nI_lt hc (by omega)⟩, q_bgI h hw hl, b1]
      show ∃ r', (if nI t = nI (sB S x).1 then _ else _) = _ ∧ _
      by_cases hp : t = (sB S x).1
      · rw [if_pos (by rw [hp])]
        refine ⟨r, rfl, ?_⟩
        dsimp only
        rw [if_neg (fun q => q.2 hp)]
        exact hr
      · rw [if_neg (fun q => hp ((nI_eq (by omega) (by omega)).mp q)), q_bgI h hw hl, b1, q_ck h hw, e_way h hw]
        have hway : rd 16 (r.1 1) (nI (sB S x).1 * 4 + oI (some t)) = nI (sy S ((sB S x).1 * 4 + t)) := by
          show rd 16 (r.1 1) (nI (sB S x).1 * 4 + nI t) = _
          rw [nIm4, nI_add, rd_nI (by omega) (by decide), hr.2.2.1 _ (by omega)]
        rw [hway, bnd_one, q_bpI h hw hl, q_bpI h hw hl]
        refine ⟨_, rfl, ?_⟩
        dsimp only
        rw [if_pos ⟨hc, hp⟩]
        refine WRel_b hr h2 hx (fun q q1 q2 => by funext j; simp [up2, q1]) rfl ⟨by simp [up2, oI], by simp [up2], by simp [up2, b3], fun j t' hj => ?_⟩
        simp [up2]
        exact b4 j t' hj
    · rw [if_neg (fun q => hc ((nI_ltI (by omega) (by omega)).mp q.2))]
      refine ⟨r, rfl, ?_⟩
      dsimp only
      rw [if_neg (fun q => hc q.1)]
      exact hr
theorem argm_lt {f : Nat → Option Nat} {p : Nat} : ∀ (k l m : Nat) (best : Option Nat) (L : Nat), k + l ≤ L → (∀ t, best = some t → t < L) → ∀ t, argm f p k l m best = some t → t < L := by
  intro k
  induction k with
  | zero => intro l m best L _ hb t ht; exact hb t ht
  | succ k ih =>
    intro l m best L hk hb t ht
    unfold argm at ht
    split at ht
    · exact ih (l + 1) m best L (by omega) hb t ht
    · split at ht
      · exact ih (l + 1) m best L (by omega) hb t ht
      · split at ht
        · exact ih (l + 1) _ (some l) L (by omega) (fun t' h' => by cases h'; omega) t ht
        · exact ih (l + 1) m best L (by omega) hb t ht
theorem choose_lt {S : SP} (wf : WF S) {x : Nat} (hx : x < sn S 4) : ∀ t, chooseS S x = some t → t < sn S 0 := by
  obtain ⟨w1, w2, w3, w4, w5, w6, w7⟩ := wf.2.1 x hx
  have hL := wf.1.1
  have hfirst : ∀ t, firstTo S x = some t → t < sn S 0 := by
    intro t ht
    unfold firstTo at ht
    cases hab : (sB S x).2.2 with
    | nil => rw [hab] at ht; cases ht
    | cons u rest =>
      rw [hab] at ht
      cases ht
      exact (wf.1.2.2.2.2.2.1 u (w4 u (by rw [hab]; exact List.mem_cons_self))).2.1
  have hlong : ∀ t, longS S x = some t → t < sn S 0 := fun t ht => argm_lt _ _ _ _ _ (by omega) (fun _ h => by cases h) t ht
  have hbusy : ∀ t, busyS S x = some t → t < sn S 0 := fun t ht => argm_lt _ _ _ _ _ (by omega) (fun _ h => by cases h) t ht
  have hmost : ∀ t, mostS S x = some t → t < sn S 0 := fun t ht => argm_lt _ _ _ _ _ (by omega) (fun _ h => by cases h) t ht
  intro t ht
  unfold chooseS at ht
  split at ht
  · exact hfirst t ht
  · split at ht
    · have := Option.some.inj ht
      subst this
      split <;> omega
    · cases ht
  · split at ht
    · exact hlong t ht
    · exact hfirst t ht
  · split at ht
    · exact hbusy t ht
    · exact hfirst t ht
  · split at ht
    · exact hfirst t ht
    · cases ht
  · split at ht
    · exact hbusy t ht
    · exact hmost t ht
  · split at ht
    · have := Option.some.inj ht
      subst this
      exact Nat.mod_lt _ (by omega)
    · cases ht
theorem k_ask {S : SP} {r : WR} (h : LAY b M) (hw : w < 7) (hr : WRel M S r) (wf : WF S) {x : Nat} (hx : x < sn S 4) (hN : 10 ≤ N) : ∃ r', f_X10_ask N (wA b w 0) (wA b w (lb x)) (SW b M w r) = some ((), SW b M w r') ∧ WRel M (askB S x) r' := by
  have hl := lb_cases (Nat.lt_of_lt_of_le hx wf.1.2.2.2.2.1.2)
  obtain ⟨w1, w2, w3, w4, w5, w6, w7⟩ := wf.2.1 x hx
  obtain ⟨b1, b2, b3, b4, q, hq1, hq2⟩ := hr.2.2.2.2.1 x hx
  unfold f_X10_ask askB
  rw [q_bgI h hw hl, b2]
  by_cases hz : (sB S x).2.1 = 0
  · rw [if_pos ((nI_z (by omega)).mpr hz), if_pos hz, q_brule h hw hl, hq1, Option.elim_some]
    have hL := wf.1.1
    rw [c_choose h hw hr wf hx hq2 hN, bnd_one, q_ck h hw]
    obtain ⟨r', e1, e2⟩ := k_send (N := N) h hw hr wf hx (chooseS S x) (fun t ht => by have := choose_lt wf hx t ht; omega)
    rw [e1]
    exact ⟨r', rfl, e2⟩
  · rw [if_neg (fun q => hz ((nI_z (by omega)).mp q)), if_neg hz]
    exact ⟨r, rfl, hr⟩
theorem s_wait {S : SP} (h : LAY b M) (hw : w < 7) {l n mn : Nat} (hl4 : l < 4) (hn : n ≤ 12) (hmn : mn ≤ 5000) (wt : Nat × Nat → Nat) (hwt : ∀ p, wt p < 10000) :
    ∀ (rest kp : List (Nat × Nat)) (i m : Nat) (r : WR), rest.length + 1 ≤ m → i + rest.length = n → kp.length ≤ i → r.1 0 6 = nI mn → (∀ j p, kp[j]? = some p → r.1 10 (l * 12 + j) = nI p.1 ∧ r.1 11 (l * 12 + j) = nI (wt p)) → (∀ j p, rest[j]? = some p → r.1 10 (l * 12 + (i + j)) = nI p.1 ∧ r.1 11 (l * 12 + (i + j)) = nI (wt p)) →
    ∃ r', l_X10_waitAt_11 N m (wA b w 0) (nI l) (nI n) (nI (l * 12)) (nI kp.length) (nI (l * 12 + i)) (SW b M w r) = some ((), SW b M w r') ∧ (∀ q, q ≠ 0 → q ≠ 9 → q ≠ 10 → q ≠ 11 → r'.1 q = r.1 q) ∧ (∀ k, k ≠ 13 → k ≠ 14 → r'.1 0 k = r.1 0 k) ∧ r'.2 = r.2 ∧ (∀ k, k ≠ l → r'.1 9 k = r.1 9 k) ∧ (∀ k, (k < l * 12 ∨ l * 12 + 12 ≤ k) → r'.1 10 k = r.1 10 k ∧ r'.1 11 k = r.1 11 k) ∧
      r'.1 0 13 = r.1 0 13 + nI n ∧ r'.1 0 14 = r.1 0 14 + nI (n - (kp ++ rest.filter (fun p => decide (mn + 1 < wt p))).length) ∧ r'.1 9 l = nI (kp ++ rest.filter (fun p => decide (mn + 1 < wt p))).length ∧ ∀ j p, (kp ++ rest.filter (fun p => decide (mn + 1 < wt p)))[j]? = some p → r'.1 10 (l * 12 + j) = nI p.1 ∧ r'.1 11 (l * 12 + j) = nI (wt p) := by
  intro rest
  induction rest with
  | nil =>
    intro kp i m r hm hi hkl h6 hkp hrs
    obtain ⟨m, rfl, -⟩ := fuel_s hm
    simp at hi
    show ∃ r', b_X10_waitAt_11 N (l_X10_waitAt_11 N m) _ _ _ _ _ _ _ = _ ∧ _
    unfold b_X10_waitAt_11
    rw [nI_add, if_pos (nI_le (by omega) (by omega)), q_gI h hw, q_pI h hw, q_gI h hw, q_pI h hw, q_gR h hw (l := 9) (by decide), k_change h hw (n := 4) (by decide) rfl hl4, bnd_one]
    refine ⟨_, rfl, fun q q0 q9 _ _ => by funext j; simp [up2, q0, q9], fun k k1 k2 => by simp [up2, k1, k2], rfl, fun k hk => by simp [up2, hk], fun k _ => by simp [up2], by simp [up2], ?_, by simp [up2], fun j p hj => ?_⟩
    · simp [up2, pk_sub (show kp.length ≤ n by omega)]
    · simp at hj
      simp [up2]
      exact hkp j p hj
  | cons p rest ih =>
    intro kp i m r hm hi hkl h6 hkp hrs
    simp only [List.length_cons] at hm hi
    obtain ⟨m, rfl, hm2⟩ := fuel_s hm
    obtain ⟨p1, p2⟩ := hrs 0 p rfl
    rw [Nat.add_zero] at p1 p2
    have hwp := hwt p
    show ∃ r', b_X10_waitAt_11 N (l_X10_waitAt_11 N m) _ _ _ _ _ _ _ = _ ∧ _
    unfold b_X10_waitAt_11
    rw [nI_add, if_neg (nI_ge (by omega) (by omega)), q_gR h hw (l := 11) (by decide), k_at h hw (n := 48) (by decide) rfl (by omega), bnd_one, p2, q_gI h hw, h6, nI_1, nI_1, nI_1]
    have hnext : ∀ j p', rest[j]? = some p' → r.1 10 (l * 12 + (i + 1 + j)) = nI p'.1 ∧ r.1 11 (l * 12 + (i + 1 + j)) = nI (wt p') := fun j p' hj => by
      have := hrs (j + 1) p' hj
      rwa [show i + (j + 1) = i + 1 + j by omega] at this
    by_cases hc : mn + 1 < wt p
    · rw [if_neg (nI_ge hc (by omega)), nI_add]
      have hlen : (kp ++ [p]).length = kp.length + 1 := by simp
      by_cases hs : i = kp.length
      · rw [if_pos (nI_le (by omega) (by omega))]
        obtain ⟨r', e1, e2, e3, e4, e5, e6, e7, e8, e9, e10⟩ := ih (kp ++ [p]) (i + 1) m r (by omega) (by omega) (by omega) h6 (fun j p' hj => by
          rcases gpush hj with ⟨h1, h3⟩ | ⟨rfl, rfl⟩
          · exact hkp j p' h3
          · rw [← hs]; exact ⟨p1, p2⟩) hnext
        rw [hlen, show l * 12 + (i + 1) = l * 12 + i + 1 by omega] at e1
        refine ⟨r', e1, e2, e3, e4, e5, e6, e7, ?_, ?_, ?_⟩
        · rw [e8]; simp [hc]
        · rw [e9]; simp [hc]
        · intro j p' hj; exact e10 j p' (by simpa [hc] using hj)
      · rw [if_neg (nI_ge (by omega) (by omega)), q_gR h hw (l := 10) (by decide), q_gR h hw (l := 10) (by decide), k_at h hw (n := 48) (by decide) rfl (by omega), bnd_one, p1, k_change h hw (n := 48) (by decide) rfl (by omega), bnd_one, q_gR h hw (l := 11) (by decide), k_change h hw (n := 48) (by decide) rfl (by omega), bnd_one]
        obtain ⟨r', e1, e2, e3, e4, e5, e6, e7, e8, e9, e10⟩ := ih (kp ++ [p]) (i + 1) m (up2 (up2 r.1 10 (l * 12 + kp.length) (nI p.1)) 11 (l * 12 + kp.length) (nI (wt p)), r.2) (by omega) (by omega) (by omega) (by simp [up2, h6]) (fun j p' hj => by
          rcases gpush hj with ⟨h1, h3⟩ | ⟨rfl, rfl⟩
          · have n1 : ¬ j = kp.length := by omega
            simp [up2, n1]; exact hkp j p' h3
          · simp [up2]) (fun j p' hj => by
          have n1 : ¬ i + 1 + j = kp.length := by omega
          simp [up2, n1]
          exact hnext j p' hj)
        rw [hlen, show l * 12 + (i + 1) = l * 12 + i + 1 by omega] at e1
        refine ⟨r', e1, fun q q0 q1 q2 q3 => by rw [e2 q q0 q1 q2 q3]; funext j; simp [up2, q2, q3], fun k k1 k2 => by rw [e3 k k1 k2]; simp [up2], e4, fun k hk => by rw [e5 k hk]; simp [up2], fun k hk => ?_, ?_, ?_, ?_, ?_⟩
        · obtain ⟨d1, d2⟩ := e6 k hk
          have n1 : ¬ k = l * 12 + kp.length := by omega
          rw [d1, d2]; simp [up2, n1]
        · rw [e7]; simp [up2]
        · rw [e8]; simp [hc, up2]
        · rw [e9]; simp [hc]
        · intro j p' hj; exact e10 j p' (by simpa [hc] using hj)
    · rw [if_pos (nI_le (by omega) (by omega))]
      obtain ⟨r', e1, e2, e3, e4, e5, e6, e7, e8, e9, e10⟩ := ih kp (i + 1) m r (by omega) (by omega) (by omega) h6 hkp hnext
      rw [show l * 12 + (i + 1) = l * 12 + i + 1 by omega] at e1
      refine ⟨r', e1, e2, e3, e4, e5, e6, e7, ?_, ?_, ?_⟩
      · rw [e8]; simp [hc]
      · rw [e9]; simp [hc]
      · intro j p' hj; exact e10 j p' (by simpa [hc] using hj)
theorem waitL_nil {S : SP} {l : Nat} (h : sQ S l = []) : waitL S l = S := by
  unfold waitL
  rw [h]
  unfold ssc ssQ
  obtain ⟨s1, s2, s3, s4, s5, s6, s7⟩ := S
  simp only [List.filter_nil, List.length_nil, Nat.sub_self, nI_0, Int32.add_zero]
  have e1 : upN (upN s2 1 (s2 1)) 2 (s2 2) = s2 := by
    funext j
    simp only [upN]
    split
    · subst_vars; rfl
    · split
      · subst_vars; rfl
      · rfl
  have e2 : upN s6 l [] = s6 := by
    funext j
    simp only [upN]
    split
    · subst_vars; exact h.symm
    · rfl
  show (s1, upN (upN s2 1 (s2 1)) 2 (s2 2), s3, s4, s5, upN s6 l [], s7) = _
  rw [e1, e2]
theorem k_waitAt {S : SP} {r : WR} (h : LAY b M) (hw : w < 7) (hr : WRel M S r) (wf : WF S) {l : Nat} (hl4 : l < 4) (hN : 20 ≤ N) : ∃ r', f_X10_waitAt N (wA b w 0) (nI l) (nI (sQ S l).length) (SW b M w r) = some ((), SW b M w r') ∧ WRel M (waitL S l) r' := by
  have hq := WF_q12 wf l
  have h2 := wf.1.2.2.2.2.1.2
  obtain ⟨a1, a2, a3, a4, a5, a6⟩ := id hr
  have hQ := a6 l hl4
  have hmn := wf.1.2.2.2.1
  have key := s_wait (N := N) (S := S) h hw (n := (sQ S l).length) (mn := sn S 3) hl4 hq hmn (fun p => min (p.2 + sf S p.1 3) 9999) (fun p => by omega) (sQ S l) [] 0 N r (by omega) (by omega) (by simp) a1.2.2.2.1 (fun j p hj => by simp at hj) (fun j p hj => by
    obtain ⟨f1, f2⟩ := hQ.2 j p hj
    obtain ⟨g1, g2, g3, g4⟩ := (wf.2.2 l).2.2.1 p (List.mem_of_getElem? hj)
    have := (wf.1.2.2.2.2.2.1 p.1 g1).2.2.2.2.1.2
    rw [Nat.zero_add]
    refine ⟨f1, ?_⟩
    rw [f2]
    congr 1
    omega)
  have hfil : (sQ S l).filter (fun p => decide (sn S 3 + 1 < min (p.2 + sf S p.1 3) 9999)) = (sQ S l).filter (stays S) := by
    apply List.filter_congr
    intro p hp
    unfold stays
    congr 1
    apply propext
    omega
  obtain ⟨r', e1, e2, e3, e4, e5, e6, e7, e8, e9, e10⟩ := key
  rw [hfil, List.nil_append] at e8 e9 e10
  unfold f_X10_waitAt
  rw [nIm12]
  refine ⟨r', e1, ?_⟩
  have hsn : (waitL S l).1 = S.1 := rfl
  refine ⟨?_, ⟨?_, ?_, ?_, ?_, ?_⟩, ?_, ?_, ?_, ?_⟩
  · rw [e3 0 (by decide) (by decide), e3 2 (by decide) (by decide), e3 4 (by decide) (by decide), e3 6 (by decide) (by decide), e3 9 (by decide) (by decide)]
    exact a1
  · rw [e3 5 (by decide) (by decide), a2.1]; rfl
  · rw [e7, a2.2.1]; rfl
  · rw [e8, a2.2.2.1]; rfl
  · rw [e3 15 (by decide) (by decide), a2.2.2.2.1]; rfl
  · rw [e3 16 (by decide) (by decide), a2.2.2.2.2]; rfl
  · rw [e2 1 (by decide) (by decide) (by decide) (by decide)]; exact a3
  · rw [e2 2 (by decide) (by decide) (by decide) (by decide)]; exact a4
  · intro x hx
    have hx2 : x < 2 := Nat.lt_of_lt_of_le hx h2
    have hne : lb x ≠ 0 ∧ lb x ≠ 9 ∧ lb x ≠ 10 ∧ lb x ≠ 11 ∧ lb x + 1 ≠ 0 ∧ lb x + 1 ≠ 9 ∧ lb x + 1 ≠ 10 ∧ lb x + 1 ≠ 11 := by unfold lb; omega
    obtain ⟨n1, n2, n3, n4, n5, n6, n7, n8⟩ := hne
    exact BRel_of (a5 x hx) (e2 _ n1 n2 n3 n4) (e2 _ n5 n6 n7 n8) (by rw [e4])
  · intro l' hl'
    obtain ⟨q1, q2⟩ := a6 l' hl'
    by_cases hll : l' = l
    · subst hll
      have hQ' : sQ (waitL S l') l' = (sQ S l').filter (stays S) := upN_s _ _ _
      unfold QRel
      rw [hQ']
      refine ⟨e9, fun j p hj => ?_⟩
      obtain ⟨f1, f2⟩ := e10 j p hj
      have hp := (List.mem_filter.mp (List.mem_of_getElem? hj)).1
      obtain ⟨g1, g2, g3, g4⟩ := (wf.2.2 l').2.2.1 p hp
      have := (wf.1.2.2.2.2.2.1 p.1 g1).2.2.2.2.1.2
      refine ⟨f1, ?_⟩
      rw [f2]
      show nI (min (p.2 + sf S p.1 3) 9999) = nI (p.2 + sf S p.1 3)
      congr 1
      omega
    · have hQ' : sQ (waitL S l) l' = sQ S l' := upN_n _ _ hll
      unfold QRel
      rw [hQ']
      refine ⟨by rw [e5 l' hll]; exact q1, fun j p hj => ?_⟩
      have hj' := gE hj
      have := WF_q12 wf l'
      obtain ⟨d1, d2⟩ := e6 (l' * 12 + j) (by omega)
      rw [d1, d2]
      exact q2 j p hj
theorem s_close (h : LAY b M) (hw : w < 7) (hN : 20 ≤ N) : ∀ (k l : Nat) (S : SP) (r : WR) (fu : Nat), k + l = 4 → k + 1 ≤ fu → WRel M S r → WF S → ∃ r', l_X10_close_2 N fu (wA b w 0) (nI l) (SW b M w r) = some ((), SW b M w r') ∧ WRel M (ssn (waitK S k l) 3 (sn S 3 + 1)) r' := by
  intro k
  induction k with
  | zero =>
    intro l S r fu hk hf hr wf
    obtain ⟨fu, rfl, -⟩ := fuel_s hf
    show ∃ r', b_X10_close_2 N (l_X10_close_2 N fu) _ _ _ = _ ∧ _
    unfold b_X10_close_2
    rw [q_gR h hw (l := 9) (by decide), q_alen h hw (l := 9) (by decide) rfl, show nI (kW 9).2 = nI 4 from rfl, if_pos (nI_le (by omega) (by omega)), q_gI h hw, q_pI h hw, hr.1.2.2.2.1, nI_1]
    refine ⟨_, rfl, ?_⟩
    obtain ⟨a1, a2, a3, a4, a5, a6⟩ := hr
    have h2 := wf.1.2.2.2.2.1.2
    show WRel M (ssn S 3 (sn S 3 + 1)) _
    have hne : ∀ k, k ≠ 3 → sn (ssn S 3 (sn S 3 + 1)) k = sn S k := fun k hk => upN_n _ _ hk
    have h3 : sn (ssn S 3 (sn S 3 + 1)) 3 = sn S 3 + 1 := upN_s S.1 3 (sn S 3 + 1)
    refine ⟨?_, ?_, a3, ?_, ?_, ?_⟩
    · rw [hne 0 (by decide), hne 1 (by decide), hne 2 (by decide), hne 4 (by decide), h3]
      simp [up2, a1]
    · simp [up2, a2]; exact ⟨rfl, rfl, rfl, rfl, rfl⟩
    · rw [hne 1 (by decide)]
      intro t k ht hk
      simp [up2]
      exact a4 t k ht hk
    · rw [hne 4 (by decide)]
      intro x hx
      have hx2 : x < 2 := Nat.lt_of_lt_of_le hx h2
      have hlb : lb x ≠ 0 := by unfold lb; omega
      exact BRel_of (a5 x hx) (by funext j; simp [up2, hlb]) (by funext j; simp [up2]) rfl
    · intro l hl
      obtain ⟨q1, q2⟩ := a6 l hl
      exact ⟨by simp [up2]; exact q1, fun j p hj => by simp [up2]; exact q2 j p hj⟩
  | succ k ih =>
    intro l S r fu hk hf hr wf
    obtain ⟨fu, rfl, hf2⟩ := fuel_s hf
    have hq := WF_q12 wf l
    have hQ := hr.2.2.2.2.2 l (by omega)
    show ∃ r', b_X10_close_2 N (l_X10_close_2 N fu) _ _ _ = _ ∧ _
    unfold b_X10_close_2
    rw [q_gR h hw (l := 9) (by decide), q_alen h hw (l := 9) (by decide) rfl, show nI (kW 9).2 = nI 4 from rfl, if_neg (nI_ge (by omega) (by omega)), q_gR h hw (l := 9) (by decide), q_ald h hw (l := 9) (by decide) rfl (inA_nI (by show l < 4; omega) (by decide)), nIc (by omega), hQ.1, nI_1]
    by_cases hz : (sQ S l).length = 0
    · rw [if_pos ((nI_le0 (by omega)).mpr hz)]
      obtain ⟨r', e1, e2⟩ := ih (l + 1) S r fu (by omega) (by omega) hr wf
      refine ⟨r', e1, ?_⟩
      show WRel M (ssn (waitK (waitL S l) k (l + 1)) 3 (sn S 3 + 1)) r'
      rw [waitL_nil (List.length_eq_zero_iff.mp hz)]
      exact e2
    · rw [if_neg (fun q => hz ((nI_le0 (by omega)).mp q)), q_gR h hw (l := 9) (by decide), q_ald h hw (l := 9) (by decide) rfl (inA_nI (by show l < 4; omega) (by decide)), nIc (by omega), hQ.1, q_ck h hw]
      obtain ⟨r1, c1, c2⟩ := k_waitAt (N := N) h hw hr wf (l := l) (by omega) hN
      rw [c1, bnd_one]
      exact ih (l + 1) (waitL S l) r1 fu (by omega) (by omega) c2 (WF_waitL wf l)
theorem k_close {S : SP} {r : WR} (h : LAY b M) (hw : w < 7) (hr : WRel M S r) (wf : WF S) (hN : 20 ≤ N) : ∃ r', f_X10_close N (wA b w 0) (SW b M w r) = some ((), SW b M w r') ∧ WRel M (closeS S) r' := by
  unfold f_X10_close
  rw [closeS_K]
  exact s_close h hw hN 4 0 S r N rfl (by omega) hr wf
end CLOSE
