/-! The model: waiting at all landings; a minute. -/
def Dl (l : Nat) : Nat → Nat := fun i => if i < l then 1 else 0
section MCLOSE
variable {M : Mm} {a : Nat} {N : Nat}
theorem K_Q2 {S : SP} {D D' : Nat → Nat} {g g' : Nat → Int32} (hk : KRel D S g) (wf : WF S) {l : Nat} (hl : l < 4) (hD : ∀ i, i ≠ l → D' i = D i) {v : List (Nat × Nat)} (hf : ∀ j, (j < 74 + 25 * l ∨ 74 + 25 * l + 25 ≤ j) → g' j = g j) (hb : KQ v (sn S 3 + D' l) (74 + 25 * l) g') : KRel D' (ssQ S l v) g' := by
  have h2 := wf.1.2.2.2.2.1.2
  have h5 := wf.1.2.1
  obtain ⟨a1, a2, a3, a4, a5, a6⟩ := hk
  have e : ∀ j, j < 74 → g' j = g j := fun j hj => hf j (by omega)
  refine ⟨?_, ?_, fun i hi => ?_, fun t k ht hk => ?_, fun y hy => ?_, fun l' hl' => ?_⟩
  · rw [e 0 (by decide), e 1 (by decide), e 2 (by decide), e 3 (by decide)]; exact a1
  · rw [e 4 (by decide), e 5 (by decide), e 6 (by decide), e 7 (by decide), e 8 (by decide)]; exact a2
  · rw [e _ (by omega)]; exact a3 i hi
  · have ht' : t < sn S 1 := ht
    rw [e _ (by omega)]; exact a4 t k ht hk
  · have hy' : y < sn S 4 := hy
    exact KB_of (a5 y hy) (B6 wf hy') (fun j h1 h2 => hf j (by omega))
  · by_cases hll : l' = l
    · subst hll
      have hQ : sQ (ssQ S l' v) l' = v := upN_s _ _ _
      rw [hQ]
      exact hb
    · have hQ : sQ (ssQ S l v) l' = sQ S l' := upN_n _ _ hll
      rw [hQ]
      have := KQ_of (g' := g') (a6 l' hl') (WF_q12 wf l') (fun j h1 h2 => hf j (by omega))
      rw [hD l' hll]
      exact this
theorem s_mwaits (h : AI M a 174) {o : Nat} (ho : (M.1 o).1 = 16) (hN : 20 ≤ N) : ∀ (k l : Nat) (S : SP) (g : Nat → Int32) (fu : Nat), l + k = sn S 0 → k + 1 ≤ fu → KRel (Dl l) S g → WF S → ∃ g', l_X12_waits_2 N fu o a (nI l) (sG M a g) = some ((), sG M a g') ∧ KRel (Dl (l + k)) (waitK S k l) g' := by
  intro k
  induction k with
  | zero =>
    intro l S g fu hkl hf hk wf
    obtain ⟨fu, rfl, -⟩ := fuel_s hf
    have hL := wf.1.1
    show ∃ g', b_X12_waits_2 N (l_X12_waits_2 N fu) _ _ _ _ = _ ∧ _
    unfold b_X12_waits_2
    rw [show (0 : Int32) = nI 0 from rfl, m_ald h (by decide) (by decide), hk.1.1, if_pos (nI_le (by omega) (by omega))]
    exact ⟨g, rfl, hk⟩
  | succ k ih =>
    intro l S g fu hkl hf hk wf
    obtain ⟨fu, rfl, hf2⟩ := fuel_s hf
    have hL := wf.1.1
    have h5 := wf.1.2.1
    have hl4 : l < 4 := by omega
    have hq := WF_q12 wf l
    have hmn := wf.1.2.2.2.1
    have hq3 := (wf.2.2 l).2.2.1
    show ∃ g', b_X12_waits_2 N (l_X12_waits_2 N fu) _ _ _ _ = _ ∧ _
    unfold b_X12_waits_2
    rw [show (0 : Int32) = nI 0 from rfl, m_ald h (by decide) (by decide), hk.1.1, if_neg (nI_ge (by omega) (by omega))]
    have hKQ := hk.2.2.2.2.2 l hl4
    have hD0 : Dl l l = 0 := if_neg (by omega)
    rw [hD0, Nat.add_zero] at hKQ
    have hD1 : Dl (l + 1) l = 1 := if_pos (by omega)
    obtain ⟨g', c1, c2, c3, c4, c5⟩ := s_mwait11 (N := N) h ho (l := l) (ns := sn S 1) hl4 h5 (fun t => min (sf S t 3) 99) (fun t => by omega) hN (l_X12_waits_2 N fu) ((sQ S l).map (aged (sn S 3))) [] N g (by rw [List.length_map]; omega) (by simpa using hq) (fun t ht => by
      have := (wf.1.2.2.2.2.2.1 t ht).2.2.2.2.1.2
      rw [hk.2.2.2.1 t 3 ht (by decide)]
      congr 1
      omega) (fun p hp => by
      obtain ⟨p', hp', rfl⟩ := List.mem_map.mp hp
      obtain ⟨q1, q2, q3, q4⟩ := hq3 p' hp'
      exact ⟨q1, by show sn S 3 - p'.2 < 10000; omega⟩) (KW_of_KQ hKQ)
    have c1' : l_X12_waits_11 N (l_X12_waits_2 N fu) N o a (nI l) (nI 0) (sG M a g) = l_X12_waits_2 N fu o a (nI (l + 1)) (sG M a g') := c1
    rw [c1']
    have hfil : ((sQ S l).map (aged (sn S 3))).filter (fun p => decide (p.2 + 1 < min (sf S p.1 3) 99)) = ((sQ S l).filter (stays S)).map (aged (sn S 3)) := by
      rw [List.filter_map]
      congr 1
      apply List.filter_congr
      intro p hp
      obtain ⟨q1, q2, q3, q4⟩ := hq3 p hp
      have := (wf.1.2.2.2.2.2.1 p.1 q1).2.2.2.2.1.2
      unfold stays
      show decide (sn S 3 - p.2 + 1 < min (sf S p.1 3) 99) = _
      congr 1
      apply propext
      omega
    have hmap : ((sQ S l).filter (stays S)).map ((fun p => (p.1, p.2 + 1)) ∘ aged (sn S 3)) = ((sQ S l).filter (stays S)).map (aged (sn S 3 + 1)) := by
      apply List.map_congr_left
      intro p hp
      obtain ⟨q1, q2, q3, q4⟩ := hq3 p (List.mem_filter.mp hp).1
      show (p.1, sn S 3 - p.2 + 1) = (p.1, sn S 3 + 1 - p.2)
      congr 1
      omega
    rw [hfil, List.nil_append, List.map_map, hmap] at c2
    rw [hfil, List.length_map, List.length_map] at c5
    rw [List.length_map] at c4
    rw [hk.2.1.2.1] at c4
    rw [hk.2.1.2.2.1] at c5
    have hk0 : KRel (Dl (l + 1)) (ssQ S l ((sQ S l).filter (stays S))) (fun j => if j = 5 then sc S 1 else if j = 6 then sc S 2 else g' j) := by
      refine K_Q2 hk wf hl4 (fun i hi => ?_) (fun j hj => ?_) ?_
      · unfold Dl
        by_cases h1 : i < l
        · rw [if_pos h1, if_pos (by omega)]
        · rw [if_neg h1, if_neg (by omega)]
      · by_cases j5 : j = 5
        · subst j5; exact hk.2.1.2.1.symm
        · by_cases j6 : j = 6
          · subst j6; exact hk.2.1.2.2.1.symm
          · simp only [if_neg j5, if_neg j6]
            exact c3 j j5 j6 hj
      · rw [hD1]
        have hQ := KQ_of_KW c2
        exact KQ_of (g' := fun j => if j = 5 then sc S 1 else if j = 6 then sc S 2 else g' j) hQ (Nat.le_trans (List.length_filter_le _ _) hq) (fun j h1 h2 => by show (if j = 5 then sc S 1 else if j = 6 then sc S 2 else g' j) = g' j; rw [if_neg (by omega), if_neg (by omega)])
    have wfQ : WF (ssQ S l ((sQ S l).filter (stays S))) := WF_waitL wf l
    have hk2 := K_c (K_c hk0 wfQ (k := 1) (v := g' 5) (by decide)) (WF_ssc wfQ _ _) (k := 2) (v := g' 6) (by decide)
    have hfin : upN (upN (fun j => if j = 5 then sc S 1 else if j = 6 then sc S 2 else g' j) (4 + 1) (g' 5)) (4 + 2) (g' 6) = g' := by
      funext j
      simp only [upN]
      by_cases j6 : j = 6
      · subst j6; rfl
      · by_cases j5 : j = 5
        · subst j5; rfl
        · simp [j5, j6]
    rw [hfin, c4, c5] at hk2
    have hkL : KRel (Dl (l + 1)) (waitL S l) g' := hk2
    obtain ⟨g'', d1, d2⟩ := ih (l + 1) (waitL S l) g' fu (by have : sn (waitL S l) 0 = sn S 0 := rfl; omega) (by omega) hkL (WF_waitL wf l)
    exact ⟨g'', d1, by rw [show l + (k + 1) = l + 1 + k by omega]; exact d2⟩
theorem waitK_nil : ∀ (k l : Nat) (S : SP), (∀ l', l ≤ l' → sQ S l' = []) → waitK S k l = S := by
  intro k
  induction k with
  | zero => intro l S _; rfl
  | succ k ih =>
    intro l S hS
    show waitK (waitL S l) k (l + 1) = S
    rw [waitL_nil (hS l (Nat.le_refl _))]
    exact ih (l + 1) S (fun l' hl' => hS l' (by omega))
theorem waitK_more (e : Nat) : ∀ (k l : Nat) (S : SP), (∀ l', l + k ≤ l' → sQ S l' = []) → waitK S (k + e) l = waitK S k l := by
  intro k
  induction k with
  | zero => intro l S hS; rw [Nat.zero_add]; exact waitK_nil e l S (fun l' hl' => hS l' (by omega))
  | succ k ih =>
    intro l S hS
    rw [show k + 1 + e = k + e + 1 by omega]
    show waitK (waitL S l) (k + e) (l + 1) = waitK (waitL S l) k (l + 1)
    exact ih (l + 1) (waitL S l) (fun l' hl' => by
      have : sQ (waitL S l) l' = sQ S l' := upN_n _ _ (by omega)
      rw [this]; exact hS l' (by omega))
theorem closeS_L {S : SP} (wf : WF S) : closeS S = ssn (waitK S (sn S 0) 0) 3 (sn S 3 + 1) := by
  have hL := wf.1.1
  rw [closeS_K]
  have := waitK_more (4 - sn S 0) (sn S 0) 0 S (fun l' hl' => (wf.2.2 l').2.1 (by omega))
  rw [show sn S 0 + (4 - sn S 0) = 4 by omega] at this
  rw [this]
theorem K_tick {S : SP} {L : Nat} {g : Nat → Int32} (hk : KRel (Dl L) S g) (h4 : sn S 4 ≤ 2) (h5 : sn S 1 ≤ 5) (h6 : ∀ x, x < sn S 4 → (sB S x).2.2.length ≤ 6) (h12 : ∀ l, (sQ S l).length ≤ 12) (hL : ∀ l, L ≤ l → sQ S l = []) : KRel K0 (ssn S 3 (sn S 3 + 1)) (upN g 3 (nI (sn S 3 + 1))) := by
  obtain ⟨a1, a2, a3, a4, a5, a6⟩ := hk
  have e : ∀ j, j ≠ 3 → upN g 3 (nI (sn S 3 + 1)) j = g j := fun j hj => upN_n _ _ hj
  have hne : ∀ k, k ≠ 3 → sn (ssn S 3 (sn S 3 + 1)) k = sn S k := fun k hk => upN_n _ _ hk
  have h3 : sn (ssn S 3 (sn S 3 + 1)) 3 = sn S 3 + 1 := upN_s S.1 3 (sn S 3 + 1)
  refine ⟨?_, ?_, fun i hi => ?_, fun t k ht hk => ?_, fun y hy => ?_, fun l hl => ?_⟩
  · rw [e 0 (by decide), e 1 (by decide), e 2 (by decide), hne 0 (by decide), hne 1 (by decide), hne 2 (by decide), h3, upN_s]
    exact ⟨a1.1, a1.2.1, a1.2.2.1, rfl⟩
  · rw [e 4 (by decide), e 5 (by decide), e 6 (by decide), e 7 (by decide), e 8 (by decide)]; exact a2
  · rw [e _ (by omega)]; exact a3 i hi
  · rw [hne 1 (by decide)] at ht
    rw [e _ (by omega)]; exact a4 t k ht hk
  · rw [hne 4 (by decide)] at hy
    exact KB_of (a5 y hy) (h6 y hy) (fun j h1 h2 => e j (by omega))
  · rw [h3]
    have hQ := a6 l hl
    have hQ' : KQ (sQ S l) (sn S 3 + 1) (74 + 25 * l) g := by
      by_cases hlL : l < L
      · have : Dl L l = 1 := if_pos hlL
        rw [this] at hQ
        exact hQ
      · have hn := hL l (by omega)
        rw [hn] at hQ ⊢
        exact ⟨hQ.1, fun j p hj => by simp at hj⟩
    exact KQ_of hQ' (h12 l) (fun j h1 h2 => e j (by omega))
theorem m_end (h : AI M a 174) {o : Nat} (ho : (M.1 o).1 = 16) {S : SP} {g : Nat → Int32} (hk : KRel K0 S g) (wf : WF S) (hN : 20 ≤ N) (k45 : Nat → Nat → Int32 → Int32 → Mm → Option (Unit × Mm)) {bn i : Nat} (hb : bn ≤ i) (hi : i < 100) : ∃ g', b_X12_minute_45 N k45 o a (nI bn) (nI i) (sG M a g) = some ((), sG M a g') ∧ KRel K0 (closeS S) g' := by
  have hL := wf.1.1
  have hmn := wf.1.2.2.2.1
  unfold b_X12_minute_45 f_X12_waits
  rw [if_pos (nI_le hb (by omega)), m_ck ho]
  have hD : Dl 0 = K0 := by funext i; exact if_neg (by omega)
  obtain ⟨g1, c1, c2⟩ := s_mwaits (N := N) h ho hN (sn S 0) 0 S g N (by omega) (by omega) (by rw [hD]; exact hk) wf
  rw [show nI 0 = (0 : Int32) from rfl] at c1
  obtain ⟨e1, e2, e3⟩ := sQ_waitK (sn S 0) 0 S
  rw [c1, bnd_one, show (3 : Int32) = nI 3 from rfl, m_ald h (by decide) (by decide), c2.1.2.2.2, sne e1 3, m_ast h (by decide) (by decide), nI_1]
  refine ⟨_, rfl, ?_⟩
  rw [closeS_L wf]
  have hwfk : WF (waitK S (sn S 0) 0) := by
    have : ∀ (k l : Nat) (S : SP), WF S → WF (waitK S k l) := by
      intro k
      induction k with
      | zero => intro l S wf; exact wf
      | succ k ih => intro l S wf; exact ih (l + 1) _ (WF_waitL wf l)
    exact this _ _ _ wf
  have := K_tick c2 hwfk.1.2.2.2.2.1.2 hwfk.1.2.1 (fun x hx => B6 hwfk hx) (fun l => WF_q12 hwfk l) (fun l hl => (hwfk.2.2 l).2.1 (by rw [sne e1 0]; omega))
  rw [sne e1 3] at this
  exact this
/-- the steps ahead of the asking -/
theorem m_bring (h : AI M a 174) {o : Nat} (ho : (M.1 o).1 = 16) {S : SP} {g : Nat → Int32} (hk : KRel K0 S g) (wf : WF S) (hN : 20 ≤ N) : ∃ g', f_X12_minute N o a (nI (sn S 4)) (sG M a g) = l_X12_minute_45 N N o a (nI (sn S 4)) 0 (sG M a g') ∧ KRel K0 (bringS S) g' := by
  have h4 := wf.1.2.2.2.2.1
  obtain ⟨N', hN', hN2⟩ := fuel_s hN
  obtain ⟨N'', hN'', hN3⟩ := fuel_s hN2
  obtain ⟨N3, hN3', -⟩ := fuel_s hN3
  have u7 : ∀ o a b i M', l_X12_minute_7 N N o a b i M' = b_X12_minute_7 N (b_X12_minute_7 N (b_X12_minute_7 N (l_X12_minute_7 N N3))) o a b i M' := by
    intro o a b i M'; rw [hN', hN'', hN3']; rfl
  have u26 : ∀ o a b i M', l_X12_minute_26 N N o a b i M' = b_X12_minute_26 N (b_X12_minute_26 N (b_X12_minute_26 N (l_X12_minute_26 N N3))) o a b i M' := by
    intro o a b i M'; rw [hN', hN'', hN3']; rfl
  unfold f_X12_minute
  rw [m_ck ho]
  obtain ⟨g1, c1, k1⟩ := m_come (N := N) (o := o) h hk wf hN
  have f1 := WF_comeS wf
  have hs1 := sn_comeS S
  rw [c1, bnd_one, u7, show (0 : Int32) = nI 0 from rfl, bringS_eq]
  unfold restS
  rw [sne hs1 4]
  by_cases hb : sn S 4 = 1
  · rw [if_pos hb]
    obtain ⟨g2, c2, k2⟩ := m_lands (N := N) (o := o) h k1 f1 (x := 0) (by rw [sne hs1 4]; omega) hN
    have f2 := WF_landB f1 (x := 0) (by rw [sne hs1 4]; omega)
    have hs2 : (landB (comeS S) 0).1 = S.1 := by rw [sn_landB, hs1]
    obtain ⟨g3, c3, k3⟩ := m_boards (N := N) (o := o) h ho k2 f2 (x := 0) (by rw [sne hs2 4]; omega) hN
    refine ⟨g3, ?_, k3⟩
    unfold b_X12_minute_7
    rw [hb, if_neg (nI_ge (by decide) (by decide)), m_ck ho, c2, bnd_one, nI_1, if_pos (nI_le (by decide) (by decide)), u26]
    unfold b_X12_minute_26
    rw [show (0 : Int32) = nI 0 from rfl, if_neg (nI_ge (by decide) (by decide)), m_ck ho, c3, bnd_one, nI_1, if_pos (nI_le (by decide) (by decide))]
  · have hb2 : sn S 4 = 2 := by omega
    rw [if_neg hb]
    obtain ⟨g2, c2, k2⟩ := m_lands (N := N) (o := o) h k1 f1 (x := 0) (by rw [sne hs1 4]; omega) hN
    have f2 := WF_landB f1 (x := 0) (by rw [sne hs1 4]; omega)
    have hs2 : (landB (comeS S) 0).1 = S.1 := by rw [sn_landB, hs1]
    obtain ⟨g2', c2', k2'⟩ := m_lands (N := N) (o := o) h k2 f2 (x := 1) (by rw [sne hs2 4]; omega) hN
    have f2' := WF_landB f2 (x := 1) (by rw [sne hs2 4]; omega)
    have hs2' : (landB (landB (comeS S) 0) 1).1 = S.1 := by rw [sn_landB, hs2]
    obtain ⟨g3, c3, k3⟩ := m_boards (N := N) (o := o) h ho k2' f2' (x := 0) (by rw [sne hs2' 4]; omega) hN
    have f3 := WF_boardB f2' (x := 0) (by rw [sne hs2' 4]; omega)
    have hs3 : (boardB (landB (landB (comeS S) 0) 1) 0).1 = S.1 := by rw [sn_boardB, hs2']
    obtain ⟨g4, c4, k4⟩ := m_boards (N := N) (o := o) h ho k3 f3 (x := 1) (by rw [sne hs3 4]; omega) hN
    refine ⟨g4, ?_, k4⟩
    unfold b_X12_minute_7
    rw [hb2, if_neg (nI_ge (by decide) (by decide)), m_ck ho, c2, bnd_one, nI_1, if_neg (nI_ge (by decide) (by decide)), m_ck ho, c2', bnd_one, nI_1, if_pos (nI_le (by decide) (by decide)), u26]
    unfold b_X12_minute_26
    rw [show (0 : Int32) = nI 0 from rfl, if_neg (nI_ge (by decide) (by decide)), m_ck ho, c3, bnd_one, nI_1, if_neg (nI_ge (by decide) (by decide)), m_ck ho, c4, bnd_one, nI_1, if_pos (nI_le (by decide) (by decide))]
theorem m_minute (h : AI M a 174) {o : Nat} (hoa : o ≠ a) (ho : (M.1 o).1 = 16) (h18 : M.2.1 o 18 = 0) {S : SP} {g : Nat → Int32} (hk : KRel K0 S g) (wf : WF S) (hN : 20 ≤ N) : ∃ g', f_X12_minute N o a (nI (sn S 4)) (sG M a g) = some ((), sG M a g') ∧ KRel K0 (minS S) g' := by
  have h4 := wf.1.2.2.2.2.1
  obtain ⟨N', hN', hN2⟩ := fuel_s hN
  obtain ⟨N'', hN'', hN3⟩ := fuel_s hN2
  obtain ⟨N3, hN3', -⟩ := fuel_s hN3
  have u45 : ∀ o a b i M', l_X12_minute_45 N N o a b i M' = b_X12_minute_45 N (b_X12_minute_45 N (b_X12_minute_45 N (l_X12_minute_45 N N3))) o a b i M' := by
    intro o a b i M'; rw [hN', hN'', hN3']; rfl
  obtain ⟨g1, c1, k1⟩ := m_bring (N := N) h ho hk wf hN
  have f1 := WF_bringS wf
  have s1 := sn_bringS S
  rw [c1, u45, minS_eq, show (0 : Int32) = nI 0 from rfl]
  unfold asksS
  rw [sne s1 4]
  by_cases hb : sn S 4 = 1
  · rw [if_pos hb, hb]
    obtain ⟨g2, c2, k2⟩ := m_asks (N := N) h hoa ho h18 k1 f1 (x := 0) (by rw [sne s1 4]; omega) hN
    have f2 := WF_askB f1 (x := 0) (by rw [sne s1 4]; omega)
    obtain ⟨g3, c3, k3⟩ := m_end (N := N) h ho k2 f2 hN (b_X12_minute_45 N (l_X12_minute_45 N N3)) (bn := 1) (i := 1) (by decide) (by decide)
    refine ⟨g3, ?_, k3⟩
    show (if nI 1 ≤ nI 0 then _ else ck 12 (sG M a g1) o (bnd (f_X12_asks N o a (nI 0) (sG M a g1)) _)) = _
    rw [if_neg (nI_ge (by decide) (by decide)), m_ck ho, c2, bnd_one, nI_1]
    exact c3
  · have hb2 : sn S 4 = 2 := by omega
    rw [if_neg hb, hb2]
    obtain ⟨g2, c2, k2⟩ := m_asks (N := N) h hoa ho h18 k1 f1 (x := 0) (by rw [sne s1 4]; omega) hN
    have f2 := WF_askB f1 (x := 0) (by rw [sne s1 4]; omega)
    have s2 : (askB (bringS S) 0).1 = S.1 := by rw [sn_askB, s1]
    obtain ⟨g2', c2', k2'⟩ := m_asks (N := N) h hoa ho h18 k2 f2 (x := 1) (by rw [sne s2 4]; omega) hN
    have f2' := WF_askB f2 (x := 1) (by rw [sne s2 4]; omega)
    obtain ⟨g3, c3, k3⟩ := m_end (N := N) h ho k2' f2' hN (l_X12_minute_45 N N3) (bn := 2) (i := 2) (by decide) (by decide)
    refine ⟨g3, ?_, k3⟩
    show (if nI 2 ≤ nI 0 then _ else ck 12 (sG M a g1) o (bnd (f_X12_asks N o a (nI 0) (sG M a g1)) _)) = _
    rw [if_neg (nI_ge (by decide) (by decide)), m_ck ho, c2, bnd_one, nI_1]
    show (if nI 2 ≤ nI 1 then _ else ck 12 (sG M a g2) o (bnd (f_X12_asks N o a (nI 1) (sG M a g2)) _)) = _
    rw [if_neg (nI_ge (by decide) (by decide)), m_ck ho, c2', bnd_one, nI_1]
    exact c3
end MCLOSE
