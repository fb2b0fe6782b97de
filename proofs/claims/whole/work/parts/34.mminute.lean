/-! The model: boarding, waiting, a minute. -/
section MMIN
variable {M : Mm} {a : Nat} {N : Nat}
theorem s_mboards (h : AI M a 174) {o : Nat} (ho : (M.1 o).1 = 16) {x l st : Nat} (hx2 : x < 2) (hl : l < 4) (hst : st ≤ 6) (hN : 20 ≤ N) :
    ∀ (k : Nat) (q : List (Nat × Nat)) (ab : List Nat) (fu : Nat) (g : Nat → Int32), k = min q.length (st - ab.length) → k + 1 ≤ fu → q.length ≤ 12 → g 2 = nI st → KW q (74 + 25 * l) g → g (50 + 12 * x + 3) = nI ab.length → ab.length ≤ 6 → (∀ j t, ab[j]? = some t → g (50 + 12 * x + 6 + j) = nI t) →
    ∃ g', l_X12_boards_7 N fu o a (nI x) (nI l) (sG M a g) = some ((), sG M a g') ∧ KW (q.drop k) (74 + 25 * l) g' ∧ g' (50 + 12 * x + 3) = nI (ab ++ (q.take k).map Prod.fst).length ∧ (∀ j t, (ab ++ (q.take k).map Prod.fst)[j]? = some t → g' (50 + 12 * x + 6 + j) = nI t) ∧ ∀ j, (j < 74 + 25 * l ∨ 74 + 25 * l + 25 ≤ j) → j ≠ 50 + 12 * x + 3 → (j < 50 + 12 * x + 6 ∨ 50 + 12 * x + 12 ≤ j) → g' j = g j := by
  intro k
  induction k with
  | zero =>
    intro q ab fu g hk hf hq h2 hw h3 h6 hab
    obtain ⟨fu, rfl, -⟩ := fuel_s hf
    show ∃ g', b_X12_boards_7 N (l_X12_boards_7 N fu) _ _ _ _ _ = _ ∧ _
    unfold b_X12_boards_7
    refine ⟨g, ?_, by simpa using hw, by simpa using h3, by simpa using hab, fun j _ _ _ => rfl⟩
    rw [if_neg (nI_neg (by omega)), m_standing h hl, bnd_one, hw.1]
    by_cases hz : q.length = 0
    · rw [if_pos ((nI_le0 (by omega)).mpr hz)]
    · rw [if_neg (fun e => hz ((nI_le0 (by omega)).mp e)), m_boatOf h 3 3 rfl hx2 (by decide), bnd_one, h3, show (2 : Int32) = nI 2 from rfl, m_ald h (by decide) (by decide), h2, if_pos (nI_le (by omega) (by omega))]
  | succ k ih =>
    intro q ab fu g hk hf hq h2 hw h3 h6 hab
    obtain ⟨fu, rfl, hf2⟩ := fuel_s hf
    cases q with
    | nil => simp at hk
    | cons p q =>
      simp only [List.length_cons] at hk hq
      obtain ⟨p1, p2⟩ := hw.2 0 p rfl
      have hwn := hw.1
      simp only [List.length_cons] at hwn
      show ∃ g', b_X12_boards_7 N (l_X12_boards_7 N fu) _ _ _ _ _ = _ ∧ _
      unfold b_X12_boards_7
      rw [if_neg (nI_neg (by omega)), m_standing h hl, bnd_one, hwn, if_neg (fun e => by have := (nI_le0 (by omega)).mp e; omega), m_boatOf h 3 3 rfl hx2 (by decide), bnd_one, h3, show (2 : Int32) = nI 2 from rfl, m_ald h (by decide) (by decide), h2, if_neg (nI_ge (by omega) (by omega)), m_boatOf h 3 3 rfl hx2 (by decide), bnd_one, h3, iQ, show (1 : Int32) = nI 1 from rfl, nI_add, m_ald h (by omega) (by decide), show 74 + 25 * l + 1 = 74 + 25 * l + 1 + 0 by rfl, p1, m_sets h (6 + nI ab.length) (6 + ab.length) (by rw [show (6 : Int32) = nI 6 from rfl, nI_add]) hx2 (by omega), bnd_one, m_boatOf h 3 3 rfl hx2 (by decide), bnd_one, upN_n _ _ (by omega), h3, nI_add, m_sets h 3 3 rfl hx2 (by decide), bnd_one, m_ck ho]
      have hw1 : KW (p :: q) (74 + 25 * l) (upN (upN g (50 + 12 * x + (6 + ab.length)) (nI p.1)) (50 + 12 * x + 3) (nI (ab.length + 1))) := by
        refine ⟨by rw [upN_n _ _ (by omega), upN_n _ _ (by omega)]; exact hw.1, fun j e hj => ?_⟩
        have hjl := gE hj
        have hh := hw.2 j e hj
        exact ⟨by rw [upN_n _ _ (by omega), upN_n _ _ (by omega)]; exact hh.1, by rw [upN_n _ _ (by omega), upN_n _ _ (by omega)]; exact hh.2⟩
      obtain ⟨g1, c1, c2, c3⟩ := m_walks (N := N) (o := o) h hl (by simpa using hq) (i := 0) (by simp) hN hw1
      rw [show nI 0 = (0 : Int32) from rfl] at c1
      rw [c1, bnd_one]
      have hlen : (ab ++ [p.1]).length = ab.length + 1 := by simp
      obtain ⟨g', d1, d2, d3, d4, d5⟩ := ih q (ab ++ [p.1]) fu g1 (by rw [hlen]; omega) (by omega) (by omega) (by rw [c3 _ (by omega), upN_n _ _ (by omega), upN_n _ _ (by omega)]; exact h2) c2 (by rw [c3 _ (by omega), upN_s, hlen]) (by rw [hlen]; omega) (fun j t hj => by
        rcases gpush hj with ⟨j1, j2⟩ | ⟨j1, j2⟩
        · rw [c3 _ (by omega), upN_n _ _ (by omega), upN_n _ _ (by omega)]; exact hab j t j2
        · subst j1; subst j2
          rw [c3 _ (by omega), upN_n _ _ (by omega), show 50 + 12 * x + 6 + ab.length = 50 + 12 * x + (6 + ab.length) by omega, upN_s])
      refine ⟨g', d1, by simpa using d2, ?_, fun j t hj => ?_, fun j j1 j2 j3 => ?_⟩
      · rw [d3]; simp
      · exact d4 j t (by simpa using hj)
      · rw [d5 j j1 j2 j3, c3 j j1, upN_n _ _ j2, upN_n _ _ (by omega)]
theorem m_boards (h : AI M a 174) {S : SP} {g : Nat → Int32} {o : Nat} (ho : (M.1 o).1 = 16) (hk : KRel K0 S g) (wf : WF S) {x : Nat} (hx : x < sn S 4) (hN : 20 ≤ N) : ∃ g', f_X12_boards N o a (nI x) (sG M a g) = some ((), sG M a g') ∧ KRel K0 (boardB S x) g' := by
  have h2 := wf.1.2.2.2.2.1.2
  have hL := wf.1.1
  obtain ⟨w1, w2, w3, w4, w5, w6, w7⟩ := wf.2.1 x hx
  obtain ⟨b1, b2, b3, b4, b5, b6, b7⟩ := hk.2.2.2.2.1 x hx
  have h6 := B6 wf hx
  obtain ⟨N', hN', -⟩ := fuel_s hN
  unfold f_X12_boards boardB
  rw [m_boatOf h 0 0 rfl (by omega) (by decide), bnd_one, Nat.add_zero, b1]
  by_cases hz : (sB S x).2.1 = 0
  · rw [if_pos hz, if_neg (by simpa using hz)]
    rw [if_pos hz] at b1 b2
    have hKQ := hk.2.2.2.2.2 (sB S x).1 (by omega)
    have hq := WF_q12 wf (sB S x).1
    obtain ⟨g', d1, d2, d3, d4, d5⟩ := s_mboards (N := N) h ho (x := x) (l := (sB S x).1) (st := sn S 2) (by omega) (by omega) wf.1.2.2.1.2 hN (nbd S x) ((sQ S (sB S x).1).map (aged (sn S 3 + K0 (sB S x).1))) (sB S x).2.2 N g (by rw [List.length_map]; rfl) (by unfold nbd; omega) (by rw [List.length_map]; exact hq) hk.1.2.2.1 (KW_of_KQ hKQ) b4 h6 b7
    refine ⟨g', d1, ?_⟩
    have htk : ((sQ S (sB S x).1).map (aged (sn S 3 + K0 (sB S x).1))).take (nbd S x) = ((sQ S (sB S x).1).take (nbd S x)).map (aged (sn S 3 + K0 (sB S x).1)) := List.map_take.symm
    have hdr : ((sQ S (sB S x).1).map (aged (sn S 3 + K0 (sB S x).1))).drop (nbd S x) = ((sQ S (sB S x).1).drop (nbd S x)).map (aged (sn S 3 + K0 (sB S x).1)) := List.map_drop.symm
    have hmm : ((sQ S (sB S x).1).take (nbd S x)).map (Prod.fst ∘ aged (sn S 3 + K0 (sB S x).1)) = ((sQ S (sB S x).1).take (nbd S x)).map Prod.fst := rfl
    rw [htk, List.map_map, hmm] at d3 d4
    rw [hdr] at d2
    -- the boat first, its queue as it was; then the queue
    have hkB : KRel K0 (ssB S x ((sB S x).1, 0, (sB S x).2.2 ++ ((sQ S (sB S x).1).take (nbd S x)).map Prod.fst)) (fun j => if 74 ≤ j then g j else g' j) := by
      have hb : ∀ j, j < 12 → (fun j => if 74 ≤ j then g j else g' j) (50 + 12 * x + j) = g' (50 + 12 * x + j) := fun j hj => if_neg (by omega)
      refine K_B hk wf hx (fun j hj => ?_) ?_
      · by_cases h74 : 74 ≤ j
        · exact if_pos h74
        · simp only [if_neg h74]
          exact d5 j (by omega) (by omega) (by omega)
      · have hb0 := hb 0 (by decide)
        rw [Nat.add_zero] at hb0
        have hlen : ((sB S x).2.2 ++ ((sQ S (sB S x).1).take (nbd S x)).map Prod.fst).length ≤ 6 := by
          have := wf.1.2.2.1.2
          simp only [List.length_append, List.length_map, List.length_take]
          unfold nbd
          omega
        refine ⟨?_, ?_, ?_, ?_, ?_, ?_, fun j t hj => ?_⟩
        · rw [hb0, if_pos rfl, d5 _ (by omega) (by omega) (by omega)]; exact b1
        · rw [hb _ (by decide), if_pos rfl, d5 _ (by omega) (by omega) (by omega)]; exact b2
        · rw [hb _ (by decide), d5 _ (by omega) (by omega) (by omega), b3, hz]
        · rw [hb _ (by decide), d3]
        · rw [hb _ (by decide), d5 _ (by omega) (by omega) (by omega)]; exact b5
        · rw [hb _ (by decide), d5 _ (by omega) (by omega) (by omega)]; exact b6
        · have hjl := gE hj
          have hjl' : j < ((sB S x).2.2 ++ ((sQ S (sB S x).1).take (nbd S x)).map Prod.fst).length := hjl
          rw [show 50 + 12 * x + 6 + j = 50 + 12 * x + (6 + j) by omega, hb _ (by omega), show 50 + 12 * x + (6 + j) = 50 + 12 * x + 6 + j by omega]
          exact d4 j t hj
    have wfB : WF (ssB S x ((sB S x).1, 0, (sB S x).2.2 ++ ((sQ S (sB S x).1).take (nbd S x)).map Prod.fst)) := by
      obtain ⟨q1, q2, q3, q4⟩ := wf.2.2 (sB S x).1
      have htk : ∀ t ∈ ((sQ S (sB S x).1).take (nbd S x)).map Prod.fst, t < sn S 1 ∧ sf S t 0 = (sB S x).1 := by
        intro t ht
        obtain ⟨p, hp, rfl⟩ := List.mem_map.mp ht
        have := q3 p (List.mem_of_mem_take hp)
        exact ⟨this.1, this.2.1⟩
      refine WF_ssB wf w1 (show 0 ≤ 9 by decide) ?_ ?_ ?_
      · simp only [List.length_append, List.length_map, List.length_take]
        unfold nbd
        omega
      · intro t ht
        rcases List.mem_append.mp ht with ht | ht
        · exact w4 t ht
        · exact (htk t ht).1
      · intro _ t ht
        rcases List.mem_append.mp ht with ht | ht
        · exact w5 hz t ht
        · obtain ⟨t1, t2⟩ := htk t ht
          have := (wf.1.2.2.2.2.2.1 t t1).2.2.1
          rw [t2] at this
          exact Ne.symm this
    refine K_Q hkB wfB (by omega) (fun j hj => ?_) (KQ_of_KW d2)
    by_cases h74 : 74 ≤ j
    · simp only [if_pos h74]
      exact d5 j hj (by omega) (by omega)
    · simp only [if_neg h74]
  · rw [if_neg hz, if_pos hz, hN']
    show ∃ g', b_X12_boards_7 (N' + 1) (l_X12_boards_7 (N' + 1) N') _ _ _ _ _ = _ ∧ _
    unfold b_X12_boards_7
    rw [if_pos (by decide)]
    exact ⟨g, rfl, hk⟩
-- waiting
def stW (mn : Nat) (W : Nat → Nat) (p : Nat × Nat) : Bool := decide (p.2 + 1 < W p.1)
theorem s_mwait11 (h : AI M a 174) {o : Nat} (ho : (M.1 o).1 = 16) {l ns : Nat} (hl : l < 4) (h5 : ns ≤ 5) (W : Nat → Nat) (hW : ∀ t, W t < 100) (hN : 20 ≤ N) (k2 : Nat → Nat → Int32 → Mm → Option (Unit × Mm)) :
    ∀ (rest kp : List (Nat × Nat)) (fu : Nat) (g : Nat → Int32), rest.length + 1 ≤ fu → (kp ++ rest).length ≤ 12 → (∀ t, t < ns → g (25 + 5 * t + 3) = nI (W t)) → (∀ p ∈ rest, p.1 < ns ∧ p.2 < 10000) → KW (kp ++ rest) (74 + 25 * l) g →
    ∃ g', l_X12_waits_11 N k2 fu o a (nI l) (nI kp.length) (sG M a g) = k2 o a (nI (l + 1)) (sG M a g') ∧ KW (kp ++ (rest.filter (fun p => decide (p.2 + 1 < W p.1))).map (fun p => (p.1, p.2 + 1))) (74 + 25 * l) g' ∧ (∀ j, j ≠ 5 → j ≠ 6 → (j < 74 + 25 * l ∨ 74 + 25 * l + 25 ≤ j) → g' j = g j) ∧ g' 5 = g 5 + nI rest.length ∧ g' 6 = g 6 + nI (rest.length - (rest.filter (fun p => decide (p.2 + 1 < W p.1))).length) := by
  intro rest
  induction rest with
  | nil =>
    intro kp fu g hf h12 hS hr hw
    obtain ⟨fu, rfl, -⟩ := fuel_s hf
    show ∃ g', b_X12_waits_11 N k2 (l_X12_waits_11 N k2 fu) _ _ _ _ _ = _ ∧ _
    unfold b_X12_waits_11
    rw [List.append_nil] at hw h12
    rw [m_standing h hl, bnd_one, hw.1, if_pos (nI_le (Nat.le_refl _) (by omega)), nI_1]
    refine ⟨g, rfl, by simpa using hw, fun j _ _ _ => rfl, by simp [nI_0], by simp [nI_0]⟩
  | cons p rest ih =>
    intro kp fu g hf h12 hS hr hw
    simp only [List.length_cons] at hf
    obtain ⟨fu, rfl, hf2⟩ := fuel_s hf
    have hlen : (kp ++ p :: rest).length = kp.length + rest.length + 1 := by simp; omega
    obtain ⟨hp1, hp2⟩ := hr p List.mem_cons_self
    have hwn := hw.1
    rw [hlen] at hwn
    have hpi : (kp ++ p :: rest)[kp.length]? = some p := by simp
    obtain ⟨e1, e2⟩ := hw.2 kp.length p hpi
    have hWp := hW p.1
    show ∃ g', b_X12_waits_11 N k2 (l_X12_waits_11 N k2 fu) _ _ _ _ _ = _ ∧ _
    unfold b_X12_waits_11
    rw [m_standing h hl, bnd_one, hwn, if_neg (nI_ge (by omega) (by omega)), iQ, show (13 : Int32) = nI 13 from rfl, nI_add, nI_add, m_ald h (by omega) (by decide), e2, m_ast h (by omega) (by decide), show (5 : Int32) = nI 5 from rfl, m_ald h (by decide) (by decide), upN_n _ _ (by omega), m_ast h (by decide) (by decide), m_ald h (by omega) (by decide), upN_n _ _ (by omega), upN_s, show (1 : Int32) = nI 1 from rfl, nI_add, nI_add, nI_add, m_ald h (by omega) (by decide), upN_n _ _ (by omega), upN_n _ _ (by omega), e1, m_get h 3 3 rfl (by omega) (by decide), bnd_one, upN_n _ _ (by omega), upN_n _ _ (by omega), hS p.1 hp1]
    have hS' : ∀ t, t < ns → upN (upN g (74 + 25 * l + 13 + kp.length) (nI (p.2 + 1))) 5 (g 5 + nI 1) (25 + 5 * t + 3) = nI (W t) := fun t ht => by rw [upN_n _ _ (by omega), upN_n _ _ (by omega)]; exact hS t ht
    have hkw : KW (kp ++ (p.1, p.2 + 1) :: rest) (74 + 25 * l) (upN (upN g (74 + 25 * l + 13 + kp.length) (nI (p.2 + 1))) 5 (g 5 + nI 1)) := by
      have hlen' : (kp ++ (p.1, p.2 + 1) :: rest).length = kp.length + rest.length + 1 := by simp; omega
      refine ⟨by rw [upN_n _ _ (by omega), upN_n _ _ (by omega), hlen']; exact hwn, fun j e hj => ?_⟩
      have hjl := gE hj
      rw [hlen'] at hjl
      by_cases hjk : j = kp.length
      · subst hjk
        have : e = (p.1, p.2 + 1) := by
          have : (kp ++ (p.1, p.2 + 1) :: rest)[kp.length]? = some (p.1, p.2 + 1) := by simp
          rw [this] at hj
          exact (Option.some.inj hj).symm
        subst this
        exact ⟨by rw [upN_n _ _ (by omega), upN_n _ _ (by omega)]; exact e1, by rw [upN_n _ _ (by omega), upN_s]⟩
      · have hj' : (kp ++ p :: rest)[j]? = some e := by
          rcases Nat.lt_or_ge j kp.length with q | q
          · rw [List.getElem?_append_left q] at hj ⊢; exact hj
          · rw [List.getElem?_append_right q] at hj ⊢
            obtain ⟨i, hi⟩ : ∃ i, j - kp.length = i + 1 := ⟨j - kp.length - 1, by omega⟩
            rw [hi] at hj ⊢
            simpa using hj
        have hh := hw.2 j e hj'
        exact ⟨by rw [upN_n _ _ (by omega), upN_n _ _ (by omega)]; exact hh.1, by rw [upN_n _ _ (by omega), upN_n _ _ (by omega)]; exact hh.2⟩
    by_cases hc : p.2 + 1 < W p.1
    · rw [if_pos (nI_lt hc (by omega)), nI_add]
      have hlk : (kp ++ [(p.1, p.2 + 1)]).length = kp.length + 1 := by simp
      obtain ⟨g', c1, c2, c3, c4, c5⟩ := ih (kp ++ [(p.1, p.2 + 1)]) fu _ (by omega) (by rw [List.append_assoc]; simpa using h12) hS' (fun p' hp' => hr p' (List.mem_cons_of_mem _ hp')) (by rw [List.append_assoc]; exact hkw)
      rw [hlk] at c1
      have hfl : (p :: rest).filter (fun p => decide (p.2 + 1 < W p.1)) = p :: rest.filter (fun p => decide (p.2 + 1 < W p.1)) := List.filter_cons_of_pos (by simpa using hc)
      rw [hfl]
      refine ⟨g', c1, ?_, fun j j5 j6 hj => by rw [c3 j j5 j6 hj, upN_n _ _ j5, upN_n _ _ (by omega)], ?_, ?_⟩
      · rw [List.append_assoc] at c2; exact c2
      · rw [c4, upN_s, Int32.add_assoc, nI_add]
        simp only [List.length_cons]
        rw [Nat.add_comm]
      · rw [c5, upN_n _ _ (by omega), upN_n _ _ (by omega)]
        simp only [List.length_cons]
        rw [show rest.length + 1 - ((rest.filter (fun p => decide (p.2 + 1 < W p.1))).length + 1) = rest.length - (rest.filter (fun p => decide (p.2 + 1 < W p.1))).length by omega]
    · have hfl : (p :: rest).filter (fun p => decide (p.2 + 1 < W p.1)) = rest.filter (fun p => decide (p.2 + 1 < W p.1)) := List.filter_cons_of_neg (by simpa using hc)
      have hfle := List.length_filter_le (fun p : Nat × Nat => decide (p.2 + 1 < W p.1)) rest
      rw [if_neg (fun e => hc ((nI_ltI (by omega) (by omega)).mp e)), show (6 : Int32) = nI 6 from rfl, m_ald h (by decide) (by decide), m_ast h (by decide) (by decide), upN_n _ _ (by omega), upN_n _ _ (by omega), m_ck ho]
      have hlen' : (kp ++ (p.1, p.2 + 1) :: rest).length = kp.length + rest.length + 1 := by simp; omega
      have hkw2 : KW (kp ++ (p.1, p.2 + 1) :: rest) (74 + 25 * l) (upN (upN (upN g (74 + 25 * l + 13 + kp.length) (nI (p.2 + 1))) 5 (g 5 + nI 1)) 6 (g 6 + nI 1)) := by
        refine ⟨by rw [upN_n _ _ (by omega)]; exact hkw.1, fun j e hj => ?_⟩
        have hh := hkw.2 j e hj
        exact ⟨by rw [upN_n _ _ (by omega)]; exact hh.1, by rw [upN_n _ _ (by omega)]; exact hh.2⟩
      obtain ⟨g1, d1, d2, d3⟩ := m_walks (N := N) (o := o) h hl (i := kp.length) (by omega) (by omega) hN hkw2
      rw [d1, bnd_one]
      have her : (kp ++ (p.1, p.2 + 1) :: rest).eraseIdx kp.length = kp ++ rest := by
        rw [List.eraseIdx_append_of_length_le (Nat.le_refl _)]; simp
      rw [her] at d2
      obtain ⟨g', c1, c2, c3, c4, c5⟩ := ih kp fu g1 (by omega) (by simp at h12 ⊢; omega) (fun t ht => by rw [d3 _ (by omega), upN_n _ _ (by omega)]; exact hS' t ht) (fun p' hp' => hr p' (List.mem_cons_of_mem _ hp')) d2
      rw [hfl]
      refine ⟨g', c1, c2, fun j j5 j6 hj => by rw [c3 j j5 j6 hj, d3 j hj, upN_n _ _ j6, upN_n _ _ j5, upN_n _ _ (by omega)], ?_, ?_⟩
      · rw [c4, d3 _ (by omega), upN_n _ _ (by omega), upN_s, Int32.add_assoc, nI_add]
        simp only [List.length_cons]
        rw [Nat.add_comm]
      · rw [c5, d3 _ (by omega), upN_s, Int32.add_assoc, nI_add]
        simp only [List.length_cons]
        rw [show 1 + (rest.length - (rest.filter (fun p => decide (p.2 + 1 < W p.1))).length) = rest.length + 1 - (rest.filter (fun p => decide (p.2 + 1 < W p.1))).length by omega]
end MMIN
