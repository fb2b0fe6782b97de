/-! The model: queues, coming, landing, boarding. -/
def KW (q : List (Nat × Nat)) (c : Nat) (g : Nat → Int32) : Prop := g c = nI q.length ∧ ∀ j p, q[j]? = some p → g (c + 1 + j) = nI p.1 ∧ g (c + 13 + j) = nI p.2
def aged (mn : Nat) (p : Nat × Nat) : Nat × Nat := (p.1, mn - p.2)
theorem KW_of_KQ {q : List (Nat × Nat)} {mn c : Nat} {g : Nat → Int32} (h : KQ q mn c g) : KW (q.map (aged mn)) c g := by
  refine ⟨by rw [List.length_map]; exact h.1, fun j p hj => ?_⟩
  rw [List.getElem?_map] at hj
  cases hq : q[j]? with
  | none => rw [hq] at hj; cases hj
  | some e =>
    rw [hq] at hj
    cases hj
    exact h.2 j e hq
theorem KQ_of_KW {q : List (Nat × Nat)} {mn c : Nat} {g : Nat → Int32} (h : KW (q.map (aged mn)) c g) : KQ q mn c g := by
  refine ⟨by rw [h.1, List.length_map], fun j p hj => ?_⟩
  exact h.2 j (aged mn p) (by rw [List.getElem?_map, hj]; rfl)
section MWALK
variable {M : Mm} {a : Nat} {N : Nat} {S : SP} {D : Nat → Nat}
theorem s_walks (h : AI M a 174) {c : Nat} (hc : c + 25 ≤ 174) (q : List (Nat × Nat)) (hq : q.length ≤ 12) (i : Nat) :
    ∀ (k j fu : Nat) (g : Nat → Int32), k + j + 1 = q.length → i ≤ j → k + 1 ≤ fu → g c = nI q.length → (∀ p e, (q.eraseIdx i)[p]? = some e → p < j → g (c + 1 + p) = nI e.1 ∧ g (c + 13 + p) = nI e.2) → (∀ p e, q[p]? = some e → j < p → g (c + 1 + p) = nI e.1 ∧ g (c + 13 + p) = nI e.2) → ∃ g', l_X12_walks_12 N fu a (nI c) (nI j) (sG M a g) = some ((), sG M a g') ∧ KW (q.eraseIdx i) c g' ∧ ∀ p, (p < c ∨ c + 25 ≤ p) → g' p = g p := by
  intro k
  induction k with
  | zero =>
    intro j fu g hk hij hf hn h1 h2
    obtain ⟨fu, rfl, -⟩ := fuel_s hf
    show ∃ g', b_X12_walks_12 N (l_X12_walks_12 N fu) _ _ _ _ = _ ∧ _
    unfold b_X12_walks_12
    have hm : nI q.length - 1 = nI (q.length - 1) := by rw [show (1 : Int32) = nI 1 from rfl, pk_sub (by omega)]
    have hel : (q.eraseIdx i).length = q.length - 1 := by rw [List.length_eraseIdx, if_pos (by omega)]
    rw [m_ald h (by omega) (by decide), hn, hm, if_pos (nI_le (by omega) (by omega)), m_ald h (by omega) (by decide), hn, hm, m_ast h (by omega) (by decide)]
    refine ⟨_, rfl, ⟨by rw [upN_s, hel], fun p e hp => ?_⟩, fun p hp => upN_n _ _ (by omega)⟩
    have hpl := gE hp
    rw [upN_n _ _ (by omega), upN_n _ _ (by omega)]
    exact h1 p e hp (by omega)
  | succ k ih =>
    intro j fu g hk hij hf hn h1 h2
    obtain ⟨fu, rfl, hf2⟩ := fuel_s hf
    show ∃ g', b_X12_walks_12 N (l_X12_walks_12 N fu) _ _ _ _ = _ ∧ _
    unfold b_X12_walks_12
    have hm : nI q.length - 1 = nI (q.length - 1) := by rw [show (1 : Int32) = nI 1 from rfl, pk_sub (by omega)]
    obtain ⟨e, he⟩ : ∃ e, q[j + 1]? = some e := ⟨_, List.getElem?_eq_getElem (by omega)⟩
    obtain ⟨e1, e2⟩ := h2 (j + 1) e he (by omega)
    rw [m_ald h (by omega) (by decide), hn, hm, if_neg (nI_ge (by omega) (by omega)), show (2 : Int32) = nI 2 from rfl, show (1 : Int32) = nI 1 from rfl, show (14 : Int32) = nI 14 from rfl, show (13 : Int32) = nI 13 from rfl, nI_add, nI_add, nI_add, nI_add, nI_add, nI_add, nI_add, nI_add, m_ald h (by omega) (by decide), show c + 2 + j = c + 1 + (j + 1) by omega, e1, m_ast h (by omega) (by decide), m_ald h (by omega) (by decide), upN_n _ _ (by omega), show c + 14 + j = c + 13 + (j + 1) by omega, e2, m_ast h (by omega) (by decide), nI_add]
    obtain ⟨g', c1, c2, c3⟩ := ih (j + 1) fu (upN (upN g (c + 1 + j) (nI e.1)) (c + 13 + j) (nI e.2)) (by omega) (by omega) (by omega) (by rw [upN_n _ _ (by omega), upN_n _ _ (by omega)]; exact hn) (fun p e' hp hpj => by
      by_cases hpe : p = j
      · subst hpe
        have : e' = e := by
          rw [List.getElem?_eraseIdx, if_neg (by omega), he] at hp
          exact (Option.some.inj hp).symm
        subst this
        exact ⟨by rw [upN_n _ _ (by omega), upN_s], by rw [upN_s]⟩
      · have hpl := gE hp
        have hel : (q.eraseIdx i).length = q.length - 1 := by rw [List.length_eraseIdx, if_pos (by omega)]
        rw [upN_n _ _ (by omega), upN_n _ _ (by omega), upN_n _ _ (by omega), upN_n _ _ (by omega)]
        exact h1 p e' hp (by omega)) (fun p e' hp hpj => by
      have hpl := gE hp
      rw [upN_n _ _ (by omega), upN_n _ _ (by omega), upN_n _ _ (by omega), upN_n _ _ (by omega)]
      exact h2 p e' hp (by omega))
    exact ⟨g', c1, c2, fun p hp => by rw [c3 p hp, upN_n _ _ (by omega), upN_n _ _ (by omega)]⟩
theorem m_walks (h : AI M a 174) {o l i : Nat} (hl : l < 4) {q : List (Nat × Nat)} {g : Nat → Int32} (hq : q.length ≤ 12) (hi : i < q.length) (hN : 20 ≤ N) (hw : KW q (74 + 25 * l) g) : ∃ g', f_X12_walks N o a (nI l) (nI i) (sG M a g) = some ((), sG M a g') ∧ KW (q.eraseIdx i) (74 + 25 * l) g' ∧ ∀ p, (p < 74 + 25 * l ∨ 74 + 25 * l + 25 ≤ p) → g' p = g p := by
  unfold f_X12_walks
  rw [iQ]
  exact s_walks h (by omega) q hq i (q.length - 1 - i) i N g (by omega) (Nat.le_refl _) (by omega) hw.1 (fun p e hp hpi => by
    rw [List.getElem?_eraseIdx, if_pos hpi] at hp
    exact hw.2 p e hp) (fun p e hp _ => hw.2 p e hp)
-- coming
theorem s_mcome (h : AI M a 174) : ∀ (k t : Nat) (S : SP) (g : Nat → Int32) (fu : Nat), t + k = sn S 1 → k + 1 ≤ fu → KRel K0 S g → WF S → ∃ g', l_X12_come_2 N fu a (nI t) (sG M a g) = some ((), sG M a g') ∧ KRel K0 (comeN S k t) g' := by
  intro k
  induction k with
  | zero =>
    intro t S g fu hkt hf hk wf
    obtain ⟨fu, rfl, -⟩ := fuel_s hf
    have h5 := wf.1.2.1
    show ∃ g', b_X12_come_2 N (l_X12_come_2 N fu) _ _ _ = _ ∧ _
    unfold b_X12_come_2
    rw [show (1 : Int32) = nI 1 from rfl, m_ald h (by decide) (by decide), hk.1.2.1, if_pos (nI_le (by omega) (by omega))]
    exact ⟨g, rfl, hk⟩
  | succ k ih =>
    intro t S g fu hkt hf hk wf
    obtain ⟨fu, rfl, hf2⟩ := fuel_s hf
    have h5 := wf.1.2.1
    have hL := wf.1.1
    have ht : t < sn S 1 := by omega
    have hsf := wf.1.2.2.2.2.2.1 t ht
    show ∃ g', b_X12_come_2 N (l_X12_come_2 N fu) _ _ _ = _ ∧ KRel K0 (comeN (come1 S t) k (t + 1)) g'
    unfold b_X12_come_2
    have hz : g 4 = sc S 0 := hk.2.1.1
    have hk1 : KRel K0 (ssc S 0 (zN (sc S 0))) (upN g 4 (zN (sc S 0))) := K_c hk wf (k := 0) (by decide)
    have wf1 : WF (ssc S 0 (zN (sc S 0))) := WF_ssc wf _ _
    have hsn1 : t + 1 + k = sn (come1 S t) 1 := by rw [sne (sn_come1 t) 1]; omega
    have hcm : come1 S t = if nI (sf S t 2) ≤ zV (zN (sc S 0)) then ssc S 0 (zN (sc S 0)) else comeQ (ssc S 0 (zN (sc S 0))) t := rfl
    have hv : (zN (sc S 0) &&& 2147483647) / 65536 - (zN (sc S 0) &&& 2147483647) / 65536 / 100 * 100 = zV (zN (sc S 0)) := rfl
    have hzn : sc S 0 * 1103515245 + 12345 = zN (sc S 0) := rfl
    rw [show (1 : Int32) = nI 1 from rfl, m_ald h (by decide) (by decide), hk.1.2.1, if_neg (nI_ge (by omega) (by omega)), show (4 : Int32) = nI 4 from rfl, m_ald h (by decide) (by decide), hz, m_ast h (by decide) (by decide), hzn, m_ald h (by decide) (by decide), upN_s, hv, m_get h 2 2 rfl (by omega) (by decide), bnd_one, m_sort hk1 (w := 2) ht (by decide)]
    have hsf2 : sf (ssc S 0 (zN (sc S 0))) t 2 = sf S t 2 := rfl
    have hsf0 : sf (ssc S 0 (zN (sc S 0))) t 0 = sf S t 0 := rfl
    rw [hsf2]
    by_cases hc : nI (sf S t 2) ≤ zV (zN (sc S 0))
    · rw [if_neg (Int32.not_lt.mpr hc), nI_add]
      rw [if_pos hc] at hcm
      exact ih (t + 1) (come1 S t) _ fu hsn1 (by omega) (by rw [hcm]; exact hk1) (by rw [hcm]; exact wf1)
    · rw [if_pos (Int32.not_le.mp hc)]
      rw [if_neg hc] at hcm
      have hl4 : sf S t 0 < 4 := by omega
      have hq := WF_q12 wf (sf S t 0)
      have hKQ := hk1.2.2.2.2.2 (sf S t 0) hl4
      have hQQ : sQ (ssc S 0 (zN (sc S 0))) = sQ S := rfl
      have hMM : sn (ssc S 0 (zN (sc S 0))) = sn S := rfl
      rw [hQQ, hMM] at hKQ
      rw [m_get h 0 0 rfl (by omega) (by decide), bnd_one, m_sort hk1 (w := 0) ht (by decide), hsf0, iQ, m_ald h (by omega) (by decide), hKQ.1, show (12 : Int32) = nI 12 from rfl]
      by_cases hlt : (sQ S (sf S t 0)).length < 12
      · rw [if_neg (fun q => by have := (nI_eq (by omega) (by omega)).mp q; omega), m_ald h (by omega) (by decide), hKQ.1, nI_add, nI_add, m_ast h (by omega) (by decide), m_ald h (by omega) (by decide), upN_n _ _ (by omega), hKQ.1, show (13 : Int32) = nI 13 from rfl, nI_add, nI_add, m_ast h (by omega) (by decide), m_ald h (by omega) (by decide), upN_n _ _ (by omega), upN_n _ _ (by omega), hKQ.1, m_ast h (by omega) (by decide), nI_add, nI_add]
        have hcm2 : come1 S t = ssQ (ssc S 0 (zN (sc S 0))) (sf S t 0) (sQ S (sf S t 0) ++ [(t, sn S 3)]) := by
          rw [hcm]; unfold comeQ
          rw [hsf0, hQQ, if_pos hlt]; rfl
        refine ih (t + 1) (come1 S t) _ fu hsn1 (by omega) ?_ (by rw [hcm]; exact WF_comeQ wf1 ht)
        rw [hcm2]
        refine K_Q hk1 wf1 hl4 (fun j hj => ?_) ⟨?_, fun j p hj => ?_⟩
        · rw [upN_n _ _ (by omega), upN_n _ _ (by omega), upN_n _ _ (by omega)]
        · rw [upN_s]; simp
        · rcases gpush hj with ⟨j1, j2⟩ | ⟨j1, j2⟩
          · have hh := hKQ.2 j p j2
            exact ⟨by rw [upN_n _ _ (by omega), upN_n _ _ (by omega), upN_n _ _ (by omega)]; exact hh.1, by rw [upN_n _ _ (by omega), upN_n _ _ (by omega), upN_n _ _ (by omega)]; exact hh.2⟩
          · subst j1; subst j2
            refine ⟨by rw [upN_n _ _ (by omega), upN_n _ _ (by omega), upN_s], ?_⟩
            rw [upN_n _ _ (by omega), upN_s]
            show (0 : Int32) = nI (sn S 3 + 0 - sn S 3)
            rw [Nat.add_zero, Nat.sub_self]; rfl
      · have h12 : (sQ S (sf S t 0)).length = 12 := by omega
        have hcm2 : come1 S t = ssc (ssc S 0 (zN (sc S 0))) 2 (sc S 2 + 1) := by
          rw [hcm]; unfold comeQ
          rw [hsf0, hQQ, if_neg hlt]; rfl
        rw [if_pos (by rw [h12]), show (6 : Int32) = nI 6 from rfl, m_ald h (by decide) (by decide), m_ast h (by decide) (by decide), nI_add]
        refine ih (t + 1) (come1 S t) _ fu hsn1 (by omega) ?_ (by rw [hcm]; exact WF_comeQ wf1 ht)
        rw [hcm2]
        have h6 : upN g 4 (zN (sc S 0)) 6 = sc S 2 := by rw [upN_n _ _ (by decide)]; exact hk.2.1.2.2.1
        rw [h6]
        exact K_c hk1 wf1 (k := 2) (by decide)
theorem m_come (h : AI M a 174) {o : Nat} {g : Nat → Int32} (hk : KRel K0 S g) (wf : WF S) (hN : 20 ≤ N) : ∃ g', f_X12_come N o a (sG M a g) = some ((), sG M a g') ∧ KRel K0 (comeS S) g' := by
  have h5 := wf.1.2.1
  unfold f_X12_come comeS
  exact s_mcome h (sn S 1) 0 S g N (by omega) (by omega) hk wf
-- landing
theorem s_mlands (h : AI M a 174) (wf : WF S) {x p : Nat} (hx2 : x < 2) (hp : p < 4) :
    ∀ (rest kp : List Nat) (i fu n : Nat) (g : Nat → Int32), i + rest.length = n → n ≤ 6 → kp.length ≤ i → rest.length + 1 ≤ fu → (∀ t ∈ rest, t < sn S 1) → (∀ t k, t < sn S 1 → k < 5 → g (25 + 5 * t + k) = nI (sf S t k)) → g (50 + 12 * x + 3) = nI n → (∀ j t, kp[j]? = some t → g (50 + 12 * x + 6 + j) = nI t) → (∀ j t, rest[j]? = some t → g (50 + 12 * x + 6 + (i + j)) = nI t) →
    ∃ g', l_X12_lands_61 N fu a (nI x) (nI p) (nI kp.length) (nI i) (sG M a g) = some ((), sG M a g') ∧ (∀ j, j ≠ 7 → j ≠ 8 → j ≠ 50 + 12 * x + 3 → (j < 50 + 12 * x + 6 ∨ 50 + 12 * x + 12 ≤ j) → g' j = g j) ∧ g' (50 + 12 * x + 3) = nI (kp ++ rest.filter (fun t => decide (sf S t 1 ≠ p))).length ∧ (∀ j t, (kp ++ rest.filter (fun t => decide (sf S t 1 ≠ p)))[j]? = some t → g' (50 + 12 * x + 6 + j) = nI t) ∧ (g' 7, g' 8) = paid S p rest (g 7, g 8) := by
  have h5 := wf.1.2.1
  intro rest
  induction rest with
  | nil =>
    intro kp i fu n g hi hn hkl hf hrs hS h3 hkp hrest
    obtain ⟨fu, rfl, -⟩ := fuel_s hf
    simp at hi
    show ∃ g', b_X12_lands_61 N (l_X12_lands_61 N fu) _ _ _ _ _ _ = _ ∧ _
    unfold b_X12_lands_61
    rw [m_boatOf h 3 3 rfl (by omega) (by decide), bnd_one, h3, if_pos (nI_le (by omega) (by omega)), m_sets h 3 3 rfl (by omega) (by decide), bnd_one]
    refine ⟨_, rfl, fun j j7 j8 j3 hj => upN_n _ _ j3, by rw [upN_s]; simp, fun j t hj => ?_, ?_⟩
    · simp at hj
      rw [upN_n _ _ (by omega)]; exact hkp j t hj
    · rw [upN_n _ _ (by omega), upN_n _ _ (by omega)]; rfl
  | cons t rest ih =>
    intro kp i fu n g hi hn hkl hf hrs hS h3 hkp hrest
    simp only [List.length_cons] at hi hf
    obtain ⟨fu, rfl, hf2⟩ := fuel_s hf
    have ht := hrs t List.mem_cons_self
    have hti := hrest 0 t rfl
    rw [Nat.add_zero i] at hti
    have hto := (wf.1.2.2.2.2.2.1 t ht).2.1
    have hL := wf.1.1
    have hnext : ∀ j t', rest[j]? = some t' → g (50 + 12 * x + 6 + (i + 1 + j)) = nI t' := fun j t' hj => by
      have := hrest (j + 1) t' hj
      rwa [show i + (j + 1) = i + 1 + j by omega] at this
    show ∃ g', b_X12_lands_61 N (l_X12_lands_61 N fu) _ _ _ _ _ _ = _ ∧ _
    unfold b_X12_lands_61
    rw [m_boatOf h 3 3 rfl (by omega) (by decide), bnd_one, h3, if_neg (nI_ge (by omega) (by omega)), m_boatOf h (6 + nI i) (6 + i) (by rw [show (6 : Int32) = nI 6 from rfl, nI_add]) (by omega) (by omega), bnd_one, show 50 + 12 * x + (6 + i) = 50 + 12 * x + 6 + i by omega, hti, m_get h 1 1 rfl (by omega) (by decide), bnd_one, hS t 1 ht (by decide)]
    by_cases hc : sf S t 1 = p
    · rw [if_pos (by rw [hc]), show (7 : Int32) = nI 7 from rfl, m_ald h (by decide) (by decide), m_get h 4 4 rfl (by omega) (by decide), bnd_one, hS t 4 ht (by decide), m_ast h (by decide) (by decide), show (8 : Int32) = nI 8 from rfl, m_ald h (by decide) (by decide), m_ast h (by decide) (by decide), nI_1, upN_n _ _ (show (8 : Nat) ≠ 7 by decide)]
      obtain ⟨g', c1, c2, c3, c4, c5⟩ := ih kp (i + 1) fu n (upN (upN g 7 (g 7 + nI (sf S t 4))) 8 (g 8 + 1)) (by omega) hn (by omega) (by omega) (fun t' ht' => hrs t' (List.mem_cons_of_mem _ ht')) (fun t' k ht' hk' => by rw [upN_n _ _ (by omega), upN_n _ _ (by omega)]; exact hS t' k ht' hk') (by rw [upN_n _ _ (by omega), upN_n _ _ (by omega)]; exact h3) (fun j t' hj => by rw [upN_n _ _ (by omega), upN_n _ _ (by omega)]; exact hkp j t' hj) (fun j t' hj => by rw [upN_n _ _ (by omega), upN_n _ _ (by omega)]; exact hnext j t' hj)
      have hfl : (t :: rest).filter (fun t => decide (sf S t 1 ≠ p)) = rest.filter (fun t => decide (sf S t 1 ≠ p)) := List.filter_cons_of_neg (by simp [hc])
      rw [hfl]
      refine ⟨g', c1, fun j j7 j8 j3 hj => by rw [c2 j j7 j8 j3 hj, upN_n _ _ j8, upN_n _ _ j7], c3, c4, ?_⟩
      rw [c5, upN_s, upN_n _ _ (show (7 : Nat) ≠ 8 by decide), upN_s]
      show _ = if sf S t 1 = p then _ else _
      rw [if_pos hc]
    · rw [if_neg (fun q => hc ((nI_eq (by omega) (by omega)).mp q)), m_sets h (6 + nI kp.length) (6 + kp.length) (by rw [show (6 : Int32) = nI 6 from rfl, nI_add]) (by omega) (by omega), bnd_one, nI_1, nI_1, show 50 + 12 * x + (6 + kp.length) = 50 + 12 * x + 6 + kp.length by omega]
      have hlen : (kp ++ [t]).length = kp.length + 1 := by simp
      obtain ⟨g', c1, c2, c3, c4, c5⟩ := ih (kp ++ [t]) (i + 1) fu n (upN g (50 + 12 * x + 6 + kp.length) (nI t)) (by omega) hn (by omega) (by omega) (fun t' ht' => hrs t' (List.mem_cons_of_mem _ ht')) (fun t' k ht' hk' => by rw [upN_n _ _ (by omega)]; exact hS t' k ht' hk') (by rw [upN_n _ _ (by omega)]; exact h3) (fun j t' hj => by
        rcases gpush hj with ⟨j1, j2⟩ | ⟨j1, j2⟩
        · rw [upN_n _ _ (by omega)]; exact hkp j t' j2
        · subst j1; subst j2; exact upN_s _ _ _) (fun j t' hj => by rw [upN_n _ _ (by omega)]; exact hnext j t' hj)
      have hfl : (t :: rest).filter (fun t => decide (sf S t 1 ≠ p)) = t :: rest.filter (fun t => decide (sf S t 1 ≠ p)) := List.filter_cons_of_pos (by simp [hc])
      rw [hfl]
      rw [hlen] at c1
      rw [List.append_assoc, List.singleton_append] at c3 c4
      refine ⟨g', c1, fun j j7 j8 j3 hj => by rw [c2 j j7 j8 j3 hj, upN_n _ _ (by omega)], c3, c4, ?_⟩
      rw [c5, upN_n _ _ (by omega), upN_n _ _ (by omega)]
      show _ = if sf S t 1 = p then _ else _
      rw [if_neg hc]
theorem m_lands (h : AI M a 174) {o : Nat} {g : Nat → Int32} (hk : KRel K0 S g) (wf : WF S) {x : Nat} (hx : x < sn S 4) (hN : 20 ≤ N) : ∃ g', f_X12_lands N o a (nI x) (sG M a g) = some ((), sG M a g') ∧ KRel K0 (landB S x) g' := by
  have h2 := wf.1.2.2.2.2.1.2
  have hL := wf.1.1
  have h5 := wf.1.2.1
  obtain ⟨w1, w2, w3, w4, w5, w6, w7⟩ := wf.2.1 x hx
  have hB := hk.2.2.2.2.1 x hx
  obtain ⟨b1, b2, b3, b4, b5, b6, b7⟩ := hB
  have h6 := B6 wf hx
  unfold f_X12_lands landB
  rw [m_isAt h hx wf hk, bnd_one, b32_if]
  by_cases hz : (sB S x).2.1 = 0
  · rw [if_pos hz, if_pos hz]; exact ⟨g, rfl, hk⟩
  · rw [if_neg hz] at b1 b2
    rw [if_neg hz, if_neg hz, m_boatOf h 2 2 rfl (by omega) (by decide), bnd_one, b3, show (1 : Int32) = nI 1 from rfl, pk_sub (by omega), m_sets h 2 2 rfl (by omega) (by decide), bnd_one, m_boatOf h 2 2 rfl (by omega) (by decide), bnd_one, upN_s]
    by_cases h1 : (sB S x).2.1 = 1
    · rw [if_pos ((nI_le0 (by omega)).mpr (by omega)), if_neg (by simpa using h1), m_boatOf h (nI 1) 1 rfl (by omega) (by decide), bnd_one, upN_n _ _ (by omega), b2, m_sets h 0 0 rfl (by omega) (by decide), bnd_one, m_sets h (nI 1) 1 rfl (by omega) (by decide), bnd_one, Nat.add_zero]
      obtain ⟨g', c1, c2, c3, c4, c5⟩ := s_mlands (N := N) h wf (x := x) (p := (sB S x).1) (by omega) (by omega) (sB S x).2.2 [] 0 N (sB S x).2.2.length (upN (upN (upN g (50 + 12 * x + 2) (nI ((sB S x).2.1 - 1))) (50 + 12 * x) (nI (sB S x).1)) (50 + 12 * x + 1) (-4)) (by omega) h6 (by simp) (by omega) w4 (fun t k ht hk' => by rw [upN_n _ _ (by omega), upN_n _ _ (by omega), upN_n _ _ (by omega)]; exact hk.2.2.2.1 t k ht hk') (by rw [upN_n _ _ (by omega), upN_n _ _ (by omega), upN_n _ _ (by omega)]; exact b4) (fun j t hj => by simp at hj) (fun j t hj => by
        rw [upN_n _ _ (by omega), upN_n _ _ (by omega), upN_n _ _ (by omega), Nat.zero_add]; exact b7 j t hj)
      refine ⟨g', c1, ?_⟩
      rw [List.nil_append] at c3 c4
      rw [upN_n _ _ (by omega), upN_n _ _ (by omega), upN_n _ _ (by omega), upN_n _ _ (by omega), upN_n _ _ (by omega), upN_n _ _ (by omega), hk.2.1.2.2.2.1, hk.2.1.2.2.2.2] at c5
      have e7 : g' 7 = (paid S (sB S x).1 (sB S x).2.2 (sc S 3, sc S 4)).1 := by rw [← c5]
      have e8 : g' 8 = (paid S (sB S x).1 (sB S x).2.2 (sc S 3, sc S 4)).2 := by rw [← c5]
      rw [← e7, ← e8]
      have hfilt : (sB S x).2.2.filter (fun t => decide (sf S t 1 ≠ (sB S x).1)) = (sB S x).2.2.filter (fun t => decide (¬ sf S t 1 = (sB S x).1)) := rfl
      -- a row with the old counters, then the counters
      have hk0 : KRel K0 (ssB S x ((sB S x).1, 0, (sB S x).2.2.filter (fun t => decide (sf S t 1 ≠ (sB S x).1)))) (fun j => if j = 7 then sc S 3 else if j = 8 then sc S 4 else g' j) := by
        refine K_B hk wf hx (fun j hj => ?_) ?_
        · by_cases j7 : j = 7
          · subst j7; exact hk.2.1.2.2.2.1.symm
          · by_cases j8 : j = 8
            · subst j8; exact hk.2.1.2.2.2.2.symm
            · simp only [if_neg j7, if_neg j8]
              rw [c2 j j7 j8 (by omega) (by omega), upN_n _ _ (by omega), upN_n _ _ (by omega), upN_n _ _ (by omega)]
        · have hb : ∀ j, (fun j => if j = 7 then sc S 3 else if j = 8 then sc S 4 else g' j) (50 + 12 * x + j) = g' (50 + 12 * x + j) := fun j => by
            simp only
            rw [if_neg (by omega), if_neg (by omega)]
          have hb0 := hb 0
          rw [Nat.add_zero] at hb0
          refine ⟨?_, ?_, ?_, ?_, ?_, ?_, fun j t hj => ?_⟩
          · rw [hb0, if_pos rfl, c2 _ (by omega) (by omega) (by omega) (by omega), upN_n _ _ (by omega), upN_s]
          · rw [hb, if_pos rfl, c2 _ (by omega) (by omega) (by omega) (by omega), upN_s]
          · rw [hb, c2 _ (by omega) (by omega) (by omega) (by omega), upN_n _ _ (by omega), upN_n _ _ (by omega), upN_s, h1]
          · rw [hb, c3]
          · rw [hb, c2 _ (by omega) (by omega) (by omega) (by omega), upN_n _ _ (by omega), upN_n _ _ (by omega), upN_n _ _ (by omega)]; exact b5
          · rw [hb, c2 _ (by omega) (by omega) (by omega) (by omega), upN_n _ _ (by omega), upN_n _ _ (by omega), upN_n _ _ (by omega)]; exact b6
          · rw [show 50 + 12 * x + 6 + j = 50 + 12 * x + (6 + j) by omega, hb, show 50 + 12 * x + (6 + j) = 50 + 12 * x + 6 + j by omega]
            exact c4 j t hj
      have wfB : WF (ssB S x ((sB S x).1, 0, (sB S x).2.2.filter (fun t => decide (sf S t 1 ≠ (sB S x).1)))) := WF_ssB wf w1 (show 0 ≤ 9 by decide) (Nat.le_trans (List.length_filter_le _ _) w3) (fun t ht => w4 t (List.mem_filter.mp ht).1) (fun _ t ht => by
        have := (List.mem_filter.mp ht).2
        simpa using this)
      have hk2 := K_c (K_c hk0 wfB (k := 3) (v := g' 7) (by decide)) (WF_ssc wfB _ _) (k := 4) (v := g' 8) (by decide)
      have hfin : upN (upN (fun j => if j = 7 then sc S 3 else if j = 8 then sc S 4 else g' j) (4 + 3) (g' 7)) (4 + 4) (g' 8) = g' := by
        funext j
        simp only [upN]
        by_cases j8 : j = 8
        · subst j8; rfl
        · by_cases j7 : j = 7
          · subst j7; rfl
          · simp [j7, j8]
      rw [hfin] at hk2
      exact hk2
    · rw [if_neg (fun q => by have := (nI_le0 (by omega)).mp q; omega), if_pos h1]
      refine ⟨_, rfl, K_B hk wf hx (fun j hj => upN_n _ _ (by omega)) ?_⟩
      have n0 : ¬ (sB S x).2.1 - 1 = 0 := by omega
      refine ⟨?_, ?_, ?_, ?_, ?_, ?_, fun j t hj => ?_⟩
      · simp only [if_neg n0]; rw [upN_n _ _ (by omega)]; exact b1
      · simp only [if_neg n0]; rw [upN_n _ _ (by omega)]; exact b2
      · exact upN_s _ _ _
      · rw [upN_n _ _ (by omega)]; exact b4
      · rw [upN_n _ _ (by omega)]; exact b5
      · rw [upN_n _ _ (by omega)]; exact b6
      · rw [upN_n _ _ (by omega)]; exact b7 j t hj
end MWALK
