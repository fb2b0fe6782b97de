/-! The model: frames; asking. -/
section MFRAME
variable {M : Mm} {a : Nat} {g g' : Nat → Int32} {N : Nat} {S : SP} {D : Nat → Nat}
theorem B6 (wf : WF S) {x : Nat} (hx : x < sn S 4) : (sB S x).2.2.length ≤ 6 := Nat.le_trans (wf.2.1 x hx).2.2.1 wf.1.2.2.1.2
/-- a boat's change -/
theorem K_B (hk : KRel D S g) (wf : WF S) {x : Nat} (hx : x < sn S 4) {v : Nat × Nat × List Nat} (hf : ∀ j, (j < 50 + 12 * x ∨ 50 + 12 * x + 12 ≤ j) → g' j = g j) (hb : KB v (sK S x) (50 + 12 * x) g') : KRel D (ssB S x v) g' := by
  have h2 := wf.1.2.2.2.2.1.2
  have h5 := wf.1.2.1
  obtain ⟨a1, a2, a3, a4, a5, a6⟩ := hk
  have e : ∀ j, j < 50 → g' j = g j := fun j hj => hf j (by omega)
  refine ⟨?_, ?_, fun i hi => ?_, fun t k ht hk => ?_, fun y hy => ?_, fun l hl => ?_⟩
  · rw [e 0 (by decide), e 1 (by decide), e 2 (by decide), e 3 (by decide)]; exact a1
  · rw [e 4 (by decide), e 5 (by decide), e 6 (by decide), e 7 (by decide), e 8 (by decide)]; exact a2
  · rw [e _ (by omega)]; exact a3 i hi
  · have ht' : t < sn S 1 := ht
    rw [e _ (by omega)]; exact a4 t k ht hk
  · have hy' : y < sn S 4 := hy
    by_cases hxy : y = x
    · subst hxy
      have hB : sB (ssB S y v) y = v := upN_s _ _ _
      rw [hB]
      exact hb
    · have hB : sB (ssB S x v) y = sB S y := upN_n _ _ hxy
      rw [hB]
      exact KB_of (a5 y hy) (B6 wf hy) (fun j h1 h2 => hf j (by omega))
  · exact KQ_of (a6 l hl) (WF_q12 wf l) (fun j h1 h2 => hf j (by omega))
theorem K_Q (hk : KRel D S g) (wf : WF S) {l : Nat} (hl : l < 4) {v : List (Nat × Nat)} (hf : ∀ j, (j < 74 + 25 * l ∨ 74 + 25 * l + 25 ≤ j) → g' j = g j) (hb : KQ v (sn S 3 + D l) (74 + 25 * l) g') : KRel D (ssQ S l v) g' := by
  have h2 := wf.1.2.2.2.2.1.2
  have h5 := wf.1.2.1
  obtain ⟨a1, a2, a3, a4, a5, a6⟩ := hk
  have e : ∀ j, j < 74 → g' j = g j := fun j hj => hf j (by omega)
  refine ⟨?_, ?_, fun i hi => ?_, fun t k ht hk => ?_, fun y hy => ?_, fun l' hl' => ?_⟩
  · rw [e 0 (by decide), e 1 (by decide), e 2 (by decide), e 3 (by decide)]; exact a1
  · rw [e 4 (by decide), e 5 (by decide), e 6 (by decide), e 7 (by decide), e 8 (by decide)]; exact a2
  · rw [e _ (by omega)]; exact a3 i hi
  · have ht' : t < sn S 1 := ht
    rw [e _ (by omega)]; exact a4 t k ht hk
  · have hy' : y < sn S 4 := hy
    exact KB_of (a5 y hy) (B6 wf hy') (fun j h1 h2 => hf j (by omega))
  · by_cases hll : l' = l
    · subst hll
      have hQ : sQ (ssQ S l' v) l' = v := upN_s _ _ _
      rw [hQ]
      exact hb
    · have hQ : sQ (ssQ S l v) l' = sQ S l' := upN_n _ _ hll
      rw [hQ]
      exact KQ_of (a6 l' hl') (WF_q12 wf l') (fun j h1 h2 => hf j (by omega))
theorem K_c (hk : KRel D S g) (wf : WF S) {k : Nat} (hk5 : k < 5) {v : Int32} : KRel D (ssc S k v) (upN g (4 + k) v) := by
  have h2 := wf.1.2.2.2.2.1.2
  have h5 := wf.1.2.1
  obtain ⟨a1, a2, a3, a4, a5, a6⟩ := hk
  have e : ∀ j, (j < 4 ∨ 9 ≤ j) → upN g (4 + k) v j = g j := fun j hj => upN_n _ _ (by omega)
  refine ⟨?_, ?_, fun i hi => ?_, fun t k ht hk => ?_, fun y hy => ?_, fun l hl => ?_⟩
  · rw [e 0 (by decide), e 1 (by decide), e 2 (by decide), e 3 (by decide)]; exact a1
  · have hs : ∀ i, i < 5 → g (4 + i) = sc S i → upN g (4 + k) v (4 + i) = sc (ssc S k v) i := by
      intro i hi hh
      show _ = upN S.2.1 k v i
      by_cases hik : i = k
      · subst hik; rw [upN_s, upN_s]
      · rw [upN_n _ _ (by omega), upN_n _ _ hik]; exact hh
    exact ⟨hs 0 (by decide) a2.1, hs 1 (by decide) a2.2.1, hs 2 (by decide) a2.2.2.1, hs 3 (by decide) a2.2.2.2.1, hs 4 (by decide) a2.2.2.2.2⟩
  · rw [e _ (by omega)]; exact a3 i hi
  · rw [e _ (by omega)]; exact a4 t k ht hk
  · exact KB_of (a5 y hy) (B6 wf hy) (fun j h1 h2 => e j (by omega))
  · exact KQ_of (a6 l hl) (WF_q12 wf l) (fun j h1 h2 => e j (by omega))
theorem m_leaves (h : AI M a 174) (hk : KRel D S g) (wf : WF S) {x : Nat} (hx : x < sn S 4) (hz : (sB S x).2.1 = 0) {t : Nat} (ht : t < sn S 0) (hne : t ≠ (sB S x).1) : ∃ g', f_X12_leaves N a (nI x) (nI t) (sG M a g) = some ((), sG M a g') ∧ KRel D (sendB S x (some t)) g' := by
  have h2 := wf.1.2.2.2.2.1.2
  have hL := wf.1.1
  have w1 := (wf.2.1 x hx).1
  have hB := hk.2.2.2.2.1 x hx
  obtain ⟨b1, b2, b3, b4, b5, b6, b7⟩ := hB
  rw [if_pos hz] at b1
  have hy := hk.2.2.1 ((sB S x).1 * 4 + t) (by omega)
  have hy9 := wf.1.2.2.2.2.2.2 ((sB S x).1 * 4 + t) (by omega)
  unfold f_X12_leaves
  rw [m_boatOf h 0 0 rfl (by omega) (by decide), bnd_one, Nat.add_zero, b1, iW, m_ald h (by omega) (by decide), m_sets h 2 2 rfl (by omega) (by decide), bnd_one, m_sets h 1 1 rfl (by omega) (by decide), bnd_one, m_sets h 0 0 rfl (by omega) (by decide), bnd_one]
  refine ⟨_, rfl, ?_⟩
  unfold sendB
  simp only
  rw [if_pos ⟨ht, hne⟩]
  refine K_B hk wf hx (fun j hj => ?_) ?_
  · rw [upN_n _ _ (by omega), upN_n _ _ (by omega), upN_n _ _ (by omega)]
  · have n0 : ¬ sy S ((sB S x).1 * 4 + t) = 0 := by omega
    refine ⟨?_, ?_, ?_, ?_, ?_, ?_, fun j t' hj => ?_⟩
    · simp only [if_neg n0]
      exact upN_s _ _ _
    · simp only [if_neg n0]
      rw [upN_n _ _ (by omega)]
      exact upN_s _ _ _
    · rw [upN_n _ _ (by omega), upN_n _ _ (by omega), upN_s, show 9 + 4 * (sB S x).1 + t = 9 + ((sB S x).1 * 4 + t) by omega]
      exact hy
    · rw [upN_n _ _ (by omega), upN_n _ _ (by omega), upN_n _ _ (by omega)]; exact b4
    · rw [upN_n _ _ (by omega), upN_n _ _ (by omega), upN_n _ _ (by omega)]; exact b5
    · rw [upN_n _ _ (by omega), upN_n _ _ (by omega), upN_n _ _ (by omega)]; exact b6
    · rw [upN_n _ _ (by omega), upN_n _ _ (by omega), upN_n _ _ (by omega)]; exact b7 j t' hj
theorem m_goesTo (h : AI M a 174) (hk : KRel K0 S g) (wf : WF S) {x : Nat} (hx : x < sn S 4) (hz : (sB S x).2.1 = 0) (hN : 20 ≤ N) : ∃ to, f_X12_goesTo N a (nI x) (sG M a g) = some (oM to, sG M a g) ∧ sendB S x to = sendB S x (chooseS S x) ∧ ∀ t, to = some t → t < sn S 0 ∧ t ≠ (sB S x).1 := by
  have h2 := wf.1.2.2.2.2.1.2
  have h5 := wf.1.2.1
  have hL := wf.1.1
  have hmn := wf.1.2.2.2.1
  obtain ⟨w1, w2, w3, w4, w5, w6, w7⟩ := wf.2.1 x hx
  obtain ⟨b1, b2, b3, b4, b5, b6, b7⟩ := hk.2.2.2.2.1 x hx
  rw [if_pos hz] at b1
  have h6 := B6 wf hx
  have hfirst : ∀ t, firstTo S x = some t → t < sn S 0 ∧ t ≠ (sB S x).1 := by
    intro t ht
    unfold firstTo at ht
    cases hab : (sB S x).2.2 with
    | nil => rw [hab] at ht; cases ht
    | cons u rest =>
      rw [hab] at ht
      cases ht
      have hm : u ∈ (sB S x).2.2 := by rw [hab]; exact List.mem_cons_self
      exact ⟨(wf.1.2.2.2.2.2.1 u (w4 u hm)).2.1, w5 hz u hm⟩
  have hlong : ∀ t, longS S x = some t → t < sn S 0 ∧ t ≠ (sB S x).1 := fun t ht => ⟨argm_lt _ _ _ _ _ (by omega) (fun _ h => by cases h) t ht, argm_ne _ _ _ _ _ _ (fun _ h => by cases h) t ht⟩
  have hbusy : ∀ t, busyS S x = some t → t < sn S 0 ∧ t ≠ (sB S x).1 := fun t ht => ⟨argm_lt _ _ _ _ _ (by omega) (fun _ h => by cases h) t ht, argm_ne _ _ _ _ _ _ (fun _ h => by cases h) t ht⟩
  have hmost : ∀ t, mostS S x = some t → t < sn S 0 ∧ t ≠ (sB S x).1 := by
    intro t ht
    refine ⟨argm_lt _ _ _ _ _ (by omega) (fun _ h => by cases h) t ht, ?_⟩
    obtain ⟨v, hv, hv1⟩ := argm_ge _ _ _ _ _ _ (Nat.le_refl 1) (fun _ h => by cases h) t ht
    have hv := Option.some.inj hv
    have hpos : 0 < ((sB S x).2.2.filter (fun u => decide (sf S u 1 = t))).length := by
      have e : ((sB S x).2.2.filter (fun u => decide (sf S u 1 = t))).length = v := hv
      omega
    obtain ⟨u, hu⟩ := List.exists_mem_of_length_pos hpos
    have hu := List.mem_filter.mp hu
    intro e
    exact w5 hz u hu.1 (by rw [← e]; simpa using hu.2)
  unfold f_X12_goesTo
  rw [m_boatOf h 5 5 rfl (by omega) (by decide), bnd_one, b6, show (3 : Int32) = nI 3 from rfl, m_ald h (by decide) (by decide), hk.1.2.2.2, nI_1, irm_of (fun q => by have := (nI_z (by omega)).mp q; omega), pk_rem (by omega) (by omega) (by omega)]
  have h22 : ∀ s0, j_X12_goesTo_22 N a (nI x) (nI (sK S x).2) s0 (sG M a g) = j_X12_goesTo_37 N a (nI x) (nI (sK S x).2) s0 (b32 ((sB S x).2.2 = [])) (sG M a g) := by
    intro s0
    unfold j_X12_goesTo_22
    rw [m_boatOf h 3 3 rfl (by omega) (by decide), bnd_one, b4]
    by_cases hab : (sB S x).2.2 = []
    · rw [if_pos (by rw [hab]; rfl)]; simp [b32, hab]
    · rw [if_neg (fun q => hab (List.length_eq_zero_iff.mp ((nI_z (by omega)).mp q)))]; simp [b32, hab]
  have hfold : (if nI (sn S 3 % ((sK S x).2 + 1)) = 0 then j_X12_goesTo_22 N a (nI x) (nI (sK S x).2) 1 (sG M a g) else j_X12_goesTo_22 N a (nI x) (nI (sK S x).2) 0 (sG M a g)) = j_X12_goesTo_37 N a (nI x) (nI (sK S x).2) (b32 (isT S x = true)) (b32 ((sB S x).2.2 = [])) (sG M a g) := by
    have hmod := Nat.mod_lt (sn S 3) (show 0 < (sK S x).2 + 1 by omega)
    by_cases hc : sn S 3 % ((sK S x).2 + 1) = 0
    · rw [if_pos ((nI_z (by omega)).mpr hc), h22]
      simp [b32, isT, hc]
    · rw [if_neg (fun q => hc ((nI_z (by omega)).mp q)), h22]
      simp [b32, isT, hc]
  rw [hfold]
  unfold j_X12_goesTo_37
  rw [m_boatOf h 0 0 rfl (by omega) (by decide), bnd_one, Nat.add_zero, b1, m_boatOf h 4 4 rfl (by omega) (by decide), bnd_one, b5]
  have hemp : ∀ {ρ : Type} {A B : ρ}, (if b32 ((sB S x).2.2 = []) = 0 then A else B) = (if (sB S x).2.2 = [] then B else A) := b32_if
  have htim : ∀ {ρ : Type} {A B : ρ}, (if b32 (isT S x = true) = 0 then A else B) = (if isT S x = true then B else A) := b32_if
  simp only [hemp, htim]
  generalize hkd : (sK S x).1 = kd at w6
  unfold chooseS
  rw [hkd]
  match kd, w6 with
  | 0, _ =>
    rw [if_neg (by decide), if_neg (by decide), if_neg (by decide), if_neg (by decide), if_neg (by decide), if_neg (by decide), m_first h hk wf hx]
    exact ⟨_, rfl, rfl, hfirst⟩
  | 1, _ =>
    rw [if_pos (by decide)]
    by_cases hT : isT S x = true
    · rw [if_pos hT, show (0 : Int32) = nI 0 from rfl, m_ald h (by decide) (by decide), hk.1.1, nI_1, irm_of (fun q => by have := (nI_z (by omega)).mp q; omega), pk_rem (by omega) (by omega) (by omega)]
      have e : ((sB S x).1 + 1) % sn S 0 = if (sB S x).1 + 1 < sn S 0 then (sB S x).1 + 1 else 0 := by
        split
        · rename_i hlt; exact Nat.mod_eq_of_lt hlt
        · rw [show (sB S x).1 + 1 = sn S 0 by omega]; exact Nat.mod_self _
      refine ⟨some (((sB S x).1 + 1) % sn S 0), rfl, by simp only [if_pos hT]; rw [e], fun t ht => ?_⟩
      have := Option.some.inj ht
      rw [e] at this
      split at this <;> omega
    · rw [if_neg hT]
      exact ⟨none, rfl, by simp only [if_neg hT], fun t ht => by cases ht⟩
  | 2, _ =>
    rw [if_neg (by decide), if_pos (by decide)]
    by_cases hab : (sB S x).2.2 = []
    · rw [if_pos hab, m_longest h hk wf hx hz hN]
      exact ⟨_, rfl, by simp only [if_pos hab], hlong⟩
    · rw [if_neg hab, m_first h hk wf hx]
      exact ⟨_, rfl, by simp only [if_neg hab], hfirst⟩
  | 3, _ =>
    rw [if_neg (by decide), if_neg (by decide), if_pos (by decide)]
    by_cases hab : (sB S x).2.2 = []
    · rw [if_pos hab, m_busiest h hk wf hx hz (by omega)]
      exact ⟨_, rfl, by simp only [if_pos hab], hbusy⟩
    · rw [if_neg hab, m_first h hk wf hx]
      exact ⟨_, rfl, by simp only [if_neg hab], hfirst⟩
  | 4, _ =>
    rw [if_neg (by decide), if_neg (by decide), if_neg (by decide), if_pos (by decide), m_full h hk wf hx hz hN, bnd_one, b32_if]
    by_cases hc : (sK S x).2 < (sB S x).2.2.length ∨ sn S 2 ≤ (sB S x).2.2.length ∨ canCome S (sB S x).1 = false
    · rw [if_pos hc, m_first h hk wf hx]
      exact ⟨_, rfl, by simp only [if_pos hc], hfirst⟩
    · rw [if_neg hc]
      exact ⟨none, rfl, by simp only [if_neg hc], fun t ht => by cases ht⟩
  | 5, _ =>
    rw [if_neg (by decide), if_neg (by decide), if_neg (by decide), if_neg (by decide), if_pos (by decide)]
    by_cases hab : (sB S x).2.2 = []
    · rw [if_pos hab, m_busiest h hk wf hx hz (by omega)]
      exact ⟨_, rfl, by simp only [if_pos hab], hbusy⟩
    · rw [if_neg hab, m_most h hk wf hx hN]
      exact ⟨_, rfl, by simp only [if_neg hab], hmost⟩
  | 6, _ =>
    rw [if_neg (by decide), if_neg (by decide), if_neg (by decide), if_neg (by decide), if_neg (by decide), if_pos (by decide)]
    by_cases hT : isT S x = true
    · have hml := Nat.mod_lt (sK S x).2 (show 0 < sn S 0 by omega)
      rw [if_pos hT, show (0 : Int32) = nI 0 from rfl, m_ald h (by decide) (by decide), hk.1.1, irm_of (fun q => by have := (nI_z (by omega)).mp q; omega), pk_rem (by omega) (by omega) (by omega)]
      by_cases hc : (sK S x).2 % sn S 0 = (sB S x).1
      · rw [if_pos (by rw [hc])]
        refine ⟨none, rfl, ?_, fun t ht => by cases ht⟩
        simp only [if_pos hT]
        unfold sendB
        simp only
        rw [if_neg (fun q => q.2 hc)]
      · rw [if_neg (fun q => hc ((nI_eq (by omega) (by omega)).mp q)), m_ald h (by decide) (by decide), hk.1.1, irm_of (fun q => by have := (nI_z (by omega)).mp q; omega), pk_rem (by omega) (by omega) (by omega)]
        refine ⟨some ((sK S x).2 % sn S 0), rfl, by simp only [if_pos hT], fun t ht => ?_⟩
        have := Option.some.inj ht
        omega
    · rw [if_neg hT]
      exact ⟨none, rfl, by simp only [if_neg hT], fun t ht => by cases ht⟩
theorem m_asks71 (h : AI M a 174) (hk : KRel D S g) (wf : WF S) {x : Nat} (hx : x < sn S 4) (hz : (sB S x).2.1 = 0) (to : Option Nat) (hto : ∀ t, to = some t → t < sn S 0 ∧ t ≠ (sB S x).1) : ∃ g', j_X12_asks_71 N a (nI x) (oM to) (sG M a g) = some ((), sG M a g') ∧ KRel D (sendB S x to) g' := by
  have hL := wf.1.1
  unfold j_X12_asks_71
  cases to with
  | none => exact ⟨g, if_pos (by decide), hk⟩
  | some t =>
    obtain ⟨h1, h2⟩ := hto t rfl
    obtain ⟨g', e1, e2⟩ := m_leaves (N := N) h hk wf hx hz h1 h2
    refine ⟨g', ?_, e2⟩
    show (if nI t < 0 then _ else _) = _
    rw [if_neg (nI_neg (by omega))]
    show bnd (f_X12_leaves N a (nI x) (nI t) (sG M a g)) _ = _
    rw [e1, bnd_one]
theorem m_asks (h : AI M a 174) {o : Nat} (ho : o ≠ a) (hto : (M.1 o).1 = 16) (h18 : M.2.1 o 18 = 0) (hk : KRel K0 S g) (wf : WF S) {x : Nat} (hx : x < sn S 4) (hN : 20 ≤ N) : ∃ g', f_X12_asks N o a (nI x) (sG M a g) = some ((), sG M a g') ∧ KRel K0 (askB S x) g' := by
  unfold f_X12_asks askB
  rw [m_isAt h hx wf hk, bnd_one, b32_if]
  by_cases hz : (sB S x).2.1 = 0
  · rw [if_pos hz, if_pos hz]
    obtain ⟨to, e1, e2, e3⟩ := m_goesTo h hk wf hx hz hN
    rw [e1, bnd_one, m_gI hto ho, h18, if_pos (by decide), ← e2]
    exact m_asks71 h hk wf hx hz to e3
  · rw [if_neg hz, if_neg hz]
    exact ⟨g, rfl, hk⟩
/-- what the next digit of the goings says -/
def digT (cd : Nat) : Option Nat := if cd % 5 = 0 then none else some (cd % 5 - 1)
theorem m_asksG (h : AI M a 174) {o cd gl : Nat} (ho : o ≠ a) (hto : (M.1 o).1 = 16) (h17 : M.2.1 o 17 = nI cd) (h18 : M.2.1 o 18 = nI (gl + 1)) (hcd : cd < 1000) (hgl : gl < 10) (hk : KRel K0 S g) (wf : WF S) {x : Nat} (hx : x < sn S 4) (hz : (sB S x).2.1 = 0) (hN : 20 ≤ N) : ∃ g', f_X12_asks N o a (nI x) (sG M a g) = some ((), sG (sI (sI M o 17 (nI (cd / 5))) o 18 (nI gl)) a g') ∧ KRel K0 (sendB S x (digT cd)) g' := by
  have hL := wf.1.1
  have h2 := wf.1.2.2.2.2.1.2
  have w1 := (wf.2.1 x hx).1
  have b1 := (hk.2.2.2.2.1 x hx).1
  rw [if_pos hz] at b1
  unfold f_X12_asks
  rw [m_isAt h hx wf hk, bnd_one, b32_if, if_pos hz]
  obtain ⟨to, e1, -, -⟩ := m_goesTo h hk wf hx hz hN
  have hm5 := Nat.mod_lt cd (show 0 < 5 by decide)
  have hA1 : AI (sI M o 17 (nI (cd / 5))) a 174 := h
  have hA2 : AI (sI (sI M o 17 (nI (cd / 5))) o 18 (nI gl)) a 174 := h
  have ht1 : ((sI M o 17 (nI (cd / 5))).1 o).1 = 16 := hto
  have e18 : (sI M o 17 (nI (cd / 5))).2.1 o 18 = nI (gl + 1) := by simp [sI, up2, h18]
  rw [e1, bnd_one, m_gI hto ho, h18, if_neg (fun q => by have := (nI_le0 (by omega)).mp q; omega), m_gI hto ho, h17, m_gI hto ho, h17, show (5 : Int32) = nI 5 from rfl, pk_rem (by omega) (by decide) (by decide), pk_div (by omega) (by decide) (by decide), m_pI hto ho, m_gI ht1 ho, e18, m_pI ht1 ho, nI_pred, m_boatOf hA2 0 0 rfl (by omega) (by decide), bnd_one, Nat.add_zero, b1, show (0 : Int32) = nI 0 from rfl, m_ald hA2 (by decide) (by decide), hk.1.1]
  by_cases hd : cd % 5 = 0
  · have e : nI (cd % 5) - 1 = -1 := by rw [hd]; rfl
    have e' : digT cd = none := if_pos hd
    have hst : ∀ t : Nat, t < 10 → ¬ (-1 : Int32) = nI t := by decide
    have hlt : ∀ t : Nat, t < 10 → (-1 : Int32) < nI t := by decide
    rw [e, if_neg (hst _ (by omega)), if_pos (hlt _ (by omega)), e']
    refine ⟨g, ?_, hk⟩
    unfold j_X12_asks_71
    rw [if_pos (by decide)]
  · have e : nI (cd % 5) - 1 = nI (cd % 5 - 1) := by rw [show (1 : Int32) = nI 1 from rfl, pk_sub (by omega)]
    have e' : digT cd = some (cd % 5 - 1) := if_neg hd
    rw [e, e']
    have h68 : j_X12_asks_68 N a (nI x) (sG (sI (sI M o 17 (nI (cd / 5))) o 18 (nI gl)) a g) = some ((), sG (sI (sI M o 17 (nI (cd / 5))) o 18 (nI gl)) a g) := by
      unfold j_X12_asks_68 j_X12_asks_71
      rw [if_pos (by decide)]
    by_cases hp : cd % 5 - 1 = (sB S x).1
    · rw [if_pos (by rw [hp]), h68]
      refine ⟨g, rfl, ?_⟩
      unfold sendB
      simp only
      rw [if_neg (fun q => q.2 hp)]
      exact hk
    · rw [if_neg (fun q => hp ((nI_eq (by omega) (by omega)).mp q))]
      by_cases hl : cd % 5 - 1 < sn S 0
      · rw [if_pos (nI_lt hl (by omega))]
        exact m_asks71 (to := some (cd % 5 - 1)) hA2 hk wf hx hz (fun t ht => by cases ht; exact ⟨hl, hp⟩)
      · rw [if_neg (fun q => hl ((nI_ltI (by omega) (by omega)).mp q)), h68]
        refine ⟨g, rfl, ?_⟩
        unfold sendB
        simp only
        rw [if_neg (fun q => hl q.1)]
        exact hk
end MFRAME
