/-! The model: where a boat goes. -/
abbrev K0 : Nat → Nat := fun _ => 0
theorem argm_ne (f : Nat → Option Nat) (p : Nat) : ∀ (k l m : Nat) (best : Option Nat), (∀ t, best = some t → t ≠ p) → ∀ t, argm f p k l m best = some t → t ≠ p := by
  intro k
  induction k with
  | zero => intro l m best hb t ht; exact hb t ht
  | succ k ih =>
    intro l m best hb t ht
    unfold argm at ht
    split at ht
    · exact ih _ _ _ hb t ht
    · rename_i hne
      split at ht
      · exact ih _ _ _ hb t ht
      · split at ht
        · exact ih _ _ _ (fun t' e => by cases e; exact hne) t ht
        · exact ih _ _ _ hb t ht
theorem argm_ge (f : Nat → Option Nat) (p : Nat) : ∀ (k l m : Nat) (best : Option Nat), 1 ≤ m → (∀ t, best = some t → ∃ v, f t = some v ∧ 1 ≤ v) → ∀ t, argm f p k l m best = some t → ∃ v, f t = some v ∧ 1 ≤ v := by
  intro k
  induction k with
  | zero => intro l m best _ hb t ht; exact hb t ht
  | succ k ih =>
    intro l m best hm hb t ht
    unfold argm at ht
    split at ht
    · exact ih _ _ _ hm hb t ht
    · split at ht
      · exact ih _ _ _ hm hb t ht
      · rename_i v hv
        split at ht
        · exact ih _ _ _ (by omega) (fun t' e => by cases e; exact ⟨v, hv, by omega⟩) t ht
        · exact ih _ _ _ hm hb t ht
section MGOES
variable {M : Mm} {a : Nat} {g : Nat → Int32} {N : Nat} {S : SP}
theorem lt_pred {s m : Nat} (hs : s < 2 ^ 30) (hm : m < 2 ^ 30) : nI m - 1 < nI s ↔ m ≤ s := by
  have := le_pred hs hm
  rw [← Int32.not_le, this]; omega
theorem m_first (h : AI M a 174) (hk : KRel K0 S g) (wf : WF S) {x : Nat} (hx : x < sn S 4) : f_X12_toFirst N a (nI x) (sG M a g) = some (oM (firstTo S x), sG M a g) := by
  have h2 := wf.1.2.2.2.2.1.2
  obtain ⟨w1, w2, w3, w4, w5, w6, w7⟩ := wf.2.1 x hx
  obtain ⟨b1, b2, b3, b4, b5, b6, b7⟩ := hk.2.2.2.2.1 x hx
  have h6 := wf.1.2.2.1
  have h5 := wf.1.2.1
  unfold f_X12_toFirst firstTo
  rw [m_boatOf h 3 3 rfl (by omega) (by decide), bnd_one, b4]
  cases hab : (sB S x).2.2 with
  | nil => rw [if_pos (show nI ([] : List Nat).length ≤ 0 by decide)]; rfl
  | cons t rest =>
    have ht := b7 0 t (by rw [hab]; rfl)
    have htn := w4 t (by rw [hab]; exact List.mem_cons_self)
    rw [Nat.add_zero] at ht
    rw [hab] at w3
    rw [if_neg (fun q => by have := (nI_le0 (by omega)).mp q; simp at this), m_boatOf h 6 6 rfl (by omega) (by decide), bnd_one, ht, m_get h 1 1 rfl (by omega) (by decide), bnd_one, m_sort hk htn (by decide)]
    rfl
theorem s_mbusy (h : AI M a 174) (hk : KRel K0 S g) (wf : WF S) {x : Nat} (hx : x < sn S 4) (hz : (sB S x).2.1 = 0) :
    ∀ (k l m : Nat) (best : Option Nat) (fu : Nat), k + l = sn S 0 → k + 1 ≤ fu → m < 1000 → l_X12_busiest_13 N fu a (nI x) (oM best) (nI m - 1) (nI l) (sG M a g) = some (oM (argm (fun l => some (sQ S l).length) (sB S x).1 k l m best), sG M a g) := by
  have h2 := wf.1.2.2.2.2.1.2
  have hL := wf.1.1
  have w1 := (wf.2.1 x hx).1
  obtain ⟨b1, b2, b3, b4, b5, b6, b7⟩ := hk.2.2.2.2.1 x hx
  rw [if_pos hz] at b1
  intro k
  induction k with
  | zero =>
    intro l m best fu hkl hf hm
    obtain ⟨fu, rfl, -⟩ := fuel_s hf
    show b_X12_busiest_13 N (l_X12_busiest_13 N fu) _ _ _ _ _ _ = _
    unfold b_X12_busiest_13
    rw [show (0 : Int32) = nI 0 from rfl, m_ald h (by decide) (by decide), hk.1.1, if_pos (nI_le (by omega) (by omega))]
    rfl
  | succ k ih =>
    intro l m best fu hkl hf hm
    obtain ⟨fu, rfl, hf2⟩ := fuel_s hf
    show b_X12_busiest_13 N (l_X12_busiest_13 N fu) _ _ _ _ _ _ = _
    unfold b_X12_busiest_13
    have hq := WF_q12 wf l
    rw [show (0 : Int32) = nI 0 from rfl, m_ald h (by decide) (by decide), hk.1.1, if_neg (nI_ge (by omega) (by omega)), m_boatOf h (nI 0) 0 rfl (by omega) (by decide), bnd_one, Nat.add_zero, b1]
    unfold argm
    by_cases hp : l = (sB S x).1
    · rw [if_pos (by rw [hp]), if_pos hp, nI_1]
      exact ih (l + 1) m best fu (by omega) (by omega) hm
    · have hql := (hk.2.2.2.2.2 l (by omega)).1
      rw [if_neg (fun q => hp ((nI_eq (by omega) (by omega)).mp q)), if_neg hp, m_standing h (by omega), bnd_one, hql]
      by_cases hc : m ≤ (sQ S l).length
      · rw [if_pos ((lt_pred (by omega) (by omega)).mpr hc), m_standing h (by omega), bnd_one, hql, nI_1]
        have := ih (l + 1) ((sQ S l).length + 1) (some l) fu (by omega) (by omega) (by omega)
        rw [nI_pred] at this
        simp only [if_pos hc]
        exact this
      · rw [if_neg (fun q => hc ((lt_pred (by omega) (by omega)).mp q)), nI_1]
        simp only [if_neg hc]
        exact ih (l + 1) m best fu (by omega) (by omega) hm
theorem m_busiest (h : AI M a 174) (hk : KRel K0 S g) (wf : WF S) {x : Nat} (hx : x < sn S 4) (hz : (sB S x).2.1 = 0) (hN : 10 ≤ N) : f_X12_busiest N a (nI x) (sG M a g) = some (oM (busyS S x), sG M a g) := by
  have h2 := wf.1.2.2.2.2.1.2
  obtain ⟨b1, b2, b3, b4, b5, b6, b7⟩ := hk.2.2.2.2.1 x hx
  have w7 := (wf.2.1 x hx).2.2.2.2.2.2
  have hL := wf.1.1
  unfold f_X12_busiest busyS
  rw [m_boatOf h 5 5 rfl (by omega) (by decide), bnd_one, b6]
  have := s_mbusy (N := N) h hk wf hx hz (sn S 0) 0 ((sK S x).2 + 1) none N (by omega) (by omega) (by omega)
  rw [nI_pred] at this
  exact this
theorem s_min (h : AI M a 174) (hk : KRel K0 S g) (wf : WF S) {l m : Nat} (hl : l < 4) (hm : m < 2 ^ 30) (x2 x1 : Int32) (k15 : Nat → Int32 → Int32 → Int32 → Int32 → Mm → Option (Int32 × Mm)) :
    ∀ (k i fu : Nat), k + i = (sQ S l).length → k + 1 ≤ fu → (∀ j p, i ≤ j → (sQ S l)[j]? = some p → since S p < m) → l_X12_longest_40 N k15 fu a x1 x2 (nI m - 1) (nI l) (nI i) (sG M a g) = k15 a x1 x2 (nI m - 1) (nI (l + 1)) (sG M a g) := by
  have hq := WF_q12 wf l
  have hql := hk.2.2.2.2.2 l hl
  have hmn := wf.1.2.2.2.1
  intro k
  induction k with
  | zero =>
    intro i fu hki hf hall
    obtain ⟨fu, rfl, -⟩ := fuel_s hf
    show b_X12_longest_40 N k15 (l_X12_longest_40 N k15 fu) _ _ _ _ _ _ _ = _
    unfold b_X12_longest_40
    rw [m_standing h hl, bnd_one, hql.1, if_pos (nI_le (by omega) (by omega)), nI_1]
  | succ k ih =>
    intro i fu hki hf hall
    obtain ⟨fu, rfl, hf2⟩ := fuel_s hf
    show b_X12_longest_40 N k15 (l_X12_longest_40 N k15 fu) _ _ _ _ _ _ _ = _
    unfold b_X12_longest_40
    obtain ⟨p, hp⟩ : ∃ p, (sQ S l)[i]? = some p := ⟨_, List.getElem?_eq_getElem (by omega)⟩
    have hs := hall i p (Nat.le_refl _) hp
    have hv := (hql.2 i p hp).2
    rw [m_standing h hl, bnd_one, hql.1, if_neg (nI_ge (by omega) (by omega)), m_sinceOf h hl (by omega), bnd_one, hv]
    have e : sn S 3 + K0 l - p.2 = since S p := rfl
    have hs2 : since S p < 2 ^ 30 := by unfold since; omega
    rw [e, if_neg (fun q => by have := (lt_pred hs2 hm).mp q; omega), nI_1]
    exact ih (i + 1) fu (by omega) (by omega) (fun j p' hj hp' => hall j p' (by omega) hp')
theorem s_mlong (h : AI M a 174) (hk : KRel K0 S g) (wf : WF S) {x : Nat} (hx : x < sn S 4) (hz : (sB S x).2.1 = 0) (hN : 20 ≤ N) :
    ∀ (k l m : Nat) (best : Option Nat) (fu : Nat), k + l = sn S 0 → k + 1 ≤ fu → m < 10000 → l_X12_longest_15 N fu a (nI x) (oM best) (nI m - 1) (nI l) (sG M a g) = some (oM (argm (fun l => (sQ S l).head?.map (since S)) (sB S x).1 k l m best), sG M a g) := by
  have h2 := wf.1.2.2.2.2.1.2
  have hL := wf.1.1
  have hmn := wf.1.2.2.2.1
  have w1 := (wf.2.1 x hx).1
  obtain ⟨b1, b2, b3, b4, b5, b6, b7⟩ := hk.2.2.2.2.1 x hx
  rw [if_pos hz] at b1
  intro k
  induction k with
  | zero =>
    intro l m best fu hkl hf hm
    obtain ⟨fu, rfl, -⟩ := fuel_s hf
    show b_X12_longest_15 N (l_X12_longest_15 N fu) _ _ _ _ _ _ = _
    unfold b_X12_longest_15
    rw [show (0 : Int32) = nI 0 from rfl, m_ald h (by decide) (by decide), hk.1.1, if_pos (nI_le (by omega) (by omega))]
    rfl
  | succ k ih =>
    intro l m best fu hkl hf hm
    obtain ⟨fu, rfl, hf2⟩ := fuel_s hf
    show b_X12_longest_15 N (l_X12_longest_15 N fu) _ _ _ _ _ _ = _
    unfold b_X12_longest_15
    have hq := WF_q12 wf l
    rw [show (0 : Int32) = nI 0 from rfl, m_ald h (by decide) (by decide), hk.1.1, if_neg (nI_ge (by omega) (by omega)), m_boatOf h (nI 0) 0 rfl (by omega) (by decide), bnd_one, Nat.add_zero, b1]
    unfold argm
    by_cases hp : l = (sB S x).1
    · rw [if_pos (by rw [hp]), if_pos hp, nI_1]
      exact ih (l + 1) m best fu (by omega) (by omega) hm
    · rw [if_neg (fun q => hp ((nI_eq (by omega) (by omega)).mp q)), if_neg hp]
      cases hQ : sQ S l with
      | nil =>
        rw [s_min h hk wf (by omega) (by omega) _ _ _ 0 0 N (by rw [hQ]; rfl) (by omega) (fun j p _ hj => by rw [hQ] at hj; simp at hj)]
        exact ih (l + 1) m best fu (by omega) (by omega) hm
      | cons p rest =>
        have hp0 : (sQ S l)[0]? = some p := by rw [hQ]; rfl
        have hpw := (wf.2.2 l).2.2.2
        have hle : ∀ (j : Nat) (p' : Nat × Nat), (sQ S l)[j]? = some p' → since S p' ≤ since S p := by
          intro j p' hj
          rw [hQ] at hj hpw
          unfold since
          have := List.pairwise_cons.mp hpw
          cases j with
          | zero => have := Option.some.inj hj; subst this; exact Nat.le_refl _
          | succ j =>
            have hm' : p' ∈ rest := List.mem_of_getElem? (by simpa using hj)
            have := this.1 p' hm'
            omega
        have hs2 : since S p < 10000 := by unfold since; omega
        have hnq : 1 ≤ (sQ S l).length := by rw [hQ]; simp
        show _ = some (oM (if m ≤ since S p then _ else _), _)
        by_cases hc : m ≤ since S p
        · simp only [if_pos hc]
          obtain ⟨N', hN', -⟩ := fuel_s (show 20 ≤ N from hN)
          have hql := hk.2.2.2.2.2 l (by omega)
          have hv := (hql.2 0 p hp0).2
          have e : sn S 3 + K0 l - p.2 = since S p := rfl
          have key : l_X12_longest_40 N (l_X12_longest_15 N fu) N a (nI x) (oM best) (nI m - 1) (nI l) (nI 0) (sG M a g) = l_X12_longest_15 N fu a (nI x) (nI l) (nI (since S p + 1) - 1) (nI (l + 1)) (sG M a g) := by
            have hu : l_X12_longest_40 N (l_X12_longest_15 N fu) N = b_X12_longest_40 N (l_X12_longest_15 N fu) (l_X12_longest_40 N (l_X12_longest_15 N fu) N') := by rw [hN']; rfl
            rw [hu]
            unfold b_X12_longest_40
            rw [m_standing h (by omega), bnd_one, hql.1, if_neg (nI_ge (by omega) (by omega)), m_sinceOf h (by omega) (by omega), bnd_one, hv, e, if_pos ((lt_pred (by omega) (by omega)).mpr hc), m_sinceOf h (by omega) (by omega), bnd_one, hv, e, nI_1]
            have := s_min (N := N) h hk wf (l := l) (m := since S p + 1) (by omega) (by omega) (nI l) (nI x) (l_X12_longest_15 N fu) ((sQ S l).length - 1) 1 N' (by omega) (by omega) (fun j p' _ hj => by have := hle j p' hj; omega)
            rw [nI_pred] at this
            rw [nI_pred]
            exact this
          rw [key]
          exact ih (l + 1) (since S p + 1) (some l) fu (by omega) (by omega) (by unfold since at hs2 ⊢; omega)
        · simp only [if_neg hc]
          rw [s_min h hk wf (l := l) (by omega) (by omega) _ _ _ (sQ S l).length 0 N (by omega) (by omega) (fun j p' _ hj => by have := hle j p' hj; omega)]
          exact ih (l + 1) m best fu (by omega) (by omega) hm
theorem m_longest (h : AI M a 174) (hk : KRel K0 S g) (wf : WF S) {x : Nat} (hx : x < sn S 4) (hz : (sB S x).2.1 = 0) (hN : 20 ≤ N) : f_X12_longest N a (nI x) (sG M a g) = some (oM (longS S x), sG M a g) := by
  have h2 := wf.1.2.2.2.2.1.2
  obtain ⟨b1, b2, b3, b4, b5, b6, b7⟩ := hk.2.2.2.2.1 x hx
  have w7 := (wf.2.1 x hx).2.2.2.2.2.2
  have hL := wf.1.1
  unfold f_X12_longest longS
  rw [m_boatOf h 5 5 rfl (by omega) (by decide), bnd_one, b6]
  exact s_mlong (N := N) h hk wf hx hz hN (sn S 0) 0 (sK S x).2 none N (by omega) (by omega) (by omega)
theorem s_m22 (h : AI M a 174) (hk : KRel K0 S g) (wf : WF S) {x l : Nat} (hx : x < sn S 4) (hl4 : l < 4) (x2 x3 : Int32) (k8 : Nat → Int32 → Int32 → Int32 → Int32 → Mm → Option (Int32 × Mm)) :
    ∀ (rest : List Nat) (i n : Nat) (fu : Nat), i + rest.length = (sB S x).2.2.length → (∀ j t, rest[j]? = some t → (sB S x).2.2[i + j]? = some t) → rest.length + 1 ≤ fu → l_X12_toMost_22 N k8 fu a (nI x) x2 x3 (nI l) (nI n) (nI i) (sG M a g) = (if x3 < nI (n + (rest.filter (fun t => decide (sf S t 1 = l))).length) then k8 a (nI x) (nI l) (nI (n + (rest.filter (fun t => decide (sf S t 1 = l))).length)) (nI (l + 1)) (sG M a g) else k8 a (nI x) x2 x3 (nI (l + 1)) (sG M a g)) := by
  have h2 := wf.1.2.2.2.2.1.2
  have h5 := wf.1.2.1
  have h6 := wf.1.2.2.1
  have hL := wf.1.1
  obtain ⟨w1, w2, w3, w4, w5, w6, w7⟩ := wf.2.1 x hx
  obtain ⟨b1, b2, b3, b4, b5, b6, b7⟩ := hk.2.2.2.2.1 x hx
  intro rest
  induction rest with
  | nil =>
    intro i n fu hi _ hf
    obtain ⟨fu, rfl, -⟩ := fuel_s hf
    simp at hi
    show b_X12_toMost_22 N k8 (l_X12_toMost_22 N k8 fu) _ _ _ _ _ _ _ _ = _
    unfold b_X12_toMost_22
    rw [m_boatOf h 3 3 rfl (by omega) (by decide), bnd_one, b4, if_pos (nI_le (by omega) (by omega)), nI_1]
    rfl
  | cons t rest ih =>
    intro i n fu hi hrs hf
    simp only [List.length_cons] at hi hf
    obtain ⟨fu, rfl, hf2⟩ := fuel_s hf
    have hti := hrs 0 t rfl
    rw [Nat.add_zero] at hti
    have ht := b7 i t hti
    have htn := w4 t (List.mem_of_getElem? hti)
    have hnext : ∀ j t', rest[j]? = some t' → (sB S x).2.2[i + 1 + j]? = some t' := fun j t' hj => by
      have := hrs (j + 1) t' hj
      rwa [show i + (j + 1) = i + 1 + j by omega] at this
    show b_X12_toMost_22 N k8 (l_X12_toMost_22 N k8 fu) _ _ _ _ _ _ _ _ = _
    unfold b_X12_toMost_22 j_X12_toMost_60
    rw [m_boatOf h 3 3 rfl (by omega) (by decide), bnd_one, b4, if_neg (nI_ge (by omega) (by omega)), m_boatOf h (6 + nI i) (6 + i) (by rw [show (6 : Int32) = nI 6 from rfl, nI_add]) (by omega) (by omega), bnd_one, show 50 + 12 * x + (6 + i) = 50 + 12 * x + 6 + i by omega, ht, m_get h 1 1 rfl (by omega) (by decide), bnd_one, m_sort hk htn (by decide)]
    have hto := (wf.1.2.2.2.2.2.1 t htn).2.1
    by_cases hc : sf S t 1 = l
    · rw [if_pos (by rw [hc]), nI_1, nI_1]
      have := ih (i + 1) (n + 1) fu (by omega) hnext (by omega)
      rw [this, List.filter_cons_of_pos (by simpa using hc)]
      simp only [List.length_cons]
      rw [show n + 1 + (rest.filter (fun t => decide (sf S t 1 = l))).length = n + ((rest.filter (fun t => decide (sf S t 1 = l))).length + 1) by omega]
    · rw [if_neg (fun q => hc ((nI_eq (by omega) (by omega)).mp q)), Int32.add_zero, nI_1]
      rw [ih (i + 1) n fu (by omega) hnext (by omega), List.filter_cons_of_neg (by simpa using hc)]
theorem s_mmost (h : AI M a 174) (hk : KRel K0 S g) (wf : WF S) {x : Nat} (hx : x < sn S 4) (hN : 20 ≤ N) :
    ∀ (k l m : Nat) (best : Option Nat) (fu : Nat), k + l = sn S 0 → k + 1 ≤ fu → m < 1000 → l_X12_toMost_8 N fu a (nI x) (oM best) (nI m - 1) (nI l) (sG M a g) = some (oM (argm (fun l => some (bound S x l)) 9 k l m best), sG M a g) := by
  have hL := wf.1.1
  have h6 := wf.1.2.2.1
  obtain ⟨w1, w2, w3, w4, w5, w6, w7⟩ := wf.2.1 x hx
  intro k
  induction k with
  | zero =>
    intro l m best fu hkl hf hm
    obtain ⟨fu, rfl, -⟩ := fuel_s hf
    show b_X12_toMost_8 N (l_X12_toMost_8 N fu) _ _ _ _ _ _ = _
    unfold b_X12_toMost_8
    rw [show (0 : Int32) = nI 0 from rfl, m_ald h (by decide) (by decide), hk.1.1, if_pos (nI_le (by omega) (by omega))]
    rfl
  | succ k ih =>
    intro l m best fu hkl hf hm
    obtain ⟨fu, rfl, hf2⟩ := fuel_s hf
    show b_X12_toMost_8 N (l_X12_toMost_8 N fu) _ _ _ _ _ _ = _
    unfold b_X12_toMost_8
    have hbl : bound S x l ≤ 6 := by unfold bound; exact Nat.le_trans (List.length_filter_le _ _) (by omega)
    rw [show (0 : Int32) = nI 0 from rfl, m_ald h (by decide) (by decide), hk.1.1, if_neg (nI_ge (by omega) (by omega)), s_m22 h hk wf hx (by omega) _ _ _ (sB S x).2.2 0 0 N (by omega) (fun j t hj => by rw [Nat.zero_add]; exact hj) (by omega)]
    rw [Nat.zero_add]
    have e : ((sB S x).2.2.filter (fun t => decide (sf S t 1 = l))).length = bound S x l := rfl
    rw [e]
    unfold argm
    rw [if_neg (show ¬ l = 9 by omega)]
    show _ = some (oM (if m ≤ bound S x l then _ else _), _)
    by_cases hc : m ≤ bound S x l
    · rw [if_pos ((lt_pred (by omega) (by omega)).mpr hc), if_pos hc]
      have := ih (l + 1) (bound S x l + 1) (some l) fu (by omega) (by omega) (by omega)
      rw [nI_pred] at this
      exact this
    · rw [if_neg (fun q => hc ((lt_pred (by omega) (by omega)).mp q)), if_neg hc]
      exact ih (l + 1) m best fu (by omega) (by omega) hm
theorem m_most (h : AI M a 174) (hk : KRel K0 S g) (wf : WF S) {x : Nat} (hx : x < sn S 4) (hN : 20 ≤ N) : f_X12_toMost N a (nI x) (sG M a g) = some (oM (mostS S x), sG M a g) := by
  have hL := wf.1.1
  unfold f_X12_toMost mostS
  have := s_mmost (N := N) h hk wf hx hN (sn S 0) 0 1 none N (by omega) (by omega) (by omega)
  rw [show nI 1 - 1 = 0 from rfl] at this
  exact this
theorem s_mfull (h : AI M a 174) (hk : KRel K0 S g) (wf : WF S) {x : Nat} (hx : x < sn S 4) (hz : (sB S x).2.1 = 0) :
    ∀ (k t fu : Nat), k + t = sn S 1 → k + 1 ≤ fu → l_X12_isFull_28 N fu a (nI x) (nI t) (sG M a g) = some (b32 (canN S (sB S x).1 k t = false), sG M a g) := by
  have h2 := wf.1.2.2.2.2.1.2
  have h5 := wf.1.2.1
  have hL := wf.1.1
  have w1 := (wf.2.1 x hx).1
  obtain ⟨b1, b2, b3, b4, b5, b6, b7⟩ := hk.2.2.2.2.1 x hx
  rw [if_pos hz] at b1
  intro k
  induction k with
  | zero =>
    intro t fu hkt hf
    obtain ⟨fu, rfl, -⟩ := fuel_s hf
    show b_X12_isFull_28 N (l_X12_isFull_28 N fu) _ _ _ _ = _
    unfold b_X12_isFull_28
    rw [show (1 : Int32) = nI 1 from rfl, m_ald h (by decide) (by decide), hk.1.2.1, if_pos (nI_le (by omega) (by omega))]
    rfl
  | succ k ih =>
    intro t fu hkt hf
    obtain ⟨fu, rfl, hf2⟩ := fuel_s hf
    have ht : t < sn S 1 := by omega
    obtain ⟨f1, f2, f3, f4, f5, f6⟩ := wf.1.2.2.2.2.2.1 t ht
    show b_X12_isFull_28 N (l_X12_isFull_28 N fu) _ _ _ _ = _
    unfold b_X12_isFull_28
    have hih := ih (t + 1) fu (by omega) (by omega)
    rw [← nI_1] at hih
    rw [show (1 : Int32) = nI 1 from rfl, m_ald h (by decide) (by decide), hk.1.2.1, if_neg (nI_ge (by omega) (by omega)), m_get h 0 0 rfl (by omega) (by decide), bnd_one, m_sort hk ht (by decide), m_boatOf h 0 0 rfl (by omega) (by decide), bnd_one, Nat.add_zero, b1]
    rw [show (1 : Int32) = nI 1 from rfl] at hih
    by_cases hc : sf S t 0 = (sB S x).1
    · rw [if_pos (by rw [hc]), m_get h 2 2 rfl (by omega) (by decide), bnd_one, m_sort hk ht (by decide)]
      by_cases hp : 0 < sf S t 2
      · rw [if_neg (fun q => by have := (nI_le0 (by omega)).mp q; omega)]
        have : canN S (sB S x).1 (k + 1) t = true := by unfold canN; simp [hc, hp]
        rw [this]; rfl
      · rw [if_pos ((nI_le0 (by omega)).mpr (by omega)), hih]
        have : canN S (sB S x).1 (k + 1) t = canN S (sB S x).1 k (t + 1) := by rw [canN]; simp [hp]
        rw [this]
    · rw [if_neg (fun q => hc ((nI_eq (by omega) (by omega)).mp q)), hih]
      have : canN S (sB S x).1 (k + 1) t = canN S (sB S x).1 k (t + 1) := by rw [canN]; simp [hc]
      rw [this]
theorem m_full (h : AI M a 174) (hk : KRel K0 S g) (wf : WF S) {x : Nat} (hx : x < sn S 4) (hz : (sB S x).2.1 = 0) (hN : 20 ≤ N) : f_X12_isFull N a (nI x) (sG M a g) = some (b32 ((sK S x).2 < (sB S x).2.2.length ∨ sn S 2 ≤ (sB S x).2.2.length ∨ canCome S (sB S x).1 = false), sG M a g) := by
  have h2 := wf.1.2.2.2.2.1.2
  have h5 := wf.1.2.1
  have h6 := wf.1.2.2.1
  obtain ⟨w1, w2, w3, w4, w5, w6, w7⟩ := wf.2.1 x hx
  obtain ⟨b1, b2, b3, b4, b5, b6, b7⟩ := hk.2.2.2.2.1 x hx
  unfold f_X12_isFull
  rw [m_boatOf h 3 3 rfl (by omega) (by decide), bnd_one, b4, m_boatOf h 5 5 rfl (by omega) (by decide), bnd_one, b6]
  by_cases h1 : (sK S x).2 < (sB S x).2.2.length
  · rw [if_pos ((nI_ltI (by omega) (by omega)).mpr h1)]
    simp [b32, h1]
  · rw [if_neg (fun q => h1 ((nI_ltI (by omega) (by omega)).mp q)), show (2 : Int32) = nI 2 from rfl, m_ald h (by decide) (by decide), hk.1.2.2.1]
    by_cases h3 : sn S 2 ≤ (sB S x).2.2.length
    · rw [if_pos (by rw [show (sB S x).2.2.length = sn S 2 by omega])]
      simp [b32, h3]
    · rw [if_neg (fun q => h3 (by have := (nI_eq (by omega) (by omega)).mp q; omega))]
      have := s_mfull (N := N) h hk wf hx hz (sn S 1) 0 N (by omega) (by omega)
      rw [show nI 0 = 0 from rfl] at this
      rw [this]
      unfold canCome
      simp [b32, h1, h3]
end MGOES
