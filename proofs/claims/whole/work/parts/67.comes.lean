/-! Rivers: what a statement does; the rest. -/
section COMES
variable {b : Nat} {M Y M2 : Mm} {S P : SP} {r : Nat → Nat → Int32} {N w : Nat} {q : WR} {ρ : Type}
theorem s_m93 (hl : MLAY b M2) (hk : KRel K0 P (r 4)) (wf : WF P) {v : Nat} (hv : v < 1000) : ∀ (k t fu : Nat) (fl : Bool), t + k = sn P 1 → k + 1 ≤ fu → l_X12_mayHave_93 N fu (mc b 0) (nI v) (if fl = true then 1 else 0) (nI t) (MW b M2 r) = some (if (fl && okT P v k t) = true then 1 else 0, MW b M2 r) := by
  have h5 := wf.1.2.1
  have hL4 := wf.1.1
  have hA : AI (MW b M2 r) (mc b 4) 174 := AI_MW hl (by decide) (by decide)
  intro k
  induction k with
  | zero =>
    intro t fu fl ht hf
    obtain ⟨fu, rfl, -⟩ := fuel_s hf
    show b_X12_mayHave_93 N (l_X12_mayHave_93 N fu) _ _ _ _ _ = _
    unfold b_X12_mayHave_93
    rw [n_gR hl (p := 4) (by decide), n_ald1 hl (by decide) (by decide) (by decide), hk.1.2.1, if_pos (nI_le (by omega) (by omega))]
    cases fl
    · exact if_pos (Or.inl rfl)
    · exact if_pos (Or.inr rfl)
  | succ k ih =>
    intro t fu fl ht hf
    obtain ⟨fu, rfl, hf2⟩ := fuel_s hf
    obtain ⟨f0, f1, -⟩ := wf.1.2.2.2.2.2.1 t (by omega)
    have gt : ∀ (i : Int32) (k : Nat), i = nI k → k < 5 → f_X12_get N (mc b 4) (nI t) i (MW b M2 r) = some (nI (sf P t k), MW b M2 r) := fun i k hik hk5 => by
      rw [MW_as (show 4 < 12 by decide), show nI (sf P t k) = r 4 (25 + 5 * t + k) from (hk.2.2.2.1 t k (by omega) hk5).symm]
      exact m_get (M := MW b M2 r) hA i k hik (by omega) hk5
    have ihF := ih (t + 1) fu false (by omega) (by omega)
    have ihT := ih (t + 1) fu true (by omega) (by omega)
    simp only [Bool.false_and, Bool.true_and] at ihF ihT
    cases fl
    · show b_X12_mayHave_93 N (l_X12_mayHave_93 N fu) (mc b 0) (nI v) 0 (nI t) (MW b M2 r) = some (0, MW b M2 r)
      unfold b_X12_mayHave_93 j_X12_mayHave_137 j_X12_mayHave_138
      rw [n_gR hl (p := 4) (by decide), n_ald1 hl (by decide) (by decide) (by decide), hk.1.2.1, if_neg (nI_ge (by omega) (by omega)), nI_1, if_pos rfl]
      exact ihF
    · show b_X12_mayHave_93 N (l_X12_mayHave_93 N fu) (mc b 0) (nI v) 1 (nI t) (MW b M2 r) = some (if okT P v (k + 1) t = true then 1 else 0, MW b M2 r)
      unfold b_X12_mayHave_93 j_X12_mayHave_137 j_X12_mayHave_138
      rw [n_gR hl (p := 4) (by decide), n_ald1 hl (by decide) (by decide) (by decide), hk.1.2.1, if_neg (nI_ge (by omega) (by omega)), nI_1, if_neg (by decide), n_gR hl (p := 4) (by decide), gt 0 0 rfl (by decide), bnd_one]
      by_cases h0 : sf P t 0 < v
      rotate_left
      · have : okT P v (k + 1) t = false := by
          unfold okT
          rw [decide_eq_false h0]; rfl
        rw [if_pos (nI_le (by omega) (by omega)), this, if_neg (by decide)]
        exact ihF
      rw [if_neg (nI_ge h0 (by omega)), n_gR hl (p := 4) (by decide), gt 1 1 rfl (by decide), bnd_one]
      by_cases h1 : sf P t 1 < v
      rotate_left
      · have : okT P v (k + 1) t = false := by
          unfold okT
          rw [decide_eq_false h1, Bool.and_false]; rfl
        rw [if_pos (nI_le (by omega) (by omega)), this, if_neg (by decide)]
        exact ihF
      have : okT P v (k + 1) t = okT P v k (t + 1) := by
        show ((decide _ && decide _) && _) = _
        rw [decide_eq_true h0, decide_eq_true h1]; rfl
      rw [if_neg (nI_ge h1 (by omega)), this]
      exact ihT
def endB (P : SP) (v : Nat) : Bool := decide ((sB P 0).2.2.length = 0) && decide ((sB P 0).1 < v)
theorem s_m18 (hl : MLAY b M2) (hk : KRel K0 P (r 4)) (wf : WF P) (h4 : sn P 4 = 1) (hN : 20 ≤ N) {v : Nat} (hv : v < 1000) : ∀ (k l fu : Nat), l + k = sn P 0 → k + 1 ≤ fu → l_X12_mayHave_18 N fu (mc b 0) (nI v) (nI l) (MW b M2 r) = some (if sumL P k l = 0 ∧ (endB P v && okT P v (sn P 1) 0) = true then 1 else 0, MW b M2 r) := by
  have h5 := wf.1.2.1
  have hL4 := wf.1.1
  have h6 := B6 wf (x := 0) (by omega)
  have w0 := (wf.2.1 0 (by omega)).1
  have hA : AI (MW b M2 r) (mc b 4) 174 := AI_MW hl (by decide) (by decide)
  have bo : ∀ (i : Int32) (j : Nat), i = nI j → j < 12 → f_X12_boatOf N (mc b 4) 0 i (MW b M2 r) = some (r 4 (50 + 12 * 0 + j), MW b M2 r) := fun i j hij hj => by
    rw [MW_as (show 4 < 12 by decide)]
    exact m_boatOf (M := MW b M2 r) hA (x := 0) i j hij (by decide) hj
  obtain ⟨k1, k2, k3, k5, -⟩ := hk.2.2.2.2.1 0 (by omega)
  have k1' : r 4 (50 + 12 * 0 + 0) = if (sB P 0).2.1 = 0 then nI (sB P 0).1 else -4 := k1
  have k2' : r 4 (50 + 12 * 0 + 1) = if (sB P 0).2.1 = 0 then -4 else nI (sB P 0).1 := k2
  have k5' : r 4 (50 + 12 * 0 + 3) = nI (sB P 0).2.2.length := k5
  have hm4 : ∀ v : Nat, v < 1000 → ¬ nI v ≤ (-4 : Int32) := fun v hv h => absurd (Int32.le_trans (nI_pos' (n := v) (by omega)) h) (by decide)
  intro k
  induction k with
  | zero =>
    intro l fu hkl hf
    obtain ⟨fu, rfl, -⟩ := fuel_s hf
    have z1 := s_m93 (N := N) hl hk wf hv (sn P 1) 0 N true (by omega) (by omega)
    have z0 := s_m93 (N := N) hl hk wf hv (sn P 1) 0 N false (by omega) (by omega)
    rw [if_pos rfl, Bool.true_and] at z1
    rw [if_neg (by decide), Bool.false_and, if_neg (by decide)] at z0
    have z1' : l_X12_mayHave_93 N N (mc b 0) (nI v) 1 0 (MW b M2 r) = _ := z1
    have z0' : l_X12_mayHave_93 N N (mc b 0) (nI v) 0 0 (MW b M2 r) = _ := z0
    show b_X12_mayHave_18 N (l_X12_mayHave_18 N fu) _ _ _ _ = _
    unfold b_X12_mayHave_18 j_X12_mayHave_89 j_X12_mayHave_90
    rw [n_gR hl (p := 4) (by decide), n_ald0 hl (by decide) (by decide) (by decide), hk.1.1, if_pos (nI_le (by omega) (by omega)), n_gR hl (p := 4) (by decide), bo 3 3 rfl (by decide), bnd_one, k5', z0']
    unfold endB
    by_cases hz : (sB P 0).2.2.length = 0
    rotate_left
    · rw [if_neg (fun h => hz ((nI_z (by omega)).mp h)), decide_eq_false hz, if_neg (fun h => absurd h.2 (by simp))]
    rw [if_pos ((nI_z (by omega)).mpr hz), n_gR hl (p := 4) (by decide), bo 0 0 rfl (by decide), bnd_one, n_gR hl (p := 4) (by decide), bo 1 1 rfl (by decide), bnd_one, k1', k2', decide_eq_true hz]
    by_cases hp : (sB P 0).1 < v
    · rw [decide_eq_true hp, Bool.true_and, Bool.true_and]
      have hsum : sumL P 0 l = 0 := rfl
      by_cases h21 : (sB P 0).2.1 = 0
      · rw [if_pos h21, if_pos h21, if_neg (nI_ge hp (by omega)), if_neg (hm4 v hv), z1']
        by_cases hT : okT P v (sn P 1) 0 = true
        · rw [if_pos hT, if_pos ⟨hsum, hT⟩]
        · rw [if_neg hT, if_neg (fun h => hT h.2)]
      · rw [if_neg h21, if_neg h21, if_neg (hm4 v hv), if_neg (nI_ge hp (by omega)), z1']
        by_cases hT : okT P v (sn P 1) 0 = true
        · rw [if_pos hT, if_pos ⟨hsum, hT⟩]
        · rw [if_neg hT, if_neg (fun h => hT h.2)]
    · rw [decide_eq_false hp, Bool.and_false, Bool.false_and, if_neg (c := sumL P 0 l = 0 ∧ false = true) (fun h => absurd h.2 (by decide))]
      by_cases h21 : (sB P 0).2.1 = 0
      · rw [if_pos h21, if_pos (nI_le (by omega) (by omega)), z0']
      · rw [if_neg h21, if_neg h21, if_neg (hm4 v hv), if_pos (nI_le (by omega) (by omega)), z0']
  | succ k ih =>
    intro l fu hkl hf
    obtain ⟨fu, rfl, hf2⟩ := fuel_s hf
    have hq := WF_q12 wf l
    have hst : f_X12_standing N (mc b 4) (nI l) (MW b M2 r) = some (nI (sQ P l).length, MW b M2 r) := by
      rw [MW_as (show 4 < 12 by decide), m_standing (M := MW b M2 r) hA (show l < 4 by omega), (hk.2.2.2.2.2 l (by omega)).1]
    show b_X12_mayHave_18 N (l_X12_mayHave_18 N fu) _ _ _ _ = _
    unfold b_X12_mayHave_18
    rw [n_gR hl (p := 4) (by decide), n_ald0 hl (by decide) (by decide) (by decide), hk.1.1, if_neg (nI_ge (by omega) (by omega)), n_gR hl (p := 4) (by decide), hst, bnd_one]
    have hsum : sumL P (k + 1) l = (sQ P l).length + sumL P k (l + 1) := rfl
    by_cases hz : (sQ P l).length = 0
    · rw [if_pos ((nI_le0 (by omega)).mpr hz), hsum, hz, Nat.zero_add, nI_1]
      exact ih (l + 1) fu (by omega) (by omega)
    · rw [if_neg (fun h => hz ((nI_le0 (by omega)).mp h)), if_neg (fun h => by rw [hsum] at h; omega)]
theorem m_mayHave (hl : MLAY b M2) (hk : KRel K0 P (r 4)) (wf : WF P) (h4 : sn P 4 = 1) (hN : 20 ≤ N) {v : Nat} (hv : v < 1000) : (okL P v → f_X12_mayHave N (mc b 0) (nI v) (MW b M2 r) = some (1, MW b M2 r)) ∧ (¬ okL P v → f_X12_mayHave N (mc b 0) (nI v) (MW b M2 r) = some (0, MW b M2 r)) := by
  have hL4 := wf.1.1
  have h18 := s_m18 (N := N) hl hk wf h4 hN hv (sn P 0) 0 N (by omega) (by omega)
  have h18' : l_X12_mayHave_18 N N (mc b 0) (nI v) 0 (MW b M2 r) = _ := h18
  have hsum : sumL P (sn P 0) 0 = sumL P 4 0 := by
    have := sumL_more P (4 - sn P 0) (sn P 0) 0 (fun l' hl' => (wf.2.2 l').2.1 (by omega))
    rw [show sn P 0 + (4 - sn P 0) = 4 by omega] at this
    exact this.symm
  have hiff : (2 ≤ nI v ∧ nI v ≤ 4) ↔ (2 ≤ v ∧ v ≤ 4) := by
    rw [show (2 : Int32) = nI 2 from rfl, show (4 : Int32) = nI 4 from rfl, nI_leI (by omega) (by omega), nI_leI (by omega) (by omega)]
  unfold f_X12_mayHave
  rw [m_isIn (nI v) 2 4 2 4 rfl rfl, bnd_one, b32_if, h18', hsum]
  unfold endB
  refine ⟨fun h => ?_, fun h => ?_⟩
  · obtain ⟨h1, h2, h3, h5, h6⟩ := h
    rw [if_pos (hiff.mpr h1), if_pos ⟨h2, by rw [decide_eq_true h3, decide_eq_true h5, h6]; rfl⟩]
  · by_cases h1 : 2 ≤ v ∧ v ≤ 4
    · rw [if_pos (hiff.mpr h1), if_neg]
      rintro ⟨h2, h3⟩
      rw [Bool.and_eq_true, Bool.and_eq_true, decide_eq_true_eq, decide_eq_true_eq] at h3
      exact h ⟨h1, h2, h3.1.1, h3.1.2, h3.2⟩
    · rw [if_neg (fun q => h1 (hiff.mp q))]
-- a sort more
theorem WF_add (wf : WF P) {f : Nat → Nat} (h5 : sn P 1 < 5) (hf : f 0 < sn P 0 ∧ f 1 < sn P 0 ∧ f 0 ≠ f 1 ∧ f 2 ≤ 100 ∧ (1 ≤ f 3 ∧ f 3 ≤ 20) ∧ f 4 ≤ 99) : WF (addS P f) := by
  obtain ⟨⟨s1, s2, s3, s4, s5, s6, s7⟩, wb, wq⟩ := wf
  have hn : ∀ k, k ≠ 1 → sn (addS P f) k = sn P k := fun k hk => by rw [sn_addS, if_neg hk]
  have h11 : sn (addS P f) 1 = sn P 1 + 1 := by rw [sn_addS, if_pos rfl]
  refine ⟨⟨?_, ?_, ?_, ?_, ?_, ?_, s7⟩, fun x hx => ?_, fun l => ?_⟩
  · rw [hn 0 (by decide)]; exact s1
  · rw [h11]; omega
  · rw [hn 2 (by decide)]; exact s3
  · rw [hn 3 (by decide)]; exact s4
  · rw [hn 4 (by decide)]; exact s5
  · rw [h11, hn 0 (by decide)]
    intro t ht
    simp only [sf_addS]
    by_cases htt : t = sn P 1
    · simp only [if_pos htt]; exact hf
    · simp only [if_neg htt]; exact s6 t (by omega)
  · rw [hn 4 (by decide)] at hx
    obtain ⟨a1, a2, a3, a4, a5, a6, a7⟩ := wb x hx
    refine ⟨by rw [hn 0 (by decide)]; exact a1, a2, by rw [hn 2 (by decide)]; exact a3, fun t ht => ?_, fun hz t ht => ?_, a6, a7⟩
    · rw [h11]
      have := a4 t ht
      omega
    · have h1 := a4 t ht
      rw [sf_addS, if_neg (by omega)]
      exact a5 hz t ht
  · obtain ⟨q1, q2, q3, q4⟩ := wq l
    refine ⟨q1, by rw [hn 0 (by decide)]; exact q2, fun p hp => ?_, q4⟩
    obtain ⟨c1, c2, c3, c4⟩ := q3 p hp
    rw [h11, hn 3 (by decide), sf_addS, sf_addS, if_neg (by omega), if_neg (by omega)]
    exact ⟨by omega, c2, c3, c4⟩
theorem WRel_add (hr : WRel M P q) (wf : WF P) {f : Nat → Nat} {q' : WR} (h0 : ∀ j, q'.1 0 j = if j = 2 then nI (sn P 1 + 1) else q.1 0 j) (h2 : ∀ j, (j < sn P 1 * 5 ∨ sn P 1 * 5 + 5 ≤ j) → q'.1 2 j = q.1 2 j) (hv : ∀ k, k < 5 → q'.1 2 (sn P 1 * 5 + k) = nI (f k)) (ho : ∀ l, l ≠ 0 → l ≠ 2 → q'.1 l = q.1 l) (hq : q'.2 = q.2) : WRel M (addS P f) q' := by
  have hn : ∀ k, k ≠ 1 → sn (addS P f) k = sn P k := fun k hk => by rw [sn_addS, if_neg hk]
  have h11 : sn (addS P f) 1 = sn P 1 + 1 := by rw [sn_addS, if_pos rfl]
  have hw := wf.2.2
  obtain ⟨a1, a2, a3, a4, a5, a6⟩ := hr
  refine ⟨?_, ?_, fun i hi => ?_, fun t k ht hk => ?_, fun x hx => ?_, fun l hl => ⟨?_, fun j p hj => ?_⟩⟩
  · rw [h11, hn 0 (by decide), hn 2 (by decide), hn 3 (by decide), hn 4 (by decide)]
    simp only [h0]
    exact ⟨a1.1, rfl, a1.2.2.1, a1.2.2.2.1, a1.2.2.2.2⟩
  · simp only [h0]; exact a2
  · rw [ho 1 (by decide) (by decide)]; exact a3 i hi
  · rw [h11] at ht
    rw [sf_addS]
    by_cases htt : t = sn P 1
    · rw [if_pos htt, htt]; exact hv k hk
    · rw [if_neg htt, h2 _ (by omega)]; exact a4 t k (by omega) hk
  · rw [hn 4 (by decide)] at hx
    exact BRel_of (a5 x hx) (ho _ (by unfold lb; omega) (by unfold lb; omega)) (ho _ (by unfold lb; omega) (by unfold lb; omega)) (by rw [hq])
  · rw [ho 9 (by decide) (by decide)]; exact (a6 l hl).1
  · have hj' : (sQ P l)[j]? = some p := hj
    have hp := (hw l).2.2.1 p (List.mem_of_getElem? hj')
    rw [ho 10 (by decide) (by decide), ho 11 (by decide) (by decide), sf_addS, if_neg (by omega)]
    exact (a6 l hl).2 j p hj'
theorem KRel_add {g g' : Nat → Int32} (hk : KRel K0 P g) (wf : WF P) (h5 : sn P 1 < 5) {f : Nat → Nat} (h1 : g' 1 = nI (sn P 1 + 1)) (h2 : ∀ j, j ≠ 1 → (j < 25 + 5 * sn P 1 ∨ 25 + 5 * sn P 1 + 5 ≤ j) → g' j = g j) (hv : ∀ k, k < 5 → g' (25 + 5 * sn P 1 + k) = nI (f k)) : KRel K0 (addS P f) g' := by
  have hn : ∀ k, k ≠ 1 → sn (addS P f) k = sn P k := fun k hk => by rw [sn_addS, if_neg hk]
  have h11 : sn (addS P f) 1 = sn P 1 + 1 := by rw [sn_addS, if_pos rfl]
  obtain ⟨a1, a2, a3, a4, a5, a6⟩ := hk
  have e : ∀ j, j ≠ 1 → (j < 25 ∨ 50 ≤ j) → g' j = g j := fun j hj hj2 => h2 j hj (by omega)
  refine ⟨?_, ?_, fun i hi => ?_, fun t k ht hk => ?_, fun y hy => ?_, fun l hl => ?_⟩
  · rw [h11, hn 0 (by decide), hn 2 (by decide), hn 3 (by decide), h1, e 0 (by decide) (by decide), e 2 (by decide) (by decide), e 3 (by decide) (by decide)]
    exact ⟨a1.1, rfl, a1.2.2.1, a1.2.2.2⟩
  · rw [e 4 (by decide) (by decide), e 5 (by decide) (by decide), e 6 (by decide) (by decide), e 7 (by decide) (by decide), e 8 (by decide) (by decide)]; exact a2
  · rw [e _ (by omega) (by omega)]; exact a3 i hi
  · rw [h11] at ht
    rw [sf_addS]
    by_cases htt : t = sn P 1
    · rw [if_pos htt, htt]; exact hv k hk
    · rw [if_neg htt, h2 _ (by omega) (by omega)]; exact a4 t k (by omega) hk
  · rw [hn 4 (by decide)] at hy
    exact KB_of (a5 y hy) (B6 wf hy) (fun j h1 h2 => e j (by omega) (by omega))
  · rw [hn 3 (by decide)]
    exact KQ_of (a6 l hl) (WF_q12 wf l) (fun j h1 h2 => e j (by omega) (by omega))
def okS (P : SP) (u : Nat → Nat) : Prop := sn P 1 < 5 ∧ u 0 < sn P 0 ∧ u 1 < sn P 0 ∧ u 0 ≠ u 1 ∧ u 2 ≤ 100 ∧ (1 ≤ u 3 ∧ u 3 ≤ 20) ∧ u 4 ≤ 99
theorem w_takeSort (hL : LAY b Y) (hr : WRel Y P q) (wf : WF P) {u : Nat → Nat} (hu : ∀ i, i < 5 → u i < 1000) : (okS P u ∧ ∃ q', f_X10_takeSort N (wA b 2 0) (nI (u 0)) (nI (u 1)) (nI (u 2)) (nI (u 3)) (nI (u 4)) (SW b Y 2 q) = some (1, SW b Y 2 q') ∧ WRel Y (addS P u) q' ∧ q'.2 = q.2) ∨ (¬ okS P u ∧ f_X10_takeSort N (wA b 2 0) (nI (u 0)) (nI (u 1)) (nI (u 2)) (nI (u 3)) (nI (u 4)) (SW b Y 2 q) = some (0, SW b Y 2 q)) := by
  have h5 := wf.1.2.1
  have hL4 := wf.1.1
  have u0 := hu 0 (by decide)
  have u1 := hu 1 (by decide)
  have u2 := hu 2 (by decide)
  have u3 := hu 3 (by decide)
  have u4 := hu 4 (by decide)
  unfold f_X10_takeSort
  rw [q_gI hL (by decide), hr.1.2.1]
  by_cases c0 : sn P 1 < 5
  rotate_left
  · exact Or.inr ⟨fun h => c0 h.1, if_pos (show (5 : Int32) ≤ nI (sn P 1) from nI_le (a := 5) (by omega) (by omega))⟩
  rw [if_neg (show ¬ (5 : Int32) ≤ nI (sn P 1) from nI_ge (b := 5) c0 (by decide)), q_ck hL (by decide), w_hasLanding hL (by decide) hr wf u0, bnd_one, b32_if]
  by_cases c1 : u 0 < sn P 0
  rotate_left
  · exact Or.inr ⟨fun h => c1 h.2.1, if_neg c1⟩
  rw [if_pos c1, q_ck hL (by decide), w_hasLanding hL (by decide) hr wf u1, bnd_one, b32_if]
  by_cases c2 : u 1 < sn P 0
  rotate_left
  · exact Or.inr ⟨fun h => c2 h.2.2.1, if_neg c2⟩
  rw [if_pos c2]
  by_cases c3 : u 0 = u 1
  · exact Or.inr ⟨fun h => h.2.2.2.1 c3, if_pos (by rw [c3])⟩
  rw [if_neg (fun h => c3 ((nI_eq (by omega) (by omega)).mp h)), if_neg (nI_neg (by omega))]
  by_cases c4 : u 2 ≤ 100
  rotate_left
  · exact Or.inr ⟨fun h => c4 h.2.2.2.2.1, if_pos (show (100 : Int32) < nI (u 2) from nI_lt (a := 100) (by omega) (by omega))⟩
  rw [if_neg (show ¬ (100 : Int32) < nI (u 2) from nI_nlt (a := 100) c4 (by decide))]
  by_cases c5 : 1 ≤ u 3
  rotate_left
  · exact Or.inr ⟨fun h => c5 h.2.2.2.2.2.1.1, if_pos (show nI (u 3) < 1 from nI_lt (b := 1) (by omega) (by decide))⟩
  rw [if_neg (show ¬ nI (u 3) < 1 from nI_nlt (b := 1) c5 (by omega))]
  by_cases c6 : u 3 ≤ 20
  rotate_left
  · exact Or.inr ⟨fun h => c6 h.2.2.2.2.2.1.2, if_pos (show (20 : Int32) < nI (u 3) from nI_lt (a := 20) (by omega) (by omega))⟩
  rw [if_neg (show ¬ (20 : Int32) < nI (u 3) from nI_nlt (a := 20) c6 (by decide)), if_neg (nI_neg (by omega))]
  by_cases c7 : u 4 ≤ 99
  rotate_left
  · exact Or.inr ⟨fun h => c7 h.2.2.2.2.2.2, if_neg (show ¬ nI (u 4) ≤ 99 from nI_ge (a := 99) (by omega) (by omega))⟩
  have hs2 : q.1 0 2 = nI (sn P 1) := hr.1.2.1
  have e0 : ∀ (f : Nat → Nat → Int32) (g : Nat → Option Nat) (j : Nat) (v : Int32), ((up2 f 2 j v, g) : WR).1 0 2 = f 0 2 := fun f g j v => by simp [up2]
  refine Or.inl ⟨⟨c0, c1, c2, c3, c4, ⟨c5, c6⟩, c7⟩, (up2 (up2 (up2 (up2 (up2 (up2 q.1 2 (sn P 1 * 5 + 0) (nI (u 0))) 2 (sn P 1 * 5 + 1) (nI (u 1))) 2 (sn P 1 * 5 + 2) (nI (u 2))) 2 (sn P 1 * 5 + 3) (nI (u 3))) 2 (sn P 1 * 5 + 4) (nI (u 4))) 0 2 (nI (sn P 1 + 1)), q.2), ?_, WRel_add hr wf (fun j => ?_) (fun j hj => ?_) (fun k hk => ?_) (fun l h0 h2 => ?_) rfl, rfl⟩
  · rw [if_pos (show nI (u 4) ≤ 99 from nI_le (b := 99) c7 (by decide)), q_gI hL (by decide), hs2, q_ck hL (by decide), show (0 : Int32) = nI 0 from rfl, k_changeSort hL (by decide) c0 (by decide), bnd_one, q_gI hL (by decide), e0, hs2, q_ck hL (by decide), show (1 : Int32) = nI 1 from rfl, k_changeSort hL (by decide) c0 (by decide), bnd_one, q_gI hL (by decide), e0, e0, hs2, q_ck hL (by decide), show (2 : Int32) = nI 2 from rfl, k_changeSort hL (by decide) c0 (by decide), bnd_one, q_gI hL (by decide), e0, e0, e0, hs2, q_ck hL (by decide), show (3 : Int32) = nI 3 from rfl, k_changeSort hL (by decide) c0 (by decide), bnd_one, q_gI hL (by decide), e0, e0, e0, e0, hs2, q_ck hL (by decide), show (4 : Int32) = nI 4 from rfl, k_changeSort hL (by decide) c0 (by decide), bnd_one, q_gI hL (by decide), e0, e0, e0, e0, e0, hs2, q_pI hL (by decide), nI_add]
    try rfl
  · simp [up2]
  · simp only [up2]
    simp
    repeat (first | rfl | (rw [if_neg (by omega)]))
  · rcases (show k = 0 ∨ k = 1 ∨ k = 2 ∨ k = 3 ∨ k = 4 by omega) with rfl | rfl | rfl | rfl | rfl <;> simp [up2]
  · funext j; simp [up2, h0, h2]
theorem s_m223 (hl : MLAY b M2) {t : Nat} (ht : t < 5) {u : Nat → Nat} : ∀ (k i fu : Nat) (r : Nat → Nat → Int32), i + k = 5 → k + 1 ≤ fu → r 4 1 = nI t → (∀ j, j < 5 → r 11 j = nI (u j)) → ∃ g', l_X12_comes_223 N fu (mc b 0) (nI i) (MW b M2 r) = some (1, MW b M2 (upR r 4 g')) ∧ g' 1 = nI (t + 1) ∧ (∀ j, j ≠ 1 → (j < 25 + 5 * t + i ∨ 25 + 5 * t + 5 ≤ j) → g' j = r 4 j) ∧ ∀ j, i ≤ j → j < 5 → g' (25 + 5 * t + j) = nI (u j) := by
  intro k
  induction k with
  | zero =>
    intro i fu r hi hf h1 h11
    obtain ⟨fu, rfl, -⟩ := fuel_s hf
    show ∃ g', b_X12_comes_223 N (l_X12_comes_223 N fu) _ _ _ = _ ∧ _
    unfold b_X12_comes_223
    rw [if_pos (show (5 : Int32) ≤ nI i from nI_le (a := 5) (by omega) (by omega)), n_gR hl (p := 4) (by decide), n_ald1 hl (by decide) (by decide) (by decide), h1, nI_1, show ast (ρ := Int32 × Mm) (MW b M2 r) (mc b 4) 1 = ast (MW b M2 r) (mc b 4) (nI 1) from rfl, n_ast hl (by decide) (by decide) (show 1 < 174 by decide), upR_up2]
    exact ⟨_, rfl, upN_s _ _ _, fun j hj _ => upN_n _ _ hj, fun j h1 h2 => by omega⟩
  | succ k ih =>
    intro i fu r hi hf h1 h11
    obtain ⟨fu, rfl, hf2⟩ := fuel_s hf
    show ∃ g', b_X12_comes_223 N (l_X12_comes_223 N fu) _ _ _ = _ ∧ _
    unfold b_X12_comes_223
    rw [if_neg (show ¬ (5 : Int32) ≤ nI i from nI_ge (b := 5) (by omega) (by decide)), n_gR hl (p := 4) (by decide), n_gR hl (p := 4) (by decide), n_ald1 hl (by decide) (by decide) (by decide), h1, n_gR hl (p := 11) (by decide), n_ald hl (by decide) (by decide) (show i < 5 by omega), h11 i (by omega), iS, n_ast hl (by decide) (by decide) (show 25 + 5 * t + i < 174 by omega), upR_up2, nI_1]
    obtain ⟨g', a1, a2, a3, a4⟩ := ih (i + 1) fu (upR r 4 (upN (r 4) (25 + 5 * t + i) (nI (u i)))) (by omega) (by omega) (by rw [upR_s, upN_n _ _ (by omega)]; exact h1) (fun j hj => by rw [upR_n (by decide)]; exact h11 j hj)
    rw [upR_R] at a1
    refine ⟨g', a1, a2, fun j hj hj2 => ?_, fun j q1 q2 => ?_⟩
    · rw [a3 j hj (by omega), upR_s, upN_n _ _ (by omega)]
    · by_cases hji : j = i
      · subst hji
        rw [a3 _ (by omega) (by omega), upR_s, upN_s]
      · exact a4 j (by omega) q2
/-- what a statement that was read does -/
theorem B_change (hc5 : CXL b Y) (hL : LAY b Y) (hr : WRel Y P (gW b Y 2)) (wf : WF P) (h4 : sn P 4 = 1) (h36 : R36 (gW b Y 2)) (hl : MLAY b M2) (hk : KRel K0 P (r 4)) (hN : 200 ≤ N) {c : Int32} {L : Nat} {u : Nat → Nat} (hc : (c = 98 ∨ c = 110) ∧ L = 1 ∨ (c = 109 ∧ u 2 ≤ 9) ∧ L = 3 ∨ c = 115 ∧ L = 5) (hlet : Y.2.1 (b + 85) 4 = c) (hu : ∀ i, i < L → u i < 1000 ∧ Y.2.1 (b + 86) i = nI (u i) ∧ r 11 i = nI (u i)) : BOK b Y M2 r P (f_X5_changes N (b + 85) (wA b 2 0) Y) (f_X12_comes N (mc b 0) c (MW b M2 r)) := by
  have hM2 : SW b Y 2 (gW b Y 2) = Y := SW_get (by decide)
  have hL4 := wf.1.1
  have h5 := wf.1.2.1
  have h6 := hc5.2.2.1.2.1
  have a5 : ∀ {j : Nat} {κ : Int32 → Option (Int32 × Mm)}, j < 5 → ald Y (b + 86) (nI j) κ = κ (Y.2.1 (b + 86) j) := fun {j κ} hj => by
    unfold ald
    rw [if_pos ⟨by rw [h6], by rw [h6]; exact inA_nI hj (by decide)⟩, nIc (by omega)]
  have hκ : ∀ (x : Int32) (M : Mm), (x = 0 ∨ x = 1) → rq (ρ := Int32 × Mm) (x = 0 ∨ x = 1) (some (x, M)) = some (x, M) := fun x M h => if_pos h
  have al : ∀ (i : Int32) (j : Nat), i = nI j → j < 5 → ∀ κ : Int32 → Option (Int32 × Mm), ald Y (b + 86) i κ = κ (Y.2.1 (b + 86) j) := fun i j hij hj κ => by rw [hij]; exact a5 hj
  have am : ∀ (i : Int32) (j : Nat), i = nI j → j < 5 → ∀ κ : Int32 → Option (Int32 × Mm), ald (MW b M2 r) (mc b 11) i κ = κ (r 11 j) := fun i j hij hj κ => by rw [hij]; exact n_ald hl (by decide) (by decide) hj
  have hup : upR r 4 (r 4) = r := upR_id r 4
  have hno : ∀ {x y : Option (Int32 × Mm)}, x = some (0, Y) → y = some (0, MW b M2 r) → BOK b Y M2 r P x y := fun {x y} hx hy => Or.inr ⟨gW b Y 2, r 4, by rw [hM2]; exact hx, by rw [hup]; exact hy, h36⟩
  unfold f_X5_changes f_X12_comes
  rw [t_gI hc5, hlet]
  rcases hc with ⟨hc, rfl⟩ | ⟨⟨rfl, u29⟩, rfl⟩ | ⟨rfl, rfl⟩
  · obtain ⟨u0, v0, m0⟩ := hu 0 (by decide)
    rcases hc with rfl | rfl
    · rw [if_pos rfl, t_gR5 hc5, al 0 0 rfl (by decide), v0, d_wck hL (by decide)]
      rw [n_gR hl (p := 11) (by decide), am 0 0 rfl (by decide), m0, if_neg (by decide), if_pos rfl, n_gR hl (p := 4) (by decide)]
      have := B_seats (N := N) (κ := fun v4 M5 => rq (v4 = 0 ∨ v4 = 1) (some (v4, M5))) hL hr wf h4 h36 hl hk u0 hκ
      rw [hM2] at this
      exact this
    · rw [if_neg (by decide), if_neg (by decide), if_pos rfl, t_gR5 hc5, al 0 0 rfl (by decide), v0, d_wck hL (by decide)]
      rw [n_gR hl (p := 11) (by decide), am 0 0 rfl (by decide), m0, if_pos rfl, n_ck hl]
      obtain ⟨y1, y2⟩ := m_mayHave (N := N) hl hk wf h4 (by omega) u0
      rcases w_takeLandings (N := N) hL hr wf h4 (by omega) u0 with ⟨z1, z2⟩ | ⟨z1, z2⟩
      · rw [hM2] at z2
        rw [z2, bnd_one, hκ 1 _ (Or.inr rfl), y1 z1, bnd_one, if_neg (by decide), n_gR hl (p := 4) (by decide), show ast (ρ := Int32 × Mm) (MW b M2 r) (mc b 4) 0 = ast (MW b M2 r) (mc b 4) (nI 0) from rfl, n_ast hl (by decide) (by decide) (show 0 < 174 by decide), upR_up2 (r := r)]
        exact Or.inl ⟨ssn P 0 (u 0), _, _, rfl, rfl, WRel_lands hr wf, h36, KRel_lands hk wf, WF_lands wf h4 z1, by rw [sn_ssn, if_neg (by decide)]; exact h4, by rw [sn_ssn, if_neg (by decide)], rfl⟩
      · rw [hM2] at z2
        rw [z2, bnd_one, hκ 0 _ (Or.inl rfl), y2 z1, bnd_one, if_pos rfl]
        exact hno rfl rfl
  · obtain ⟨u0, v0, m0⟩ := hu 0 (by decide)
    obtain ⟨u1, v1, m1⟩ := hu 1 (by decide)
    obtain ⟨u2, v2, m2⟩ := hu 2 (by decide)
    have z := w_takeWay (N := N) hL hr wf u0 u1 u2
    rw [hM2] at z
    have q0 : ∀ r', r' 4 0 = nI (sn P 0) → ∀ κ : Int32 → Option (Int32 × Mm), ald (MW b M2 r') (mc b 4) 0 κ = κ (nI (sn P 0)) := fun r' h κ => by rw [n_ald0 hl (by decide) (by decide) (by decide), h]
    rw [if_neg (by decide), if_pos rfl, t_gR5 hc5, al 0 0 rfl (by decide), v0, t_gR5 hc5, al 1 1 rfl (by decide), v1, t_gR5 hc5, al 2 2 rfl (by decide), v2, d_wck hL (by decide), z]
    rw [n_gR hl (p := 11) (by decide), am 0 0 rfl (by decide), m0, if_neg (show ¬ (109 : Int32) = 110 by decide), if_neg (show ¬ (109 : Int32) = 98 by decide), n_gR hl (p := 11) (by decide), am 1 1 rfl (by decide), m1, n_gR hl (p := 4) (by decide), q0 r hk.1.1]
    by_cases c1 : u 0 < sn P 0
    rotate_left
    · rw [if_neg (fun h => c1 h.1), bnd_one, hκ 0 _ (Or.inl rfl), if_pos (nI_le (by omega) (by omega))]
      exact hno rfl rfl
    rw [if_neg (nI_ge c1 (by omega)), n_gR hl (p := 4) (by decide), q0 r hk.1.1]
    by_cases c2 : u 1 < sn P 0
    rotate_left
    · rw [if_neg (fun h => c2 h.2.1), bnd_one, hκ 0 _ (Or.inl rfl), if_pos (nI_le (by omega) (by omega))]
      exact hno rfl rfl
    rw [if_neg (nI_ge c2 (by omega))]
    by_cases c3 : u 0 = u 1
    · rw [if_neg (fun h => h.2.2.1 c3), bnd_one, hκ 0 _ (Or.inl rfl), if_pos (by rw [c3])]
      exact hno rfl rfl
    rw [if_neg (show ¬ nI (u 0) = nI (u 1) from fun h => c3 ((nI_eq (by omega) (by omega)).mp h)), if_pos rfl, n_gR hl (p := 4) (by decide), n_gR hl (p := 11) (by decide), show (2 : Int32) = nI 2 from rfl, n_ald hl (by decide) (by decide) (show 2 < 5 by decide), m2, iW, n_ast hl (by decide) (by decide) (show 9 + 4 * u 0 + u 1 < 174 by omega), upR_up2 (r := r), n_gR hl (p := 4) (by decide), n_gR hl (p := 11) (by decide), n_ald hl (by decide) (by decide) (show 2 < 5 by decide), upR_n (by decide), m2, iW, n_ast hl (by decide) (by decide) (show 9 + 4 * u 1 + u 0 < 174 by omega), upR_up2 (r := upR r 4 (upN (r 4) (9 + 4 * u 0 + u 1) (nI (u 2)))), upR_s, upR_R, n_gR hl (p := 11) (by decide), n_ald hl (by decide) (by decide) (show 2 < 5 by decide), upR_n (by decide), m2]
    by_cases c4 : u 2 = 0
    · rw [if_neg (fun h => by omega), bnd_one, hκ 0 _ (Or.inl rfl), if_pos ((nI_le0 (by omega)).mpr c4)]
      exact Or.inr ⟨gW b Y 2, _, by rw [hM2], rfl, h36⟩
    · rw [if_pos ⟨c1, c2, c3, by omega, u29⟩, bnd_one, hκ 1 _ (Or.inr rfl), if_neg (fun h => c4 ((nI_le0 (by omega)).mp h))]
      exact Or.inl ⟨wayS P (u 0) (u 1) (u 2), _, _, rfl, rfl, WRel_way hr wf, h36, KRel_way hk wf (by omega) (by omega), WF_way wf ⟨by omega, u29⟩, h4, rfl, rfl⟩
  · obtain ⟨u0, v0, m0⟩ := hu 0 (by decide)
    obtain ⟨u1, v1, m1⟩ := hu 1 (by decide)
    obtain ⟨u2, v2, m2⟩ := hu 2 (by decide)
    obtain ⟨u3, v3, m3⟩ := hu 3 (by decide)
    obtain ⟨u4, v4, m4⟩ := hu 4 (by decide)
    have q0 : ∀ r', r' 4 0 = nI (sn P 0) → ∀ κ : Int32 → Option (Int32 × Mm), ald (MW b M2 r') (mc b 4) 0 κ = κ (nI (sn P 0)) := fun r' h κ => by rw [n_ald0 hl (by decide) (by decide) (by decide), h]
    have i20 : (1 ≤ nI (u 3) ∧ nI (u 3) ≤ 20) ↔ (1 ≤ u 3 ∧ u 3 ≤ 20) := by
      rw [show (1 : Int32) = nI 1 from rfl, show (20 : Int32) = nI 20 from rfl, nI_leI (by omega) (by omega), nI_leI (by omega) (by omega)]
    rw [if_neg (by decide), if_neg (by decide), if_neg (by decide), if_pos rfl, t_gR5 hc5, al 0 0 rfl (by decide), v0, t_gR5 hc5, al 1 1 rfl (by decide), v1, t_gR5 hc5, al 2 2 rfl (by decide), v2, t_gR5 hc5, al 3 3 rfl (by decide), v3, t_gR5 hc5, al 4 4 rfl (by decide), v4, d_wck hL (by decide)]
    rw [n_gR hl (p := 11) (by decide), am 0 0 rfl (by decide), m0, if_neg (by decide), if_neg (by decide), n_gR hl (p := 11) (by decide), am 1 1 rfl (by decide), m1, n_gR hl (p := 4) (by decide), q0 r hk.1.1]
    rcases w_takeSort (N := N) hL hr wf (u := u) (fun i hi => (hu i hi).1) with ⟨⟨k0, k1, k2, k3, k4, k5, k6⟩, q', z1, z2, z3⟩ | ⟨z0, z1⟩
    · rw [hM2] at z1
      obtain ⟨g', y1, y2, y3, y4⟩ := s_m223 (N := N) hl (t := sn P 1) k0 (u := u) 5 0 N r rfl (by omega) hk.1.2.1 (fun j hj => (hu j hj).2.2)
      have y1' : l_X12_comes_223 N N (mc b 0) 0 (MW b M2 r) = _ := y1
      rw [z1, bnd_one, hκ 1 _ (Or.inr rfl), if_neg (nI_ge k1 (by omega)), n_gR hl (p := 4) (by decide), q0 r hk.1.1, if_neg (nI_ge k2 (by omega)), if_neg (show ¬ nI (u 0) = nI (u 1) from fun h => k3 ((nI_eq (by omega) (by omega)).mp h)), if_neg (by decide), n_gR hl (p := 11) (by decide), am 2 2 rfl (by decide), m2, if_neg (show ¬ (100 : Int32) < nI (u 2) from nI_nlt (a := 100) k4 (by decide)), n_gR hl (p := 11) (by decide), am 3 3 rfl (by decide), m3, m_isIn (nI (u 3)) 1 20 1 20 rfl rfl, bnd_one, b32_if, if_pos (i20.mpr k5), n_gR hl (p := 11) (by decide), am 4 4 rfl (by decide), m4, if_neg (show ¬ (99 : Int32) < nI (u 4) from nI_nlt (a := 99) k6 (by decide)), n_gR hl (p := 4) (by decide), n_ald1 hl (by decide) (by decide) (by decide), hk.1.2.1, if_neg (show ¬ nI (sn P 1) = 5 from fun h => by have := (nI_eq (b := 5) (by omega) (by decide)).mp h; omega), y1']
      exact Or.inl ⟨addS P u, q', g', rfl, rfl, z2, by unfold R36; rw [z3]; exact h36, KRel_add hk wf k0 y2 (fun j hj hj2 => y3 j hj (by omega)) (fun k hk5 => y4 k (Nat.zero_le _) hk5), WF_add wf k0 ⟨k1, k2, k3, k4, k5, k6⟩, by rw [sn_addS, if_neg (by decide)]; exact h4, by rw [sn_addS, if_neg (by decide)], rfl⟩
    · rw [hM2] at z1
      rw [z1, bnd_one, hκ 0 _ (Or.inl rfl)]
      by_cases c1 : u 0 < sn P 0
      rotate_left
      · rw [if_pos (nI_le (by omega) (by omega))]
        exact hno rfl rfl
      rw [if_neg (nI_ge c1 (by omega)), n_gR hl (p := 4) (by decide), q0 r hk.1.1]
      by_cases c2 : u 1 < sn P 0
      rotate_left
      · rw [if_pos (nI_le (by omega) (by omega))]
        exact hno rfl rfl
      rw [if_neg (nI_ge c2 (by omega))]
      by_cases c3 : u 0 = u 1
      · rw [if_pos (by rw [c3])]
        exact hno rfl rfl
      rw [if_neg (show ¬ nI (u 0) = nI (u 1) from fun h => c3 ((nI_eq (by omega) (by omega)).mp h)), if_neg (by decide), n_gR hl (p := 11) (by decide), am 2 2 rfl (by decide), m2]
      by_cases c4 : u 2 ≤ 100
      rotate_left
      · rw [if_pos (show (100 : Int32) < nI (u 2) from nI_lt (a := 100) (by omega) (by omega))]
        exact hno rfl rfl
      rw [if_neg (show ¬ (100 : Int32) < nI (u 2) from nI_nlt (a := 100) c4 (by decide)), n_gR hl (p := 11) (by decide), am 3 3 rfl (by decide), m3, m_isIn (nI (u 3)) 1 20 1 20 rfl rfl, bnd_one, b32_if]
      by_cases c5 : 1 ≤ u 3 ∧ u 3 ≤ 20
      rotate_left
      · rw [if_neg (fun h => c5 (i20.mp h))]
        exact hno rfl rfl
      rw [if_pos (i20.mpr c5), n_gR hl (p := 11) (by decide), am 4 4 rfl (by decide), m4]
      by_cases c6 : u 4 ≤ 99
      rotate_left
      · rw [if_pos (show (99 : Int32) < nI (u 4) from nI_lt (a := 99) (by omega) (by omega))]
        exact hno rfl rfl
      rw [if_neg (show ¬ (99 : Int32) < nI (u 4) from nI_nlt (a := 99) c6 (by decide)), n_gR hl (p := 4) (by decide), n_ald1 hl (by decide) (by decide) (by decide), hk.1.2.1]
      by_cases c7 : sn P 1 = 5
      · rw [if_pos (show nI (sn P 1) = 5 from by rw [c7]; rfl)]
        exact hno rfl rfl
      · exact absurd ⟨by omega, c1, c2, c3, c4, c5, c6⟩ z0
end COMES
