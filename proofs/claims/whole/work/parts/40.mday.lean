/-! The model: rows copied, a day begun, minutes gone by. -/
theorem KRel_lt {D : Nat → Nat} {S : SP} {g g' : Nat → Int32} (hk : KRel D S g) (wf : WF S) (h : ∀ j, j < 174 → g' j = g j) : KRel D S g' := by
  have h2 := wf.1.2.2.2.2.1.2
  have h5 := wf.1.2.1
  obtain ⟨a1, a2, a3, a4, a5, a6⟩ := hk
  refine ⟨?_, ?_, fun i hi => ?_, fun t k ht hk => ?_, fun y hy => ?_, fun l hl => ?_⟩
  · rw [h 0 (by decide), h 1 (by decide), h 2 (by decide), h 3 (by decide)]; exact a1
  · rw [h 4 (by decide), h 5 (by decide), h 6 (by decide), h 7 (by decide), h 8 (by decide)]; exact a2
  · rw [h _ (by omega)]; exact a3 i hi
  · rw [h _ (by omega)]; exact a4 t k ht hk
  · exact KB_of (a5 y hy) (B6 wf hy) (fun j h1 h2 => h j (by omega))
  · exact KQ_of (a6 l hl) (WF_q12 wf l) (fun j h1 h2 => h j (by omega))
section MCOPY
variable {b : Nat} {M : Mm} {N : Nat}
theorem s_begins_3 (h : MLAY b M) (x1 x2 x3 x4 : Int32) : ∀ (k i fu : Nat) (r : Nat → Nat → Int32), i + k = 174 → k + 1 ≤ fu → (∀ j, j < i → r 3 j = r 1 j) → ∃ r' fu', l_X12_begins_3 N fu (mc b 0) x1 x2 x3 x4 (nI i) (MW b M r) = b_X12_begins_3 N (l_X12_begins_3 N fu') (mc b 0) x1 x2 x3 x4 (nI 174) (MW b M r') ∧ (∀ j, j < 174 → r' 3 j = r 1 j) ∧ ∀ p, p ≠ 3 → r' p = r p := by
  intro k
  induction k with
  | zero =>
    intro i fu r hi hf hr
    obtain ⟨fu, rfl, -⟩ := fuel_s hf
    have : i = 174 := by omega
    subst this
    exact ⟨r, fu, rfl, hr, fun _ _ => rfl⟩
  | succ k ih =>
    intro i fu r hi hf hr
    obtain ⟨fu, rfl, hf2⟩ := fuel_s hf
    obtain ⟨r', fu', e1, e2, e3⟩ := ih (i + 1) fu (up2 r 3 i (r 1 i)) (by omega) (by omega) (fun j hj => by
      simp only [up2]
      by_cases hji : j = i
      · subst hji; simp
      · simp [hji]; exact hr j (by omega))
    refine ⟨r', fu', ?_, fun j hj => by rw [e2 j hj]; simp [up2], fun p hp => by rw [e3 p hp]; funext j; simp [up2, hp]⟩
    rw [← e1]
    show b_X12_begins_3 N (l_X12_begins_3 N fu) _ _ _ _ _ _ _ = _
    conv => lhs; unfold b_X12_begins_3
    rw [if_neg (show ¬ (174 : Int32) ≤ nI i from nI_ge (show i < 174 by omega) (by decide)), n_gR h (p := 3) (by decide), n_gR h (p := 1) (by decide), n_ald h (p := 1) (by decide) (by decide) (show i < 174 by omega), n_ast h (p := 3) (by decide) (by decide) (show i < 174 by omega), nI_1]
theorem s_image_2 (h : MLAY b M)  : ∀ (k i fu : Nat) (r : Nat → Nat → Int32), i + k = 174 → k + 1 ≤ fu → (∀ j, j < i → r 2 j = r 1 j) → ∃ r' fu', l_X12_image_2 N fu (mc b 0)  (nI i) (MW b M r) = b_X12_image_2 N (l_X12_image_2 N fu') (mc b 0)  (nI 174) (MW b M r') ∧ (∀ j, j < 174 → r' 2 j = r 1 j) ∧ ∀ p, p ≠ 2 → r' p = r p := by
  intro k
  induction k with
  | zero =>
    intro i fu r hi hf hr
    obtain ⟨fu, rfl, -⟩ := fuel_s hf
    have : i = 174 := by omega
    subst this
    exact ⟨r, fu, rfl, hr, fun _ _ => rfl⟩
  | succ k ih =>
    intro i fu r hi hf hr
    obtain ⟨fu, rfl, hf2⟩ := fuel_s hf
    obtain ⟨r', fu', e1, e2, e3⟩ := ih (i + 1) fu (up2 r 2 i (r 1 i)) (by omega) (by omega) (fun j hj => by
      simp only [up2]
      by_cases hji : j = i
      · subst hji; simp
      · simp [hji]; exact hr j (by omega))
    refine ⟨r', fu', ?_, fun j hj => by rw [e2 j hj]; simp [up2], fun p hp => by rw [e3 p hp]; funext j; simp [up2, hp]⟩
    rw [← e1]
    show b_X12_image_2 N (l_X12_image_2 N fu) _  _ _ = _
    conv => lhs; unfold b_X12_image_2
    rw [if_neg (show ¬ (174 : Int32) ≤ nI i from nI_ge (show i < 174 by omega) (by decide)), n_gR h (p := 2) (by decide), n_gR h (p := 1) (by decide), n_ald h (p := 1) (by decide) (by decide) (show i < 174 by omega), n_ast h (p := 2) (by decide) (by decide) (show i < 174 by omega), nI_1]
theorem s_restore_12 (h : MLAY b M)  : ∀ (k i fu : Nat) (r : Nat → Nat → Int32), i + k = 174 → k + 1 ≤ fu → (∀ j, j < i → r 1 j = r 2 j) → ∃ r' fu', l_X12_restore_12 N fu (mc b 0)  (nI i) (MW b M r) = b_X12_restore_12 N (l_X12_restore_12 N fu') (mc b 0)  (nI 174) (MW b M r') ∧ (∀ j, j < 174 → r' 1 j = r 2 j) ∧ ∀ p, p ≠ 1 → r' p = r p := by
  intro k
  induction k with
  | zero =>
    intro i fu r hi hf hr
    obtain ⟨fu, rfl, -⟩ := fuel_s hf
    have : i = 174 := by omega
    subst this
    exact ⟨r, fu, rfl, hr, fun _ _ => rfl⟩
  | succ k ih =>
    intro i fu r hi hf hr
    obtain ⟨fu, rfl, hf2⟩ := fuel_s hf
    obtain ⟨r', fu', e1, e2, e3⟩ := ih (i + 1) fu (up2 r 1 i (r 2 i)) (by omega) (by omega) (fun j hj => by
      simp only [up2]
      by_cases hji : j = i
      · subst hji; simp
      · simp [hji]; exact hr j (by omega))
    refine ⟨r', fu', ?_, fun j hj => by rw [e2 j hj]; simp [up2], fun p hp => by rw [e3 p hp]; funext j; simp [up2, hp]⟩
    rw [← e1]
    show b_X12_restore_12 N (l_X12_restore_12 N fu) _  _ _ = _
    conv => lhs; unfold b_X12_restore_12
    rw [if_neg (show ¬ (174 : Int32) ≤ nI i from nI_ge (show i < 174 by omega) (by decide)), n_gR h (p := 1) (by decide), n_gR h (p := 2) (by decide), n_ald h (p := 2) (by decide) (by decide) (show i < 174 by omega), n_ast h (p := 1) (by decide) (by decide) (show i < 174 by omega), nI_1]
theorem s_goingsOf_2 (h : MLAY b M) (x1 x2 : Int32) : ∀ (k i fu : Nat) (r : Nat → Nat → Int32), i + k = 174 → k + 1 ≤ fu → (∀ j, j < i → r 3 j = r 1 j) → ∃ r' fu', l_X12_goingsOf_2 N fu (mc b 0) x1 x2 (nI i) (MW b M r) = b_X12_goingsOf_2 N (l_X12_goingsOf_2 N fu') (mc b 0) x1 x2 (nI 174) (MW b M r') ∧ (∀ j, j < 174 → r' 3 j = r 1 j) ∧ ∀ p, p ≠ 3 → r' p = r p := by
  intro k
  induction k with
  | zero =>
    intro i fu r hi hf hr
    obtain ⟨fu, rfl, -⟩ := fuel_s hf
    have : i = 174 := by omega
    subst this
    exact ⟨r, fu, rfl, hr, fun _ _ => rfl⟩
  | succ k ih =>
    intro i fu r hi hf hr
    obtain ⟨fu, rfl, hf2⟩ := fuel_s hf
    obtain ⟨r', fu', e1, e2, e3⟩ := ih (i + 1) fu (up2 r 3 i (r 1 i)) (by omega) (by omega) (fun j hj => by
      simp only [up2]
      by_cases hji : j = i
      · subst hji; simp
      · simp [hji]; exact hr j (by omega))
    refine ⟨r', fu', ?_, fun j hj => by rw [e2 j hj]; simp [up2], fun p hp => by rw [e3 p hp]; funext j; simp [up2, hp]⟩
    rw [← e1]
    show b_X12_goingsOf_2 N (l_X12_goingsOf_2 N fu) _ _ _ _ _ = _
    conv => lhs; unfold b_X12_goingsOf_2
    rw [if_neg (show ¬ (174 : Int32) ≤ nI i from nI_ge (show i < 174 by omega) (by decide)), n_gR h (p := 3) (by decide), n_gR h (p := 1) (by decide), n_ald h (p := 1) (by decide) (by decide) (show i < 174 by omega), n_ast h (p := 3) (by decide) (by decide) (show i < 174 by omega), nI_1]
theorem s_judge_33 (h : MLAY b M) (x1 x2 : Int32) : ∀ (k i fu : Nat) (r : Nat → Nat → Int32), i + k = 174 → k + 1 ≤ fu → (∀ j, j < i → r 3 j = r 1 j) → ∃ r' fu', l_X12_judge_33 N fu (mc b 0) x1 x2 (nI i) (MW b M r) = b_X12_judge_33 N (l_X12_judge_33 N fu') (mc b 0) x1 x2 (nI 174) (MW b M r') ∧ (∀ j, j < 174 → r' 3 j = r 1 j) ∧ ∀ p, p ≠ 3 → r' p = r p := by
  intro k
  induction k with
  | zero =>
    intro i fu r hi hf hr
    obtain ⟨fu, rfl, -⟩ := fuel_s hf
    have : i = 174 := by omega
    subst this
    exact ⟨r, fu, rfl, hr, fun _ _ => rfl⟩
  | succ k ih =>
    intro i fu r hi hf hr
    obtain ⟨fu, rfl, hf2⟩ := fuel_s hf
    obtain ⟨r', fu', e1, e2, e3⟩ := ih (i + 1) fu (up2 r 3 i (r 1 i)) (by omega) (by omega) (fun j hj => by
      simp only [up2]
      by_cases hji : j = i
      · subst hji; simp
      · simp [hji]; exact hr j (by omega))
    refine ⟨r', fu', ?_, fun j hj => by rw [e2 j hj]; simp [up2], fun p hp => by rw [e3 p hp]; funext j; simp [up2, hp]⟩
    rw [← e1]
    show b_X12_judge_33 N (l_X12_judge_33 N fu) _ _ _ _ _ = _
    conv => lhs; unfold b_X12_judge_33
    rw [if_neg (show ¬ (174 : Int32) ≤ nI i from nI_ge (show i < 174 by omega) (by decide)), n_gR h (p := 3) (by decide), n_gR h (p := 1) (by decide), n_ald h (p := 1) (by decide) (by decide) (show i < 174 by omega), n_ast h (p := 3) (by decide) (by decide) (show i < 174 by omega), nI_1]
theorem s_river_71 (h : MLAY b M) (x3 : Int32) : ∀ (k i fu : Nat) (r : Nat → Nat → Int32), i + k = 174 → k + 1 ≤ fu → (∀ j, j < i → r 4 j = r 1 j) → ∃ r' fu', l_X12_river_71 N fu (mc b 0) x3 (nI i) (MW b M r) = b_X12_river_71 N (l_X12_river_71 N fu') (mc b 0) x3 (nI 174) (MW b M r') ∧ (∀ j, j < 174 → r' 4 j = r 1 j) ∧ ∀ p, p ≠ 4 → r' p = r p := by
  intro k
  induction k with
  | zero =>
    intro i fu r hi hf hr
    obtain ⟨fu, rfl, -⟩ := fuel_s hf
    have : i = 174 := by omega
    subst this
    exact ⟨r, fu, rfl, hr, fun _ _ => rfl⟩
  | succ k ih =>
    intro i fu r hi hf hr
    obtain ⟨fu, rfl, hf2⟩ := fuel_s hf
    obtain ⟨r', fu', e1, e2, e3⟩ := ih (i + 1) fu (up2 r 4 i (r 1 i)) (by omega) (by omega) (fun j hj => by
      simp only [up2]
      by_cases hji : j = i
      · subst hji; simp
      · simp [hji]; exact hr j (by omega))
    refine ⟨r', fu', ?_, fun j hj => by rw [e2 j hj]; simp [up2], fun p hp => by rw [e3 p hp]; funext j; simp [up2, hp]⟩
    rw [← e1]
    show b_X12_river_71 N (l_X12_river_71 N fu) _ _ _ _ = _
    conv => lhs; unfold b_X12_river_71
    rw [if_neg (show ¬ (174 : Int32) ≤ nI i from nI_ge (show i < 174 by omega) (by decide)), n_gR h (p := 4) (by decide), n_gR h (p := 1) (by decide), n_ald h (p := 1) (by decide) (by decide) (show i < 174 by omega), n_ast h (p := 4) (by decide) (by decide) (show i < 174 by omega), nI_1]
theorem s_river_155 (h : MLAY b M) (x3 : Int32) : ∀ (k i fu : Nat) (r : Nat → Nat → Int32), i + k = 174 → k + 1 ≤ fu → (∀ j, j < i → r 1 j = r 4 j) → ∃ r' fu', l_X12_river_155 N fu (mc b 0) x3 (nI i) (MW b M r) = b_X12_river_155 N (l_X12_river_155 N fu') (mc b 0) x3 (nI 174) (MW b M r') ∧ (∀ j, j < 174 → r' 1 j = r 4 j) ∧ ∀ p, p ≠ 1 → r' p = r p := by
  intro k
  induction k with
  | zero =>
    intro i fu r hi hf hr
    obtain ⟨fu, rfl, -⟩ := fuel_s hf
    have : i = 174 := by omega
    subst this
    exact ⟨r, fu, rfl, hr, fun _ _ => rfl⟩
  | succ k ih =>
    intro i fu r hi hf hr
    obtain ⟨fu, rfl, hf2⟩ := fuel_s hf
    obtain ⟨r', fu', e1, e2, e3⟩ := ih (i + 1) fu (up2 r 1 i (r 4 i)) (by omega) (by omega) (fun j hj => by
      simp only [up2]
      by_cases hji : j = i
      · subst hji; simp
      · simp [hji]; exact hr j (by omega))
    refine ⟨r', fu', ?_, fun j hj => by rw [e2 j hj]; simp [up2], fun p hp => by rw [e3 p hp]; funext j; simp [up2, hp]⟩
    rw [← e1]
    show b_X12_river_155 N (l_X12_river_155 N fu) _ _ _ _ = _
    conv => lhs; unfold b_X12_river_155
    rw [if_neg (show ¬ (174 : Int32) ≤ nI i from nI_ge (show i < 174 by omega) (by decide)), n_gR h (p := 1) (by decide), n_gR h (p := 4) (by decide), n_ald h (p := 4) (by decide) (by decide) (show i < 174 by omega), n_ast h (p := 1) (by decide) (by decide) (show i < 174 by omega), nI_1]
theorem s_begins_48 (h : MLAY b M) (x2 x3 x4 : Int32) : ∀ (k i fu : Nat) (r : Nat → Nat → Int32), i + k = 4 → k + 1 ≤ fu → ∃ r' fu', l_X12_begins_48 N fu (mc b 0) x2 x3 x4 (nI i) (MW b M r) = b_X12_begins_48 N (l_X12_begins_48 N fu') (mc b 0) x2 x3 x4 (nI 4) (MW b M r') ∧ (∀ j, i ≤ j → j < 4 → r' 3 (5 + j) = 0 ∧ r' 3 (74 + 25 * j) = 0) ∧ (∀ j, (∀ i', i ≤ i' → i' < 4 → j ≠ 5 + i' ∧ j ≠ 74 + 25 * i') → r' 3 j = r 3 j) ∧ ∀ p, p ≠ 3 → r' p = r p := by
  intro k
  induction k with
  | zero =>
    intro i fu r hi hf
    obtain ⟨fu, rfl, -⟩ := fuel_s hf
    have : i = 4 := by omega
    subst this
    exact ⟨r, fu, rfl, fun j h1 h2 => by omega, fun _ _ => rfl, fun _ _ => rfl⟩
  | succ k ih =>
    intro i fu r hi hf
    obtain ⟨fu, rfl, hf2⟩ := fuel_s hf
    obtain ⟨r', fu', e1, e2, e3, e4⟩ := ih (i + 1) fu (up2 (up2 r 3 (5 + i) 0) 3 (74 + 25 * i) 0) (by omega) (by omega)
    refine ⟨r', fu', ?_, fun j h1 h2 => ?_, fun j hj => ?_, fun p hp => by rw [e4 p hp]; funext j; simp [up2, hp]⟩
    · rw [← e1]
      show b_X12_begins_48 N (l_X12_begins_48 N fu) _ _ _ _ _ _ = _
      conv => lhs; unfold b_X12_begins_48
      rw [if_neg (show ¬ (4 : Int32) ≤ nI i from nI_ge (show i < 4 by omega) (by decide)), n_gR h (p := 3) (by decide), show (5 : Int32) = nI 5 from rfl, nI_add, n_ast h (p := 3) (by decide) (by decide) (show 5 + i < 174 by omega), n_gR h (p := 3) (by decide), iQ, n_ast h (p := 3) (by decide) (by decide) (show 74 + 25 * i < 174 by omega), nI_1]
    · by_cases hji : j = i
      · subst hji
        rw [e3 _ (fun i' q1 q2 => by omega), e3 _ (fun i' q1 q2 => by omega)]
        simp [up2]
      · exact e2 j (by omega) h2
    · rw [e3 j (fun i' q1 q2 => hj i' (by omega) q2)]
      obtain ⟨q1, q2⟩ := hj i (Nat.le_refl _) (by omega)
      simp [up2, q1, q2]
theorem n_puts (h : MLAY b M) {r : Nat → Nat → Int32} {p x : Nat} (h1 : 1 ≤ p) (hp : p < 5) (hx : x < 2) {at_ kd fg : Int32} : f_X12_puts N (mc b p) (nI x) at_ kd fg (MW b M r) = some ((), MW b M (upR r p (upN (upN (upN (upN (upN (upN (r p) (50 + 12 * x) at_) (50 + 12 * x + 1) (-4)) (50 + 12 * x + 2) 0) (50 + 12 * x + 3) 0) (50 + 12 * x + 4) kd) (50 + 12 * x + 5) fg))) := by
  unfold f_X12_puts
  have hA : AI (MW b M r) (mc b p) 174 := AI_MW h h1 hp
  rw [MW_as (show p < 12 by omega), m_sets hA 0 0 rfl hx (by decide), bnd_one, m_sets hA 1 1 rfl hx (by decide), bnd_one, m_sets hA 2 2 rfl hx (by decide), bnd_one, m_sets hA 3 3 rfl hx (by decide), bnd_one, m_sets hA 4 4 rfl hx (by decide), bnd_one, m_sets hA 5 5 rfl hx (by decide), bnd_one, sG_MW (by omega)]
  rfl
theorem m_begins (h : MLAY b M) {S : SP} {r : Nat → Nat → Int32} (hk : KRel K0 S (r 1)) (wf : WF S) {z : Int32} {l kd fg : Nat} (hN : 200 ≤ N) : ∃ r', f_X12_begins N (mc b 0) z (nI l) (nI kd) (nI fg) (MW b M r) = some ((), MW b M r') ∧ KRel K0 (dayS S z l kd fg) (r' 3) ∧ (∀ p, p ≠ 0 → p ≠ 3 → r' p = r p) ∧ (∀ k, k ≠ 18 → r' 0 k = r 0 k) ∧ r' 0 18 = 0 := by
  have h5 := wf.1.2.1
  unfold f_X12_begins
  obtain ⟨r1, fu1, e1, c1, c2⟩ := s_begins_3 (N := N) h z (nI l) (nI kd) (nI fg) 174 0 N r (by omega) (by omega) (fun j hj => by omega)
  rw [show (0 : Int32) = nI 0 from rfl, e1]
  unfold b_X12_begins_3
  rw [if_pos (show (174 : Int32) ≤ nI 174 by decide), n_gR h (p := 3) (by decide), show (4 : Int32) = nI 4 from rfl, n_ast h (p := 3) (by decide) (by decide) (show 4 < 174 by decide), n_gR h (p := 3) (by decide), show (3 : Int32) = nI 3 from rfl, n_ast h (p := 3) (by decide) (by decide) (show 3 < 174 by decide)]
  obtain ⟨r2, fu2, e2, d1, d2, d3⟩ := s_begins_48 (N := N) h (nI l) (nI kd) (nI fg) 4 0 N (up2 (up2 r1 3 4 z) 3 3 (nI 0)) (by omega) (by omega)
  rw [show (0 : Int32) = nI 0 from rfl, e2]
  unfold b_X12_begins_48
  rw [if_pos (show (4 : Int32) ≤ nI 4 by decide), n_gR h (p := 3) (by decide), show (0 : Int32) = nI 0 from rfl, n_puts h (p := 3) (x := 0) (by decide) (by decide) (by decide), bnd_one, n_pI h]
  refine ⟨_, rfl, ?_, fun p hp0 hp3 => ?_, fun k hk18 => ?_, by simp [up2, nI_0]⟩
  · -- the numbers of the row in mind
    have hg : ∀ j, up2 (upR r2 3 (upN (upN (upN (upN (upN (upN (r2 3) (50 + 12 * 0) (nI l)) (50 + 12 * 0 + 1) (-4)) (50 + 12 * 0 + 2) 0) (50 + 12 * 0 + 3) 0) (50 + 12 * 0 + 4) (nI kd)) (50 + 12 * 0 + 5) (nI fg))) 0 18 (nI 0) 3 j = (if j = 55 then nI fg else if j = 54 then nI kd else if j = 53 then 0 else if j = 52 then 0 else if j = 51 then -4 else if j = 50 then nI l else r2 3 j) := fun j => by
      simp only [up2, upR, upN]
      simp
    have hm : ∀ j, j < 174 → j ≠ 3 → j ≠ 4 → j ≠ 5 → j ≠ 6 → j ≠ 7 → j ≠ 8 → j ≠ 74 → j ≠ 99 → j ≠ 124 → j ≠ 149 → r2 3 j = r 1 j := by
      intro j hj q3 q4 q5 q6 q7 q8 q74 q99 q124 q149
      rw [d2 j (fun i' q1 q2 => by omega)]
      simp only [up2, if_neg q3, if_neg q4, if_true]
      exact c1 j hj
    obtain ⟨a1, a2, a3, a4, a5, a6⟩ := hk
    have hn : ∀ k, k ≠ 3 → k ≠ 4 → sn (dayS S z l kd fg) k = sn S k := fun k h3 h4 => by rw [sn_dayS, if_neg h4, if_neg h3]
    have hz : ∀ j, j < 4 → r2 3 (5 + j) = 0 ∧ r2 3 (74 + 25 * j) = 0 := fun j hj => d1 j (Nat.zero_le _) hj
    refine ⟨⟨?_, ?_, ?_, ?_⟩, ⟨?_, ?_, ?_, ?_, ?_⟩, fun i hi => ?_, fun t k ht hk => ?_, fun x hx => ?_, fun q hq => ⟨?_, fun j p hj => ?_⟩⟩
    · rw [hg]; simp; rw [hm 0 (by decide) (by decide) (by decide) (by decide) (by decide) (by decide) (by decide) (by decide) (by decide) (by decide) (by decide), hn 0 (by decide) (by decide)]; exact a1.1
    · rw [hg]; simp; rw [hm 1 (by decide) (by decide) (by decide) (by decide) (by decide) (by decide) (by decide) (by decide) (by decide) (by decide) (by decide), hn 1 (by decide) (by decide)]; exact a1.2.1
    · rw [hg]; simp; rw [hm 2 (by decide) (by decide) (by decide) (by decide) (by decide) (by decide) (by decide) (by decide) (by decide) (by decide) (by decide), hn 2 (by decide) (by decide)]; exact a1.2.2.1
    · rw [hg]; simp; rw [d2 3 (fun i' q1 q2 => by omega), sn_dayS]; simp [up2]
    · rw [hg]; simp; rw [d2 4 (fun i' q1 q2 => by omega)]; simp [up2, dayS, sc]
    · rw [hg]; simp; rw [(hz 0 (by decide)).1]; rfl
    · rw [hg]; simp; rw [(hz 1 (by decide)).1]; rfl
    · rw [hg]; simp; rw [(hz 2 (by decide)).1]; rfl
    · rw [hg]; simp; rw [(hz 3 (by decide)).1]; rfl
    · rw [hg, if_neg (by omega), if_neg (by omega), if_neg (by omega), if_neg (by omega), if_neg (by omega), if_neg (by omega), hm _ (by omega) (by omega) (by omega) (by omega) (by omega) (by omega) (by omega) (by omega) (by omega) (by omega) (by omega)]
      exact a3 i hi
    · rw [hn 1 (by decide) (by decide)] at ht
      rw [hg, if_neg (by omega), if_neg (by omega), if_neg (by omega), if_neg (by omega), if_neg (by omega), if_neg (by omega), hm _ (by omega) (by omega) (by omega) (by omega) (by omega) (by omega) (by omega) (by omega) (by omega) (by omega) (by omega)]
      exact a4 t k ht hk
    · rw [sn_dayS, if_pos rfl] at hx
      have hx0 : x = 0 := by omega
      subst hx0
      show KB (l, 0, []) (kd, fg) 50 _
      unfold KB
      refine ⟨?_, ?_, ?_, ?_, ?_, ?_, ?_⟩
      · rw [hg]; simp
      · rw [hg]; simp
      · rw [hg]; simp [nI_0]
      · rw [hg]; simp [nI_0]
      · rw [hg]; simp
      · rw [hg]; simp
      · intro j t hj; simp at hj
    · show _ = nI 0
      rw [hg, if_neg (by omega), if_neg (by omega), if_neg (by omega), if_neg (by omega), if_neg (by omega), if_neg (by omega), (hz q hq).2, nI_0]
    · have hj' : ([] : List (Nat × Nat))[j]? = some p := hj
      simp at hj'
  · funext j
    simp only [up2, upR]
    rw [if_neg hp0, if_neg hp3, d3 p hp3]
    simp only [up2, if_neg hp3]
    rw [c2 p hp3]
  · simp only [up2, upR, if_true, if_neg hk18]
    rw [if_neg (by decide), d3 0 (by decide)]
    simp only [up2]
    rw [if_neg (by decide), if_neg (by decide), c2 0 (by decide)]
theorem s_goesBy (h : MLAY b M) (x3 : Int32) {n : Nat} (hn : n ≤ 5000) (hN : 20 ≤ N) : ∀ (k i fu : Nat) (S : SP) (r : Nat → Nat → Int32), i + k = n → k + 1 ≤ fu → sn S 3 + k ≤ 5000 → KRel K0 S (r 3) → WF S → r 0 18 = 0 → ∃ r' fu', l_X12_goesBy_3 N fu (mc b 0) (nI n) (nI (sn S 4)) x3 (nI i) (MW b M r) = b_X12_goesBy_3 N (l_X12_goesBy_3 N fu') (mc b 0) (nI n) (nI (sn S 4)) x3 (nI n) (MW b M r') ∧ KRel K0 (passS S k) (r' 3) ∧ ∀ p, p ≠ 3 → r' p = r p := by
  intro k
  induction k with
  | zero =>
    intro i fu S r hi hf hm hk wf h18
    obtain ⟨fu, rfl, -⟩ := fuel_s hf
    have : i = n := by omega
    subst this
    exact ⟨r, fu, rfl, hk, fun _ _ => rfl⟩
  | succ k ih =>
    intro i fu S r hi hf hm hk wf h18
    obtain ⟨fu, rfl, hf2⟩ := fuel_s hf
    have hA : AI (MW b M r) (mc b 3) 174 := AI_MW h (by decide) (by decide)
    have h18' : (MW b M r).2.1 (mc b 0) 18 = 0 := by rw [MW_i (by decide)]; exact h18
    obtain ⟨g', c1, c2⟩ := m_minute (N := N) hA (o := mc b 0) (by unfold mc; omega) h.1 h18' (g := r 3) hk wf hN
    have hs4 : sn (minS S) 4 = sn S 4 := by
      show (minS S).1 4 = _
      rw [sn_minS]
      exact upN_n _ _ (by decide)
    have hs3 : sn (minS S) 3 = sn S 3 + 1 := by
      show (minS S).1 3 = _
      rw [sn_minS]
      exact upN_s _ _ _
    rw [← MW_as (by decide), sG_MW (by decide)] at c1
    have hup : g' = upR r 3 g' 3 := by funext j; simp [upR]
    obtain ⟨r', fu', e1, e2, e3⟩ := ih (i + 1) fu (minS S) (upR r 3 g') (by omega) (by omega) (by omega) (hup ▸ c2) (WF_minS wf (by omega)) (by simpa [upR] using h18)
    refine ⟨r', fu', ?_, e2, fun p hp => by rw [e3 p hp]; funext j; simp [upR, hp]⟩
    rw [hs4] at e1
    rw [← e1]
    show b_X12_goesBy_3 N (l_X12_goesBy_3 N fu) _ _ _ _ _ _ = _
    conv => lhs; unfold b_X12_goesBy_3
    rw [if_neg (nI_ge (by omega) (by omega)), n_gR h (p := 3) (by decide), n_ck h, c1, bnd_one, nI_1]
theorem m_goesBy (h : MLAY b M) {n w : Nat} (hw : w < 4) {S : SP} {r : Nat → Nat → Int32} (hN : 20 ≤ N) (hN2 : n + 1 ≤ N) (hm : sn S 3 + n ≤ 5000) (hk : KRel K0 S (r 3)) (wf : WF S) (h18 : r 0 18 = 0) : ∃ r', f_X12_goesBy N (mc b 0) (nI n) (nI (sn S 4)) (nI w) (MW b M r) = some (r' 3 (5 + w), MW b M r') ∧ KRel K0 (passS S n) (r' 3) ∧ ∀ p, p ≠ 3 → r' p = r p := by
  unfold f_X12_goesBy
  obtain ⟨r', fu', e1, e2, e3⟩ := s_goesBy (N := N) h (nI w) (n := n) (by omega) hN n 0 N S r (by omega) hN2 hm hk wf h18
  refine ⟨r', ?_, e2, e3⟩
  rw [show (0 : Int32) = nI 0 from rfl, e1]
  unfold b_X12_goesBy_3
  rw [if_pos (nI_le (Nat.le_refl _) (by omega)), n_gR h (p := 3) (by decide), show (5 : Int32) = nI 5 from rfl, nI_add, n_ald h (by decide) (by decide) (show 5 + w < 174 by omega)]
end MCOPY
