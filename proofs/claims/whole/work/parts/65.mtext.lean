/-! Rivers: how a text is read; the model's side. -/
def MTX (d n : Nat) (e : Nat → Int32) (r : Nat → Nat → Int32) (p : Nat) : Prop := r 0 12 = nI p ∧ r 0 13 = nI (100 * d) ∧ r 0 14 = nI n ∧ ∀ i, i < 100 → r 8 (100 * d + i) = e i
def MD (r r' : Nat → Nat → Int32) : Prop := (∀ q, q ≠ 0 → q ≠ 11 → r' q = r q) ∧ ∀ k, k ≠ 12 → k ≠ 15 → r' 0 k = r 0 k
theorem MD_refl (r : Nat → Nat → Int32) : MD r r := ⟨fun _ _ _ => rfl, fun _ _ _ => rfl⟩
theorem MD_trans {r r' r'' : Nat → Nat → Int32} (h1 : MD r r') (h2 : MD r' r'') : MD r r'' := ⟨fun q a1 a2 => (h2.1 q a1 a2).trans (h1.1 q a1 a2), fun k a1 a2 => (h2.2 k a1 a2).trans (h1.2 k a1 a2)⟩
def hrM (e : Nat → Int32) (n p : Nat) : Int32 := if p < n then e p else -1000
def chM (N o : Nat) : List (Nat × Int32) → (Mm → Option (Int32 × Mm)) → Mm → Option (Int32 × Mm)
  | [], K, M => K M
  | (0, _) :: l, K, M => ck 12 M o (bnd (f_X12_readsDigit N o M) (fun v M' => (if v = 0 then some ((0 : Int32), M') else chM N o l K M')))
  | (1, _) :: l, K, M => ck 12 M o (bnd (f_X12_readsNumber N o M) (fun v M' => (if v = 0 then some ((0 : Int32), M') else chM N o l K M')))
  | (_ + 2, c) :: l, K, M => ck 12 M o (bnd (f_X12_takes N o c M) (fun v M' => (if v = 0 then some ((0 : Int32), M') else chM N o l K M')))
section MTEXT
variable {b d n p : Nat} {M2 : Mm} {e : Nat → Int32} {N : Nat} {r r' : Nat → Nat → Int32}
theorem MTX_12 (h : MTX d n e r p) (q : Nat) : MTX d n e (up2 r 0 12 (nI q)) q := by
  obtain ⟨h1, h2, h3, h4⟩ := h
  exact ⟨by simp [up2], by simp [up2]; exact h2, by simp [up2]; exact h3, fun i hi => by simp [up2]; exact h4 i hi⟩
theorem MTX_o (h : MTX d n e r p) {a k : Nat} {v : Int32} (ha : a = 11 ∨ a = 0 ∧ k = 15) : MTX d n e (up2 r a k v) p := by
  obtain ⟨h1, h2, h3, h4⟩ := h
  rcases ha with rfl | ⟨rfl, rfl⟩
  · exact ⟨by simp [up2]; exact h1, by simp [up2]; exact h2, by simp [up2]; exact h3, fun i hi => by simp [up2]; exact h4 i hi⟩
  · exact ⟨by simp [up2]; exact h1, by simp [up2]; exact h2, by simp [up2]; exact h3, fun i hi => by simp [up2]; exact h4 i hi⟩
theorem MD_i {a k : Nat} {v : Int32} (h : a = 11 ∨ (a = 0 ∧ (k = 12 ∨ k = 15))) : MD r (up2 r a k v) := by
  refine ⟨fun q h0 h11 => ?_, fun j h12 h15 => ?_⟩
  · funext j
    simp only [up2]
    rw [if_neg (by omega)]
  · simp only [up2]
    split
    · rw [if_neg (by omega)]
    · rfl
theorem h_here (hl : MLAY b M2) (h : MTX d n e r p) (hd : d < 8) (hn : n ≤ 100) (hp : p ≤ n) : f_X12_here N (mc b 0) (MW b M2 r) = some (hrM e n p, MW b M2 r) := by
  obtain ⟨h1, h2, h3, h4⟩ := h
  unfold f_X12_here hrM
  rw [n_gI hl, h1, n_gI hl, h3]
  by_cases hpn : p < n
  · rw [if_neg (nI_ge hpn (by omega)), if_pos hpn, n_gR hl (p := 8) (by decide), n_gI hl, h2, n_gI hl, h1, nI_add, n_ald hl (by decide) (by decide) (show 100 * d + p < 800 by omega), h4 p (by omega)]
  · rw [if_pos (nI_le (by omega) (by omega)), if_neg hpn]
theorem h_isDigit (hl : MLAY b M2) (h : MTX d n e r p) (hd : d < 8) (hn : n ≤ 100) (hp : p ≤ n) : f_X12_isDigit N (mc b 0) (MW b M2 r) = some (b32 (dgP e n p), MW b M2 r) := by
  unfold f_X12_isDigit
  rw [n_ck hl, h_here hl h hd hn hp, bnd_one, m_isIn (hrM e n p) 48 57 48 57 rfl rfl, bnd_one]
  have e1 : b32 (48 ≤ hrM e n p ∧ hrM e n p ≤ 57) = b32 (dgP e n p) := by
    unfold b32 hrM
    by_cases hpn : p < n
    · rw [if_pos hpn]
      by_cases hg : 48 ≤ e p ∧ e p ≤ 57
      · rw [if_pos hg, if_pos ⟨hpn, hg⟩]
      · rw [if_neg hg, if_neg (fun q => hg q.2)]
    · rw [if_neg hpn, if_neg (by decide), if_neg (fun q => hpn q.1)]
  rw [e1]
  exact if_pos b32_01
theorem h_takes (hl : MLAY b M2) (h : MTX d n e r p) (hd : d < 8) (hn : n ≤ 100) (hp : p ≤ n) {c : Int32} (hc : ¬ (-1000 : Int32) = c) : ∃ r', f_X12_takes N (mc b 0) c (MW b M2 r) = some (b32 (p < n ∧ e p = c), MW b M2 r') ∧ MTX d n e r' (if p < n ∧ e p = c then p + 1 else p) ∧ MD r r' ∧ r' 0 15 = r 0 15 ∧ r' 11 = r 11 := by
  unfold f_X12_takes
  rw [n_ck hl, h_here hl h hd hn hp, bnd_one]
  have hiff : hrM e n p = c ↔ (p < n ∧ e p = c) := by
    unfold hrM
    by_cases hpn : p < n
    · rw [if_pos hpn]; exact ⟨fun q => ⟨hpn, q⟩, fun q => q.2⟩
    · rw [if_neg hpn]; exact ⟨fun q => absurd q hc, fun q => absurd q.1 hpn⟩
  by_cases hg : p < n ∧ e p = c
  · rw [if_pos (hiff.mpr hg), if_pos hg, n_gI hl, h.1, n_pI hl, nI_1, show b32 (p < n ∧ e p = c) = 1 from if_pos hg]
    exact ⟨_, rfl, MTX_12 h (p + 1), MD_i (Or.inr ⟨rfl, Or.inl rfl⟩), by simp [up2], by funext j; simp [up2]⟩
  · rw [if_neg (fun q => hg (hiff.mp q)), if_neg hg, show b32 (p < n ∧ e p = c) = 0 from if_neg hg]
    exact ⟨r, rfl, h, MD_refl r, rfl, rfl⟩
theorem h_readsDigit (hl : MLAY b M2) (h : MTX d n e r p) (hd : d < 8) (hn : n ≤ 100) (hp : p ≤ n) {t : Nat} (ht : t < 5) (h15 : r 0 15 = nI t) : ∃ r', f_X12_readsDigit N (mc b 0) (MW b M2 r) = some (b32 (dgP e n p), MW b M2 r') ∧ MTX d n e r' (if dgP e n p then p + 1 else p) ∧ MD r r' ∧ (dgP e n p → r' 0 15 = nI (t + 1)) ∧ (∀ i, i ≠ t → r' 11 i = r 11 i) ∧ (dgP e n p → r' 11 t = nI (dv e p)) := by
  unfold f_X12_readsDigit
  rw [n_ck hl, h_isDigit hl h hd hn hp, bnd_one, b32_if]
  by_cases hg : dgP e n p
  · have q15 : up2 r 11 t (nI (dv e p)) 0 15 = nI t := by simp [up2]; exact h15
    have q12 : up2 (up2 r 11 t (nI (dv e p))) 0 15 (nI (t + 1)) 0 12 = nI p := by simp [up2]; exact h.1
    rw [if_pos hg, if_pos hg, n_gR hl (p := 11) (by decide), n_gI hl, h15, n_ck hl, h_here hl h hd hn hp, bnd_one, show hrM e n p = e p from if_pos hg.1, dval0 hg, n_ast hl (by decide) (by decide) (show t < 5 from ht), n_gI hl, q15, n_pI hl, nI_1, n_gI hl, q12, n_pI hl, nI_1, show b32 (dgP e n p) = 1 from if_pos hg]
    refine ⟨_, rfl, MTX_12 (MTX_o (MTX_o h (Or.inl rfl)) (Or.inr ⟨rfl, rfl⟩)) (p + 1), MD_trans (MD_i (Or.inl rfl)) (MD_trans (MD_i (Or.inr ⟨rfl, Or.inr rfl⟩)) (MD_i (Or.inr ⟨rfl, Or.inl rfl⟩))), fun _ => by simp [up2], fun i hi => by simp [up2, hi], fun _ => by simp [up2]⟩
  · rw [if_neg hg, if_neg hg, show b32 (dgP e n p) = 0 from if_neg hg]
    exact ⟨r, rfl, h, MD_refl r, fun q => absurd q hg, fun _ _ => rfl, fun q => absurd q hg⟩
theorem s_hnum (hl : MLAY b M2) (hd : d < 8) (hn : n ≤ 100) {t : Nat} (ht : t < 5) : ∀ (k c fu p v : Nat) (r : Nat → Nat → Int32), c + k = 3 → k + 1 ≤ fu → p ≤ n → v < 10 ^ c → MTX d n e r p → r 0 15 = nI (t + 1) → ∃ r', l_X12_readsNumber_23 N fu (mc b 0) (nI v) (nI c) (MW b M2 r) = some (1, MW b M2 r') ∧ MTX d n e r' (numK e n k p v).1 ∧ MD r r' ∧ r' 0 15 = nI (t + 1) ∧ (∀ i, i ≠ t → r' 11 i = r 11 i) ∧ r' 11 t = nI (numK e n k p v).2 := by
  have h68 : ∀ (r : Nat → Nat → Int32) (v p : Nat), MTX d n e r p → r 0 15 = nI (t + 1) → ∃ r', j_X12_readsNumber_68 N (mc b 0) (nI v) (MW b M2 r) = some (1, MW b M2 r') ∧ MTX d n e r' p ∧ MD r r' ∧ r' 0 15 = nI (t + 1) ∧ (∀ i, i ≠ t → r' 11 i = r 11 i) ∧ r' 11 t = nI v := fun r v p h h15 => by
    unfold j_X12_readsNumber_68
    rw [n_gR hl (p := 11) (by decide), n_gI hl, h15, nI_pred, n_ast hl (by decide) (by decide) (show t < 5 from ht)]
    exact ⟨_, rfl, MTX_o h (Or.inl rfl), MD_i (Or.inl rfl), by simp [up2]; exact h15, fun i hi => by simp [up2, hi], by simp [up2]⟩
  intro k
  induction k with
  | zero =>
    intro c fu p v r hc hf hp hv h h15
    obtain ⟨fu, rfl, -⟩ := fuel_s hf
    show ∃ r', b_X12_readsNumber_23 N (l_X12_readsNumber_23 N fu) _ _ _ _ = _ ∧ _
    unfold b_X12_readsNumber_23
    rw [if_pos (show (3 : Int32) ≤ nI c from nI_le (a := 3) (by omega) (by omega))]
    exact h68 r v p h h15
  | succ k ih =>
    intro c fu p v r hc hf hp hv h h15
    obtain ⟨fu, rfl, hf2⟩ := fuel_s hf
    have hv3 : 10 ^ c ≤ 10 ^ 3 := Nat.pow_le_pow_right (by decide) (by omega)
    show ∃ r', b_X12_readsNumber_23 N (l_X12_readsNumber_23 N fu) _ _ _ _ = _ ∧ _
    unfold b_X12_readsNumber_23
    rw [if_neg (show ¬ (3 : Int32) ≤ nI c from nI_ge (b := 3) (by omega) (by decide)), n_ck hl, h_isDigit hl h hd hn hp, bnd_one, b32_if]
    unfold numK
    by_cases hv0 : v = 0
    · rw [if_pos ((nI_le0 (by omega)).mpr hv0), if_pos hv0]
      exact h68 r v p h h15
    · rw [if_neg (fun q => hv0 ((nI_le0 (by omega)).mp q)), if_neg hv0]
      by_cases hg : dgP e n p
      · have h9 := (dv_le hg).1
        have h' := MTX_12 h (p + 1)
        have h15' : up2 r 0 12 (nI (p + 1)) 0 15 = nI (t + 1) := by simp [up2]; exact h15
        rw [if_pos hg, if_pos hg, n_ck hl, h_here hl h hd hn hp, bnd_one, show hrM e n p = e p from if_pos hg.1, n_gI hl, h.1, n_pI hl, nI_1, nI_1, show (10 : Int32) * nI v = nI (v * 10) from by rw [Int32.mul_comm]; exact pk_mul v 10, dval hg]
        obtain ⟨r', a1, a2, a3, a4, a5, a6⟩ := ih (c + 1) fu (p + 1) (v * 10 + dv e p) _ (by omega) (by omega) hg.1 (by rw [Nat.pow_succ]; omega) h' h15'
        exact ⟨r', a1, a2, MD_trans (MD_i (Or.inr ⟨rfl, Or.inl rfl⟩)) a3, a4, fun i hi => by rw [a5 i hi]; simp [up2], a6⟩
      · rw [if_neg hg, if_neg hg]
        exact h68 r v p h h15
theorem h_readsNumber (hl : MLAY b M2) (h : MTX d n e r p) (hd : d < 8) (hn : n ≤ 100) (hp : p ≤ n) (hN : 20 ≤ N) {t : Nat} (ht : t < 5) (h15 : r 0 15 = nI t) : ∃ r', f_X12_readsNumber N (mc b 0) (MW b M2 r) = some (b32 (dgP e n p), MW b M2 r') ∧ MTX d n e r' (if dgP e n p then (numK e n 2 (p + 1) (dv e p)).1 else p) ∧ MD r r' ∧ (dgP e n p → r' 0 15 = nI (t + 1)) ∧ (∀ i, i ≠ t → r' 11 i = r 11 i) ∧ (dgP e n p → r' 11 t = nI (numK e n 2 (p + 1) (dv e p)).2) := by
  obtain ⟨r1, a1, a2, a3, a4, a5, a6⟩ := h_readsDigit (N := N) hl h hd hn hp ht h15
  unfold f_X12_readsNumber
  rw [n_ck hl, a1, bnd_one, b32_if]
  by_cases hg : dgP e n p
  · rw [if_pos hg] at a2
    have h9 := (dv_le hg).1
    obtain ⟨r', b1, b2, b3, b4, b5, b6⟩ := s_hnum (N := N) (e := e) hl hd hn ht 2 1 N (p + 1) (dv e p) r1 rfl (by omega) hg.1 (by omega) a2 (a4 hg)
    have b1' : l_X12_readsNumber_23 N N (mc b 0) (nI (dv e p)) 1 (MW b M2 r1) = _ := b1
    rw [if_pos hg, if_pos hg, n_gR hl (p := 11) (by decide), n_gI hl, a4 hg, nI_pred, n_ald hl (by decide) (by decide) (show t < 5 from ht), a6 hg, b1', show b32 (dgP e n p) = 1 from if_pos hg]
    exact ⟨r', rfl, b2, MD_trans a3 b3, fun _ => b4, fun i hi => (b5 i hi).trans (a5 i hi), fun _ => b6⟩
  · rw [if_neg hg] at a2
    rw [if_neg hg, if_neg hg, show b32 (dgP e n p) = 0 from if_neg hg]
    exact ⟨r1, rfl, a2, a3, fun q => absurd q hg, a5, fun q => absurd q hg⟩
theorem VSm_app {r r' : Nat → Nat → Int32} {vs : List Nat} {v : Nat} (h : ∀ i t, vs[i]? = some t → r 11 i = nI t) (h1 : ∀ i, i ≠ vs.length → r' 11 i = r 11 i) (h2 : r' 11 vs.length = nI v) : ∀ i t, (vs ++ [v])[i]? = some t → r' 11 i = nI t := by
  intro i t hi
  by_cases hl : i = vs.length
  · subst hl
    rw [List.getElem?_concat_length] at hi
    cases hi
    exact h2
  · rw [h1 i hl]
    refine h i t ?_
    rcases Nat.lt_or_ge i vs.length with q | q
    · rwa [List.getElem?_append_left q] at hi
    · rw [List.getElem?_append_right q, List.getElem?_eq_none (by simp; omega)] at hi
      cases hi
theorem h_run (hl : MLAY b M2) (hd : d < 8) (hn : n ≤ 100) (hN : 20 ≤ N) : ∀ (l : List (Nat × Int32)) (p : Nat) (vs : List Nat) (r : Nat → Nat → Int32), MTX d n e r p → r 0 15 = nI vs.length → p ≤ n → okA (l ++ [(2, 59)]) vs.length → (∀ i t, vs[i]? = some t → r 11 i = nI t) → ∃ r', chM N (mc b 0) l (j_X12_readsStatement_147 N (mc b 0)) (MW b M2 r) = some (if (runA e n (l ++ [(2, 59)]) p vs).1 = true then 1 else 0, MW b M2 r') ∧ MTX d n e r' (runA e n (l ++ [(2, 59)]) p vs).2.1 ∧ MD r r' ∧ ((runA e n (l ++ [(2, 59)]) p vs).1 = true → ∀ i t, (runA e n (l ++ [(2, 59)]) p vs).2.2[i]? = some t → r' 11 i = nI t) := by
  intro l
  induction l with
  | nil =>
    intro p vs r h h15 hp ho hv
    obtain ⟨r', a1, a2, a3, a4, a5⟩ := h_takes (N := N) hl h hd hn hp (c := 59) (by decide)
    show ∃ r', j_X12_readsStatement_147 N (mc b 0) (MW b M2 r) = some (if (runA e n [(2, 59)] p vs).1 = true then 1 else 0, MW b M2 r') ∧ MTX d n e r' (runA e n [(2, 59)] p vs).2.1 ∧ MD r r' ∧ ((runA e n [(2, 59)] p vs).1 = true → ∀ i t, (runA e n [(2, 59)] p vs).2.2[i]? = some t → r' 11 i = nI t)
    unfold j_X12_readsStatement_147 runA runA
    rw [n_ck hl, a1, bnd_one]
    have hrq : rq (ρ := Int32 × Mm) (b32 (p < n ∧ e p = 59) = 0 ∨ b32 (p < n ∧ e p = 59) = 1) (some (b32 (p < n ∧ e p = 59), MW b M2 r')) = some (b32 (p < n ∧ e p = 59), MW b M2 r') := if_pos b32_01
    rw [hrq]
    by_cases hg : p < n ∧ e p = 59
    · rw [if_pos hg] at a2
      simp only [if_pos hg]
      rw [show b32 (p < n ∧ e p = 59) = 1 from if_pos hg]
      exact ⟨r', rfl, a2, a3, fun _ i t hi => by rw [a5]; exact hv i t hi⟩
    · rw [if_neg hg] at a2
      simp only [if_neg hg]
      rw [show b32 (p < n ∧ e p = 59) = 0 from if_neg hg]
      exact ⟨r', rfl, a2, a3, fun q => by cases q⟩
  | cons a l ih =>
    intro p vs r h h15 hp ho hv
    obtain ⟨x, c⟩ := a
    match x, ho with
    | 0, ho =>
      obtain ⟨rfl, h5, ho⟩ := ho
      obtain ⟨r1, a1, a2, a3, a4, a5, a6⟩ := h_readsDigit (N := N) hl h hd hn hp h5 h15
      rw [List.cons_append]
      unfold chM runA
      rw [n_ck hl, a1, bnd_one, b32_if]
      by_cases hg : dgP e n p
      · rw [if_pos hg] at a2
        rw [if_pos hg, if_pos hg]
        obtain ⟨r', b1, b2, b3, b4⟩ := ih (p + 1) (vs ++ [dv e p]) r1 a2 (by rw [List.length_append]; exact a4 hg) hg.1 (by rw [List.length_append]; exact ho) (VSm_app hv a5 (a6 hg))
        exact ⟨r', b1, b2, MD_trans a3 b3, b4⟩
      · rw [if_neg hg] at a2
        rw [if_neg hg, if_neg hg]
        exact ⟨r1, rfl, a2, a3, fun q => by cases q⟩
    | 1, ho =>
      obtain ⟨rfl, h5, ho⟩ := ho
      obtain ⟨r1, a1, a2, a3, a4, a5, a6⟩ := h_readsNumber (N := N) hl h hd hn hp hN h5 h15
      rw [List.cons_append]
      unfold chM runA
      rw [n_ck hl, a1, bnd_one, b32_if]
      by_cases hg : dgP e n p
      · rw [if_pos hg] at a2
        rw [if_pos hg, if_pos hg]
        obtain ⟨r', b1, b2, b3, b4⟩ := ih _ (vs ++ [(numK e n 2 (p + 1) (dv e p)).2]) r1 a2 (by rw [List.length_append]; exact a4 hg) ((numK_1 e n 2 (p + 1) (dv e p)).2 hg.1) (by rw [List.length_append]; exact ho) (VSm_app hv a5 (a6 hg))
        exact ⟨r', b1, b2, MD_trans a3 b3, b4⟩
      · rw [if_neg hg] at a2
        rw [if_neg hg, if_neg hg]
        exact ⟨r1, rfl, a2, a3, fun q => by cases q⟩
    | x + 2, ho =>
      obtain ⟨⟨-, hc⟩, ho⟩ := ho
      obtain ⟨r1, a1, a2, a3, a4, a5⟩ := h_takes (N := N) hl h hd hn hp hc
      rw [List.cons_append]
      unfold chM runA
      rw [n_ck hl, a1, bnd_one, b32_if]
      by_cases hg : p < n ∧ e p = c
      · rw [if_pos hg] at a2
        rw [if_pos hg, if_pos hg]
        obtain ⟨r', b1, b2, b3, b4⟩ := ih (p + 1) vs r1 a2 (by rw [a4]; exact h15) hg.1 ho (fun i t hi => by rw [a5]; exact hv i t hi)
        exact ⟨r', b1, b2, MD_trans a3 b3, b4⟩
      · rw [if_neg hg] at a2
        rw [if_neg hg, if_neg hg]
        exact ⟨r1, rfl, a2, a3, fun q => by cases q⟩
def lM_ : List (Nat × Int32) := [(0, 0), (0, 1), (2, 32), (0, 2)]
def lS_ : List (Nat × Int32) := [(0, 0), (0, 1), (2, 32), (1, 2), (2, 32), (1, 3), (2, 32), (1, 4)]
theorem i109 : ¬ (109 : Int32) = 115 := by decide
theorem i115 : ¬ (115 : Int32) = 109 := by decide
theorem i110a : ¬ (110 : Int32) = 109 := by decide
theorem i110b : ¬ (110 : Int32) = 115 := by decide
theorem i98a : ¬ (98 : Int32) = 109 := by decide
theorem i98b : ¬ (98 : Int32) = 115 := by decide
theorem j36_go (N o : Nat) (M : Mm) : j_X12_readsStatement_36 N o 109 M = gI 12 M o 12 (fun v1 => pI 12 M o 12 (v1 + (1 : Int32)) (fun M2 => chM N o lM_ (j_X12_readsStatement_147 N o) M2)) := by
  simp only [j_X12_readsStatement_36, j_X12_readsStatement_67, j_X12_readsStatement_85, j_X12_readsStatement_100, lM_, chM, if_neg i109, if_true]
theorem j36_goS (N o : Nat) (M : Mm) : j_X12_readsStatement_36 N o 115 M = gI 12 M o 12 (fun v1 => pI 12 M o 12 (v1 + (1 : Int32)) (fun M2 => chM N o lS_ (j_X12_readsStatement_147 N o) M2)) := by
  simp only [j_X12_readsStatement_36, j_X12_readsStatement_67, j_X12_readsStatement_85, j_X12_readsStatement_100, lS_, chM, if_neg i115, if_true]
theorem j36_go1 (N o : Nat) (M : Mm) (c : Int32) (hc : c = 110 ∨ c = 98) : j_X12_readsStatement_36 N o c M = gI 12 M o 12 (fun v1 => pI 12 M o 12 (v1 + (1 : Int32)) (fun M2 => chM N o [(0, 0)] (j_X12_readsStatement_147 N o) M2)) := by
  rcases hc with rfl | rfl
  · simp only [j_X12_readsStatement_36, j_X12_readsStatement_85, j_X12_readsStatement_100, chM, if_neg i110a, if_neg i110b]
  · simp only [j_X12_readsStatement_36, j_X12_readsStatement_85, j_X12_readsStatement_100, chM, if_neg i98a, if_neg i98b]
/-- the model reads a statement -/
theorem h_stmt (hl : MLAY b M2) (h : MTX d n e r p) (hd : d < 8) (hn : n ≤ 100) (hp : p ≤ n) (hN : 20 ≤ N) : ∃ r', f_X12_readsStatement N (mc b 0) (MW b M2 r) = some (if (stmt e n p).1 = true then 1 else 0, MW b M2 r') ∧ MTX d n e r' (stmt e n p).2.1 ∧ MD r r' ∧ ((stmt e n p).1 = true → ∀ i t, (stmt e n p).2.2[i]? = some t → r' 11 i = nI t) := by
  have h1 : MTX d n e (up2 r 0 15 0) p := MTX_o h (Or.inr ⟨rfl, rfl⟩)
  have d1 : MD r (up2 r 0 15 0) := MD_i (Or.inr ⟨rfl, Or.inr rfl⟩)
  have hgo : ∀ l, okA (l ++ [(2, 59)]) 0 → p < n → ∃ r', gI 12 (MW b M2 (up2 r 0 15 0)) (mc b 0) 12 (fun v1 => pI 12 (MW b M2 (up2 r 0 15 0)) (mc b 0) 12 (v1 + (1 : Int32)) (fun M2 => chM N (mc b 0) l (j_X12_readsStatement_147 N (mc b 0)) M2)) = some (if (runA e n (l ++ [(2, 59)]) (p + 1) []).1 = true then 1 else 0, MW b M2 r') ∧ MTX d n e r' (runA e n (l ++ [(2, 59)]) (p + 1) []).2.1 ∧ MD r r' ∧ ((runA e n (l ++ [(2, 59)]) (p + 1) []).1 = true → ∀ i t, (runA e n (l ++ [(2, 59)]) (p + 1) []).2.2[i]? = some t → r' 11 i = nI t) := by
    intro l ho hpn
    obtain ⟨r', a1, a2, a3, a4⟩ := h_run (N := N) (e := e) hl hd hn hN l (p + 1) [] _ (MTX_12 h1 (p + 1)) (by simp [up2]; rfl) hpn ho (fun i t hi => by simp at hi)
    exact ⟨r', by rw [n_gI hl, h1.1, n_pI hl, nI_1, a1], a2, MD_trans d1 (MD_trans (MD_i (Or.inr ⟨rfl, Or.inl rfl⟩)) a3), a4⟩
  unfold f_X12_readsStatement stmt
  rw [n_ck hl, h_here hl h hd hn hp, bnd_one, n_pI hl]
  by_cases hpn : p < n
  · rw [show hrM e n p = e p from if_pos hpn, if_pos hpn]
    by_cases c1 : e p = 98
    · rw [if_pos c1, c1, if_neg (by decide), if_neg (by decide), if_neg (by decide), if_pos rfl, j36_go1 N _ _ 98 (Or.inr rfl)]
      exact hgo [(0, 0)] okA_N hpn
    rw [if_neg c1, if_neg c1]
    by_cases c2 : e p = 109
    · rw [if_pos c2, c2, if_neg (by decide), if_pos rfl, j36_go]
      exact hgo lM_ okA_M hpn
    rw [if_neg c2, if_neg c2]
    by_cases c3 : e p = 110
    · rw [if_pos c3, c3, if_pos rfl, j36_go1 N _ _ 110 (Or.inl rfl)]
      exact hgo [(0, 0)] okA_N hpn
    rw [if_neg c3, if_neg c3]
    by_cases c4 : e p = 115
    · rw [if_pos c4, c4, if_pos rfl, j36_goS]
      exact hgo lS_ okA_S hpn
    rw [if_neg c4, if_neg c4]
    exact ⟨_, rfl, h1, d1, fun q => by cases q⟩
  · rw [show hrM e n p = -1000 from if_neg hpn, if_neg hpn, if_neg (by decide), if_neg (by decide), if_neg (by decide), if_neg (by decide)]
    exact ⟨_, rfl, h1, d1, fun q => by cases q⟩
end MTEXT
