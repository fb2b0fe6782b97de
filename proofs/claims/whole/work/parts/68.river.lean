/-! river. -/
def nWa : List (Nat × Int32) → Nat
  | [] => 0
  | (0, _) :: l => nWa l + 1
  | (1, _) :: l => nWa l + 1
  | (_ + 2, _) :: l => nWa l
def noNa : List (Nat × Int32) → Prop
  | [] => True
  | (0, _) :: l => noNa l
  | (1, _) :: _ => False
  | (_ + 2, _) :: l => noNa l
theorem runA_vs (e : Nat → Int32) (n : Nat) : ∀ (l : List (Nat × Int32)) (p : Nat) (vs : List Nat), (runA e n l p vs).1 = true → (∀ x ∈ vs, x < 1000) → (runA e n l p vs).2.2.length = vs.length + nWa l ∧ (∀ x ∈ (runA e n l p vs).2.2, x < 1000) ∧ (noNa l → (∀ x ∈ vs, x ≤ 9) → ∀ x ∈ (runA e n l p vs).2.2, x ≤ 9) := by
  intro l
  induction l with
  | nil => intro p vs _ hv; exact ⟨rfl, hv, fun _ h => h⟩
  | cons a l ih =>
    intro p vs h hv
    obtain ⟨x, c⟩ := a
    match x with
    | 0 =>
      unfold runA at h ⊢
      by_cases hg : dgP e n p
      · rw [if_pos hg] at h ⊢
        have h9 := (dv_le hg).1
        obtain ⟨a1, a2, a3⟩ := ih _ _ h (fun y hy => by
          rcases List.mem_append.mp hy with q | q
          · exact hv y q
          · rw [List.mem_singleton.mp q]; omega)
        refine ⟨by rw [a1, List.length_append]; show _ = _ + (nWa l + 1); simp only [List.length_singleton]; omega, a2, fun hn hv9 => a3 hn (fun y hy => ?_)⟩
        rcases List.mem_append.mp hy with q | q
        · exact hv9 y q
        · rw [List.mem_singleton.mp q]; omega
      · rw [if_neg hg] at h; cases h
    | 1 =>
      unfold runA at h ⊢
      by_cases hg : dgP e n p
      · rw [if_pos hg] at h ⊢
        have h9 := (dv_le hg).1
        have h3 := numK_2 e n 2 (p + 1) (dv e p) 10 (by omega)
        obtain ⟨a1, a2, a3⟩ := ih _ _ h (fun y hy => by
          rcases List.mem_append.mp hy with q | q
          · exact hv y q
          · rw [List.mem_singleton.mp q]; omega)
        exact ⟨by rw [a1, List.length_append]; show _ = _ + (nWa l + 1); simp only [List.length_singleton]; omega, a2, fun hn => hn.elim⟩
      · rw [if_neg hg] at h; cases h
    | x + 2 =>
      unfold runA at h ⊢
      by_cases hg : p < n ∧ e p = c
      · rw [if_pos hg] at h ⊢
        exact ih _ _ h hv
      · rw [if_neg hg] at h; cases h
/-- what is known of a statement that was read -/
theorem stmt_vs {e : Nat → Int32} {n p : Nat} (h : (stmt e n p).1 = true) : p < n ∧ ∃ L, ((e p = 98 ∨ e p = 110) ∧ L = 1 ∨ (e p = 109 ∧ ∀ x ∈ (stmt e n p).2.2, x ≤ 9) ∧ L = 3 ∨ e p = 115 ∧ L = 5) ∧ (stmt e n p).2.2.length = L ∧ ∀ x ∈ (stmt e n p).2.2, x < 1000 := by
  unfold stmt at h ⊢
  by_cases hp : p < n
  · rw [if_pos hp] at h ⊢
    refine ⟨hp, ?_⟩
    have h0 : ∀ x ∈ ([] : List Nat), x < 1000 := fun x hx => absurd hx List.not_mem_nil
    have h9 : ∀ x ∈ ([] : List Nat), x ≤ 9 := fun x hx => absurd hx List.not_mem_nil
    by_cases c1 : e p = 98
    · rw [if_pos c1] at h ⊢
      obtain ⟨a1, a2, a3⟩ := runA_vs e n aN (p + 1) [] h h0
      exact ⟨1, Or.inl ⟨Or.inl c1, rfl⟩, a1, a2⟩
    rw [if_neg c1] at h ⊢
    by_cases c2 : e p = 109
    · rw [if_pos c2] at h ⊢
      obtain ⟨a1, a2, a3⟩ := runA_vs e n aM (p + 1) [] h h0
      exact ⟨3, Or.inr (Or.inl ⟨⟨c2, a3 trivial h9⟩, rfl⟩), a1, a2⟩
    rw [if_neg c2] at h ⊢
    by_cases c3 : e p = 110
    · rw [if_pos c3] at h ⊢
      obtain ⟨a1, a2, a3⟩ := runA_vs e n aN (p + 1) [] h h0
      exact ⟨1, Or.inl ⟨Or.inr c3, rfl⟩, a1, a2⟩
    rw [if_neg c3] at h ⊢
    by_cases c4 : e p = 115
    · rw [if_pos c4] at h ⊢
      obtain ⟨a1, a2, a3⟩ := runA_vs e n aS (p + 1) [] h h0
      exact ⟨5, Or.inr (Or.inr ⟨c4, rfl⟩), a1, a2⟩
    rw [if_neg c4] at h; cases h
  · rw [if_neg hp] at h; cases h
def scanR (e : Nat → Int32) (n : Nat) : Nat → Nat → Nat → Option Nat × Nat
  | 0, p, c => (some c, p)
  | k + 1, p, c => if n ≤ p then (some c, p) else if (stmt e n p).1 = true then scanR e n k (stmt e n p).2.1 (c + 1) else (none, (stmt e n p).2.1)
theorem scanR_c (e : Nat → Int32) (n : Nat) : ∀ (k p c c' pe : Nat), scanR e n k p c = (some c', pe) → c ≤ c' ∧ c' ≤ c + k ∧ (p < n → 0 < k → c < c') := by
  intro k
  induction k with
  | zero => intro p c c' pe h; cases h; exact ⟨Nat.le_refl _, Nat.le_refl _, fun _ h => absurd h (by decide)⟩
  | succ k ih =>
    intro p c c' pe h
    unfold scanR at h
    split at h
    · cases h; exact ⟨Nat.le_refl _, by omega, fun _ _ => by omega⟩
    · split at h
      · obtain ⟨h1, h2, h3⟩ := ih _ _ _ _ h
        exact ⟨by omega, by omega, fun _ _ => by omega⟩
      · cases h
def cI (o : Option Nat) : Int32 := match o with
  | some c => nI c
  | none => 0
section RIVER
variable {b d n p : Nat} {M X Y M2 : Mm} {S P : SP} {pic : Option SP} {sh : Nat → SV} {e : Nat → Int32} {r r' : Nat → Nat → Int32} {N w : Nat} {ρ : Type}
theorem d_text (h : CXL b M) {κ : Nat → Option ρ} : gR 11 M b 4 κ = κ (b + 85) := by
  unfold gR
  rw [if_pos h.1, h.2.1.2.2.2.1]; rfl
theorem s_count (hd : d < 8) (hn : n ≤ 100) (hN : 20 ≤ N) : ∀ (k p c fu : Nat) (X : Mm), TX b d n e X p → p ≤ n → c ≤ p → n ≤ p + k → k + 1 ≤ fu → ∃ X', l_X5_countStatements_4 N fu (b + 85) (nI c) (nI c) X = some (cI (scanR e n k p c).1, X') ∧ TXD b X X' ∧ ((scanR e n k p c).1 = none → X'.2.1 (b + 85) 2 = nI (scanR e n k p c).2) := by
  intro k
  induction k with
  | zero =>
    intro p c fu X h hp hc hk hf
    obtain ⟨fu, rfl, -⟩ := fuel_s hf
    refine ⟨X, ?_, TXD_refl, fun q => by cases q⟩
    show b_X5_countStatements_4 N (l_X5_countStatements_4 N fu) _ _ _ _ = some (nI c, X)
    unfold b_X5_countStatements_4
    rw [t_gI h.1, h.2.2.1, t_gI h.1, h.2.2.2.1, t_gI h.1, h.2.2.1]
    by_cases hnc : n ≤ c
    · rw [if_pos (nI_le hnc (by omega))]
    · rw [if_neg (nI_ge (by omega) (by omega)), if_pos (nI_le (by omega) (by omega))]
  | succ k ih =>
    intro p c fu X h hp hc hk hf
    obtain ⟨fu, rfl, hf2⟩ := fuel_s hf
    show ∃ X', b_X5_countStatements_4 N (l_X5_countStatements_4 N fu) _ _ _ _ = _ ∧ _
    unfold b_X5_countStatements_4 scanR
    rw [t_gI h.1, h.2.2.1, t_gI h.1, h.2.2.2.1, t_gI h.1, h.2.2.1, t_ck h.1]
    by_cases hnp : n ≤ p
    · rw [if_pos hnp]
      refine ⟨X, ?_, TXD_refl, fun q => by cases q⟩
      by_cases hnc : n ≤ c
      · rw [if_pos (nI_le hnc (by omega))]; rfl
      · rw [if_neg (nI_ge (by omega) (by omega)), if_pos (nI_le hnp (by omega))]; rfl
    · rw [if_neg hnp, if_neg (nI_ge (by omega) (by omega)), if_neg (nI_ge (by omega) (by omega))]
      obtain ⟨X1, a1, a2, a3, a4, a5⟩ := t_next (N := N) h hd hn hp hN
      obtain ⟨s1, s2, s3⟩ := stmt_p e n p hp
      rw [a1, bnd_one]
      by_cases hs : (stmt e n p).1 = true
      · have := s3 hs
        rw [if_pos hs, if_pos hs, if_neg (by decide), nI_1]
        obtain ⟨X', b1, b2, b3⟩ := ih (stmt e n p).2.1 (c + 1) fu X1 a2 s2 (by omega) (by omega) (by omega)
        exact ⟨X', b1, TXD_trans a3 b2, b3⟩
      · rw [if_neg hs, if_neg hs, if_pos rfl]
        exact ⟨X1, rfl, a3, fun _ => a2.2.2.2.1⟩
theorem s_mcount (hl : MLAY b M2) (hd : d < 8) (hn : n ≤ 100) (hN : 20 ≤ N) : ∀ (k p c fu : Nat) (r : Nat → Nat → Int32), MTX d n e r p → p < n → n ≤ p + k → k + 1 ≤ fu → ∃ r', MD r r' ∧ MTX d n e r' (r' 0 12).toNatClampNeg ∧ l_X12_river_38 N fu (mc b 0) (nI c) (MW b M2 r) = (match (scanR e n k p c).1 with | some c' => l_X12_river_71 N N (mc b 0) (nI c') 0 (MW b M2 r') | none => some (-1000 - nI (scanR e n k p c).2, MW b M2 r')) := by
  intro k
  induction k with
  | zero => intro p c fu r h hp hk hf; omega
  | succ k ih =>
    intro p c fu r h hp hk hf
    obtain ⟨fu, rfl, hf2⟩ := fuel_s hf
    obtain ⟨r1, a1, a2, a3, a4⟩ := h_stmt (N := N) (b := b) hl h hd hn (by omega) hN
    obtain ⟨s1, s2, s3⟩ := stmt_p e n p (by omega)
    have hmt : MTX d n e r1 (r1 0 12).toNatClampNeg := by rw [a2.1, nIc (by omega)]; exact a2
    show ∃ r', _ ∧ _ ∧ b_X12_river_38 N (l_X12_river_38 N fu) _ _ _ = _
    unfold b_X12_river_38 scanR
    rw [n_ck hl, a1, bnd_one, if_neg (show ¬ n ≤ p by omega)]
    by_cases hs : (stmt e n p).1 = true
    · have := s3 hs
      rw [if_pos hs, if_pos hs, if_neg (by decide), n_gI hl, a2.1, n_gI hl, a2.2.2.1, nI_1]
      by_cases hpn : (stmt e n p).2.1 < n
      · rw [if_pos (nI_lt hpn (by omega))]
        obtain ⟨r', b1, b2, b3⟩ := ih (stmt e n p).2.1 (c + 1) fu r1 a2 hpn (by omega) (by omega)
        exact ⟨r', MD_trans a3 b1, b2, b3⟩
      · have hk0 : scanR e n k (stmt e n p).2.1 (c + 1) = (some (c + 1), (stmt e n p).2.1) := by
          cases k with
          | zero => rfl
          | succ k => unfold scanR; rw [if_pos (by omega)]
        rw [if_neg (nI_nlt (by omega) (by omega)), hk0]
        exact ⟨r1, a3, hmt, rfl⟩
    · rw [if_neg hs, if_neg hs, if_pos rfl, n_gI hl, a2.1]
      exact ⟨r1, a3, hmt, rfl⟩
theorem MDR_o (hm : MDR S pic sh r) (h : ∀ p, p ∈ [1, 2, 5, 6, 7, 8, 9, 10] → r' p = r p) (h10 : r' 0 10 = r 0 10) (h18 : r' 0 18 = r 0 18) : MDR S pic sh r' := by
  obtain ⟨a1, a2, a3, a4, a5⟩ := hm
  refine ⟨by rw [h 1 (by decide)]; exact a1, fun P hP => by rw [h 2 (by decide)]; exact a2 P hP, by rw [h10]; exact a3, by rw [h18]; exact a4, fun d hd => ?_⟩
  unfold SHm
  rw [h 5 (by decide), h 6 (by decide), h 7 (by decide), h 8 (by decide), h 9 (by decide), h 10 (by decide)]
  exact a5 d hd
theorem MDR_MD (hm : MDR S pic sh r) (h : MD r r') : MDR S pic sh r' := MDR_o hm (fun p hp => h.1 p (by rintro rfl; revert hp; decide) (by rintro rfl; revert hp; decide)) (h.2 10 (by decide) (by decide)) (h.2 18 (by decide) (by decide))
theorem MDR_4 (hm : MDR S pic sh r) {g : Nat → Int32} : MDR S pic sh (upR r 4 g) := MDR_o hm (fun p hp => upR_n (by rintro rfl; revert hp; decide)) (by rw [upR_n (by decide)]) (by rw [upR_n (by decide)])
theorem MTX_4 (h : MTX d n e r p) {g : Nat → Int32} : MTX d n e (upR r 4 g) p := by
  unfold MTX
  rw [upR_n (by decide), upR_n (by decide)]
  exact h
theorem TX_SW (hX : CXL b X) (h : TX b d n e X p) {q : WR} : TX b d n e (SW b X 2 q) p := by
  obtain ⟨_, h0, h1, h2, h3⟩ := h
  have hi : ∀ a, b + 85 ≤ a → (SW b X 2 q).2.1 a = X.2.1 a := fun a ha => SW_io (fun l hl e => by have := wA_rng (b := b) (show 2 < 7 by decide) hl; omega)
  refine ⟨CXL_SW (by decide) hX, ?_, by rw [hi _ (Nat.le_refl _)]; exact h1, by rw [hi _ (Nat.le_refl _)]; exact h2, fun i hi2 => by rw [hi _ (by omega)]; exact h3 i hi2⟩
  rw [SW_qo (fun q => absurd q.1 (by decide))]
  exact h0
theorem s_river2 (hl : MLAY b M2) (hd : d < 8) (hn : n ≤ 100) (hN : 200 ≤ N) {cnt pe : Nat} : ∀ (k p i fu fu' : Nat) (Y : Mm) (r : Nat → Nat → Int32) (P : SP), scanR e n k p i = (some cnt, pe) → k ≤ 200 → p ≤ n → n ≤ p + k → i ≤ p → k + 1 ≤ fu → k + 1 ≤ fu' → CLS b S pic sh Y → TX b d n e Y p → WRel Y P (gW b Y 2) → WF P → sn P 4 = 1 → sn P 3 = sn S 3 → P.2.1 = S.2.1 → MTX d n e r p → KRel K0 P (r 4) → MDR S pic sh r →
    ∃ (v : Int32) (S' : SP) (Y' : Mm) (r' : Nat → Nat → Int32), l_X11_river_93 N fu b (nI cnt) (nI i) Y = some (v, Y') ∧ l_X12_river_104 N fu' (mc b 0) (nI cnt) (MW b M2 r) = some (v, MW b M2 r') ∧ CLS b S' pic sh Y' ∧ FR b Y Y' ∧ MDR S' pic sh r' ∧ sn S' 3 = sn S 3 ∧ S'.2.1 = S.2.1 := by
  have hend : ∀ (p fu fu' : Nat) (Y : Mm) (r : Nat → Nat → Int32) (P : SP), n ≤ p → p ≤ n → 1 ≤ fu → 1 ≤ fu' → cnt ≤ 1000 → CLS b S pic sh Y → TX b d n e Y p → WRel Y P (gW b Y 2) → WF P → sn P 4 = 1 → sn P 3 = sn S 3 → P.2.1 = S.2.1 → MTX d n e r p → KRel K0 P (r 4) → MDR S pic sh r → ∃ (v : Int32) (S' : SP) (Y' : Mm) (r' : Nat → Nat → Int32), l_X11_river_93 N fu b (nI cnt) (nI cnt) Y = some (v, Y') ∧ l_X12_river_104 N fu' (mc b 0) (nI cnt) (MW b M2 r) = some (v, MW b M2 r') ∧ CLS b S' pic sh Y' ∧ FR b Y Y' ∧ MDR S' pic sh r' ∧ sn S' 3 = sn S 3 ∧ S'.2.1 = S.2.1 := by
    intro p fu fu' Y r P hnp hp hf hf' hcnt hc ht hr wf h4 h3 hsc hmt hk hm
    obtain ⟨fu, rfl⟩ : ∃ f, fu = f + 1 := ⟨fu - 1, by omega⟩
    obtain ⟨fu', rfl⟩ : ∃ f, fu' = f + 1 := ⟨fu' - 1, by omega⟩
    obtain ⟨hL, hX, hNB⟩ := id hc.1
    obtain ⟨q', a1, a2, a3⟩ := w_become (N := N) hL hNB (w := 0) (w1 := 2) (by decide) (by decide) (by decide) hr wf h4
    obtain ⟨r1, fu2, c1, c2, c3⟩ := s_river_155 (N := N) hl (nI cnt) 174 0 N r (by omega) (by omega) (fun j hj => by omega)
    have c1' : l_X12_river_155 N N (mc b 0) (nI cnt) 0 (MW b M2 r) = _ := c1
    refine ⟨nI cnt, P, SW b Y 0 q', r1, ?_, ?_, CLS_real hc a2 wf h4 a3.2, FR_SW (by decide), ?_, h3, hsc⟩
    · show b_X11_river_93 N (l_X11_river_93 N fu) _ _ _ _ = _
      unfold b_X11_river_93
      rw [if_pos (nI_le (Nat.le_refl _) (by omega)), d_real hX, d_mind hX, d_wck hL (by decide), a1, bnd_one]
    · show b_X12_river_104 N (l_X12_river_104 N fu') _ _ _ = _
      unfold b_X12_river_104
      rw [n_gI hl, hmt.1, n_gI hl, hmt.2.2.1, if_pos (nI_le hnp (by omega)), c1']
      unfold b_X12_river_155
      rw [if_pos (show (174 : Int32) ≤ nI 174 by decide)]
    · obtain ⟨b1, b2, b3, b4, b5⟩ := hm
      refine ⟨KRel_lt hk wf c2, fun P' hP' => by rw [c3 2 (by decide)]; exact b2 P' hP', by rw [c3 0 (by decide)]; exact b3, by rw [c3 0 (by decide)]; exact b4, fun d hd => ?_⟩
      unfold SHm
      rw [c3 5 (by decide), c3 6 (by decide), c3 7 (by decide), c3 8 (by decide), c3 9 (by decide), c3 10 (by decide)]
      exact b5 d hd
  intro k
  induction k with
  | zero =>
    intro p i fu fu' Y r P hsc hk2 hp hk hi hf hf' hc ht hr wf h4 h3 h21 hmt hkr hm
    cases hsc
    exact hend _ fu fu' Y r P (by omega) hp (by omega) (by omega) (by omega) hc ht hr wf h4 h3 h21 hmt hkr hm
  | succ k ih =>
    intro p i fu fu' Y r P hsc hk2 hp hk hi hf hf' hc ht hr wf h4 h3 h21 hmt hkr hm
    unfold scanR at hsc
    by_cases hnp : n ≤ p
    · rw [if_pos hnp] at hsc
      cases hsc
      exact hend _ fu fu' Y r P hnp hp (by omega) (by omega) (by omega) hc ht hr wf h4 h3 h21 hmt hkr hm
    rw [if_neg hnp] at hsc
    by_cases hs : (stmt e n p).1 = true
    rotate_left
    · rw [if_neg hs] at hsc; cases hsc
    rw [if_pos hs] at hsc
    obtain ⟨q1, q2, -⟩ := scanR_c e n k _ _ _ _ hsc
    obtain ⟨fu, rfl, hf2⟩ := fuel_s hf
    obtain ⟨fu', rfl, hf2'⟩ := fuel_s hf'
    obtain ⟨s1, s2, s3⟩ := stmt_p e n p hp
    have hlt := s3 hs
    obtain ⟨hL, hX, hNB⟩ := id hc.1
    -- the class reads
    obtain ⟨Y1, a1, a2, a3, a4, a5⟩ := t_next (N := N) ht hd hn hp (by omega)
    obtain ⟨a5, a6⟩ := a5 hs
    have hc1 : CLS b S pic sh Y1 := CLS_TXD hc a3
    obtain ⟨hL1, hX1, hNB1⟩ := id hc1.1
    have hr1 : WRel Y1 P (gW b Y1 2) := (KEW_TXD hX a3).2 2 (by decide) P wf hr
    -- the model reads
    obtain ⟨r1, b1, b2, b3, b4⟩ := h_stmt (N := N) (b := b) hl hmt hd hn hp (by omega)
    have b4 := b4 hs
    have hkr1 : KRel K0 P (r1 4) := by rw [b3.1 4 (by decide) (by decide)]; exact hkr
    obtain ⟨hpn, L, hcL, hlen, h1000⟩ := stmt_vs hs
    have hB := B_change (N := N) (u := fun i => ((stmt e n p).2.2[i]?).getD 0) (L := L) (c := e p) hX1 hL1 hr1 wf h4 (R36_NB hNB1 (by decide)) hl hkr1 hN (by
      rcases hcL with h | ⟨⟨h, h'⟩, h''⟩ | h
      · exact Or.inl h
      · refine Or.inr (Or.inl ⟨⟨h, ?_⟩, h''⟩)
        have : 2 < (stmt e n p).2.2.length := by omega
        show ((stmt e n p).2.2[2]?).getD 0 ≤ 9
        rw [List.getElem?_eq_getElem this]
        exact h' _ (List.getElem_mem this)
      · exact Or.inr (Or.inr h)) a5 (fun i hiL => by
      have hil : i < (stmt e n p).2.2.length := by omega
      have e1 : (stmt e n p).2.2[i]? = some ((stmt e n p).2.2[i]'hil) := List.getElem?_eq_getElem hil
      have e2 : ((stmt e n p).2.2[i]?).getD 0 = (stmt e n p).2.2[i]'hil := by rw [e1]; rfl
      show ((stmt e n p).2.2[i]?).getD 0 < 1000 ∧ _ = nI (((stmt e n p).2.2[i]?).getD 0) ∧ _ = nI (((stmt e n p).2.2[i]?).getD 0)
      rw [e2]
      exact ⟨h1000 _ (List.getElem_mem hil), a6 i _ e1, b4 i _ e1⟩)
    have hj : ∀ (Z : Mm), CXL b Z → Z.2.1 (b + 85) 3 = nI p → j_X11_river_124 N b Z = some (-2000 - nI p, Z) := fun Z hZ hz => by
      unfold j_X11_river_124
      rw [d_text hZ, t_gI hZ, hz]
    have hcl : l_X11_river_93 N (fu + 1) b (nI cnt) (nI i) Y = bnd (f_X5_changes N (b + 85) (wA b 2 0) Y1) (fun v12 M13 => (if v12 = 0 then j_X11_river_124 N b M13 else l_X11_river_93 N fu b (nI cnt) (nI (i + 1)) M13)) := by
      show b_X11_river_93 N (l_X11_river_93 N fu) _ _ _ _ = _
      unfold b_X11_river_93
      rw [if_neg (nI_ge (by omega) (by omega)), d_text hX, t_ck hX, a1, bnd_one, if_pos hs, if_neg (by decide), d_text hX1, d_mind hX1, t_ck hX1, nI_1]
    have hmo : l_X12_river_104 N (fu' + 1) (mc b 0) (nI cnt) (MW b M2 r) = bnd (f_X12_comes N (mc b 0) (e p) (MW b M2 r1)) (fun v10 M11 => (if v10 = 0 then some (((-2000 : Int32) - nI p), M11) else l_X12_river_104 N fu' (mc b 0) (nI cnt) M11)) := by
      show b_X12_river_104 N (l_X12_river_104 N fu') _ _ _ = _
      unfold b_X12_river_104
      rw [n_gI hl, hmt.1, n_gI hl, hmt.2.2.1, if_neg (nI_ge (by omega) (by omega)), n_gI hl, hmt.1, n_ck hl, h_here hl hmt hd hn hp, bnd_one, show hrM e n p = e p from if_pos hpn, n_ck hl, b1, bnd_one, n_ck hl]
    rcases hB with ⟨P', q', g', y1, y2, y3, y4, y5, y6, y7, y8, y9⟩ | ⟨q', g', y1, y2, y3⟩
    · obtain ⟨v, S', Y', r', z1, z2, z3, z4, z5, z6⟩ := ih (stmt e n p).2.1 (i + 1) fu fu' (SW b Y1 2 q') (upR r1 4 g') P' hsc (by omega) s2 (by omega) (by omega) (by omega) (by omega) (CLS_mind hc1 (by decide) (by decide) y4.1 y4.2) (TX_SW hX1 a2) (WRel_at hL1 (by decide) y3 y6) y6 y7 (y8.trans h3) (y9.trans h21) (MTX_4 b2) (by rw [upR_s]; exact y5) (MDR_4 (MDR_MD hm b3))
      refine ⟨v, S', Y', r', ?_, ?_, z3, FR_trans (FR_TXD a3) (FR_trans (FR_SW (by decide)) z4), z5, z6⟩
      · rw [hcl, y1, bnd_one, if_neg (by decide)]; exact z1
      · rw [hmo, y2, bnd_one, if_neg (by decide)]; exact z2
    · refine ⟨-2000 - nI p, S, SW b Y1 2 q', upR r1 4 g', ?_, ?_, CLS_mind hc1 (by decide) (by decide) y3.1 y3.2, FR_trans (FR_TXD a3) (FR_SW (by decide)), MDR_4 (MDR_MD hm b3), rfl, rfl⟩
      · rw [hcl, y1, bnd_one, if_pos rfl]
        refine hj _ (CXL_SW (by decide) hX1) ?_
        rw [SW_io (fun l hl e => by have := wA_rng (b := b) (show 2 < 7 by decide) hl; omega)]
        exact a4
      · rw [hmo, y2, bnd_one, if_pos rfl]
theorem t_open (hX : CXL b X) {v : SV} (hs : SHc b X d v) (h2 : v.1 = 2) : ∃ X', f_X5_open N (b + 85) (b + 89 + 2 * d) (nI v.2.2.1) X = some ((), X') ∧ TX b d v.2.2.1 v.2.2.2 X' 0 ∧ TXD b X X' := by
  obtain ⟨g1, g2, g3, g4, g5, g6⟩ := rowc hs h2
  have p0 : ∀ (Z : Mm) (v : Option Nat) (κ : Mm → Option (Unit × Mm)), (Z.1 (b + 85)).1 = 9 → pR 5 Z (b + 85) 0 v κ = κ (sR Z (b + 85) 0 v) := fun Z v κ h => if_pos h
  have p1 : ∀ (Z : Mm) (k : Nat) (v : Int32) (κ : Mm → Option (Unit × Mm)), (Z.1 (b + 85)).1 = 9 → pI 5 Z (b + 85) k v κ = κ (sI Z (b + 85) k v) := fun Z k v κ h => if_pos h
  have h9 := hX.2.2.1.1.1
  have d0 : TXD b X (sR X (b + 85) 0 (some (b + 89 + 2 * d))) := ⟨rfl, rfl, rfl, fun _ _ _ => rfl, fun a k h => by
    show up2 X.2.2.2.1 (b + 85) 0 _ a k = _
    simp only [up2]
    split
    · rw [if_neg (by omega)]
    · rfl⟩
  have hd1 : TXD b X (sI (sI (sI (sR X (b + 85) 0 (some (b + 89 + 2 * d))) (b + 85) 1 (nI v.2.2.1)) (b + 85) 2 0) (b + 85) 3 0) := TXD_trans d0 (TXD_trans (TXD_i (Or.inl rfl)) (TXD_trans (TXD_i (Or.inl rfl)) (TXD_i (Or.inl rfl))))
  unfold f_X5_open
  rw [p0 X _ _ h9, p1 (sR X (b + 85) 0 (some (b + 89 + 2 * d))) 1 _ _ h9, p1 (sI (sR X (b + 85) 0 (some (b + 89 + 2 * d))) (b + 85) 1 (nI v.2.2.1)) 2 _ _ h9, p1 (sI (sI (sR X (b + 85) 0 (some (b + 89 + 2 * d))) (b + 85) 1 (nI v.2.2.1)) (b + 85) 2 0) 3 _ _ h9]
  refine ⟨_, rfl, ⟨?_, by simp [sI, sR, up2], by simp [sI, sR, up2], by simp [sI, up2]; rfl, fun i hi => ?_⟩, hd1⟩
  · obtain ⟨x1, x2, x3, x4⟩ := hX
    have hq := hd1.2.2.2.2
    refine ⟨x1, ?_, ⟨⟨x3.1.1, by rw [hq (b + 85) 5 (Or.inr (by decide))]; exact x3.1.2⟩, x3.2⟩, fun d' hd' => ?_⟩
    · rw [hq b 0 (Or.inl (by omega)), hq b 1 (Or.inl (by omega)), hq b 3 (Or.inl (by omega)), hq b 4 (Or.inl (by omega)), hq b 5 (Or.inl (by omega))]
      exact x2
    · rw [hq (b + 87) _ (Or.inl (by omega)), hq _ 3 (Or.inr (by decide))]
      exact x4 d' hd'
  · rw [hd1.2.2.2.1 _ (by omega) (by omega)]
    exact g6 i hi
theorem T_river (hc : CLS b S pic sh M) (hl : MLAY b M2) (hm : MDR S pic sh r) (hi : INV S pic) (hN : 200 ≤ N) (x : Int32) : AGREE b M M2 (f_X11_river N b x M) (f_X12_river N (mc b 0) x (MW b M2 r)) := by
  obtain ⟨⟨hL, hX, hNB⟩, ⟨hr, wf, h1⟩, -, -, hsh⟩ := id hc
  unfold f_X11_river f_X12_river
  rw [d_ck hX, n_ck hl]
  have row := row3 (N := N) hc hl hm x 0 (by decide) 0 rfl
  have hns : ¬ (0 ≤ x ∧ x ≤ 7) → f_X12_wrongRow N (mc b 0) x 0 (MW b M2 r) = some (-1, MW b M2 r) := fun hS => by
    unfold f_X12_wrongRow
    rw [m_isShelf, bnd_one, b32_if, if_neg hS]
  rcases row with ⟨d, hd, rfl, h2, hof, e1, e2, e3⟩ | ⟨hS, c, o, hc0, e1, e2, e3⟩ | ⟨hS, e1, e2⟩
  rotate_left
  · rw [e1, bnd_one, d_ck hX, e2, bnd_one, e3, bnd_one]
    refine AGREE_same hc hm hi c ?_ (if_neg hc0)
    cases o
    · exact onn_n.trans (if_neg hc0)
    · exact onn_s.trans (if_neg hc0)
  · rw [e1, bnd_one, d_ck hX, e2, bnd_one, onn_n, if_neg m1z, hns hS, bnd_one, if_neg m1z]
    exact AGREE_same hc hm hi (-1) rfl rfl
  obtain ⟨g1, g2, g3, g4, g5, g6⟩ := rowc (hsh d hd) h2
  obtain ⟨t1, t2, t3, t4, t5, t6⟩ := rowm (hm.2.2.2.2 d hd) h2
  have h8 := (hX.2.2.2 d hd).2.1
  obtain ⟨X1, a1, a2, a3⟩ := t_open (N := N) hX (hsh d hd) h2
  have hX1 := a2.1
  have hc1 : CLS b S pic sh X1 := CLS_TXD hc a3
  -- the model opens
  have hr0 : MTX d (sh d).2.2.1 (sh d).2.2.2 (up2 (up2 (up2 r 0 13 (nI (100 * d))) 0 14 (nI (sh d).2.2.1)) 0 12 0) 0 := ⟨by simp [up2]; rfl, by simp [up2], by simp [up2], fun i hi => by simp [up2]; exact t6 i hi⟩
  have hm0 : MDR S pic sh (up2 (up2 (up2 r 0 13 (nI (100 * d))) 0 14 (nI (sh d).2.2.1)) 0 12 0) := MDR_o hm (fun p hp => by
    have : p ≠ 0 := by rintro rfl; revert hp; decide
    funext j; simp [up2, this]) (by simp [up2]) (by simp [up2])
  have h7 : up2 r 0 13 (nI (100 * d)) 7 d = nI (sh d).2.2.1 := by simp [up2]; exact t3
  rw [e1, bnd_one, d_ck hX, e2, bnd_one, onn_s, if_pos rfl, d_text hX, d_f3 hX hd, d_gI7 hX hd, g3, t_ck hX, a1, bnd_one, d_text hX1, t_ck hX1]
  rw [e3, bnd_one, if_pos rfl, show (100 : Int32) * nI d = nI (100 * d) from pk_mul 100 d, n_pI hl, n_gR hl (p := 7) (by decide), n_ald hl (by decide) (by decide) hd, h7, n_pI hl, n_pI hl]
  unfold f_X5_countStatements
  obtain ⟨X2, b1, b2, b3⟩ := s_count (N := N) (b := b) hd g5 (by omega) (sh d).2.2.1 0 0 N X1 a2 (Nat.zero_le _) (Nat.le_refl _) (by omega) (by omega)
  have b1' : l_X5_countStatements_4 N N (b + 85) 0 0 X1 = _ := b1
  have hc2 : CLS b S pic sh X2 := CLS_TXD hc1 b2
  obtain ⟨hL2, hX2, hNB2⟩ := id hc2.1
  rw [b1', bnd_one, d_text hX2]
  by_cases hz : (sh d).2.2.1 = 0
  · -- nothing to read
    have hsc : scanR (sh d).2.2.2 (sh d).2.2.1 (sh d).2.2.1 0 0 = (some 0, 0) := by rw [hz]; rfl
    obtain ⟨r1, k1, k2, k3, k4⟩ := h_stmt (N := N) (b := b) hl hr0 hd g5 (Nat.zero_le _) (by omega)
    have hst : stmt (sh d).2.2.2 (sh d).2.2.1 0 = (false, 0, []) := by unfold stmt; rw [if_neg (by omega)]
    rw [hst] at k1 k2
    obtain ⟨N, rfl⟩ : ∃ N', N = N' + 1 := ⟨N - 1, by omega⟩
    have hX2p : X2.2.1 (b + 85) 2 = 0 := by
      have hb : b_X5_countStatements_4 (N + 1) (l_X5_countStatements_4 (N + 1) N) (b + 85) 0 0 X1 = _ := b1'
      unfold b_X5_countStatements_4 at hb
      rw [t_gI hX1, a2.2.2.1, if_pos (by rw [hz]; decide)] at hb
      have : X1 = X2 := congrArg Prod.snd (Option.some.inj hb)
      rw [← this]; exact a2.2.2.2.1
    refine ⟨-1000, S, pic, sh, X2, r1, ?_, ?_, hc2, FR_trans (FR_TXD a3) (FR_TXD b2), MDR_MD hm0 k3, hi⟩
    · rw [hsc, if_pos (show cI (some 0) = 0 from rfl), t_gI hX2, hX2p]
      rfl
    · show b_X12_river_38 (N + 1) (l_X12_river_38 (N + 1) N) _ _ _ = _
      unfold b_X12_river_38
      rw [n_ck hl, k1, bnd_one, if_pos (by decide), n_gI hl, k2.1]
      rfl
  obtain ⟨r1, k1, k2, k3⟩ := s_mcount (N := N) (b := b) (e := (sh d).2.2.2) hl hd g5 (by omega) (sh d).2.2.1 0 0 N _ hr0 (by omega) (by omega) (by omega)
  have k3' : l_X12_river_38 N N (mc b 0) 0 (MW b M2 (up2 (up2 (up2 r 0 13 (nI (100 * d))) 0 14 (nI (sh d).2.2.1)) 0 12 0)) = _ := k3
  rw [k3']
  rcases hsc : scanR (sh d).2.2.2 (sh d).2.2.1 (sh d).2.2.1 0 0 with ⟨oc, pe⟩
  rw [hsc] at b3
  cases oc with
  | none =>
    refine ⟨-1000 - nI pe, S, pic, sh, X2, r1, ?_, rfl, hc2, FR_trans (FR_TXD a3) (FR_TXD b2), MDR_MD hm0 k1, hi⟩
    rw [if_pos (show cI none = 0 from rfl), t_gI hX2, b3 rfl]
  | some cnt =>
    obtain ⟨q1, q2, q3⟩ := scanR_c _ _ _ _ _ _ _ hsc
    have hc0 := q3 (by omega) (by omega)
    have hsh2 := hc2.2.2.2.2 d hd
    obtain ⟨i1, i2, i3, i4, i5, i6⟩ := rowc hsh2 h2
    obtain ⟨X3, c1, c2, c3⟩ := t_open (N := N) hX2 hsh2 h2
    have hc3 : CLS b S pic sh X3 := CLS_TXD hc2 c3
    obtain ⟨⟨hL3, hX3, hNB3⟩, ⟨hr3, -, -⟩, -⟩ := id hc3
    obtain ⟨q', d1, d2, d3⟩ := w_become (N := N) hL3 hNB3 (w := 2) (w1 := 0) (by decide) (by decide) (by decide) hr3 wf h1
    obtain ⟨r2, fu2, f1, f2, f3⟩ := s_river_71 (N := N) hl (nI cnt) 174 0 N r1 (by omega) (by omega) (fun j hj => by omega)
    have f1' : l_X12_river_71 N N (mc b 0) (nI cnt) 0 (MW b M2 r1) = _ := f1
    have hm1 : MDR S pic sh r1 := MDR_MD hm0 k1
    have hm2 : MDR S pic sh (up2 r2 0 12 0) := MDR_o hm1 (fun p hp => by
      have h0 : p ≠ 0 := by rintro rfl; revert hp; decide
      have h4 : p ≠ 4 := by rintro rfl; revert hp; decide
      have : up2 r2 0 12 0 p = r2 p := by funext j; simp [up2, h0]
      rw [this, f3 p h4]) (by rw [← f3 0 (by decide)]; simp [up2]) (by rw [← f3 0 (by decide)]; simp [up2])
    have hmt : MTX d (sh d).2.2.1 (sh d).2.2.2 (up2 r2 0 12 0) 0 := by
      obtain ⟨j1, j2, j3, j4⟩ := k2
      refine ⟨by simp [up2]; rfl, ?_, ?_, fun i hi => ?_⟩
      · rw [← j2, ← f3 0 (by decide)]; simp [up2]
      · rw [← j3, ← f3 0 (by decide)]; simp [up2]
      · rw [← j4 i hi, ← f3 8 (by decide)]; simp [up2]
    have hk4 : KRel K0 S (up2 r2 0 12 0 4) := by
      have : up2 r2 0 12 0 4 = r2 4 := by funext j; simp [up2]
      rw [this]
      exact KRel_lt hm1.1 wf f2
    obtain ⟨v, S', Y', r', z1, z2, z3, z4, z5, z6, z7⟩ := s_river2 (N := N) (b := b) (e := (sh d).2.2.2) hl hd g5 hN (sh d).2.2.1 0 0 N N (SW b X3 2 q') (up2 r2 0 12 0) S hsc (by omega) (Nat.zero_le _) (by omega) (Nat.le_refl _) (by omega) (by omega) (CLS_mind hc3 (by decide) (by decide) d3.1 d3.2) (TX_SW hX3 c2) (WRel_at hL3 (by decide) d2 wf) wf h1 rfl rfl hmt hk4 hm2
    have z1' : l_X11_river_93 N N b (nI cnt) 0 (SW b X3 2 q') = _ := z1
    have hcnt : CNT S' := by
      obtain ⟨⟨u1, w, e', u2⟩, -⟩ := hi
      have e7 : ∀ k, sc S' k = sc S k := fun k => congrFun z7 k
      exact ⟨by rw [z6]; exact u1, w, e', by rw [e7, e7, z6]; exact u2⟩
    refine ⟨v, S', pic, sh, Y', r', ?_, ?_, z3, FR_trans (FR_TXD a3) (FR_trans (FR_TXD b2) (FR_trans (FR_TXD c3) (FR_trans (FR_SW (by decide)) z4))), z5, ⟨hcnt, hi.2⟩⟩
    · have hne : ¬ cI (some cnt) = 0 := nI_ne0 hc0 (by omega)
      rw [if_neg hne, d_text hX2, d_f3 hX2 hd, d_gI7 hX2 hd, i3, t_ck hX2, c1, bnd_one, d_mind hX3, d_real hX3, d_wck hL3 (by decide), d1, bnd_one]
      exact z1'
    · show l_X12_river_71 N N (mc b 0) (nI cnt) 0 (MW b M2 r1) = _
      rw [f1']
      unfold b_X12_river_71
      rw [if_pos (show (174 : Int32) ≤ nI 174 by decide), n_pI hl]
      exact z2
end RIVER
