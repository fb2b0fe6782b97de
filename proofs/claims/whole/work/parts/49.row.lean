/-! row. -/
section ROW
variable {b : Nat} {M M2 : Mm} {S : SP} {pic : Option SP} {sh : Nat → SV} {r : Nat → Nat → Int32} {N : Nat}
theorem s_makeRow {A E : Nat} : ∀ (k i fu : Nat) (M : Mm), i + k = 100 → k + 1 ≤ fu → (M.1 A).1 = 11 → M.2.2.2.1 A 3 = some E → M.1 E = (1, 100) → ∃ M', l_X7_makeRow_12 N fu A (nI i) M = some ((), M') ∧ M'.1 = M.1 ∧ M'.2.2 = M.2.2 ∧ (∀ a, a ≠ E → M'.2.1 a = M.2.1 a) ∧ (∀ j, j < i → M'.2.1 E j = M.2.1 E j) ∧ ∀ j, i ≤ j → j < 100 → M'.2.1 E j = 0 := by
  intro k
  induction k with
  | zero =>
    intro i fu M hi hf h1 h2 h3
    obtain ⟨fu, rfl, -⟩ := fuel_s hf
    show ∃ M', b_X7_makeRow_12 N (l_X7_makeRow_12 N fu) _ _ _ = _ ∧ _
    unfold b_X7_makeRow_12 gR alen
    rw [if_pos h1, h2, Option.elim_some, if_pos (Or.inl (by rw [h3])), h3]
    dsimp only
    rw [if_pos (nI_le (by omega) (by omega))]
    exact ⟨M, rfl, rfl, rfl, fun _ _ => rfl, fun _ _ => rfl, fun j q1 q2 => by omega⟩
  | succ k ih =>
    intro i fu M hi hf h1 h2 h3
    obtain ⟨fu, rfl, hf2⟩ := fuel_s hf
    show ∃ M', b_X7_makeRow_12 N (l_X7_makeRow_12 N fu) _ _ _ = _ ∧ _
    obtain ⟨M', e1, e2, e3, e4, e5, e6⟩ := ih (i + 1) fu (sI M E i 0) (by omega) (by omega) h1 h2 h3
    refine ⟨M', ?_, e2, e3, fun a ha => by rw [e4 a ha, sI_oo ha], fun j hj => ?_, fun j q1 q2 => ?_⟩
    · unfold b_X7_makeRow_12 gR alen ast
      rw [if_pos h1, h2, Option.elim_some, if_pos (Or.inl (by rw [h3])), h3]
      dsimp only
      rw [if_neg (nI_ge (by omega) (by omega)), if_pos h1, Option.elim_some, if_pos ⟨by rw [h3], by rw [h3]; exact inA_nI (by omega) (by decide)⟩, nIc (by omega), nI_1]
      exact e1
    · rw [e5 j (by omega)]
      have : ¬ j = i := by omega
      simp [sI, up2, this]
    · by_cases hji : j = i
      · subst hji
        rw [e5 j (by omega)]
        simp [sI, up2]
      · exact e6 j (by omega) q2
theorem s_row58 (hl : MLAY b M2) {d : Nat} (hd : d < 8) : ∀ (k i fu : Nat) (r : Nat → Nat → Int32), i + k = 100 → k + 1 ≤ fu → ∃ r', l_X12_row_58 N fu (mc b 0) (nI d) (nI i) (MW b M2 r) = some (0, MW b M2 r') ∧ (∀ p, p ≠ 8 → r' p = r p) ∧ (∀ j, (j < 100 * d + i ∨ 100 * d + 100 ≤ j) → r' 8 j = r 8 j) ∧ ∀ j, i ≤ j → j < 100 → r' 8 (100 * d + j) = 0 := by
  intro k
  induction k with
  | zero =>
    intro i fu r hi hf
    obtain ⟨fu, rfl, -⟩ := fuel_s hf
    show ∃ r', b_X12_row_58 N (l_X12_row_58 N fu) _ _ _ _ = _ ∧ _
    unfold b_X12_row_58
    rw [if_pos (show (100 : Int32) ≤ nI i from nI_le (a := 100) (by omega) (by omega))]
    exact ⟨r, rfl, fun _ _ => rfl, fun _ _ => rfl, fun j q1 q2 => by omega⟩
  | succ k ih =>
    intro i fu r hi hf
    obtain ⟨fu, rfl, hf2⟩ := fuel_s hf
    show ∃ r', b_X12_row_58 N (l_X12_row_58 N fu) _ _ _ _ = _ ∧ _
    obtain ⟨r', e1, e2, e3, e4⟩ := ih (i + 1) fu (up2 r 8 (100 * d + i) 0) (by omega) (by omega)
    refine ⟨r', ?_, fun p hp => by rw [e2 p hp]; funext j; simp [up2, hp], fun j hj => ?_, fun j q1 q2 => ?_⟩
    · unfold b_X12_row_58
      rw [if_neg (show ¬ (100 : Int32) ≤ nI i from nI_ge (b := 100) (by omega) (by decide)), n_gR hl (p := 8) (by decide), show (100 : Int32) = nI 100 from rfl, pk_mul, nI_add, n_ast hl (by decide) (by decide) (show 100 * d + i < 800 by omega), nI_1]
      exact e1
    · rw [e3 j (by omega)]
      have : ¬ j = 100 * d + i := by omega
      simp [up2, this]
    · by_cases hji : j = i
      · subst hji
        rw [e3 _ (by omega)]
        simp [up2]
      · exact e4 j (by omega) q2
theorem T_row (hc : CLS b S pic sh M) (hl : MLAY b M2) (hm : MDR S pic sh r) (hi : INV S pic) (hN : 200 ≤ N) (x y z : Int32) : AGREE b M M2 (f_X11_row N b x y z M) (f_X12_row N (mc b 0) x y z (MW b M2 r)) := by
  obtain ⟨⟨hL, hX, hNB⟩, -, -⟩ := id hc
  rcases sh_cases x with ⟨d, hd, rfl⟩ | hno
  · obtain ⟨x1, x2, x3, x4⟩ := hX.2.2.2 d hd
    by_cases hy : 0 ≤ y ∧ y ≤ 2
    · obtain ⟨s, hs, rfl⟩ := in_nat2 (n := 2) hy.1 hy.2 rfl (by decide)
      by_cases hz : z ≤ 100
      · by_cases hz0 : 0 ≤ z
        · obtain ⟨n, hn, rfl⟩ := in_nat2 (n := 100) hz0 hz rfl (by decide)
          obtain ⟨M1, c1, c2, c3, c4⟩ := c_clear (N := N) hX hd
          have k1 : (M1.1 (b + 88 + 2 * d)).1 = 11 := by rw [c2.1]; exact x2
          obtain ⟨M3, e1, e2, e3, e4, e5, e6⟩ := s_makeRow (N := N) (A := b + 88 + 2 * d) (E := b + 89 + 2 * d) 100 0 N (sI (sI M1 (b + 88 + 2 * d) 1 (nI s)) (b + 88 + 2 * d) 2 (nI n)) (by omega) (by omega) k1 (by show M1.2.2.2.1 _ 3 = _; rw [c2.2.2.2.2 _ 3 (Or.inr (by decide))]; exact x3) (by show M1.1 _ = _; rw [c2.1]; exact x4)
          have hcl : f_X11_row N b (nI d) (nI s) (nI n) M = some (0, M3) := by
            unfold f_X11_row onn f_X7_makeRow
            rw [d_ck hX, c_shelfAt hX hd, bnd_one, Option.elim_some, if_neg (Int32.not_lt.mpr hy.1), if_neg (Int32.not_lt.mpr hy.2), if_pos hz, if_pos hz0, d_ck7 hX hd, c1, bnd_one]
            have q1 : ∀ κ : Option (Int32 × Mm), ck 7 M1 (b + 88 + 2 * d) κ = κ := fun κ => if_pos k1
            have q2 : ∀ (M' : Mm) (k : Nat) (v : Int32) (κ : Mm → Option (Unit × Mm)), (M'.1 (b + 88 + 2 * d)).1 = 11 → pI 7 M' (b + 88 + 2 * d) k v κ = κ (sI M' (b + 88 + 2 * d) k v) := fun M' k v κ h => if_pos h
            rw [q1, q2 M1 1 _ _ k1, q2 (sI M1 (b + 88 + 2 * d) 1 (nI s)) 2 _ _ k1, show (0 : Int32) = nI 0 from rfl, e1, bnd_one]
          obtain ⟨r', f1, f2, f3, f4⟩ := s_row58 (N := N) (b := b) hl hd 100 0 N (up2 (up2 (up2 r 5 d 2) 6 d (nI s)) 7 d (nI n)) (by omega) (by omega)
          have hmo : f_X12_row N (mc b 0) (nI d) (nI s) (nI n) (MW b M2 r) = some (0, MW b M2 r') := by
            unfold f_X12_row
            rw [m_isShelf, bnd_one, b32_if, if_pos (nI_in7 hd), m_isIn (nI s) 0 2 0 2 rfl rfl, bnd_one, b32_if, if_pos hy, if_pos hz, if_pos hz0, n_gR hl (p := 5) (by decide), n_ast hl (by decide) (by decide) hd, n_gR hl (p := 6) (by decide), n_ast hl (by decide) (by decide) hd, n_gR hl (p := 7) (by decide), n_ast hl (by decide) (by decide) hd]
            exact f1
          have hSD : SD b d M M3 := SD_trans c2 (SD_trans (SD_i (k := 1) (v := nI s) (Or.inl rfl)) (SD_trans (SD_i (k := 2) (v := nI n) (Or.inl rfl)) ⟨e2, by rw [e3], by show M3.2.2.2.2 = _; rw [e3], fun a _ h2 => e4 a h2, fun a k _ => by rw [e3]⟩))
          have hi1 : M3.2.1 (b + 88 + 2 * d) 1 = nI s := by rw [e4 _ (by omega)]; simp [sI, up2]
          have hi2 : M3.2.1 (b + 88 + 2 * d) 2 = nI n := by rw [e4 _ (by omega)]; simp [sI, up2]
          have hq0 : M3.2.2.2.1 (b + 88 + 2 * d) 0 = none := by rw [e3]; exact c3
          refine ⟨0, S, pic, upS sh d (2, s, n, fun _ => 0), M3, r', hcl, hmo, CLS_SD hc hd hSD (Or.inr (Or.inr ⟨rfl, hq0, hi1, hi2, by show s < 3; omega, hn, fun i hi => e6 i (Nat.zero_le _) hi⟩)), FR_SD hd hSD, ?_, hi⟩
          refine MDR_sh hm hd (fun p hp => ?_) (fun d' hd' hne => ⟨fun p hp => ?_, fun i hi => ?_⟩) (Or.inr (Or.inr ⟨rfl, ?_, ?_, ?_, by show s < 3; omega, hn, fun i hi => f4 i (Nat.zero_le _) hi⟩))
          · have hp3 : p < 3 := by revert hp; revert p; decide
            rw [f2 p (by omega)]
            funext j
            simp only [up2]
            rw [if_neg (by omega), if_neg (by omega), if_neg (by omega)]
          · have hp8 : p ≠ 8 := by rintro rfl; revert hp; decide
            rw [f2 p hp8]
            simp only [up2, if_neg hne]
            repeat (first | rfl | split)
          · rw [f3 _ (by omega)]
            simp [up2]
          · rw [f2 5 (by decide)]; simp [up2]
          · rw [f2 6 (by decide)]; simp [up2]
          · rw [f2 7 (by decide)]; simp [up2]
        · refine AGREE_same hc hm hi (-14) ?_ ?_
          · unfold f_X11_row onn
            rw [d_ck hX, c_shelfAt hX hd, bnd_one, Option.elim_some, if_neg (Int32.not_lt.mpr hy.1), if_neg (Int32.not_lt.mpr hy.2), if_pos hz, if_neg hz0]
          · unfold f_X12_row
            rw [m_isShelf, bnd_one, b32_if, if_pos (nI_in7 hd), m_isIn (nI s) 0 2 0 2 rfl rfl, bnd_one, b32_if, if_pos hy, if_pos hz, if_neg hz0]
      · refine AGREE_same hc hm hi (-1) ?_ ?_
        · unfold f_X11_row onn
          rw [d_ck hX, c_shelfAt hX hd, bnd_one, Option.elim_some, if_neg (Int32.not_lt.mpr hy.1), if_neg (Int32.not_lt.mpr hy.2), if_neg hz]
        · unfold f_X12_row
          rw [m_isShelf, bnd_one, b32_if, if_pos (nI_in7 hd), m_isIn (nI s) 0 2 0 2 rfl rfl, bnd_one, b32_if, if_pos hy, if_neg hz]
    · refine AGREE_same hc hm hi (-1) ?_ ?_
      · unfold f_X11_row onn
        rw [d_ck hX, c_shelfAt hX hd, bnd_one, Option.elim_some]
        by_cases h0 : y < 0
        · rw [if_pos h0]
        · rw [if_neg h0, if_pos (Int32.not_le.mp (fun q => hy ⟨Int32.not_lt.mp h0, q⟩))]
      · unfold f_X12_row
        rw [m_isShelf, bnd_one, b32_if, if_pos (nI_in7 hd), m_isIn y 0 2 0 2 rfl rfl, bnd_one, b32_if, if_neg hy]
  · refine AGREE_same hc hm hi (-1) ?_ ?_
    · unfold f_X11_row onn
      rw [d_ck hX, c_shelfNo hX hno, bnd_one, Option.elim_none]
    · unfold f_X12_row
      rw [m_isShelf, bnd_one, b32_if, if_neg hno]
end ROW
