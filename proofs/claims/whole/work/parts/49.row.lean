/-! row. -/
section ROW
variable {b : Nat} {M M2 : Mm} {S : SP} {pic : Option SP} {sh : Nat → SV} {r : Nat → Nat → Int32} {N : Nat}
theorem s_makeRow {A E : Nat} : ∀ (k i fu : Nat) (M : Mm), i + k = 100 → k + 1 ≤ fu → (M.1 A).1 = 11 → M.2.2.2.1 A 3 = some E → M.1 E = (1, 100) → ∃ M', l_X7_makeRow_12 N fu A (nI i) M = some ((), M') ∧ M'.1 = M.1 ∧ M'.2.2 = M.2.2 ∧ (∀ a, a ≠ E → M'.2.1 a = M.2.1 a) ∧ (∀ j, j < i → M'.2.1 E j = M.2.1 E j) ∧ ∀ j, i ≤ j → j < 100 → M'.2.1 E j = 0 := by
  intro k
  induction k with
  | zero =>
    intro i fu M hi hf h1 h2 h3
    obtain ⟨fu, rfl, -⟩ := fuel_s hf
    show ∃ M', b_X7_makeRow_12 N (l_X7_makeRow_12 N fu) _ _ _ = _ ∧ _
    unfold b_X7_makeRow_12 gR alen
    rw [if_pos h1, h2, Option.elim_some, if_pos (Or.inl (by rw [h3])), h3]
    dsimp only
    rw [if_pos (nI_le (by omega) (by omega))]
    exact ⟨M, rfl, rfl, rfl, fun _ _ => rfl, fun _ _ => rfl, fun j q1 q2 => by omega⟩
  | succ k ih =>
    intro i fu M hi hf h1 h2 h3
    obtain ⟨fu, rfl, hf2⟩ := fuel_s hf
    show ∃ M', b_X7_makeRow_12 N (l_X7_makeRow_12 N fu) _ _ _ = _ ∧ _
    obtain ⟨M', e1, e2, e3, e4, e5, e6⟩ := ih (i + 1) fu (sI M E i 0) (by omega) (by omega) h1 h2 h3
    refine ⟨M', ?_, e2, e3, fun a ha => by rw [e4 a ha, sI_oo ha], fun j hj => ?_, fun j q1 q2 => ?_⟩
    · unfold b_X7_makeRow_12 gR alen ast
      rw [if_pos h1, h2, Option.elim_some, if_pos (Or.inl (by rw [h3])), h3]
      dsimp only
      rw [if_neg (nI_ge (by omega) (by omega)), if_pos h1, Option.elim_some, if_pos ⟨by rw [h3], by rw [h3]; exact inA_nI (by omega) (by decide)⟩, nIc (by omega), nI_1]
      exact e1
    · rw [e5 j (by omega)]
      have : ¬ j = i := by omega
      simp [sI, up2, this]
    · by_cases hji : j = i
      · subst hji
        rw [e5 j (by omega)]
        simp [sI, up2]
      · exact e6 j (by omega) q2
theorem s_row58 (hl : MLAY b M2) {d : Nat} (hd : d < 8) : ∀ (k i fu : Nat) (r : Nat → Nat → Int32), i + k = 100 → k + 1 ≤ fu → ∃ r', l_X12_row_58 N fu (mc b 0) (nI d) (nI i) (MW b M2 r) = some (0, MW b M2 r') ∧ (∀ p, p ≠ 8 → r' p = r p) ∧ (∀ j, (j < 100 * d + i ∨ 100 * d + 100 ≤ j) → r' 8 j = r 8 j) ∧ ∀ j, i ≤ j → j < 100 → r' 8 (100 * d + j) = 0 := by
  intro k
  induction k with
  | zero =>
    intro i fu r hi hf
    obtain ⟨fu, rfl, -⟩ := fuel_s hf
    show ∃ r', b_X12_row_58 N (l_X12_row_58 N fu) _ _ _ _ = _ ∧ _
    unfold b_X12_row_58
    rw [if_pos (show (100 : Int32) ≤ nI i from nI_le (a := 100) (by omega) (by omega))]
    exact ⟨r, rfl, fun _ _ => rfl, fun _ _ => rfl, fun j q1 q2 => by omega⟩
  | succ k ih =>
    intro i fu r hi hf
    obtain ⟨fu, rfl, hf2⟩ := fuel_s hf
    show ∃ r', b_X12_row_58 N (l_X12_row_58 N fu) _ _ _ _ = _ ∧ _
    obtain ⟨r', e1, e2, e3, e4⟩ := ih (i + 1) fu (up2 r 8 (100 * d + i) 0) (by omega) (by omega)
    refine ⟨r', ?_, fun p hp => by rw [e2 p hp]; funext j; simp [up2, hp], fun j hj => ?_, fun j q1 q2 => ?_⟩
    · unfold b_X12_row_58
      rw [if_neg (show ¬ (100 : Int32) ≤ nI i from nI_ge (b := 100) (by omega) (by decide)), n_gR hl (p := 8) (by decide), show (100 : Int32) = nI 100 from rfl, pk_mul, nI_add, n_ast hl (by decide) (by decide) (show 100 * d + i < 800 by omega), nI_1]
      exact e1
    · rw [e3 j (by omega)]
      have : ¬ j = 100 * d + i := by omega
      simp [up2, this]
    · by_cases hji : j = i
      · subst hji
        rw [e3 _ (by omega)]
        simp [up2]
      · exact e4 j (by omega) q2
end ROW
