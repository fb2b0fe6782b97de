/-! The class' constructor: text, shelves, all of it. -/
section CTOR2
variable {M : Mm} {N a b : Nat}
theorem z_text (hk : (M.1 a).1 = 9) (ha : a < nx M) : ∃ M', f_X5_init N a M = some ((), M') ∧ LV M M' a 1 ∧ M'.1 (nx M) = (1, 5) ∧ M'.2.2.2.1 a 5 = some (nx M) := by
  obtain ⟨K, I, Lg, Rf, n⟩ := M
  have hk' : (K a).1 = 9 := hk
  have ha' : a < n := ha
  have h1 : ¬ a = n := by omega
  unfold f_X5_init
  rw [i_pR, i_pI, i_pI, i_pI, i_pI, i_nw, i_pR]
  · refine ⟨_, rfl, ⟨rfl, fun q hq hqa => ?_, ?_, fun q hq => ?_⟩, ?_, ?_⟩
    · have hq' : q < n := hq
      have g1 : ¬ q = n := by omega
      refine ⟨?_, ?_, ?_⟩
      · simp [nw, sI, sR, nx, g1]
      · funext j; simp [nw, sI, sR, nx, up2, upR, g1, hqa]
      · funext j; simp [nw, sI, sR, nx, up2, upR, g1, hqa]
    · simp [nw, sI, sR, nx, h1]
    · have hq' : n + 1 ≤ q := hq
      have g1 : ¬ q = n := by omega
      simp [nw, sI, sR, nx, g1]
    · simp [nw, sI, sR, nx]
    · simp [nw, sI, sR, nx, up2, upR, h1]
  all_goals simp [nw, sI, sR, nx, hk', h1]
theorem z_shelf (hk : (M.1 a).1 = 11) (ha : a < nx M) : ∃ M', f_X7_init N a M = some ((), M') ∧ LV M M' a 1 ∧ M'.1 (nx M) = (1, 100) ∧ M'.2.2.2.1 a 3 = some (nx M) ∧ M'.2.2.2.1 a 0 = none ∧ M'.2.1 a 1 = -2 := by
  obtain ⟨K, I, Lg, Rf, n⟩ := M
  have hk' : (K a).1 = 11 := hk
  have ha' : a < n := ha
  have h1 : ¬ a = n := by omega
  unfold f_X7_init
  rw [i_pR, i_pI, i_pI, i_nw, i_pR]
  · refine ⟨_, rfl, ⟨rfl, fun q hq hqa => ?_, ?_, fun q hq => ?_⟩, ?_, ?_, ?_, ?_⟩
    · have hq' : q < n := hq
      have g1 : ¬ q = n := by omega
      refine ⟨?_, ?_, ?_⟩
      · simp [nw, sI, sR, nx, g1]
      · funext j; simp [nw, sI, sR, nx, up2, upR, g1, hqa]
      · funext j; simp [nw, sI, sR, nx, up2, upR, g1, hqa]
    · simp [nw, sI, sR, nx, h1]
    · have hq' : n + 1 ≤ q := hq
      have g1 : ¬ q = n := by omega
      simp [nw, sI, sR, nx, g1]
    · simp [nw, sI, sR, nx]
    · simp [nw, sI, sR, nx, up2, upR, h1]
    · simp [nw, sI, sR, nx, up2, upR, h1]
    · simp [nw, sI, sR, nx, up2, upR, h1]
  all_goals simp [nw, sI, sR, nx, hk', h1]
/-- a shelf made, and its place among the shelves -/
def SFm (M : Mm) (b d : Nat) : Prop := M.2.2.2.1 (b + 87) d = some (b + 88 + 2 * d) ∧ (M.1 (b + 88 + 2 * d)).1 = 11 ∧ M.2.2.2.1 (b + 88 + 2 * d) 3 = some (b + 89 + 2 * d) ∧ M.1 (b + 89 + 2 * d) = (1, 100) ∧ M.2.2.2.1 (b + 88 + 2 * d) 0 = none ∧ M.2.1 (b + 88 + 2 * d) 1 = -2
theorem nw_f {t k : Nat} : nx (nw M t k) = nx M + 1 ∧ (∀ q, q < nx M → SQ M (nw M t k) q) ∧ (nw M t k).1 (nx M) = (t, k) ∧ ∀ q, nx M + 1 ≤ q → (nw M t k).1 q = M.1 q := by
  obtain ⟨K, I, Lg, Rf, n⟩ := M
  refine ⟨rfl, fun q hq => ?_, ?_, fun q hq => ?_⟩
  · have hq' : q < n := hq
    have g1 : ¬ q = n := by omega
    refine ⟨?_, ?_, ?_⟩
    · simp [nw, nx, g1]
    · funext j; simp [nw, nx, upR, g1]
    · funext j; simp [nw, nx, upR, g1]
  · simp [nw, nx]
  · have hq' : n + 1 ≤ q := hq
    have g1 : ¬ q = n := by omega
    simp [nw, nx, g1]
theorem sR_f {k q : Nat} {v : Option Nat} (h : q ≠ a) : SQ M (sR M a k v) q := ⟨rfl, rfl, by funext j; simp [sR, up2, h]⟩
theorem sI_f {k q : Nat} {v : Int32} (h : q ≠ a) : SQ M (sI M a k v) q := ⟨rfl, by funext j; simp [sI, up2, h], rfl⟩
theorem z_shelves : ∀ (k i fu : Nat) (M : Mm), i + k = 8 → k + 1 ≤ fu → (M.1 b).1 = 15 → M.2.2.2.1 b 5 = some (b + 87) → M.1 (b + 87) = (3, 8) → nx M = b + 88 + 2 * i → ∃ M', l_X11_init_105 N fu b (nI i) (87 + 2 * i) (1300 + 104 * i) M = some ((), M') ∧ nx M' = b + 104 ∧ (∀ q, q < b + 88 + 2 * i → q ≠ b + 87 → SQ M M' q) ∧ M'.1 (b + 87) = M.1 (b + 87) ∧ (∀ j, j < i → M'.2.2.2.1 (b + 87) j = M.2.2.2.1 (b + 87) j) ∧ (∀ d, i ≤ d → d < 8 → SFm M' b d) ∧ ∀ q, b + 104 ≤ q → M'.1 q = M.1 q := by
  intro k
  induction k with
  | zero =>
    intro i fu M hi hf h1 h2 h3 h4
    obtain ⟨fu, rfl, -⟩ := fuel_s hf
    obtain rfl : i = 8 := by omega
    show ∃ M', b_X11_init_105 N (l_X11_init_105 N fu) _ _ _ _ _ = _ ∧ _
    unfold b_X11_init_105 gR alen rq
    rw [if_pos h1, h2, Option.elim_some, if_pos (Or.inr (by rw [h3])), h3]
    exact ⟨M, rfl, h4, fun _ _ _ => ⟨rfl, rfl, rfl⟩, h3, fun _ _ => rfl, fun d q1 q2 => by omega, fun _ _ => rfl⟩
  | succ k ih =>
    intro i fu M hi hf h1 h2 h3 h4
    obtain ⟨fu, rfl, hf2⟩ := fuel_s hf
    show ∃ M', b_X11_init_105 N (l_X11_init_105 N fu) _ _ _ _ _ = _ ∧ _
    obtain ⟨u1, u2, u3, u4⟩ := nw_f (M := M) (t := 11) (k := 0)
    obtain ⟨M7, a0, ⟨a1, a2, a3, a4⟩, a5, a6, a7, a8⟩ := z_shelf (N := N) (M := nw M 11 0) (a := nx M) (by rw [u3]) (by rw [u1]; omega)
    rw [u1, h4] at a1 a2 a4 a5 a6
    rw [h4] at a3 a7 a8 u2 u3 u4
    have b0 : SQ M M7 b := SQ_tr (u2 _ (by omega)) (a2 _ (by omega) (by omega))
    have b87 : SQ M M7 (b + 87) := SQ_tr (u2 _ (by omega)) (a2 _ (by omega) (by omega))
    have k88 : (M7.1 (b + 88 + 2 * i)).1 = 11 := by rw [a3, u3]
    obtain ⟨M', e1, e2, e3, e4, e5, e6, e7⟩ := ih (i + 1) fu (sR M7 (b + 87) i (some (b + 88 + 2 * i))) (by omega) (by omega) (by show (M7.1 b).1 = 15; rw [b0.1]; exact h1) (by rw [(sR_f (show b ≠ b + 87 by omega)).2.2, b0.2.2]; exact h2) (by show M7.1 (b + 87) = _; rw [b87.1]; exact h3) (by show nx M7 = _; rw [a1]; omega)
    refine ⟨M', ?_, e2, fun q hq hq7 => ?_, ?_, fun j hj => ?_, fun d hd1 hd2 => ?_, fun q hq => ?_⟩
    · unfold b_X11_init_105 gR alen rq
      rw [if_pos h1, h2, Option.elim_some, if_pos (Or.inr (by rw [h3])), h3]
      dsimp only
      rw [if_neg (nI_ge (by omega) (by omega)), if_pos h1, Option.elim_some, if_pos (by omega), i_nw, if_pos (by omega), a0, bnd_one]
      unfold asq
      rw [if_pos ⟨by rw [b87.1, h3], by rw [b87.1, h3]; exact inA_nI (by omega) (by decide), by rw [h4]; exact k88⟩, nIc (by omega), nI_1, h4]
      rw [show 87 + 2 * i + 1 + 1 = 87 + 2 * (i + 1) by omega, show 1300 + 104 * i + 4 + 100 = 1300 + 104 * (i + 1) by omega]
      exact e1
    · exact SQ_tr (u2 q (by omega)) (SQ_tr (a2 q (by omega) (by omega)) (SQ_tr (sR_f hq7) (e3 q (by omega) hq7)))
    · rw [e4]; exact b87.1
    · rw [e5 j (by omega)]
      have : ¬ j = i := by omega
      simp [sR, up2, this]
      rw [b87.2.2]
    · by_cases hdi : d = i
      · subst hdi
        have z8 : SQ M7 M' (b + 88 + 2 * d) := SQ_tr (sR_f (by omega)) (e3 _ (by omega) (by omega))
        have z9 : SQ M7 M' (b + 89 + 2 * d) := SQ_tr (sR_f (by omega)) (e3 _ (by omega) (by omega))
        refine ⟨?_, by rw [z8.1]; exact k88, ?_, ?_, by rw [z8.2.2]; exact a7, by rw [z8.2.1]; exact a8⟩
        · rw [e5 d (by omega)]
          simp [sR, up2]
        · rw [z8.2.2, a6]; congr 1; omega
        · rw [z9.1, show b + 89 + 2 * d = b + 88 + 2 * d + 1 by omega]; exact a5
      · exact e6 d (by omega) hd2
    · rw [e7 q hq]
      show M7.1 q = _
      rw [a4 q (by omega), u4 q (by omega)]
end CTOR2
