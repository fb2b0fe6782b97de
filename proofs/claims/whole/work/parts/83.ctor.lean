/-! The constructors. -/
section CTOR
variable {M : Mm} {N a : Nat}
theorem i_pI {ρ : Type} {c k : Nat} {v : Int32} {κ : Mm → Option ρ} (h : (M.1 a).1 = c + 4) : pI c M a k v κ = κ (sI M a k v) := if_pos h
theorem i_pR {ρ : Type} {c k : Nat} {v : Option Nat} {κ : Mm → Option ρ} (h : (M.1 a).1 = c + 4) : pR c M a k v κ = κ (sR M a k v) := if_pos h
theorem i_pZ {ρ : Type} {c k : Nat} {κ : Mm → Option ρ} (h : (M.1 a).1 = c + 4) : pZ c M a k 0 κ = κ (sI M a k 0) := if_pos ⟨h, Or.inl rfl⟩
theorem i_pF {ρ : Type} {v : Int32} {κ : Mm → Option ρ} (h : isRule (M.1 a).1 = true) : pF M a v κ = κ (sI M a 0 v) := if_pos h
theorem i_nw {ρ : Type} {t n : Nat} {κ : Nat → Mm → Option ρ} : nwo t n M κ = κ (nx M) (nw M t n) := rfl
def BT (M M' : Mm) (a : Nat) : Prop := nx M' = nx M + 2 ∧ (∀ q, q < nx M → q ≠ a → M'.1 q = M.1 q ∧ M'.2.1 q = M.2.1 q ∧ M'.2.2.2.1 q = M.2.2.2.1 q) ∧ M'.1 a = M.1 a ∧ (M'.2.1 a 0 = 0 ∧ M'.2.1 a 1 = 0 ∧ M'.2.1 a 2 = 0) ∧ (M'.2.2.2.1 a 3 = some (nx M) ∧ M'.2.2.2.1 a 4 = some (nx M + 1)) ∧ M'.1 (nx M) = (1, 6) ∧ M'.1 (nx M + 1) = (10, 0) ∧ M'.2.1 (nx M + 1) 0 = 0 ∧ ∀ q, nx M + 2 ≤ q → M'.1 q = M.1 q
theorem z_boat (hk : (M.1 a).1 = 1 + 4) (ha : a < nx M) : ∃ M', f_X1_init N a M = some ((), M') ∧ BT M M' a := by
  obtain ⟨K, I, Lg, Rf, n⟩ := M
  have hk' : (K a).1 = 5 := hk
  have ha' : a < n := ha
  have h1 : ¬ a = n := by omega
  have h2 : ¬ a = n + 1 := by omega
  unfold f_X1_init f_X6_init
  rw [i_pI, i_pI, i_pI, i_nw, i_pR, i_nw, i_pF, bnd_one, i_pR]
  · refine ⟨_, rfl, rfl, fun q hq hqa => ?_, ?_, ⟨?_, ?_, ?_⟩, ⟨?_, ?_⟩, ?_, ?_, ?_, fun q hq => ?_⟩
    · have hq' : q < n := hq
      have g1 : ¬ q = n := by omega
      have g2 : ¬ q = n + 1 := by omega
      refine ⟨?_, ?_, ?_⟩
      · simp [nw, sI, sR, nx, g1, g2]
      · funext j; simp [nw, sI, sR, nx, up2, upR, g1, g2, hqa]
      · funext j; simp [nw, sI, sR, nx, up2, upR, g1, g2, hqa]
    · simp [nw, sI, sR, nx, h1, h2]
    · simp [nw, sI, sR, nx, up2, upR, h1, h2]
    · simp [nw, sI, sR, nx, up2, upR, h1, h2]
    · simp [nw, sI, sR, nx, up2, upR, h1, h2]
    · simp [nw, sI, sR, nx, up2, upR, h1, h2]
    · simp [nw, sI, sR, nx, up2, upR, h1, h2]
    · simp [nw, sI, sR, nx]
    · simp [nw, sI, sR, nx]
    · simp [nw, sI, sR, nx, up2, upR]
    · have hq' : n + 2 ≤ q := hq
      have g1 : ¬ q = n := by omega
      have g2 : ¬ q = n + 1 := by omega
      simp [nw, sI, sR, nx, g1, g2]
  all_goals simp [nw, sI, sR, nx, hk', h1, h2, isRule]
def SQ (M M' : Mm) (q : Nat) : Prop := M'.1 q = M.1 q ∧ M'.2.1 q = M.2.1 q ∧ M'.2.2.2.1 q = M.2.2.2.1 q
theorem SQ_tr {M M' M'' : Mm} {q : Nat} (h1 : SQ M M' q) (h2 : SQ M' M'' q) : SQ M M'' q := ⟨h2.1.trans h1.1, h2.2.1.trans h1.2.1, h2.2.2.trans h1.2.2⟩
def wS1 (M : Mm) (a : Nat) : Mm := nw (sI (sI (sI (sR (nw (sI (sR (nw (sI M a 0 3) 1 16) a 1 (some (nx M))) a 2 0) 1 25) a 3 (some (nx M + 1))) a 4 3) a 5 1) a 6 0) 5 0
def wS3 (M : Mm) (a v : Nat) : Mm := nw (sR M a 7 (some v)) 5 0
def wS5 (M : Mm) (a v : Nat) (o : Option Nat) : Mm := sR (sI (sI (sI (sI (sR (nw (sR (nw (sR (nw (sI (sR M a 8 (some v)) a 9 0) 1 4) a 10 (some (nx M))) 1 48) a 11 (some (nx M + 1))) 1 48) a 12 (some (nx M + 2))) a 13 0) a 14 0) a 15 0) a 16 0) a 17 o
theorem wS1_f (ha : a < nx M) : nx (wS1 M a) = nx M + 3 ∧ (∀ q, q < nx M → q ≠ a → SQ M (wS1 M a) q) ∧ (wS1 M a).1 a = M.1 a ∧ ((wS1 M a).1 (nx M) = (1, 16) ∧ (wS1 M a).1 (nx M + 1) = (1, 25) ∧ (wS1 M a).1 (nx M + 2) = (5, 0)) ∧ ((wS1 M a).2.1 a 0 = 3 ∧ (wS1 M a).2.1 a 2 = 0 ∧ (wS1 M a).2.1 a 4 = 3 ∧ (wS1 M a).2.1 a 5 = 1 ∧ (wS1 M a).2.1 a 6 = 0) ∧ ((wS1 M a).2.2.2.1 a 1 = some (nx M) ∧ (wS1 M a).2.2.2.1 a 3 = some (nx M + 1)) ∧ ∀ q, nx M + 3 ≤ q → (wS1 M a).1 q = M.1 q := by
  obtain ⟨K, I, Lg, Rf, n⟩ := M
  have ha' : a < n := ha
  have h1 : ¬ a = n := by omega
  have h2 : ¬ a = n + 1 := by omega
  have h3 : ¬ a = n + 2 := by omega
  have h4 : ¬ a = n + 1 + 1 := by omega
  refine ⟨rfl, fun q hq hqa => ?_, ?_, ⟨?_, ?_, ?_⟩, ⟨?_, ?_, ?_, ?_, ?_⟩, ⟨?_, ?_⟩, fun q hq => ?_⟩
  · have hq' : q < n := hq
    have g1 : ¬ q = n := by omega
    have g2 : ¬ q = n + 1 := by omega
    have g3 : ¬ q = n + 1 + 1 := by omega
    refine ⟨?_, ?_, ?_⟩
    · simp [wS1, nw, sI, sR, nx, g1, g2, g3]
    · funext j; simp [wS1, nw, sI, sR, nx, up2, upR, g1, g2, g3, hqa]
    · funext j; simp [wS1, nw, sI, sR, nx, up2, upR, g1, g2, g3, hqa]
  · simp [wS1, nw, sI, sR, nx, h1, h2, h4]
  · have h6 : ¬ n = n + 1 + 1 := by omega
    simp [wS1, nw, sI, sR, nx, h6]
  · have h6 : ¬ n = n + 1 + 1 := by omega
    simp [wS1, nw, sI, sR, nx]
  · have h6 : ¬ n = n + 1 + 1 := by omega
    simp [wS1, nw, sI, sR, nx]
  · simp [wS1, nw, sI, sR, nx, up2, upR, h1, h2, h3, h4]
  · simp [wS1, nw, sI, sR, nx, up2, upR, h1, h2, h3, h4]
  · simp [wS1, nw, sI, sR, nx, up2, upR, h1, h2, h3, h4]
  · simp [wS1, nw, sI, sR, nx, up2, upR, h1, h2, h3, h4]
  · simp [wS1, nw, sI, sR, nx, up2, upR, h1, h2, h3, h4]
  · simp [wS1, nw, sI, sR, nx, up2, upR, h1, h2, h3, h4]
  · simp [wS1, nw, sI, sR, nx, up2, upR, h1, h2, h3, h4]
  · have hq' : n + 3 ≤ q := hq
    have g1 : ¬ q = n := by omega
    have g2 : ¬ q = n + 1 := by omega
    have g3 : ¬ q = n + 1 + 1 := by omega
    simp [wS1, nw, sI, sR, nx, g1, g2, g3]
theorem wS3_f {v : Nat} (ha : a < nx M) : nx (wS3 M a v) = nx M + 1 ∧ (∀ q, q < nx M → q ≠ a → SQ M (wS3 M a v) q) ∧ (wS3 M a v).1 a = M.1 a ∧ (wS3 M a v).1 (nx M) = (5, 0) ∧ (wS3 M a v).2.1 a = M.2.1 a ∧ (wS3 M a v).2.2.2.1 a 7 = some v ∧ (∀ k, k ≠ 7 → (wS3 M a v).2.2.2.1 a k = M.2.2.2.1 a k) ∧ ∀ q, nx M + 1 ≤ q → (wS3 M a v).1 q = M.1 q := by
  obtain ⟨K, I, Lg, Rf, n⟩ := M
  have ha' : a < n := ha
  have h1 : ¬ a = n := by omega
  refine ⟨rfl, fun q hq hqa => ?_, ?_, ?_, ?_, ?_, fun k hk => ?_, fun q hq => ?_⟩
  · have hq' : q < n := hq
    have g1 : ¬ q = n := by omega
    refine ⟨?_, ?_, ?_⟩
    · simp [wS3, nw, sR, nx, g1]
    · funext j; simp [wS3, nw, sR, nx, upR, g1]
    · funext j; simp [wS3, nw, sR, nx, up2, upR, g1, hqa]
  · simp [wS3, nw, sR, nx, h1]
  · simp [wS3, nw, sR, nx]
  · funext j; simp [wS3, nw, sR, nx, upR, h1]
  · simp [wS3, nw, sR, nx, up2, upR, h1]
  · simp [wS3, nw, sR, nx, up2, upR, h1, hk]
  · have hq' : n + 1 ≤ q := hq
    have g1 : ¬ q = n := by omega
    simp [wS3, nw, sR, nx, g1]
theorem wS5_f {v : Nat} {o : Option Nat} (ha : a < nx M) : nx (wS5 M a v o) = nx M + 3 ∧ (∀ q, q < nx M → q ≠ a → SQ M (wS5 M a v o) q) ∧ (wS5 M a v o).1 a = M.1 a ∧ ((wS5 M a v o).1 (nx M) = (1, 4) ∧ (wS5 M a v o).1 (nx M + 1) = (1, 48) ∧ (wS5 M a v o).1 (nx M + 2) = (1, 48)) ∧ ((∀ j, (wS5 M a v o).2.1 (nx M) j = 0) ∧ (wS5 M a v o).2.1 a 9 = 0 ∧ (wS5 M a v o).2.1 a 13 = 0 ∧ (wS5 M a v o).2.1 a 14 = 0 ∧ (wS5 M a v o).2.1 a 15 = 0 ∧ (wS5 M a v o).2.1 a 16 = 0) ∧ (∀ k, k < 9 → (wS5 M a v o).2.1 a k = M.2.1 a k) ∧ ((wS5 M a v o).2.2.2.1 a 8 = some v ∧ (wS5 M a v o).2.2.2.1 a 10 = some (nx M) ∧ (wS5 M a v o).2.2.2.1 a 11 = some (nx M + 1) ∧ (wS5 M a v o).2.2.2.1 a 12 = some (nx M + 2) ∧ (wS5 M a v o).2.2.2.1 a 17 = o) ∧ (∀ k, k < 8 → (wS5 M a v o).2.2.2.1 a k = M.2.2.2.1 a k) ∧ ∀ q, nx M + 3 ≤ q → (wS5 M a v o).1 q = M.1 q := by
  obtain ⟨K, I, Lg, Rf, n⟩ := M
  have ha' : a < n := ha
  have h1 : ¬ a = n := by omega
  have h2 : ¬ a = n + 1 := by omega
  have h3 : ¬ a = n + 2 := by omega
  have h4 : ¬ a = n + 1 + 1 := by omega
  have h5 : ¬ n = a := by omega
  refine ⟨rfl, fun q hq hqa => ?_, ?_, ⟨?_, ?_, ?_⟩, ⟨fun j => ?_, ?_, ?_, ?_, ?_, ?_⟩, fun k hk => ?_, ⟨?_, ?_, ?_, ?_, ?_⟩, fun k hk => ?_, fun q hq => ?_⟩
  · have hq' : q < n := hq
    have g1 : ¬ q = n := by omega
    have g2 : ¬ q = n + 1 := by omega
    have g3 : ¬ q = n + 1 + 1 := by omega
    refine ⟨?_, ?_, ?_⟩
    · simp [wS5, nw, sI, sR, nx, g1, g2, g3]
    · funext j; simp [wS5, nw, sI, sR, nx, up2, upR, g1, g2, g3, hqa]
    · funext j; simp [wS5, nw, sI, sR, nx, up2, upR, g1, g2, g3, hqa]
  · simp [wS5, nw, sI, sR, nx, h1, h2, h4]
  · have h6 : ¬ n = n + 1 + 1 := by omega
    simp [wS5, nw, sI, sR, nx, h6]
  · simp [wS5, nw, sI, sR, nx]
  · simp [wS5, nw, sI, sR, nx]
  · simp [wS5, nw, sI, sR, nx, up2, upR, h1, h2, h4, h5]
  · simp [wS5, nw, sI, sR, nx, up2, upR, h1, h2, h4]
  · simp [wS5, nw, sI, sR, nx, up2, upR, h1, h2, h4]
  · simp [wS5, nw, sI, sR, nx, up2, upR, h1, h2, h4]
  · simp [wS5, nw, sI, sR, nx, up2, upR, h1, h2, h4]
  · simp [wS5, nw, sI, sR, nx, up2, upR, h1, h2, h4]
  · have k1 : ¬ k = 9 := by omega
    have k2 : ¬ k = 13 := by omega
    have k3 : ¬ k = 14 := by omega
    have k4 : ¬ k = 15 := by omega
    have k5 : ¬ k = 16 := by omega
    simp [wS5, nw, sI, sR, nx, up2, upR, h1, h2, h4, k1, k2, k3, k4, k5]
  · simp [wS5, nw, sI, sR, nx, up2, upR, h1, h2, h4]
  · simp [wS5, nw, sI, sR, nx, up2, upR, h1, h2, h4]
  · simp [wS5, nw, sI, sR, nx, up2, upR, h1, h2, h4]
  · simp [wS5, nw, sI, sR, nx, up2, upR, h1, h2, h4]
  · simp [wS5, nw, sI, sR, nx, up2, upR, h1, h2, h4]
  · have k1 : ¬ k = 8 := by omega
    have k2 : ¬ k = 10 := by omega
    have k3 : ¬ k = 11 := by omega
    have k4 : ¬ k = 12 := by omega
    have k5 : ¬ k = 17 := by omega
    simp [wS5, nw, sI, sR, nx, up2, upR, h1, h2, h4, k1, k2, k3, k4, k5]
  · have hq' : n + 3 ≤ q := hq
    have g1 : ¬ q = n := by omega
    have g2 : ¬ q = n + 1 := by omega
    have g3 : ¬ q = n + 1 + 1 := by omega
    simp [wS5, nw, sI, sR, nx, g1, g2, g3]
theorem z_ways_init {A E : Nat} : ∀ (k i fu : Nat) (M : Mm), i + k = 16 → k + 1 ≤ fu → (M.1 A).1 = 14 → M.2.2.2.1 A 1 = some E → M.1 E = (1, 16) → ∃ M', l_X10_init_122 N fu A (nI i) 11 165 M = some ((), M') ∧ M'.1 = M.1 ∧ M'.2.2 = M.2.2 ∧ (∀ a, a ≠ E → M'.2.1 a = M.2.1 a) ∧ (∀ j, j < i → M'.2.1 E j = M.2.1 E j) ∧ ∀ j, i ≤ j → j < 16 → M'.2.1 E j = 3 := by
  intro k
  induction k with
  | zero =>
    intro i fu M hi hf h1 h2 h3
    obtain ⟨fu, rfl, -⟩ := fuel_s hf
    show ∃ M', b_X10_init_122 N (l_X10_init_122 N fu) _ _ _ _ _ = _ ∧ _
    unfold b_X10_init_122 gR alen rq
    rw [if_pos h1, h2, Option.elim_some, if_pos (Or.inl (by rw [h3])), h3]
    dsimp only
    rw [if_pos (nI_le (by omega) (by omega))]
    exact ⟨M, rfl, rfl, rfl, fun _ _ => rfl, fun _ _ => rfl, fun j q1 q2 => by omega⟩
  | succ k ih =>
    intro i fu M hi hf h1 h2 h3
    obtain ⟨fu, rfl, hf2⟩ := fuel_s hf
    show ∃ M', b_X10_init_122 N (l_X10_init_122 N fu) _ _ _ _ _ = _ ∧ _
    obtain ⟨M', e1, e2, e3, e4, e5, e6⟩ := ih (i + 1) fu (sI M E i 3) (by omega) (by omega) h1 h2 h3
    refine ⟨M', ?_, e2, e3, fun a ha => by rw [e4 a ha, sI_oo ha], fun j hj => ?_, fun j q1 q2 => ?_⟩
    · unfold b_X10_init_122 gR alen ast
      rw [if_pos h1, h2, Option.elim_some, if_pos (Or.inl (by rw [h3])), h3]
      dsimp only
      rw [if_neg (nI_ge (by omega) (by omega)), if_pos h1, Option.elim_some, if_pos ⟨by rw [h3], by rw [h3]; exact inA_nI (by omega) (by decide)⟩, nIc (by omega), nI_1]
      exact e1
    · rw [e5 j (by omega)]
      have : ¬ j = i := by omega
      simp [sI, up2, this]
    · by_cases hji : j = i
      · subst hji
        rw [e5 j (by omega)]
        simp [sI, up2]
      · exact e6 j (by omega) q2
theorem z_ways_initn {A E : Nat} : ∀ (k i fu : Nat) (M : Mm), i + k = 16 → k + 1 ≤ fu → (M.1 A).1 = 14 → M.2.2.2.1 A 1 = some E → M.1 E = (1, 16) → ∃ M', l_X10_initn_122 N fu A (nI i) 11 165 M = some ((), M') ∧ M'.1 = M.1 ∧ M'.2.2 = M.2.2 ∧ (∀ a, a ≠ E → M'.2.1 a = M.2.1 a) ∧ (∀ j, j < i → M'.2.1 E j = M.2.1 E j) ∧ ∀ j, i ≤ j → j < 16 → M'.2.1 E j = 3 := by
  intro k
  induction k with
  | zero =>
    intro i fu M hi hf h1 h2 h3
    obtain ⟨fu, rfl, -⟩ := fuel_s hf
    show ∃ M', b_X10_initn_122 N (l_X10_initn_122 N fu) _ _ _ _ _ = _ ∧ _
    unfold b_X10_initn_122 gR alen rq
    rw [if_pos h1, h2, Option.elim_some, if_pos (Or.inl (by rw [h3])), h3]
    dsimp only
    rw [if_pos (nI_le (by omega) (by omega))]
    exact ⟨M, rfl, rfl, rfl, fun _ _ => rfl, fun _ _ => rfl, fun j q1 q2 => by omega⟩
  | succ k ih =>
    intro i fu M hi hf h1 h2 h3
    obtain ⟨fu, rfl, hf2⟩ := fuel_s hf
    show ∃ M', b_X10_initn_122 N (l_X10_initn_122 N fu) _ _ _ _ _ = _ ∧ _
    obtain ⟨M', e1, e2, e3, e4, e5, e6⟩ := ih (i + 1) fu (sI M E i 3) (by omega) (by omega) h1 h2 h3
    refine ⟨M', ?_, e2, e3, fun a ha => by rw [e4 a ha, sI_oo ha], fun j hj => ?_, fun j q1 q2 => ?_⟩
    · unfold b_X10_initn_122 gR alen ast
      rw [if_pos h1, h2, Option.elim_some, if_pos (Or.inl (by rw [h3])), h3]
      dsimp only
      rw [if_neg (nI_ge (by omega) (by omega)), if_pos h1, Option.elim_some, if_pos ⟨by rw [h3], by rw [h3]; exact inA_nI (by omega) (by decide)⟩, nIc (by omega), nI_1]
      exact e1
    · rw [e5 j (by omega)]
      have : ¬ j = i := by omega
      simp [sI, up2, this]
    · by_cases hji : j = i
      · subst hji
        rw [e5 j (by omega)]
        simp [sI, up2]
      · exact e6 j (by omega) q2
/-- a world made at a, its cells from n on -/
def WN (M : Mm) (a n : Nat) (o : Option Nat) : Prop :=
  ((M.1 n = (1, 16) ∧ M.1 (n + 1) = (1, 25) ∧ M.1 (n + 2) = (5, 0) ∧ M.1 (n + 3) = (1, 6) ∧ M.1 (n + 4) = (10, 0)) ∧ (M.1 (n + 5) = (5, 0) ∧ M.1 (n + 6) = (1, 6) ∧ M.1 (n + 7) = (10, 0) ∧ M.1 (n + 8) = (1, 4) ∧ M.1 (n + 9) = (1, 48) ∧ M.1 (n + 10) = (1, 48))) ∧
  ((M.2.2.2.1 a 1 = some n ∧ M.2.2.2.1 a 3 = some (n + 1) ∧ M.2.2.2.1 a 7 = some (n + 2) ∧ M.2.2.2.1 a 8 = some (n + 5)) ∧ M.2.2.2.1 a 10 = some (n + 8) ∧ M.2.2.2.1 a 11 = some (n + 9) ∧ M.2.2.2.1 a 12 = some (n + 10) ∧ M.2.2.2.1 a 17 = o) ∧
  ((M.2.2.2.1 (n + 2) 3 = some (n + 3) ∧ M.2.2.2.1 (n + 2) 4 = some (n + 4)) ∧ M.2.2.2.1 (n + 5) 3 = some (n + 6) ∧ M.2.2.2.1 (n + 5) 4 = some (n + 7)) ∧
  ((M.2.1 a 0 = 3 ∧ M.2.1 a 2 = 0 ∧ M.2.1 a 4 = 3 ∧ M.2.1 a 5 = 1 ∧ M.2.1 a 6 = 0) ∧ M.2.1 a 9 = 0 ∧ M.2.1 a 13 = 0 ∧ M.2.1 a 14 = 0 ∧ M.2.1 a 15 = 0 ∧ M.2.1 a 16 = 0) ∧
  (∀ i, i < 16 → M.2.1 n i = 3) ∧ (M.2.1 (n + 2) 0 = 0 ∧ M.2.1 (n + 2) 1 = 0 ∧ M.2.1 (n + 2) 2 = 0) ∧ M.2.1 (n + 4) 0 = 0 ∧ M.2.1 (n + 7) 0 = 0 ∧ ∀ j, M.2.1 (n + 8) j = 0
/-- what a constructor at a leaves: the cells below it but a, the cells above -/
def LV (M M' : Mm) (a k : Nat) : Prop := nx M' = nx M + k ∧ (∀ q, q < nx M → q ≠ a → SQ M M' q) ∧ M'.1 a = M.1 a ∧ ∀ q, nx M + k ≤ q → M'.1 q = M.1 q
set_option maxHeartbeats 4000000 in
theorem z_w (x1 : Nat) (hN : 20 ≤ N) (hk : (M.1 a).1 = 14) (ha : a < nx M) : ∃ M', f_X10_init N a x1 M = some ((), M') ∧ LV M M' a 11 ∧ WN M' a (nx M) (some x1) := by
  obtain ⟨p1, p2, p3, ⟨p4, p5, p6⟩, ⟨p7, p8, p9, p10, p11⟩, ⟨p12, p13⟩, p14⟩ := wS1_f (M := M) ha
  obtain ⟨MA, a0, b1, b2, b3, ⟨b4, b5, b6⟩, ⟨b7, b8⟩, b9, b10, b11, b12⟩ := z_boat (N := N) (M := wS1 M a) (a := nx M + 2) (by rw [p6]) (by rw [p1]; omega)
  have haA : a < nx MA := by omega
  obtain ⟨r1, r2, r3, r4, r5, r6, r7, r8⟩ := wS3_f (M := MA) (v := nx M + 2) haA
  have e5 : nx MA = nx M + 5 := by omega
  obtain ⟨MB, c0, d1, d2, d3, ⟨d4, d5, d6⟩, ⟨d7, d8⟩, d9, d10, d11, d12⟩ := z_boat (N := N) (M := wS3 MA a (nx M + 2)) (a := nx M + 5) (by rw [← e5, r4]) (by rw [r1]; omega)
  have haB : a < nx MB := by omega
  have e8 : nx MB = nx M + 8 := by omega
  obtain ⟨s1, s2, s3, ⟨s4, s5, s6⟩, ⟨s7, s8, s9, s10, s11, s12⟩, s13, ⟨s14, s15, s16, s17, s18⟩, s19, s20⟩ := wS5_f (M := MB) (v := nx M + 5) (o := (some x1)) haB
  -- a through the steps
  have A1 : SQ (wS1 M a) MA a := b2 a (by rw [p1]; omega) (by omega)
  have A3 : SQ (wS3 MA a (nx M + 2)) MB a := d2 a (by rw [r1]; omega) (by omega)
  have ka : ((wS5 MB a (nx M + 5) (some x1)).1 a).1 = 14 := by rw [s3, A3.1, r3, A1.1, p3]; exact hk
  have na : ∀ j, j < 3 → SQ (wS1 M a) (wS5 MB a (nx M + 5) (some x1)) (nx M + j) ∨ j = 2 := fun j hj => by
    by_cases h2 : j = 2
    · exact Or.inr h2
    · exact Or.inl (SQ_tr (b2 _ (by omega) (by omega)) (SQ_tr (r2 _ (by omega) (by omega)) (SQ_tr (d2 _ (by omega) (by omega)) (s2 _ (by omega) (by omega)))))
  have n0 : SQ (wS1 M a) (wS5 MB a (nx M + 5) (some x1)) (nx M) := (na 0 (by decide)).resolve_right (by decide)
  have n1 : SQ (wS1 M a) (wS5 MB a (nx M + 5) (some x1)) (nx M + 1) := (na 1 (by decide)).resolve_right (by decide)
  have nA : ∀ q, q < nx MA → q ≠ a → q ≠ nx M + 5 → SQ MA (wS5 MB a (nx M + 5) (some x1)) q := fun q h1 h2 h3 => SQ_tr (r2 q h1 h2) (SQ_tr (d2 q (by omega) h3) (s2 q (by omega) h2))
  have nB : ∀ q, q < nx MB → q ≠ a → SQ MB (wS5 MB a (nx M + 5) (some x1)) q := s2
  have n2 := nA (nx M + 2) (by omega) (by omega) (by omega)
  have n3 := nA (nx M + 3) (by omega) (by omega) (by omega)
  have n4 := nA (nx M + 4) (by omega) (by omega) (by omega)
  have n5 := nB (nx M + 5) (by omega) (by omega)
  have n6 := nB (nx M + 6) (by omega) (by omega)
  have n7 := nB (nx M + 7) (by omega) (by omega)
  have rf : ∀ k, k < 7 → (wS5 MB a (nx M + 5) (some x1)).2.2.2.1 a k = (wS1 M a).2.2.2.1 a k := fun k hk => by rw [s19 k (by omega), A3.2.2, r7 k (by omega), A1.2.2]
  have ri : ∀ k, k < 9 → (wS5 MB a (nx M + 5) (some x1)).2.1 a k = (wS1 M a).2.1 a k := fun k hk => by rw [s13 k hk, A3.2.1, r5, A1.2.1]
  obtain ⟨M', f0, f1, f2, f3, -, f5⟩ := z_ways_init (N := N) (A := a) (E := nx M) 16 0 N (wS5 MB a (nx M + 5) (some x1)) rfl (by omega) ka (by rw [rf 1 (by decide)]; exact p12) (by rw [n0.1]; exact p4)
  have hq0 : ∀ q, q ≠ nx M → SQ (wS5 MB a (nx M + 5) (some x1)) M' q := fun q hq => ⟨by rw [f1], f3 q hq, by rw [f2]⟩
  have hz : (MB.1 a).1 = 10 + 4 := by rw [A3.1, r3, A1.1, p3]; exact hk
  have gz0 : ¬ a = MB.2.2.2.2 := by have : a < MB.2.2.2.2 := haB; omega
  have gz1 : ¬ a = MB.2.2.2.2 + 1 := by have : a < MB.2.2.2.2 := haB; omega
  have gz2 : ¬ a = MB.2.2.2.2 + 1 + 1 := by have : a < MB.2.2.2.2 := haB; omega
  refine ⟨M', ?_, ⟨?_, fun q hq hqa => ?_, ?_, fun q hq => ?_⟩, ?_⟩
  · unfold f_X10_init
    rw [i_pI, i_nw, i_pR, i_pI, i_nw, i_pR, i_pI, i_pI, i_pI, i_nw]
    · show bnd (f_X1_init N (nx M + 2) (wS1 M a)) _ = _
      rw [a0, bnd_one, i_pR, i_nw]
      · show bnd (f_X1_init N (nx MA) (wS3 MA a (nx M + 2))) _ = _
        rw [e5, c0, bnd_one, i_pR, i_pZ, i_nw, i_pR, i_nw, i_pR, i_nw, i_pR, i_pI, i_pI, i_pI, i_pI, i_pR]
        · rw [← e5] at f0; exact f0
        all_goals (first | exact hz | (simp [nw, sI, sR, gz0, gz1, gz2, hz]))
      · show (MA.1 a).1 = _
        rw [A1.1, p3]; exact hk
    all_goals (first | exact hk | (have g1 : ¬ a = M.2.2.2.2 := by have : a < M.2.2.2.2 := ha; omega
                                   have g2 : ¬ a = M.2.2.2.2 + 1 := by have : a < M.2.2.2.2 := ha; omega
                                   simp [nw, sI, sR, g1, g2, hk]))
  · rw [show nx M' = nx (wS5 MB a (nx M + 5) (some x1)) from congrArg (fun z => z.2.2) f2, s1]; omega
  · exact SQ_tr (p2 q hq hqa) (SQ_tr (b2 q (by omega) (by omega)) (SQ_tr (nA q (by omega) hqa (by omega)) (hq0 q (by omega))))
  · rw [f1, s3, A3.1, r3, A1.1, p3]
  · rw [f1, s20 q (by omega), d12 q (by omega), r8 q (by omega), b12 q (by omega), p14 q (by omega)]
  · have q1 := hq0 (nx M + 1) (by omega)
    have q2 := hq0 (nx M + 2) (by omega)
    have q3 := hq0 (nx M + 3) (by omega)
    have q4 := hq0 (nx M + 4) (by omega)
    have q5 := hq0 (nx M + 5) (by omega)
    have q6 := hq0 (nx M + 6) (by omega)
    have q7 := hq0 (nx M + 7) (by omega)
    have q8 := hq0 (nx M + 8) (by omega)
    have q9 := hq0 (nx M + 9) (by omega)
    have q10 := hq0 (nx M + 10) (by omega)
    have qa := hq0 a (by omega)
    rw [e8] at s4 s5 s6 s7 s15 s16 s17
    rw [p1] at b7 b8 b9 b10 b11
    rw [r1, e5] at d7 d8 d9 d10 d11
    refine ⟨⟨⟨?_, ?_, ?_, ?_, ?_⟩, ?_, ?_, ?_, ?_, ?_, ?_⟩, ⟨⟨?_, ?_, ?_, ?_⟩, ?_, ?_, ?_, ?_⟩, ⟨⟨?_, ?_⟩, ?_, ?_⟩, ⟨⟨?_, ?_, ?_, ?_, ?_⟩, ?_, ?_, ?_, ?_, ?_⟩, ?_, ⟨?_, ?_, ?_⟩, ?_, ?_, ?_⟩
    · rw [f1, n0.1]; exact p4
    · rw [q1.1, n1.1]; exact p5
    · rw [q2.1, n2.1, b3]; exact p6
    · rw [q3.1, n3.1]; exact b9
    · rw [q4.1, n4.1]; exact b10
    · rw [q5.1, n5.1, d3, ← e5]; exact r4
    · rw [q6.1, n6.1]; exact d9
    · rw [q7.1, n7.1]; exact d10
    · rw [q8.1]; exact s4
    · rw [q9.1]; exact s5
    · rw [q10.1]; exact s6
    · rw [qa.2.2, rf 1 (by decide)]; exact p12
    · rw [qa.2.2, rf 3 (by decide)]; exact p13
    · rw [qa.2.2, s19 7 (by decide), A3.2.2]; exact r6
    · rw [qa.2.2]; exact s14
    · rw [qa.2.2]; exact s15
    · rw [qa.2.2]; exact s16
    · rw [qa.2.2]; exact s17
    · rw [qa.2.2]; exact s18
    · rw [q2.2.2, n2.2.2]; exact b7
    · rw [q2.2.2, n2.2.2]; exact b8
    · rw [q5.2.2, n5.2.2]; exact d7
    · rw [q5.2.2, n5.2.2]; exact d8
    · rw [qa.2.1, ri 0 (by decide)]; exact p7
    · rw [qa.2.1, ri 2 (by decide)]; exact p8
    · rw [qa.2.1, ri 4 (by decide)]; exact p9
    · rw [qa.2.1, ri 5 (by decide)]; exact p10
    · rw [qa.2.1, ri 6 (by decide)]; exact p11
    · rw [qa.2.1]; exact s8
    · rw [qa.2.1]; exact s9
    · rw [qa.2.1]; exact s10
    · rw [qa.2.1]; exact s11
    · rw [qa.2.1]; exact s12
    · exact fun i hi => f5 i (Nat.zero_le _) hi
    · rw [q2.2.1, n2.2.1]; exact b4
    · rw [q2.2.1, n2.2.1]; exact b5
    · rw [q2.2.1, n2.2.1]; exact b6
    · rw [q4.2.1, n4.2.1]; exact b11
    · rw [q7.2.1, n7.2.1]; exact d11
    · intro j; rw [q8.2.1]; exact s7 j
set_option maxHeartbeats 4000000 in
theorem z_wn (hN : 20 ≤ N) (hk : (M.1 a).1 = 14) (ha : a < nx M) : ∃ M', f_X10_initn N a M = some ((), M') ∧ LV M M' a 11 ∧ WN M' a (nx M) none := by
  obtain ⟨p1, p2, p3, ⟨p4, p5, p6⟩, ⟨p7, p8, p9, p10, p11⟩, ⟨p12, p13⟩, p14⟩ := wS1_f (M := M) ha
  obtain ⟨MA, a0, b1, b2, b3, ⟨b4, b5, b6⟩, ⟨b7, b8⟩, b9, b10, b11, b12⟩ := z_boat (N := N) (M := wS1 M a) (a := nx M + 2) (by rw [p6]) (by rw [p1]; omega)
  have haA : a < nx MA := by omega
  obtain ⟨r1, r2, r3, r4, r5, r6, r7, r8⟩ := wS3_f (M := MA) (v := nx M + 2) haA
  have e5 : nx MA = nx M + 5 := by omega
  obtain ⟨MB, c0, d1, d2, d3, ⟨d4, d5, d6⟩, ⟨d7, d8⟩, d9, d10, d11, d12⟩ := z_boat (N := N) (M := wS3 MA a (nx M + 2)) (a := nx M + 5) (by rw [← e5, r4]) (by rw [r1]; omega)
  have haB : a < nx MB := by omega
  have e8 : nx MB = nx M + 8 := by omega
  obtain ⟨s1, s2, s3, ⟨s4, s5, s6⟩, ⟨s7, s8, s9, s10, s11, s12⟩, s13, ⟨s14, s15, s16, s17, s18⟩, s19, s20⟩ := wS5_f (M := MB) (v := nx M + 5) (o := none) haB
  -- a through the steps
  have A1 : SQ (wS1 M a) MA a := b2 a (by rw [p1]; omega) (by omega)
  have A3 : SQ (wS3 MA a (nx M + 2)) MB a := d2 a (by rw [r1]; omega) (by omega)
  have ka : ((wS5 MB a (nx M + 5) none).1 a).1 = 14 := by rw [s3, A3.1, r3, A1.1, p3]; exact hk
  have na : ∀ j, j < 3 → SQ (wS1 M a) (wS5 MB a (nx M + 5) none) (nx M + j) ∨ j = 2 := fun j hj => by
    by_cases h2 : j = 2
    · exact Or.inr h2
    · exact Or.inl (SQ_tr (b2 _ (by omega) (by omega)) (SQ_tr (r2 _ (by omega) (by omega)) (SQ_tr (d2 _ (by omega) (by omega)) (s2 _ (by omega) (by omega)))))
  have n0 : SQ (wS1 M a) (wS5 MB a (nx M + 5) none) (nx M) := (na 0 (by decide)).resolve_right (by decide)
  have n1 : SQ (wS1 M a) (wS5 MB a (nx M + 5) none) (nx M + 1) := (na 1 (by decide)).resolve_right (by decide)
  have nA : ∀ q, q < nx MA → q ≠ a → q ≠ nx M + 5 → SQ MA (wS5 MB a (nx M + 5) none) q := fun q h1 h2 h3 => SQ_tr (r2 q h1 h2) (SQ_tr (d2 q (by omega) h3) (s2 q (by omega) h2))
  have nB : ∀ q, q < nx MB → q ≠ a → SQ MB (wS5 MB a (nx M + 5) none) q := s2
  have n2 := nA (nx M + 2) (by omega) (by omega) (by omega)
  have n3 := nA (nx M + 3) (by omega) (by omega) (by omega)
  have n4 := nA (nx M + 4) (by omega) (by omega) (by omega)
  have n5 := nB (nx M + 5) (by omega) (by omega)
  have n6 := nB (nx M + 6) (by omega) (by omega)
  have n7 := nB (nx M + 7) (by omega) (by omega)
  have rf : ∀ k, k < 7 → (wS5 MB a (nx M + 5) none).2.2.2.1 a k = (wS1 M a).2.2.2.1 a k := fun k hk => by rw [s19 k (by omega), A3.2.2, r7 k (by omega), A1.2.2]
  have ri : ∀ k, k < 9 → (wS5 MB a (nx M + 5) none).2.1 a k = (wS1 M a).2.1 a k := fun k hk => by rw [s13 k hk, A3.2.1, r5, A1.2.1]
  obtain ⟨M', f0, f1, f2, f3, -, f5⟩ := z_ways_initn (N := N) (A := a) (E := nx M) 16 0 N (wS5 MB a (nx M + 5) none) rfl (by omega) ka (by rw [rf 1 (by decide)]; exact p12) (by rw [n0.1]; exact p4)
  have hq0 : ∀ q, q ≠ nx M → SQ (wS5 MB a (nx M + 5) none) M' q := fun q hq => ⟨by rw [f1], f3 q hq, by rw [f2]⟩
  have hz : (MB.1 a).1 = 10 + 4 := by rw [A3.1, r3, A1.1, p3]; exact hk
  have gz0 : ¬ a = MB.2.2.2.2 := by have : a < MB.2.2.2.2 := haB; omega
  have gz1 : ¬ a = MB.2.2.2.2 + 1 := by have : a < MB.2.2.2.2 := haB; omega
  have gz2 : ¬ a = MB.2.2.2.2 + 1 + 1 := by have : a < MB.2.2.2.2 := haB; omega
  refine ⟨M', ?_, ⟨?_, fun q hq hqa => ?_, ?_, fun q hq => ?_⟩, ?_⟩
  · unfold f_X10_initn
    rw [i_pI, i_nw, i_pR, i_pI, i_nw, i_pR, i_pI, i_pI, i_pI, i_nw]
    · show bnd (f_X1_init N (nx M + 2) (wS1 M a)) _ = _
      rw [a0, bnd_one, i_pR, i_nw]
      · show bnd (f_X1_init N (nx MA) (wS3 MA a (nx M + 2))) _ = _
        rw [e5, c0, bnd_one, i_pR, i_pZ, i_nw, i_pR, i_nw, i_pR, i_nw, i_pR, i_pI, i_pI, i_pI, i_pI, i_pR]
        · rw [← e5] at f0; exact f0
        all_goals (first | exact hz | (simp [nw, sI, sR, gz0, gz1, gz2, hz]))
      · show (MA.1 a).1 = _
        rw [A1.1, p3]; exact hk
    all_goals (first | exact hk | (have g1 : ¬ a = M.2.2.2.2 := by have : a < M.2.2.2.2 := ha; omega
                                   have g2 : ¬ a = M.2.2.2.2 + 1 := by have : a < M.2.2.2.2 := ha; omega
                                   simp [nw, sI, sR, g1, g2, hk]))
  · rw [show nx M' = nx (wS5 MB a (nx M + 5) none) from congrArg (fun z => z.2.2) f2, s1]; omega
  · exact SQ_tr (p2 q hq hqa) (SQ_tr (b2 q (by omega) (by omega)) (SQ_tr (nA q (by omega) hqa (by omega)) (hq0 q (by omega))))
  · rw [f1, s3, A3.1, r3, A1.1, p3]
  · rw [f1, s20 q (by omega), d12 q (by omega), r8 q (by omega), b12 q (by omega), p14 q (by omega)]
  · have q1 := hq0 (nx M + 1) (by omega)
    have q2 := hq0 (nx M + 2) (by omega)
    have q3 := hq0 (nx M + 3) (by omega)
    have q4 := hq0 (nx M + 4) (by omega)
    have q5 := hq0 (nx M + 5) (by omega)
    have q6 := hq0 (nx M + 6) (by omega)
    have q7 := hq0 (nx M + 7) (by omega)
    have q8 := hq0 (nx M + 8) (by omega)
    have q9 := hq0 (nx M + 9) (by omega)
    have q10 := hq0 (nx M + 10) (by omega)
    have qa := hq0 a (by omega)
    rw [e8] at s4 s5 s6 s7 s15 s16 s17
    rw [p1] at b7 b8 b9 b10 b11
    rw [r1, e5] at d7 d8 d9 d10 d11
    refine ⟨⟨⟨?_, ?_, ?_, ?_, ?_⟩, ?_, ?_, ?_, ?_, ?_, ?_⟩, ⟨⟨?_, ?_, ?_, ?_⟩, ?_, ?_, ?_, ?_⟩, ⟨⟨?_, ?_⟩, ?_, ?_⟩, ⟨⟨?_, ?_, ?_, ?_, ?_⟩, ?_, ?_, ?_, ?_, ?_⟩, ?_, ⟨?_, ?_, ?_⟩, ?_, ?_, ?_⟩
    · rw [f1, n0.1]; exact p4
    · rw [q1.1, n1.1]; exact p5
    · rw [q2.1, n2.1, b3]; exact p6
    · rw [q3.1, n3.1]; exact b9
    · rw [q4.1, n4.1]; exact b10
    · rw [q5.1, n5.1, d3, ← e5]; exact r4
    · rw [q6.1, n6.1]; exact d9
    · rw [q7.1, n7.1]; exact d10
    · rw [q8.1]; exact s4
    · rw [q9.1]; exact s5
    · rw [q10.1]; exact s6
    · rw [qa.2.2, rf 1 (by decide)]; exact p12
    · rw [qa.2.2, rf 3 (by decide)]; exact p13
    · rw [qa.2.2, s19 7 (by decide), A3.2.2]; exact r6
    · rw [qa.2.2]; exact s14
    · rw [qa.2.2]; exact s15
    · rw [qa.2.2]; exact s16
    · rw [qa.2.2]; exact s17
    · rw [qa.2.2]; exact s18
    · rw [q2.2.2, n2.2.2]; exact b7
    · rw [q2.2.2, n2.2.2]; exact b8
    · rw [q5.2.2, n5.2.2]; exact d7
    · rw [q5.2.2, n5.2.2]; exact d8
    · rw [qa.2.1, ri 0 (by decide)]; exact p7
    · rw [qa.2.1, ri 2 (by decide)]; exact p8
    · rw [qa.2.1, ri 4 (by decide)]; exact p9
    · rw [qa.2.1, ri 5 (by decide)]; exact p10
    · rw [qa.2.1, ri 6 (by decide)]; exact p11
    · rw [qa.2.1]; exact s8
    · rw [qa.2.1]; exact s9
    · rw [qa.2.1]; exact s10
    · rw [qa.2.1]; exact s11
    · rw [qa.2.1]; exact s12
    · exact fun i hi => f5 i (Nat.zero_le _) hi
    · rw [q2.2.1, n2.2.1]; exact b4
    · rw [q2.2.1, n2.2.1]; exact b5
    · rw [q2.2.1, n2.2.1]; exact b6
    · rw [q4.2.1, n4.2.1]; exact b11
    · rw [q7.2.1, n7.2.1]; exact d11
    · intro j; rw [q8.2.1]; exact s7 j
end CTOR
