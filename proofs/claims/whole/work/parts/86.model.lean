/-! The model made. -/
section CTOR4
variable {M : Mm} {N a b o : Nat}
def ms (M : Mm) (o len fld : Nat) : Mm := sR (nw M 1 len) o fld (some (nx M))
theorem i_ms {ρ : Type} {len fld : Nat} {κ : Mm → Option ρ} (h : (M.1 o).1 = 12 + 4) (ho : o < nx M) : nwo 1 len M (fun a M' => pR 12 M' o fld (some a) κ) = κ (ms M o len fld) := by
  rw [i_nw]
  exact i_pR (by rw [((nw_f (M := M) (t := 1) (k := len)).2.1 o ho).1]; exact h)
theorem ms_f {len fld : Nat} (ho : o < nx M) : nx (ms M o len fld) = nx M + 1 ∧ (∀ q, q < nx M → q ≠ o → SQ M (ms M o len fld) q) ∧ (ms M o len fld).1 o = M.1 o ∧ (ms M o len fld).2.1 o = M.2.1 o ∧ (ms M o len fld).2.2.2.1 o fld = some (nx M) ∧ (∀ k, k ≠ fld → (ms M o len fld).2.2.2.1 o k = M.2.2.2.1 o k) ∧ (ms M o len fld).1 (nx M) = (1, len) ∧ (∀ j, (ms M o len fld).2.1 (nx M) j = 0) ∧ ∀ q, nx M + 1 ≤ q → (ms M o len fld).1 q = M.1 q := by
  obtain ⟨u1, u2, u3, u4⟩ := nw_f (M := M) (t := 1) (k := len)
  refine ⟨u1, fun q h1 h2 => SQ_tr (u2 q h1) (sR_f h2), (u2 o ho).1, (u2 o ho).2.1, by simp [ms, sR, up2], fun k hk => ?_, u3, fun j => ?_, u4⟩
  · have : (ms M o len fld).2.2.2.1 o k = (nw M 1 len).2.2.2.1 o k := by simp [ms, sR, up2, hk]
    rw [this, (u2 o ho).2.2]
  · show (nw M 1 len).2.1 (nx M) j = 0
    simp [nw, upR]
/-- the model's cells p .. made so far -/
def MS (M : Mm) (b p : Nat) : Prop := nx M = b + 104 + p ∧ (M.1 (b + 104)).1 = 16 ∧ (∀ j, M.2.1 (b + 104) j = 0) ∧ (∀ i, 1 ≤ i → i < p → M.1 (mc b i) = (1, lM i) ∧ ∀ j, M.2.1 (mc b i) j = 0) ∧ ∀ q ∈ refsM, q.2 < p → M.2.2.2.1 (b + 104) q.1 = some (mc b q.2)
theorem MS_step {p : Nat} {fld : Nat} (hp : 1 ≤ p) (hf : (fld, p) ∈ refsM) (hu : ∀ q ∈ refsM, q.2 ≠ p → q.1 ≠ fld) (hu2 : ∀ q ∈ refsM, q.2 = p → q.1 = fld) (h : MS M b p) : MS (ms M (b + 104) (lM p) fld) b (p + 1) ∧ (∀ q, q < b + 104 → SQ M (ms M (b + 104) (lM p) fld) q) ∧ ∀ q, b + 104 + (p + 1) ≤ q → (ms M (b + 104) (lM p) fld).1 q = M.1 q := by
  obtain ⟨h1, h2, h3, h4, h5⟩ := h
  obtain ⟨f1, f2, f3, f4, f5, f6, f7, f8, f9⟩ := ms_f (M := M) (o := b + 104) (len := lM p) (fld := fld) (by omega)
  rw [h1] at f1 f2 f5 f7 f8 f9
  refine ⟨⟨by omega, by rw [f3]; exact h2, fun j => by rw [f4]; exact h3 j, fun i h i2 => ?_, fun q hq hq2 => ?_⟩, fun q hq => f2 q (by omega) (by omega), fun q hq => f9 q (by omega)⟩
  · by_cases hip : i = p
    · subst hip
      exact ⟨f7, f8⟩
    · have := f2 (mc b i) (by unfold mc; omega) (by unfold mc; omega)
      obtain ⟨g1, g2⟩ := h4 i h (by omega)
      exact ⟨by rw [this.1]; exact g1, fun j => by rw [this.2.1]; exact g2 j⟩
  · by_cases hqp : q.2 = p
    · rw [hu2 q hq hqp, hqp]; exact f5
    · rw [f6 _ (hu q hq hqp)]; exact h5 q hq (by omega)
variable {M2 : Mm}
theorem z_in {K : Nat → Int32 → Nat → Nat → Mm → Option (Unit × Mm)} {gc gs i : Nat} (hl : MLAY b M2) (hi : i < 4) : ∀ (k j fu : Nat) (r : Nat → Nat → Int32), j + k = 4 → k + 1 ≤ fu → ∃ r', l_X12_init_126 N K fu (mc b 0) (nI i) (nI j) gc gs (MW b M2 r) = K (mc b 0) (nI i + 1) gc gs (MW b M2 r') ∧ (∀ p, p ≠ 1 → r' p = r p) ∧ (∀ m, (m < 9 + 4 * i + j ∨ 9 + 4 * i + 4 ≤ m) → r' 1 m = r 1 m) ∧ ∀ m, 9 + 4 * i + j ≤ m → m < 9 + 4 * i + 4 → r' 1 m = 3 := by
  intro k
  induction k with
  | zero =>
    intro j fu r hj hf
    obtain ⟨fu, rfl, -⟩ := fuel_s hf
    show ∃ r', b_X12_init_126 N K (l_X12_init_126 N K fu) _ _ _ _ _ _ = _ ∧ _
    unfold b_X12_init_126
    rw [if_pos (show (4 : Int32) ≤ nI j from nI_le (a := 4) (by omega) (by omega))]
    exact ⟨r, rfl, fun _ _ => rfl, fun _ _ => rfl, fun m q1 q2 => by omega⟩
  | succ k ih =>
    intro j fu r hj hf
    obtain ⟨fu, rfl, hf2⟩ := fuel_s hf
    show ∃ r', b_X12_init_126 N K (l_X12_init_126 N K fu) _ _ _ _ _ _ = _ ∧ _
    obtain ⟨r', e1, e2, e3, e4⟩ := ih (j + 1) fu (up2 r 1 (9 + 4 * i + j) 3) (by omega) (by omega)
    refine ⟨r', ?_, fun p hp => by rw [e2 p hp]; funext m; simp [up2, hp], fun m hm => ?_, fun m q1 q2 => ?_⟩
    · unfold b_X12_init_126
      rw [if_neg (show ¬ (4 : Int32) ≤ nI j from nI_ge (b := 4) (by omega) (by decide)), n_gR hl (p := 1) (by decide), iW, n_ast hl (by decide) (by decide) (show 9 + 4 * i + j < 174 by omega), nI_1]
      exact e1
    · rw [e3 m (by omega)]
      have : ¬ m = 9 + 4 * i + j := by omega
      simp [up2, this]
    · by_cases hm : m = 9 + 4 * i + j
      · subst hm
        rw [e3 _ (by omega)]
        simp [up2]
      · exact e4 m (by omega) q2
theorem z_out (hl : MLAY b M2) (hN : 20 ≤ N) : ∀ (k i fu : Nat) (r : Nat → Nat → Int32), i + k = 4 → k + 1 ≤ fu → ∃ r', l_X12_init_119 N fu (mc b 0) (nI i) 11 1541 (MW b M2 r) = some ((), MW b M2 r') ∧ (∀ p, p ≠ 1 → r' p = r p) ∧ (∀ m, (m < 9 + 4 * i ∨ (25 ≤ m ∧ m < 50) ∨ 56 ≤ m) → r' 1 m = r 1 m) ∧ (∀ m, 9 + 4 * i ≤ m → m < 25 → r' 1 m = 3) ∧ r' 1 50 = 0 ∧ r' 1 51 = -4 ∧ r' 1 52 = 0 ∧ r' 1 53 = 0 ∧ r' 1 54 = 0 ∧ r' 1 55 = 0 := by
  intro k
  induction k with
  | zero =>
    intro i fu r hi hf
    obtain ⟨fu, rfl, -⟩ := fuel_s hf
    obtain rfl : i = 4 := by omega
    show ∃ r', b_X12_init_119 N (l_X12_init_119 N fu) _ _ _ _ _ = _ ∧ _
    unfold b_X12_init_119 rq
    rw [if_pos (show (4 : Int32) ≤ nI 4 by decide), n_gR hl (p := 1) (by decide), if_pos (by decide), show (0 : Int32) = nI 0 from rfl, n_puts hl (p := 1) (x := 0) (by decide) (by decide) (by decide), bnd_one, if_pos (by decide)]
    refine ⟨_, rfl, fun p hp => by funext m; simp [upR, hp], fun m hm => ?_, fun m q1 q2 => by omega, ?_, ?_, ?_, ?_, ?_, ?_⟩
    · have m0 : ¬ m = 50 := by omega
      have m1 : ¬ m = 51 := by omega
      have m2 : ¬ m = 52 := by omega
      have m3 : ¬ m = 53 := by omega
      have m4 : ¬ m = 54 := by omega
      have m5 : ¬ m = 55 := by omega
      simp [upR, upN, m0, m1, m2, m3, m4, m5]
    all_goals (simp [upR, upN]; try rfl)
  | succ k ih =>
    intro i fu r hi hf
    obtain ⟨fu, rfl, hf2⟩ := fuel_s hf
    show ∃ r', b_X12_init_119 N (l_X12_init_119 N fu) _ _ _ _ _ = _ ∧ _
    unfold b_X12_init_119
    rw [if_neg (show ¬ (4 : Int32) ≤ nI i from nI_ge (b := 4) (by omega) (by decide))]
    obtain ⟨r1, d1, d2, d3, d4⟩ := z_in (N := N) (K := l_X12_init_119 N fu) (gc := 11) (gs := 1541) hl (show i < 4 by omega) 4 0 N r rfl (by omega)
    obtain ⟨r', e1, e2, e3, e4, e5⟩ := ih (i + 1) fu r1 (by omega) (by omega)
    refine ⟨r', ?_, fun p hp => by rw [e2 p hp, d2 p hp], fun m hm => ?_, fun m q1 q2 => ?_, e5⟩
    · show l_X12_init_126 N (l_X12_init_119 N fu) N (mc b 0) (nI i) (nI 0) 11 1541 (MW b M2 r) = _
      rw [d1, nI_1]
      exact e1
    · rw [e3 m (by omega), d3 m (by omega)]
    · by_cases hm : m < 9 + 4 * (i + 1)
      · rw [e3 m (by omega), d4 m (by omega) (by omega)]
      · exact e4 m (by omega) q2
end CTOR4
