/-! The start. -/
def S00 : SP := (fun i => if i = 0 then 3 else if i = 2 then 3 else if i = 4 then 1 else 0, fun i => if i = 0 then 1 else 0, fun _ => 3, fun _ _ => 0, fun _ => (0, 0, []), fun _ => [], fun _ => (0, 0))
theorem WF_S00 : WF S00 := by
  refine ⟨⟨by decide, by decide, by decide, by decide, by decide, fun t ht => ?_, fun i _ => (show 1 ≤ 3 ∧ 3 ≤ 9 by decide)⟩, fun x _ => ⟨(show 0 < 3 by decide), (show 0 ≤ 9 by decide), (show 0 ≤ 3 by decide), fun t ht => ?_, fun _ t ht => ?_, (show 0 < 7 by decide), (show 0 < 10 by decide)⟩, fun l => ⟨by show 0 ≤ 12; omega, fun _ => rfl, fun p hp => ?_, List.Pairwise.nil⟩⟩
  · exact absurd ht (Nat.not_lt_zero _)
  · exact absurd ht List.not_mem_nil
  · exact absurd ht List.not_mem_nil
  · exact absurd hp List.not_mem_nil
theorem INV_S00 : INV S00 none := ⟨⟨by decide, 0, 0, rfl, by decide, rfl, by decide⟩, fun P hP => by cases hP⟩
section START
variable {M : Mm} {N b : Nat}
theorem z_model (hN : 20 ≤ N) (hk : (M.1 (b + 104)).1 = 16) (hx : nx M = b + 105) (h0 : ∀ j, M.2.1 (b + 104) j = 0) : ∃ M', f_X12_init N (mc b 0) M = some ((), M') ∧ nx M' = b + 116 ∧ MLAY b M' ∧ KRel K0 S00 (gM b M' 1) ∧ (∀ j, gM b M' 0 j = 0) ∧ (∀ j, gM b M' 5 j = 0) ∧ (∀ q, q < b + 104 → SQ M M' q) ∧ ∀ q, b + 116 ≤ q → M'.1 q = M.1 q := by
  have A0 : MS M b 1 := ⟨by omega, hk, h0, fun i h1 h2 => by omega, fun q hq h2 => by
    have : ∀ q ∈ refsM, ¬ q.2 < 1 := by decide
    exact absurd h2 (this q hq)⟩
  obtain ⟨M_1, hM1⟩ : ∃ Z, Z = ms M (mc b 0) 174 0 := ⟨_, rfl⟩
  obtain ⟨A1, B1, C1⟩ : MS M_1 b 2 ∧ (∀ q, q < b + 104 → SQ M M_1 q) ∧ ∀ q, b + 104 + 2 ≤ q → M_1.1 q = M.1 q := by rw [hM1]; exact MS_step (p := 1) (fld := 0) (by decide) (by decide) (by decide) (by decide) A0
  obtain ⟨M_2, hM2⟩ : ∃ Z, Z = ms M_1 (mc b 0) 174 1 := ⟨_, rfl⟩
  obtain ⟨A2, B2, C2⟩ : MS M_2 b 3 ∧ (∀ q, q < b + 104 → SQ M_1 M_2 q) ∧ ∀ q, b + 104 + 3 ≤ q → M_2.1 q = M_1.1 q := by rw [hM2]; exact MS_step (p := 2) (fld := 1) (by decide) (by decide) (by decide) (by decide) A1
  obtain ⟨M_3, hM3⟩ : ∃ Z, Z = ms M_2 (mc b 0) 174 2 := ⟨_, rfl⟩
  obtain ⟨A3, B3, C3⟩ : MS M_3 b 4 ∧ (∀ q, q < b + 104 → SQ M_2 M_3 q) ∧ ∀ q, b + 104 + 4 ≤ q → M_3.1 q = M_2.1 q := by rw [hM3]; exact MS_step (p := 3) (fld := 2) (by decide) (by decide) (by decide) (by decide) A2
  obtain ⟨M_4, hM4⟩ : ∃ Z, Z = ms M_3 (mc b 0) 174 3 := ⟨_, rfl⟩
  obtain ⟨A4, B4, C4⟩ : MS M_4 b 5 ∧ (∀ q, q < b + 104 → SQ M_3 M_4 q) ∧ ∀ q, b + 104 + 5 ≤ q → M_4.1 q = M_3.1 q := by rw [hM4]; exact MS_step (p := 4) (fld := 3) (by decide) (by decide) (by decide) (by decide) A3
  obtain ⟨M_5, hM5⟩ : ∃ Z, Z = ms M_4 (mc b 0) 8 4 := ⟨_, rfl⟩
  obtain ⟨A5, B5, C5⟩ : MS M_5 b 6 ∧ (∀ q, q < b + 104 → SQ M_4 M_5 q) ∧ ∀ q, b + 104 + 6 ≤ q → M_5.1 q = M_4.1 q := by rw [hM5]; exact MS_step (p := 5) (fld := 4) (by decide) (by decide) (by decide) (by decide) A4
  obtain ⟨M_6, hM6⟩ : ∃ Z, Z = ms M_5 (mc b 0) 8 5 := ⟨_, rfl⟩
  obtain ⟨A6, B6, C6⟩ : MS M_6 b 7 ∧ (∀ q, q < b + 104 → SQ M_5 M_6 q) ∧ ∀ q, b + 104 + 7 ≤ q → M_6.1 q = M_5.1 q := by rw [hM6]; exact MS_step (p := 6) (fld := 5) (by decide) (by decide) (by decide) (by decide) A5
  obtain ⟨M_7, hM7⟩ : ∃ Z, Z = ms M_6 (mc b 0) 8 6 := ⟨_, rfl⟩
  obtain ⟨A7, B7, C7⟩ : MS M_7 b 8 ∧ (∀ q, q < b + 104 → SQ M_6 M_7 q) ∧ ∀ q, b + 104 + 8 ≤ q → M_7.1 q = M_6.1 q := by rw [hM7]; exact MS_step (p := 7) (fld := 6) (by decide) (by decide) (by decide) (by decide) A6
  obtain ⟨M_8, hM8⟩ : ∃ Z, Z = ms M_7 (mc b 0) 800 7 := ⟨_, rfl⟩
  obtain ⟨A8, B8, C8⟩ : MS M_8 b 9 ∧ (∀ q, q < b + 104 → SQ M_7 M_8 q) ∧ ∀ q, b + 104 + 9 ≤ q → M_8.1 q = M_7.1 q := by rw [hM8]; exact MS_step (p := 8) (fld := 7) (by decide) (by decide) (by decide) (by decide) A7
  obtain ⟨M_9, hM9⟩ : ∃ Z, Z = ms M_8 (mc b 0) 8 8 := ⟨_, rfl⟩
  obtain ⟨A9, B9, C9⟩ : MS M_9 b 10 ∧ (∀ q, q < b + 104 → SQ M_8 M_9 q) ∧ ∀ q, b + 104 + 10 ≤ q → M_9.1 q = M_8.1 q := by rw [hM9]; exact MS_step (p := 9) (fld := 8) (by decide) (by decide) (by decide) (by decide) A8
  obtain ⟨M_10, hM10⟩ : ∃ Z, Z = ms M_9 (mc b 0) 8 9 := ⟨_, rfl⟩
  obtain ⟨A10, B10, C10⟩ : MS M_10 b 11 ∧ (∀ q, q < b + 104 → SQ M_9 M_10 q) ∧ ∀ q, b + 104 + 11 ≤ q → M_10.1 q = M_9.1 q := by rw [hM10]; exact MS_step (p := 10) (fld := 9) (by decide) (by decide) (by decide) (by decide) A9
  obtain ⟨M_11, hM11⟩ : ∃ Z, Z = ms M_10 (mc b 0) 5 16 := ⟨_, rfl⟩
  obtain ⟨A11, B11, C11⟩ : MS M_11 b 12 ∧ (∀ q, q < b + 104 → SQ M_10 M_11 q) ∧ ∀ q, b + 104 + 12 ≤ q → M_11.1 q = M_10.1 q := by rw [hM11]; exact MS_step (p := 11) (fld := 16) (by decide) (by decide) (by decide) (by decide) A10
  have hl : MLAY b M_11 := ⟨A11.2.1, fun p h1 hp => (A11.2.2.2.1 p h1 hp).1, fun q hq => A11.2.2.2.2 q hq (by
    have : ∀ q ∈ refsM, q.2 < 12 := by decide
    exact this q hq)⟩
  have hown : M_11 = MW b M_11 (gM b M_11) := MW_get.symm
  have g0 : ∀ p, p < 12 → ∀ j, gM b M_11 p j = 0 := fun p hp j => by
    rcases Nat.eq_zero_or_pos p with rfl | h
    · exact A11.2.2.1 j
    · exact (A11.2.2.2.1 p h hp).2 j
  obtain ⟨r', e1, e2, e3, e4, e5⟩ := z_out (N := N) (b := b) hl hN 4 0 N (up2 (up2 (up2 (gM b M_11) 1 0 3) 1 2 3) 1 4 1) rfl (by omega)
  refine ⟨MW b M_11 r', ?_, A11.1, hl, ?_, fun j => ?_, fun j => ?_, fun q hq => ?_, fun q hq => ?_⟩
  · generalize hR : (some ((), MW b M_11 r') : Option (Unit × Mm)) = R
    unfold f_X12_init
    rw [i_ms (o := mc b 0) (M := M) A0.2.1 (by have := A0.1; show b + 104 < _; omega), ← hM1]
    rw [i_ms (o := mc b 0) (M := M_1) A1.2.1 (by have := A1.1; show b + 104 < _; omega), ← hM2]
    rw [i_ms (o := mc b 0) (M := M_2) A2.2.1 (by have := A2.1; show b + 104 < _; omega), ← hM3]
    rw [i_ms (o := mc b 0) (M := M_3) A3.2.1 (by have := A3.1; show b + 104 < _; omega), ← hM4]
    rw [i_ms (o := mc b 0) (M := M_4) A4.2.1 (by have := A4.1; show b + 104 < _; omega), ← hM5]
    rw [i_ms (o := mc b 0) (M := M_5) A5.2.1 (by have := A5.1; show b + 104 < _; omega), ← hM6]
    rw [i_ms (o := mc b 0) (M := M_6) A6.2.1 (by have := A6.1; show b + 104 < _; omega), ← hM7]
    rw [i_ms (o := mc b 0) (M := M_7) A7.2.1 (by have := A7.1; show b + 104 < _; omega), ← hM8]
    rw [i_ms (o := mc b 0) (M := M_8) A8.2.1 (by have := A8.1; show b + 104 < _; omega), ← hM9]
    rw [i_ms (o := mc b 0) (M := M_9) A9.2.1 (by have := A9.1; show b + 104 < _; omega), ← hM10]
    rw [i_ms (o := mc b 0) (M := M_10) A10.2.1 (by have := A10.1; show b + 104 < _; omega), ← hM11]
    rw [hown, n_gR hl (p := 1) (by decide), show (0 : Int32) = nI 0 from rfl, n_ast hl (by decide) (by decide) (show 0 < 174 by decide), n_gR hl (p := 1) (by decide), show (2 : Int32) = nI 2 from rfl, n_ast hl (by decide) (by decide) (show 2 < 174 by decide), n_gR hl (p := 1) (by decide), show (4 : Int32) = nI 4 from rfl, n_ast hl (by decide) (by decide) (show 4 < 174 by decide)]
    rw [← hR]
    exact e1
  · rw [gM_MW (by decide)]
    have z : ∀ m, m ≠ 0 → m ≠ 2 → m ≠ 4 → (m < 9 ∨ (25 ≤ m ∧ m < 50) ∨ 56 ≤ m) → r' 1 m = 0 := fun m h1 h2 h3 h4 => by
      rw [e3 m (by omega)]
      simp only [up2, h1, h2, h3, if_true, if_false]
      exact g0 1 (by decide) m
    refine ⟨⟨?_, z 1 (by decide) (by decide) (by decide) (by decide), ?_, z 3 (by decide) (by decide) (by decide) (by decide)⟩, ⟨?_, z 5 (by decide) (by decide) (by decide) (by decide), z 6 (by decide) (by decide) (by decide) (by decide), z 7 (by decide) (by decide) (by decide) (by decide), z 8 (by decide) (by decide) (by decide) (by decide)⟩, fun i hi => e4 (9 + i) (by omega) (by omega), fun t k ht => absurd ht (Nat.not_lt_zero _), fun x hx => ?_, fun l hl4 => ⟨z (74 + 25 * l) (by omega) (by omega) (by omega) (by omega), fun j p hp => by cases hp⟩⟩
    · rw [e3 0 (by omega)]; simp [up2]; rfl
    · rw [e3 2 (by omega)]; simp [up2]; rfl
    · rw [e3 4 (by omega)]; simp [up2]; rfl
    · obtain rfl : x = 0 := by have : x < 1 := hx; omega
      exact ⟨e5.1, e5.2.1, e5.2.2.1, e5.2.2.2.1, e5.2.2.2.2.1, e5.2.2.2.2.2, fun j t ht => by cases ht⟩
  · rw [gM_MW (by decide), e2 0 (by decide)]
    simp only [up2]
    exact g0 0 (by decide) j
  · rw [gM_MW (by decide), e2 5 (by decide)]
    simp only [up2]
    exact g0 5 (by decide) j
  · refine SQ_tr (SQ_tr (SQ_tr (SQ_tr (SQ_tr (SQ_tr (SQ_tr (SQ_tr (SQ_tr (SQ_tr (SQ_tr (B1 q hq) (B2 q hq)) (B3 q hq)) (B4 q hq)) (B5 q hq)) (B6 q hq)) (B7 q hq)) (B8 q hq)) (B9 q hq)) (B10 q hq)) (B11 q hq)) ⟨rfl, (MC_MW (b := b) (M := M_11) (r := r')).2.2 q (Or.inl hq), rfl⟩
  · show M_11.1 q = _
    rw [C11 q (by omega), C10 q (by omega), C9 q (by omega), C8 q (by omega), C7 q (by omega), C6 q (by omega), C5 q (by omega), C4 q (by omega), C3 q (by omega), C2 q (by omega), C1 q (by omega)]
end START
