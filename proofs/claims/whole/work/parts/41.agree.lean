/-! Both sides of a call; shelves and rules. -/
def CNT (S : SP) : Prop := sn S 3 ≤ 999 ∧ ∃ w e : Nat, sc S 1 = nI w ∧ w ≤ 48 * sn S 3 ∧ sc S 3 = nI e ∧ e ≤ 1000 * sn S 3
def INV (S : SP) (pic : Option SP) : Prop := CNT S ∧ ∀ P, pic = some P → CNT P
def AGREE {α : Type} (b : Nat) (M M2 : Mm) (x y : Option (α × Mm)) : Prop := ∃ (v : α) (S' : SP) (pic' : Option SP) (sh' : Nat → SV) (M' : Mm) (r' : Nat → Nat → Int32), x = some (v, M') ∧ y = some (v, MW b M2 r') ∧ CLS b S' pic' sh' M' ∧ FR b M M' ∧ MDR S' pic' sh' r' ∧ INV S' pic'
section AGREES
variable {b : Nat} {M M2 : Mm} {S : SP} {pic : Option SP} {sh : Nat → SV} {r : Nat → Nat → Int32} {w N : Nat} {q : WR} {ρ : Type}
theorem AGREE_same {α : Type} {x y : Option (α × Mm)} (hc : CLS b S pic sh M) (hm : MDR S pic sh r) (hi : INV S pic) (v : α) (h1 : x = some (v, M)) (h2 : y = some (v, MW b M2 r)) : AGREE b M M2 x y := ⟨v, S, pic, sh, M, r, h1, h2, hc, FR_refl b M, hm, hi⟩
-- the class' own object
theorem SW_bq (hw : w < 7) {k : Nat} : (SW b M w q).2.2.2.1 b k = M.2.2.2.1 b k := SW_qo (fun e => by
  rcases e.2 with e | e
  · have := wA_rng (b := b) hw (show 3 ∈ oks by decide); omega
  · have := wA_rng (b := b) hw (show 6 ∈ oks by decide); omega)
theorem c_real (h : CXL b M) (hw : w < 7) {κ : Nat → Option ρ} : gR 11 (SW b M w q) b 0 κ = κ (wA b 0 0) := by
  unfold gR
  rw [if_pos (show ((SW b M w q).1 b).1 = 15 from h.1), SW_bq hw, h.2.1.1]; rfl
theorem c_pic (h : CXL b M) (hw : w < 7) {κ : Nat → Option ρ} : gR 11 (SW b M w q) b 1 κ = κ (wA b 1 0) := by
  unfold gR
  rw [if_pos (show ((SW b M w q).1 b).1 = 15 from h.1), SW_bq hw, h.2.1.2.1]; rfl
theorem c_mind (h : CXL b M) (hw : w < 7) {κ : Nat → Option ρ} : gR 11 (SW b M w q) b 3 κ = κ (wA b 2 0) := by
  unfold gR
  rw [if_pos (show ((SW b M w q).1 b).1 = 15 from h.1), SW_bq hw, h.2.1.2.2.1]; rfl
theorem c_ck (h : CXL b M) {κ : Option ρ} : ck 11 (SW b M w q) b κ = κ := if_pos h.1
theorem d_ck (h : CXL b M) {κ : Option ρ} : ck 11 M b κ = κ := if_pos h.1
theorem d_shelves (h : CXL b M) {κ : Nat → Option ρ} : gR 11 M b 5 κ = κ (b + 87) := by
  unfold gR
  rw [if_pos h.1, h.2.1.2.2.2.2]; rfl
theorem c_shelfAt (h : CXL b M) {d : Nat} (hd : d < 8) : f_X11_shelfAt N b (nI d) M = some (some (b + 88 + 2 * d), M) := by
  unfold f_X11_shelfAt
  rw [if_neg (nI_neg (by omega)), d_shelves h]
  have h3 := h.2.2.1.2.2
  have e1 : ∀ {κ : Int32 → Option (Option Nat × Mm)}, alen M (b + 87) κ = κ (nI 8) := fun {κ} => by simp [alen, h3]
  rw [e1, if_neg (nI_ge hd (by decide)), d_shelves h]
  unfold alq
  rw [if_pos ⟨by rw [h3], by rw [h3]; exact inA_nI hd (by decide)⟩, nIc (by omega), (h.2.2.2 d hd).1]
  rfl
theorem c_shelfNo (h : CXL b M) {x : Int32} (hx : ¬ (0 ≤ x ∧ x ≤ 7)) : f_X11_shelfAt N b x M = some (none, M) := by
  unfold f_X11_shelfAt j_X11_shelfAt_22
  by_cases h0 : x < 0
  · rw [if_pos h0]
  · rw [if_neg h0, d_shelves h]
    have h3 := h.2.2.1.2.2
    have e1 : ∀ {κ : Int32 → Option (Option Nat × Mm)}, alen M (b + 87) κ = κ (nI 8) := fun {κ} => by simp [alen, h3]
    rw [e1, if_pos]
    have h7 : ¬ x ≤ 7 := fun q => hx ⟨Int32.not_lt.mp h0, q⟩
    obtain ⟨j, hj, rfl⟩ := nI_of h0
    have : ¬ j ≤ 7 := fun q => h7 (nI_le q (by decide))
    exact nI_le (by omega) hj
theorem sh_cases (x : Int32) : (∃ d, d < 8 ∧ x = nI d) ∨ ¬ (0 ≤ x ∧ x ≤ 7) := by
  by_cases h : 0 ≤ x ∧ x ≤ 7
  · obtain ⟨j, hj, rfl⟩ := nI_of2 (M := 7) (n := 7) rfl (Int32.not_lt.mpr h.1) h.2
    exact Or.inl ⟨j, by omega, rfl⟩
  · exact Or.inr h
theorem nI_in7 {d : Nat} (hd : d < 8) : 0 ≤ nI d ∧ nI d ≤ 7 := ⟨nI_pos' (by omega), nI_le (b := 7) (by omega) (by decide)⟩
theorem d_gI7 (h : CXL b M) {d k : Nat} (hd : d < 8) {κ : Int32 → Option ρ} : gI 7 M (b + 88 + 2 * d) k κ = κ (M.2.1 (b + 88 + 2 * d) k) := if_pos (h.2.2.2 d hd).2.1
theorem d_ck7 (h : CXL b M) {d : Nat} (hd : d < 8) {κ : Option ρ} : ck 7 M (b + 88 + 2 * d) κ = κ := if_pos (h.2.2.2 d hd).2.1
theorem c_hasRow (h : CXL b M) {d : Nat} (hd : d < 8) : f_X7_hasRow N (b + 88 + 2 * d) M = some (b32 (¬ M.2.1 (b + 88 + 2 * d) 1 = -2), M) := by
  unfold f_X7_hasRow b32
  rw [d_gI7 h hd]
  by_cases hc : M.2.1 (b + 88 + 2 * d) 1 = -2
  · rw [if_pos hc, if_neg (fun q => q hc)]
  · rw [if_neg hc, if_pos hc]
theorem sort_ne {v : Nat} (hv : v < 3) : ¬ nI v = -2 := by
  rcases (show v = 0 ∨ v = 1 ∨ v = 2 by omega) with rfl | rfl | rfl <;> decide
theorem c_isEmpty (h : CXL b M) {d : Nat} {v : SV} (hd : d < 8) (hs : SHc b M d v) : f_X7_isEmpty N (b + 88 + 2 * d) M = some (b32 (v.1 = 0), M) := by
  unfold f_X7_isEmpty gN
  rw [if_pos (h.2.2.2 d hd).2.1]
  rcases hs with ⟨h0, h1, h2⟩ | ⟨h0, ⟨q, h1, -⟩, h2⟩ | ⟨h0, h1, h2, -, h3, -⟩
  · rw [h1]
    show ck 7 M _ _ = _
    rw [d_ck7 h hd, c_hasRow h hd, bnd_one, h2]
    simp [b32, h0]
  · rw [h1]
    simp [b32, h0]
  · rw [h1]
    show ck 7 M _ _ = _
    rw [d_ck7 h hd, c_hasRow h hd, bnd_one, h2]
    simp [b32, h0, sort_ne h3]
/-- a rule, or why there is none -/
theorem rule_split (hc : CLS b S pic sh M) (hl : MLAY b M2) (hm : MDR S pic sh r) (x : Int32) :
    (∃ d q kd fg, d < 8 ∧ x = nI d ∧ isRl M q kd fg ∧ f_X11_ruleAt N b x M = some (some q, M) ∧ f_X12_wrongRule N (mc b 0) x (MW b M2 r) = some (0, MW b M2 r) ∧ r 9 d = nI kd ∧ r 10 d = nI fg) ∨
    (∃ c, c ≠ 0 ∧ (c = -1 ∨ c = -11 ∨ c = -12) ∧ f_X11_ruleAt N b x M = some (none, M) ∧ f_X11_refuseRule N b x M = some (c, M) ∧ f_X12_wrongRule N (mc b 0) x (MW b M2 r) = some (c, MW b M2 r)) := by
  obtain ⟨⟨-, hx, -⟩, -, -, -, hsh⟩ := hc
  rcases sh_cases x with ⟨d, hd, rfl⟩ | hno
  · have hs := hsh d hd
    have ht := hm.2.2.2.2 d hd
    have e5 : ∀ {κ : Int32 → Option (Int32 × Mm)}, ald (MW b M2 r) (mc b 5) (nI d) κ = κ (r 5 d) := fun {κ} => n_ald hl (by decide) (by decide) hd
    have hwr : f_X12_wrongRule N (mc b 0) (nI d) (MW b M2 r) = some (if r 5 d = 0 then -11 else if r 5 d = 1 then 0 else -12, MW b M2 r) := by
      unfold f_X12_wrongRule
      rw [m_isShelf, bnd_one, b32_if, if_pos (nI_in7 hd), n_gR hl (p := 5) (by decide), e5, n_gR hl (p := 5) (by decide), e5]
      by_cases h1 : r 5 d = 0
      · rw [if_pos h1, if_pos h1]
      · rw [if_neg h1, if_neg h1]
        by_cases h2 : r 5 d = 1
        · rw [if_pos h2, if_pos h2]
        · rw [if_neg h2, if_neg h2]
    have hra : f_X11_ruleAt N b (nI d) M = some (M.2.2.2.1 (b + 88 + 2 * d) 0, M) := by
      unfold f_X11_ruleAt
      rw [d_ck hx, c_shelfAt hx hd, bnd_one]
      show gN 7 M (b + 88 + 2 * d) 0 _ _ = _
      unfold gN
      rw [if_pos (hx.2.2.2 d hd).2.1]
      cases M.2.2.2.1 (b + 88 + 2 * d) 0 <;> rfl
    have hrf : f_X11_refuseRule N b (nI d) M = some (if (sh d).1 = 0 then -11 else -12, M) := by
      unfold f_X11_refuseRule
      rw [d_ck hx, c_shelfAt hx hd, bnd_one]
      show ck 7 M (b + 88 + 2 * d) _ = _
      rw [d_ck7 hx hd, c_isEmpty hx hd hs, bnd_one, b32_if]
      split <;> rfl
    rcases hs with ⟨h0, h1, h2⟩ | ⟨h0, ⟨q, h1, hq⟩, h2⟩ | ⟨h0, h1, h2, -⟩
    · refine Or.inr ⟨-11, by decide, Or.inr (Or.inl rfl), by rw [hra, h1], by rw [hrf, if_pos h0], ?_⟩
      rcases ht with ⟨-, t1⟩ | ⟨t0, -⟩ | ⟨t0, -⟩
      · rw [hwr, t1]; rfl
      · omega
      · omega
    · rcases ht with ⟨t0, -⟩ | ⟨-, t1, t2, t3, -⟩ | ⟨t0, -⟩
      · omega
      · exact Or.inl ⟨d, q, _, _, hd, rfl, hq, by rw [hra, h1], by rw [hwr, t1]; rfl, t2, t3⟩
      · omega
    · refine Or.inr ⟨-12, by decide, Or.inr (Or.inr rfl), by rw [hra, h1], by rw [hrf, if_neg (by omega)], ?_⟩
      rcases ht with ⟨t0, -⟩ | ⟨t0, -⟩ | ⟨-, t1, -⟩
      · omega
      · omega
      · rw [hwr, t1]; rfl
  · refine Or.inr ⟨-1, by decide, Or.inl rfl, ?_, ?_, ?_⟩
    · unfold f_X11_ruleAt
      rw [d_ck hx, c_shelfNo hx hno, bnd_one]; rfl
    · unfold f_X11_refuseRule
      rw [d_ck hx, c_shelfNo hx hno, bnd_one]; rfl
    · unfold f_X12_wrongRule
      rw [m_isShelf, bnd_one, b32_if, if_neg hno]
/-- a row, or why there is none; 'of' the sort asked for, 3 for any -/
theorem row_split (hc : CLS b S pic sh M) (hl : MLAY b M2) (hm : MDR S pic sh r) (x : Int32) (of : Nat) (hof : of < 4) :
    (∃ d, d < 8 ∧ x = nI d ∧ (sh d).1 = 2 ∧ (of = 3 ∨ (sh d).2.1 = of) ∧ f_X11_refuseRow N b x (if of = 3 then -1 else nI of) M = some (0, M) ∧ f_X11_shelfAt N b x M = some (some (b + 88 + 2 * d), M) ∧ f_X12_wrongRow N (mc b 0) x (if of = 3 then -1 else nI of) (MW b M2 r) = some (0, MW b M2 r)) ∨
    (∃ c o, c ≠ 0 ∧ f_X11_refuseRow N b x (if of = 3 then -1 else nI of) M = some (c, M) ∧ f_X11_shelfAt N b x M = some (o, M) ∧ f_X12_wrongRow N (mc b 0) x (if of = 3 then -1 else nI of) (MW b M2 r) = some (c, MW b M2 r)) := by
  obtain ⟨⟨-, hx, -⟩, -, -, -, hsh⟩ := hc
  rcases sh_cases x with ⟨d, hd, rfl⟩ | hno
  · have hs := hsh d hd
    have ht := hm.2.2.2.2 d hd
    have e5 : ∀ {κ : Int32 → Option (Int32 × Mm)}, ald (MW b M2 r) (mc b 5) (nI d) κ = κ (r 5 d) := fun {κ} => n_ald hl (by decide) (by decide) hd
    have e6 : ∀ {κ : Int32 → Option (Int32 × Mm)}, ald (MW b M2 r) (mc b 6) (nI d) κ = κ (r 6 d) := fun {κ} => n_ald hl (by decide) (by decide) hd
    have hA : ∀ {A B : Option (Int32 × Mm)}, (if (if of = 3 then (-1 : Int32) else nI of) < 0 then A else B) = (if of = 3 then A else B) := by
      intro A B
      by_cases h3 : of = 3
      · rw [if_pos h3, if_pos h3, if_pos (by decide)]
      · rw [if_neg h3, if_neg h3, if_neg (nI_neg (by omega))]
    have hB : ∀ {A B : Option (Int32 × Mm)}, (if (if of = 3 then (-1 : Int32) else nI of) = -1 then A else B) = (if of = 3 then A else B) := by
      intro A B
      by_cases h3 : of = 3
      · rw [if_pos h3, if_pos h3, if_pos rfl]
      · rw [if_neg h3, if_neg h3, if_neg]
        rcases (show of = 0 ∨ of = 1 ∨ of = 2 by omega) with rfl | rfl | rfl <;> decide
    rcases hs with ⟨h0, h1, h2⟩ | ⟨h0, ⟨q, h1, hq⟩, h2⟩ | ⟨h0, h1, h2, h4, h5, h6, h7⟩
    · refine Or.inr ⟨-11, _, by decide, ?_, c_shelfAt hx hd, ?_⟩
      · unfold f_X11_refuseRow
        rw [d_ck hx, c_shelfAt hx hd, bnd_one]
        show ck 7 M (b + 88 + 2 * d) _ = _
        rw [d_ck7 hx hd, c_isEmpty hx hd (hsh d hd), bnd_one, b32_if, if_pos h0]
      · rcases ht with ⟨-, t1⟩ | ⟨t0, -⟩ | ⟨t0, -⟩
        · unfold f_X12_wrongRow
          rw [m_isShelf, bnd_one, b32_if, if_pos (nI_in7 hd), n_gR hl (p := 5) (by decide), e5, t1, if_pos rfl]
        · omega
        · omega
    · refine Or.inr ⟨-12, _, by decide, ?_, c_shelfAt hx hd, ?_⟩
      · unfold f_X11_refuseRow
        rw [d_ck hx, c_shelfAt hx hd, bnd_one]
        show ck 7 M (b + 88 + 2 * d) _ = _
        rw [d_ck7 hx hd, c_isEmpty hx hd (hsh d hd), bnd_one, b32_if, if_neg (by omega), d_ck7 hx hd, c_hasRow hx hd, bnd_one, h2]
        rfl
      · rcases ht with ⟨t0, -⟩ | ⟨-, t1, -⟩ | ⟨t0, -⟩
        · omega
        · unfold f_X12_wrongRow j_X12_wrongRow_49
          rw [m_isShelf, bnd_one, b32_if, if_pos (nI_in7 hd), n_gR hl (p := 5) (by decide), e5, t1, if_neg (by decide), n_gR hl (p := 5) (by decide), e5, t1, if_neg (by decide)]
        · omega
    · rcases ht with ⟨t0, -⟩ | ⟨t0, -⟩ | ⟨-, t1, t2, -⟩
      · omega
      · omega
      · have hclass : f_X11_refuseRow N b (nI d) (if of = 3 then -1 else nI of) M = some (if of = 3 ∨ (sh d).2.1 = of then 0 else -12, M) := by
          unfold f_X11_refuseRow j_X11_refuseRow_42
          rw [d_ck hx, c_shelfAt hx hd, bnd_one]
          show ck 7 M (b + 88 + 2 * d) _ = _
          rw [d_ck7 hx hd, c_isEmpty hx hd (hsh d hd), bnd_one, b32_if, if_neg (by omega), d_ck7 hx hd, c_hasRow hx hd, bnd_one, b32_if, if_pos (by rw [h2]; exact sort_ne h5), hB, d_gI7 hx hd, h2]
          by_cases h3 : of = 3
          · rw [if_pos h3, if_pos (Or.inl h3)]
          · rw [if_neg h3, if_neg h3]
            by_cases h8 : (sh d).2.1 = of
            · rw [if_pos (by rw [h8]), if_pos (Or.inr h8)]
            · rw [if_neg (fun q => h8 ((nI_eq (by omega) (by omega)).mp q).symm), if_neg (fun q => q.elim h3 h8)]
        have hmodel : f_X12_wrongRow N (mc b 0) (nI d) (if of = 3 then -1 else nI of) (MW b M2 r) = some (if of = 3 ∨ (sh d).2.1 = of then 0 else -12, MW b M2 r) := by
          unfold f_X12_wrongRow j_X12_wrongRow_49
          rw [m_isShelf, bnd_one, b32_if, if_pos (nI_in7 hd), n_gR hl (p := 5) (by decide), e5, t1, if_neg (by decide), n_gR hl (p := 5) (by decide), e5, t1, if_pos rfl, hA, n_gR hl (p := 6) (by decide), e6, t2]
          by_cases h3 : of = 3
          · rw [if_pos h3, if_pos (Or.inl h3)]
          · rw [if_neg h3, if_neg h3]
            by_cases h8 : (sh d).2.1 = of
            · rw [if_pos (by rw [h8]), if_pos (Or.inr h8)]
            · rw [if_neg (fun q => h8 ((nI_eq (by omega) (by omega)).mp q)), if_neg (fun q => q.elim h3 h8)]
        by_cases hok : of = 3 ∨ (sh d).2.1 = of
        · rw [if_pos hok] at hclass hmodel
          exact Or.inl ⟨d, hd, rfl, h0, hok, hclass, c_shelfAt hx hd, hmodel⟩
        · rw [if_neg hok] at hclass hmodel
          exact Or.inr ⟨-12, _, by decide, hclass, c_shelfAt hx hd, hmodel⟩
  · refine Or.inr ⟨-1, none, by decide, ?_, c_shelfNo hx hno, ?_⟩
    · unfold f_X11_refuseRow
      rw [d_ck hx, c_shelfNo hx hno, bnd_one]; rfl
    · unfold f_X12_wrongRow
      rw [m_isShelf, bnd_one, b32_if, if_neg hno]
end AGREES
