/-! element and toss, both sides. -/
section TX
variable {b : Nat} {M M2 : Mm} {S : SP} {pic : Option SP} {sh : Nat → SV} {r : Nat → Nat → Int32} {N : Nat}
theorem MDR_11 (hm : MDR S pic sh r) (v : Int32) : MDR S pic sh (up2 r 0 11 v) := by
  have h0 : ∀ p, p ≠ 0 → up2 r 0 11 v p = r p := fun p hp => by funext j; simp [up2, hp]
  have hk : ∀ k, k ≠ 11 → up2 r 0 11 v 0 k = r 0 k := fun k hk => by simp [up2, hk]
  obtain ⟨a1, a2, a3, a4, a5⟩ := hm
  refine ⟨by rw [h0 1 (by decide)]; exact a1, fun P hP => by rw [h0 2 (by decide)]; exact a2 P hP, by rw [hk 10 (by decide)]; exact a3, by rw [hk 18 (by decide)]; exact a4, fun d hd => ?_⟩
  have hs := a5 d hd
  unfold SHm at hs ⊢
  rw [h0 5 (by decide), h0 6 (by decide), h0 7 (by decide), h0 8 (by decide), h0 9 (by decide), h0 10 (by decide)]
  exact hs
theorem sub1_in {y : Int32} {n : Nat} (hn : n ≤ 100) : (0 ≤ y ∧ y ≤ nI n - 1) ↔ (¬ y < 0 ∧ y < nI n) := by
  constructor
  · rintro ⟨h0, h1⟩
    refine ⟨Int32.not_lt.mpr h0, ?_⟩
    obtain ⟨j, hj, rfl⟩ := nI_of (Int32.not_lt.mpr h0)
    cases n with
    | zero =>
      have : (0 : Int32) ≤ nI 0 - 1 := Int32.le_trans h0 h1
      exact absurd this (by decide)
    | succ n =>
      have e : nI (n + 1) - 1 = nI n := by rw [← nI_1 (a := n)]; exact Int32.add_sub_cancel _ _
      rw [e] at h1
      exact nI_lt (by have := (nI_leI hj (by omega)).mp h1; omega) (by omega)
  · rintro ⟨h0, h1⟩
    refine ⟨Int32.not_lt.mp h0, ?_⟩
    obtain ⟨j, hj, rfl⟩ := nI_of h0
    have hjn := (nI_ltI hj (by omega)).mp h1
    cases n with
    | zero => omega
    | succ n =>
      have e : nI (n + 1) - 1 = nI n := by rw [← nI_1 (a := n)]; exact Int32.add_sub_cancel _ _
      rw [e]
      exact nI_le (by omega) (by omega)
theorem rule_splitA (hc : CLS b S pic sh M) (hm : MDR S pic sh r) (x : Int32) :
    (∃ d q kd fg, d < 8 ∧ x = nI d ∧ isRl M q kd fg ∧ f_X11_ruleAt N b x M = some (some q, M) ∧ (∀ M2, MLAY b M2 → f_X12_wrongRule N (mc b 0) x (MW b M2 r) = some (0, MW b M2 r)) ∧ r 9 d = nI kd ∧ r 10 d = nI fg) ∨
    (∃ c, c ≠ 0 ∧ (c = -1 ∨ c = -11 ∨ c = -12) ∧ f_X11_ruleAt N b x M = some (none, M) ∧ f_X11_refuseRule N b x M = some (c, M) ∧ ∀ M2, MLAY b M2 → f_X12_wrongRule N (mc b 0) x (MW b M2 r) = some (c, MW b M2 r)) := by
  obtain ⟨⟨-, hx, -⟩, -, -, -, hsh⟩ := hc
  rcases sh_cases x with ⟨d, hd, rfl⟩ | hno
  · have hs := hsh d hd
    have ht := hm.2.2.2.2 d hd
    have hwr : ∀ M2, MLAY b M2 → f_X12_wrongRule N (mc b 0) (nI d) (MW b M2 r) = some (if r 5 d = 0 then -11 else if r 5 d = 1 then 0 else -12, MW b M2 r) := by
      intro M2 hl
      have e5 : ∀ {κ : Int32 → Option (Int32 × Mm)}, ald (MW b M2 r) (mc b 5) (nI d) κ = κ (r 5 d) := fun {κ} => n_ald hl (by decide) (by decide) hd
      unfold f_X12_wrongRule
      rw [m_isShelf, bnd_one, b32_if, if_pos (nI_in7 hd), n_gR hl (p := 5) (by decide), e5, n_gR hl (p := 5) (by decide), e5]
      by_cases h1 : r 5 d = 0
      · rw [if_pos h1, if_pos h1]
      · rw [if_neg h1, if_neg h1]
        by_cases h2 : r 5 d = 1
        · rw [if_pos h2, if_pos h2]
        · rw [if_neg h2, if_neg h2]
    have hra : f_X11_ruleAt N b (nI d) M = some (M.2.2.2.1 (b + 88 + 2 * d) 0, M) := by
      unfold f_X11_ruleAt
      rw [d_ck hx, c_shelfAt hx hd, bnd_one]
      show gN 7 M (b + 88 + 2 * d) 0 _ _ = _
      unfold gN
      rw [if_pos (hx.2.2.2 d hd).2.1]
      cases M.2.2.2.1 (b + 88 + 2 * d) 0 <;> rfl
    have hrf : f_X11_refuseRule N b (nI d) M = some (if (sh d).1 = 0 then -11 else -12, M) := by
      unfold f_X11_refuseRule
      rw [d_ck hx, c_shelfAt hx hd, bnd_one]
      show ck 7 M (b + 88 + 2 * d) _ = _
      rw [d_ck7 hx hd, c_isEmpty hx hd hs, bnd_one, b32_if]
      split <;> rfl
    rcases hs with ⟨h0, h1, h2⟩ | ⟨h0, ⟨q, h1, hq⟩, h2⟩ | ⟨h0, h1, h2, -⟩
    · refine Or.inr ⟨-11, by decide, Or.inr (Or.inl rfl), by rw [hra, h1], by rw [hrf, if_pos h0], ?_⟩
      rcases ht with ⟨-, t1⟩ | ⟨t0, -⟩ | ⟨t0, -⟩
      · exact fun M2 hl => by rw [hwr M2 hl, t1]; rfl
      · omega
      · omega
    · rcases ht with ⟨t0, -⟩ | ⟨-, t1, t2, t3, -⟩ | ⟨t0, -⟩
      · omega
      · exact Or.inl ⟨d, q, _, _, hd, rfl, hq, by rw [hra, h1], fun M2 hl => by rw [hwr M2 hl, t1]; rfl, t2, t3⟩
      · omega
    · refine Or.inr ⟨-12, by decide, Or.inr (Or.inr rfl), by rw [hra, h1], by rw [hrf, if_neg (by omega)], ?_⟩
      rcases ht with ⟨t0, -⟩ | ⟨t0, -⟩ | ⟨-, t1, -⟩
      · omega
      · omega
      · exact fun M2 hl => by rw [hwr M2 hl, t1]; rfl
  · refine Or.inr ⟨-1, by decide, Or.inl rfl, ?_, ?_, ?_⟩
    · unfold f_X11_ruleAt
      rw [d_ck hx, c_shelfNo hx hno, bnd_one]; rfl
    · unfold f_X11_refuseRule
      rw [d_ck hx, c_shelfNo hx hno, bnd_one]; rfl
    · intro M2 hl
      unfold f_X12_wrongRule
      rw [m_isShelf, bnd_one, b32_if, if_neg hno]
theorem T_element (hc : CLS b S pic sh M) (hm : MDR S pic sh r) (x y : Int32) : ∃ (th : Int32) (v : Int64) (o : Oc), (∀ M2, MLAY b M2 → f_X12_element N (mc b 0) x y (MW b M2 r) = some (v, MW b M2 (up2 r 0 11 th))) ∧ ((th = 0 ∧ o = .inl (some (.long v))) ∨ (th = 1 ∧ o = .inr xIAE) ∨ (th = 2 ∧ o = .inr xISE)) ∧
    ∀ (G : Gl) (l : Launch), l.flags = flags0 → MO l G yX11_element (Cond.code yX11_element cX11_element 4 (some .long)) rm_X11_element [.ref b, .int x, .int y] M o M := by
  obtain ⟨⟨hL, hX, -⟩, -, -, -, hsh⟩ := id hc
  have hkb : (M.1 b).1 = 11 + 4 := hX.1
  have J : ∀ (th : Int32), ¬ th = 0 → ∀ M2, MLAY b M2 → j_X12_element_45 N (mc b 0) x y th (mc b 0) (MW b M2 r) = some (0, MW b M2 (up2 r 0 11 th)) := by
    intro th h0 M2 hl
    unfold j_X12_element_45
    rw [n_pI hl, n_gI hl, if_neg (by simpa [up2] using h0)]
  rcases sh_cases x with ⟨d, hd, rfl⟩ | hno
  · have hs := hsh d hd
    have ht := hm.2.2.2.2 d hd
    have hkd : (M.1 (b + 88 + 2 * d)).1 = 7 + 4 := (hX.2.2.2 d hd).2.1
    have hME : ∀ M2, MLAY b M2 → f_X12_element N (mc b 0) (nI d) y (MW b M2 r) = if r 5 d = 2 then (if ¬ y < 0 ∧ y < r 7 d then j_X12_element_45 N (mc b 0) (nI d) y 0 (mc b 0) (MW b M2 r) else j_X12_element_45 N (mc b 0) (nI d) y 2 (mc b 0) (MW b M2 r)) else j_X12_element_45 N (mc b 0) (nI d) y 2 (mc b 0) (MW b M2 r) := by
      intro M2 hl
      have e5 : ∀ {κ : Int32 → Option (Int64 × Mm)}, ald (MW b M2 r) (mc b 5) (nI d) κ = κ (r 5 d) := fun {κ} => n_ald hl (by decide) (by decide) hd
      unfold f_X12_element j_X12_element_40
      rw [m_isShelf, bnd_one, b32_if, if_pos (nI_in7 hd), n_gR hl (p := 5) (by decide), e5]
      by_cases h5 : r 5 d = 2
      · rw [if_pos h5, if_pos h5, n_gR hl (p := 7) (by decide), n_ald hl (by decide) (by decide) hd, m_isIn y 0 (r 7 d - 1) 0 _ rfl rfl, bnd_one, b32_if]
        have hn : ∃ n, n ≤ 100 ∧ r 7 d = nI n := by
          rcases ht with ⟨-, q⟩ | ⟨-, q, -⟩ | ⟨-, -, -, q, -, q2, -⟩
          · rw [q] at h5; exact absurd h5 (by decide)
          · rw [q] at h5; exact absurd h5 (by decide)
          · exact ⟨_, q2, q⟩
        obtain ⟨n, hn1, hn2⟩ := hn
        rw [hn2]
        by_cases hy : 0 ≤ y ∧ y ≤ nI n - 1
        · rw [if_pos hy, if_pos ((sub1_in hn1).mp hy)]
        · rw [if_neg hy, if_neg (fun q => hy ((sub1_in hn1).mpr q))]
      · rw [if_neg h5, if_neg h5]
    by_cases hrow : (sh d).1 = 2
    · -- a row
      obtain ⟨-, s2, s3, s4, s5, -⟩ := rowc hs hrow
      have hmr : r 5 d = 2 ∧ r 7 d = nI (sh d).2.2.1 ∧ ∀ i, i < 100 → r 8 (100 * d + i) = (sh d).2.2.2 i := by
        rcases ht with ⟨q, -⟩ | ⟨q, -⟩ | ⟨-, q1, -, q3, -, -, q6⟩
        · rw [q] at hrow; cases hrow
        · rw [q] at hrow; cases hrow
        · exact ⟨q1, q3, q6⟩
      obtain ⟨m1, m2, m3⟩ := hmr
      have hhr : f_X7_hasRow N (b + 88 + 2 * d) M = some (b32 (¬ M.2.1 (b + 88 + 2 * d) 1 = -2), M) := c_hasRow hX hd
      have hb1 : b32 (¬ M.2.1 (b + 88 + 2 * d) 1 = -2) = 1 := if_pos (by rw [s2]; exact sort_ne s4)
      rw [hb1] at hhr
      by_cases hy : ¬ y < 0 ∧ y < nI (sh d).2.2.1
      · have hy0 := hy
        obtain ⟨j, hj, rfl⟩ := nI_of hy.1
        have hjn := (nI_ltI hj (by omega)).mp hy.2
        refine ⟨0, ((sh d).2.2.2 j).toInt64, .inl (some (.long ((sh d).2.2.2 j).toInt64)), ?_, Or.inl ⟨rfl, rfl⟩, fun G l hfl => c_X11_element hfl (N := N) hkb (c_shelfAt hX hd) (fun q => by cases q) (fun a ha => ?_)⟩
        · intro M2 hl
          rw [hME M2 hl, if_pos m1, m2, if_pos hy0]
          unfold j_X12_element_45
          rw [n_pI hl, n_gI hl, if_pos (by simp [up2]), n_gR hl (p := 7 + 1) (by decide), show (100 : Int32) = nI 100 from rfl, pk_mul, nI_add, n_ald hl (by decide) (by decide) (show 100 * d + j < 800 by omega)]
          show some (Int32.toInt64 (up2 r 0 11 0 8 (100 * d + j)), _) = _
          rw [show up2 r 0 11 0 8 (100 * d + j) = r 8 (100 * d + j) by simp [up2], m3 j (by omega)]
        · cases ha
          exact ⟨hkd, 1, hhr, fun q => by
            rcases q with q | q | q
            · exact absurd q (by decide)
            · exact absurd q hy.1
            · rw [s3] at q; exact absurd hy.2 q, fun _ => ⟨_, d_read hX hd hs hrow (by omega), rfl⟩⟩
      · refine ⟨2, 0, .inr xISE, fun M2 hl => by rw [hME M2 hl, if_pos m1, m2, if_neg hy]; exact J 2 (by decide) M2 hl, Or.inr (Or.inr ⟨rfl, rfl⟩), fun G l hfl => c_X11_element hfl (N := N) hkb (c_shelfAt hX hd) (fun q => by cases q) (fun a ha => ?_)⟩
        cases ha
        exact ⟨hkd, 1, hhr, fun _ => rfl, fun q => by rw [s3] at q; exact absurd ⟨q.2.1, q.2.2⟩ hy⟩
    · have hs1 : M.2.1 (b + 88 + 2 * d) 1 = -2 := by
        rcases hs with ⟨-, -, q⟩ | ⟨-, -, q⟩ | ⟨q, -⟩
        · exact q
        · exact q
        · exact absurd q hrow
      have h5 : ¬ r 5 d = 2 := by
        rcases ht with ⟨-, q⟩ | ⟨-, q, -⟩ | ⟨q, -⟩
        · rw [q]; decide
        · rw [q]; decide
        · exact absurd q hrow
      refine ⟨2, 0, .inr xISE, fun M2 hl => by rw [hME M2 hl, if_neg h5]; exact J 2 (by decide) M2 hl, Or.inr (Or.inr ⟨rfl, rfl⟩), fun G l hfl => c_X11_element hfl (N := N) hkb (c_shelfAt hX hd) (fun q => by cases q) (fun a ha => ?_)⟩
      cases ha
      exact ⟨hkd, 0, by rw [c_hasRow hX hd, hs1]; rfl, fun _ => rfl, fun q => absurd rfl q.1⟩
  · refine ⟨1, 0, .inr xIAE, ?_, Or.inr (Or.inl ⟨rfl, rfl⟩), fun G l hfl => c_X11_element hfl (N := N) hkb (c_shelfNo hX hno) (fun _ => rfl) (fun a ha => by cases ha)⟩
    intro M2 hl
    unfold f_X12_element
    rw [m_isShelf, bnd_one, b32_if, if_neg hno]
    exact J 1 (by decide) M2 hl
theorem T_toss (hc : CLS b S pic sh M) (hm : MDR S pic sh r) (x : Int32) : ∃ v : Int32, (∀ M2, MLAY b M2 → f_X12_toss N (mc b 0) x (MW b M2 r) = some (v, MW b M2 r)) ∧
    ∀ (G : Gl) (l : Launch), l.flags = flags0 → MO l G yX11_toss (Cond.codeWith yX11_toss cX11_toss 4 (some .int) tossH) rm_X11_toss [.ref b, .int x] M (.inl (some (.int v))) M := by
  obtain ⟨⟨hL, hX, -⟩, -⟩ := id hc
  have hkb : (M.1 b).1 = 11 + 4 := hX.1
  rcases rule_splitA (N := N) hc hm x with ⟨d, q, kd, fg, hd, rfl, hq, e1, e2, e9, e10⟩ | ⟨c, hc0, hcc, e1, e2, e3⟩
  · obtain ⟨k1, k2, k3, k4⟩ := hq
    have hz : (nI fg = 0) ↔ fg = 0 := by
      constructor
      · intro h
        rcases Nat.eq_zero_or_pos fg with h0 | h0
        · exact h0
        · have h9 := (nI_0lt (n := fg) (by omega)).mpr h0
          rw [h] at h9
          exact absurd h9 (by decide)
      · rintro rfl; rfl
    have hMT : ∀ v, (if nI kd = (4 : Int32) then (-15 : Int32) else if nI fg = 0 then -15 else if nI kd = (3 : Int32) then 100 + nI fg else if nI kd = (5 : Int32) then 100 + nI fg else if nI kd = (6 : Int32) then 200 + costV kd fg else nI fg) = v → ∀ M2, MLAY b M2 → f_X12_toss N (mc b 0) (nI d) (MW b M2 r) = some (v, MW b M2 r) := by
      rintro v rfl M2 hl
      unfold f_X12_toss j_X12_toss_37 j_X12_toss_54
      rw [n_ck hl, e2 M2 hl, bnd_one, if_pos rfl, n_gR hl (p := 9 + 1) (by decide), n_ald hl (by decide) (by decide) hd, n_gR hl (p := 8 + 1) (by decide), n_ald hl (by decide) (by decide) hd, e9, e10, n_ck hl, m_careOf hl hd e9 e10 k3, bnd_one]
      repeat (first | rfl | split)
    have fin : ∀ v, (if nI kd = (4 : Int32) then (-15 : Int32) else if nI fg = 0 then -15 else if nI kd = (3 : Int32) then 100 + nI fg else if nI kd = (5 : Int32) then 100 + nI fg else if nI kd = (6 : Int32) then 200 + costV kd fg else nI fg) = v → tossV M q v → _ := fun v h1 h2 => (⟨v, hMT v h1, fun G l hfl => c_X11_toss hfl (N := N) hkb e1 (fun z => by cases z) (fun a ha => by cases ha; exact h2)⟩ : ∃ v : Int32, (∀ M2, MLAY b M2 → f_X12_toss N (mc b 0) (nI d) (MW b M2 r) = some (v, MW b M2 r)) ∧ ∀ (G : Gl) (l : Launch), l.flags = flags0 → MO l G yX11_toss (Cond.codeWith yX11_toss cX11_toss 4 (some .int) tossH) rm_X11_toss [.ref b, .int (nI d)] M (.inl (some (.int v))) M)
    by_cases hf : fg = 0
    · refine fin (-15) ?_ ?_
      · rw [if_pos (hz.mpr hf)]; split <;> rfl
      · by_cases h4 : kd = 4
        · exact Or.inl ⟨by rw [k1, h4]; rfl, rfl⟩
        · refine Or.inr ⟨?_, Or.inl ⟨by rw [k2, hf]; rfl, rfl⟩⟩
          match kd, k3, h4, k1 with
          | 0, _, _, k => exact Or.inr (Or.inr (Or.inr (Or.inl k)))
          | 1, _, _, k => exact Or.inr (Or.inr (Or.inr (Or.inr (Or.inr k))))
          | 2, _, _, k => exact Or.inr (Or.inr (Or.inl k))
          | 3, _, _, k => exact Or.inr (Or.inl k)
          | 4, _, h, _ => exact absurd rfl h
          | 5, _, _, k => exact Or.inl k
          | 6, _, _, k => exact Or.inr (Or.inr (Or.inr (Or.inr (Or.inl k))))
    · have hnz : ¬ M.2.1 q 0 = 0 := by rw [k2]; exact fun z => hf (hz.mp z)
      have hng : ¬ nI fg = 0 := fun z => hf (hz.mp z)
      match kd, k3, k1, fin with
      | 0, _, k, fin => exact fin (nI fg) (by rw [if_neg (by decide), if_neg hng, if_neg (by decide), if_neg (by decide), if_neg (by decide)]) (Or.inr ⟨Or.inr (Or.inr (Or.inr (Or.inl k))), Or.inr ⟨hnz, Or.inr (Or.inr ⟨Or.inr (Or.inl k), k2.symm⟩)⟩⟩)
      | 1, _, k, fin => exact fin (nI fg) (by rw [if_neg (by decide), if_neg hng, if_neg (by decide), if_neg (by decide), if_neg (by decide)]) (Or.inr ⟨Or.inr (Or.inr (Or.inr (Or.inr (Or.inr k)))), Or.inr ⟨hnz, Or.inr (Or.inr ⟨Or.inr (Or.inr k), k2.symm⟩)⟩⟩)
      | 2, _, k, fin => exact fin (nI fg) (by rw [if_neg (by decide), if_neg hng, if_neg (by decide), if_neg (by decide), if_neg (by decide)]) (Or.inr ⟨Or.inr (Or.inr (Or.inl k)), Or.inr ⟨hnz, Or.inr (Or.inr ⟨Or.inl k, k2.symm⟩)⟩⟩)
      | 3, _, k, fin => exact fin (100 + nI fg) (by rw [if_neg (by decide), if_neg hng, if_pos (by decide)]) (Or.inr ⟨Or.inr (Or.inl k), Or.inr ⟨hnz, Or.inl ⟨Or.inr k, by rw [k2]; exact Int32.add_comm _ _⟩⟩⟩)
      | 4, _, k, fin => exact fin (-15) (by rw [if_pos (by decide)]) (Or.inl ⟨k, rfl⟩)
      | 5, _, k, fin => exact fin (100 + nI fg) (by rw [if_neg (by decide), if_neg hng, if_neg (by decide), if_pos (by decide)]) (Or.inr ⟨Or.inl k, Or.inr ⟨hnz, Or.inl ⟨Or.inl k, by rw [k2]; exact Int32.add_comm _ _⟩⟩⟩)
      | 6, _, k, fin => exact fin (200 + (5 + nI fg) / 2) (by rw [if_neg (by decide), if_neg hng, if_neg (by decide), if_neg (by decide), if_pos (by decide)]; rfl) (Or.inr ⟨Or.inr (Or.inr (Or.inr (Or.inr (Or.inl k)))), Or.inr ⟨hnz, Or.inr (Or.inl ⟨k, by rw [k2]; exact Int32.add_comm _ _⟩)⟩⟩)
  · refine ⟨c, ?_, fun G l hfl => c_X11_toss hfl (N := N) hkb e1 (fun _ => e2) (fun a ha => by cases ha)⟩
    intro M2 hl
    unfold f_X12_toss
    rw [n_ck hl, e3 M2 hl, bnd_one, if_neg hc0]
end TX
