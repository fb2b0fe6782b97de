/-! One world becomes another; a day's beginning. -/
def BC (s r : WR) : Prop := (∀ k, k ∈ [0, 2, 4, 5, 6, 9, 13, 14, 15, 16] → r.1 0 k = s.1 0 k) ∧ (∀ l, l ∈ [1, 2, 4, 7, 9, 10, 11] → ∀ j, j < (kW l).2 → r.1 l j = s.1 l j) ∧ (∀ l, l = 3 ∨ l = 6 → (∀ k, k < 3 → r.1 l k = s.1 l k) ∧ r.2 l = s.2 l)
theorem WRel_BC {M : Mm} {S : SP} {s r : WR} (h : WRel M S s) (wf : WF S) (hb : BC s r) : WRel M S r := by
  obtain ⟨a1, a2, a3, a4, a5, a6⟩ := h
  obtain ⟨c1, c2, c3⟩ := hb
  have h2 := wf.1.2.2.2.2.1.2
  have h5 := wf.1.2.1
  refine ⟨?_, ?_, fun i hi => ?_, fun t k ht hk => ?_, fun x hx => ?_, fun l hl => ⟨?_, fun j p hj => ?_⟩⟩
  · rw [c1 0 (by decide), c1 2 (by decide), c1 4 (by decide), c1 6 (by decide), c1 9 (by decide)]; exact a1
  · rw [c1 5 (by decide), c1 13 (by decide), c1 14 (by decide), c1 15 (by decide), c1 16 (by decide)]; exact a2
  · rw [c2 1 (by decide) i hi]; exact a3 i hi
  · rw [c2 2 (by decide) _ (by show _ < 25; omega)]; exact a4 t k ht hk
  · have hl := lb_cases (Nat.lt_of_lt_of_le hx h2)
    obtain ⟨b1, b2, b3, b4, b5⟩ := a5 x hx
    obtain ⟨d1, d2⟩ := c3 (lb x) hl
    refine ⟨by rw [d1 0 (by decide)]; exact b1, by rw [d1 1 (by decide)]; exact b2, by rw [d1 2 (by decide)]; exact b3, fun j t hj => ?_, by rw [d2]; exact b5⟩
    have hj6 := gE hj
    have h6 := B6 wf hx
    rcases hl with e | e
    · rw [e, c2 4 (by decide) _ (by show _ < 6; omega), ← b4 j t hj, e]
    · rw [e, c2 7 (by decide) _ (by show _ < 6; omega), ← b4 j t hj, e]
  · rw [c2 9 (by decide) _ hl]; exact (a6 l hl).1
  · have hj12 := gE hj
    have h12 := WF_q12 wf l
    rw [c2 10 (by decide) _ (by show _ < 48; omega), c2 11 (by decide) _ (by show _ < 48; omega)]
    exact (a6 l hl).2 j p hj
section BECOME
variable {b : Nat} {M : Mm} {w w1 : Nat} {r : WR} {N : Nat} {ρ : Type}
theorem gW_SW (hw : w < 7) (hw1 : w1 < 7) (hne : w1 ≠ w) {l : Nat} (hl : l ∈ oks) : (SW b M w r).2.1 (wA b w1 l) = M.2.1 (wA b w1 l) := SW_io (fun l' hl' e => hne (wA_inj hw1 hw hl hl' e).1)
theorem gW_SWq (hw : w < 7) (hw1 : w1 < 7) (hne : w1 ≠ w) {l k : Nat} (hl : l ∈ oks) : (SW b M w r).2.2.2.1 (wA b w1 l) k = M.2.2.2.1 (wA b w1 l) k := SW_qo (fun q => by
  rcases q.2 with e | e
  · exact hne (wA_inj hw1 hw hl (by decide) e).1
  · exact hne (wA_inj hw1 hw hl (by decide) e).1)
theorem x_gI (h : LAY b M) (hw : w < 7) (hw1 : w1 < 7) (hne : w1 ≠ w) {k : Nat} {κ : Int32 → Option ρ} : gI 10 (SW b M w r) (wA b w1 0) k κ = κ (M.2.1 (wA b w1 0) k) := by
  have h1 := (h w1 hw1).1 0 (by decide)
  simp [gI, SW_1, h1, kW, gW_SW hw hw1 hne (show 0 ∈ oks by decide)]
theorem x_gR (h : LAY b M) (hw : w < 7) (hw1 : w1 < 7) (hne : w1 ≠ w) {k l : Nat} (hq : (k, l) ∈ refsW) {κ : Nat → Option ρ} : gR 10 (SW b M w r) (wA b w1 0) k κ = κ (wA b w1 l) := by
  have h1 := (h w1 hw1).1 0 (by decide)
  have h2 := (h w1 hw1).2.1 _ hq
  simp [gR, SW_1, h1, kW, gW_SWq hw hw1 hne (show 0 ∈ oks by decide), h2]
theorem x_bgI (h : LAY b M) (hw : w < 7) (hw1 : w1 < 7) (hne : w1 ≠ w) {l : Nat} (hl : l = 3 ∨ l = 6) {k : Nat} {κ : Int32 → Option ρ} : gI 1 (SW b M w r) (wA b w1 l) k κ = κ (M.2.1 (wA b w1 l) k) := by
  have hlo : l ∈ oks := by rcases hl with rfl | rfl <;> decide
  have h1 := (h w1 hw1).1 l hlo
  have h2 : kW l = (5, 0) := by rcases hl with rfl | rfl <;> rfl
  simp [gI, SW_1, h1, h2, gW_SW hw hw1 hne hlo]
theorem x_brule (h : LAY b M) (hw : w < 7) (hw1 : w1 < 7) (hne : w1 ≠ w) {l : Nat} (hl : l = 3 ∨ l = 6) {κ : Nat → Option ρ} : gR 1 (SW b M w r) (wA b w1 l) 4 κ = (M.2.2.2.1 (wA b w1 l) 4).elim none κ := by
  have hlo : l ∈ oks := by rcases hl with rfl | rfl <;> decide
  have h1 := (h w1 hw1).1 l hlo
  have h2 : kW l = (5, 0) := by rcases hl with rfl | rfl <;> rfl
  simp [gR, SW_1, h1, h2, gW_SWq hw hw1 hne hlo]
theorem x_bseat (h : LAY b M) (hw : w < 7) (hw1 : w1 < 7) (hne : w1 ≠ w) {l : Nat} (hl : l = 3 ∨ l = 6) {κ : Nat → Option ρ} : gR 1 (SW b M w r) (wA b w1 l) 3 κ = κ (wA b w1 (l + 1)) := by
  have hlo : l ∈ oks := by rcases hl with rfl | rfl <;> decide
  have h1 := (h w1 hw1).1 l hlo
  have h2 : kW l = (5, 0) := by rcases hl with rfl | rfl <;> rfl
  have h3 : M.2.2.2.1 (wA b w1 l) 3 = some (wA b w1 (l + 1)) := by
    rcases hl with rfl | rfl
    · exact (h w1 hw1).2.2.1.1
    · exact (h w1 hw1).2.2.1.2
  simp [gR, SW_1, h1, h2, gW_SWq hw hw1 hne hlo, h3]
theorem x_copy (h : LAY b M) (hw : w < 7) (hw1 : w1 < 7) (hne : w1 ≠ w) {l n : Nat} (hl : l ∈ oks) (hk : kW l = (1, n)) (hn : n < 2 ^ 31) : f_X11_copyAll N (wA b w1 l) (wA b w l) (SW b M w r) = some ((), SW b M w (upR r.1 l (va_cpy (M.2.1 (wA b w1 l)) (r.1 l) 0 0 n), r.2)) := by
  have h1 := (h w1 hw1).1 l hl
  have h2 := (h w hw).1 l hl
  rw [hk] at h1 h2
  unfold f_X11_copyAll
  have e1 : alen (ρ := Unit × Mm) (SW b M w r) (wA b w1 l) = fun κ => κ (nI n) := by funext κ; simp [alen, SW_1, h1]
  have e2 : alen (ρ := Unit × Mm) (SW b M w r) (wA b w l) = fun κ => κ (nI n) := by funext κ; simp [alen, SW_1, h2]
  rw [e1, e2]
  simp only [if_neg (Int32.lt_irrefl : ¬ nI n < nI n)]
  unfold acp
  rw [SW_1, h1, h2, gW_SW hw hw1 hne hl, SW_i hw hl, sG_SW hw hl]
  rw [show (0 : Int32) = nI 0 from rfl, nIc (show 0 < 2 ^ 31 by decide), nIc hn]
  rw [if_pos ⟨rfl, rfl, nI_neg (by decide), nI_neg (by decide), nI_neg hn, by omega, by omega⟩]
theorem k_bBecome (h : LAY b M) (hw : w < 7) (hw1 : w1 < 7) (hne : w1 ≠ w) {l : Nat} (hl : l = 3 ∨ l = 6) {q : Nat} (hq : M.2.2.2.1 (wA b w1 l) 4 = some q) : ∃ r', f_X1_become N (wA b w l) (wA b w1 l) (SW b M w r) = some ((), SW b M w r') ∧ (∀ k, k < 3 → r'.1 l k = M.2.1 (wA b w1 l) k) ∧ r'.2 l = some q ∧ (∀ j, j < 6 → r'.1 (l + 1) j = M.2.1 (wA b w1 (l + 1)) j) ∧ (∀ l', l' ≠ l → l' ≠ l + 1 → r'.1 l' = r.1 l') ∧ (∀ l', l' ≠ l → r'.2 l' = r.2 l') := by
  have hl1 : l + 1 ∈ oks := by rcases hl with rfl | rfl <;> decide
  have hk1 : kW (l + 1) = (1, 6) := by rcases hl with rfl | rfl <;> rfl
  unfold f_X1_become
  rw [x_bgI h hw hw1 hne hl, q_bpI h hw hl, x_bgI h hw hw1 hne hl, q_bpI h hw hl, x_bgI h hw hw1 hne hl, q_bpI h hw hl, x_brule h hw hw1 hne hl, hq, Option.elim_some, q_bpR h hw hl, x_bseat h hw hw1 hne hl, q_bseat h hw hl, x_copy h hw hw1 hne hl1 hk1 (by decide), bnd_one]
  refine ⟨_, rfl, fun k hk => ?_, by simp [upq], fun j hj => ?_, fun l' h1 h2 => ?_, fun l' h1 => by simp [upq, h1]⟩
  · rcases (show k = 0 ∨ k = 1 ∨ k = 2 by omega) with rfl | rfl | rfl <;> simp [upR, up2]
  · simp [upR, sb_cpy0 hj]
  · funext j; simp [upR, up2, h1, h2]
theorem k_becomeRiver (h : LAY b M) (hw : w < 7) (hw1 : w1 < 7) (hne : w1 ≠ w) : ∃ r', f_X10_becomeRiver N (wA b w 0) (wA b w1 0) (SW b M w r) = some ((), SW b M w r') ∧ (∀ k, k = 0 ∨ k = 2 ∨ k = 4 → r'.1 0 k = M.2.1 (wA b w1 0) k) ∧ (∀ l, l = 1 ∨ l = 2 → ∀ j, j < (kW l).2 → r'.1 l j = M.2.1 (wA b w1 l) j) ∧ (∀ l', l' ≠ 0 → l' ≠ 1 → l' ≠ 2 → r'.1 l' = r.1 l') ∧ r'.2 = r.2 := by
  unfold f_X10_becomeRiver
  rw [x_gI h hw hw1 hne, q_pI h hw, x_gR h hw hw1 hne (l := 1) (by decide), q_gR h hw (l := 1) (by decide), x_copy h hw hw1 hne (l := 1) (n := 16) (by decide) rfl (by decide), bnd_one, x_gI h hw hw1 hne, q_pI h hw, x_gR h hw hw1 hne (l := 2) (by decide), q_gR h hw (l := 2) (by decide), x_copy h hw hw1 hne (l := 2) (n := 25) (by decide) rfl (by decide), bnd_one, x_gI h hw hw1 hne, q_pI h hw]
  refine ⟨_, rfl, fun k hk => ?_, fun l hl j hj => ?_, fun l' h0 h1 h2 => ?_, rfl⟩
  · rcases hk with rfl | rfl | rfl <;> simp [upR, up2]
  · rcases hl with rfl | rfl
    · have hj' : j < 16 := hj
      simp [upR, up2, sb_cpy0 hj']
    · have hj' : j < 25 := hj
      simp [upR, up2, sb_cpy0 hj']
  · funext j; simp [upR, up2, h0, h1, h2]
theorem k_become (h : LAY b M) (hw : w < 7) (hw1 : w1 < 7) (hne : w1 ≠ w) {q3 q6 : Nat} (h3 : M.2.2.2.1 (wA b w1 3) 4 = some q3) (h6 : M.2.2.2.1 (wA b w1 6) 4 = some q6) (hz : M.2.1 (wA b w1 0) 9 = 0 ∨ M.2.1 (wA b w1 0) 9 = 1) : ∃ r', f_X10_become N (wA b w 0) (wA b w1 0) (SW b M w r) = some ((), SW b M w r') ∧ BC (gW b M w1) r' ∧ r'.2 3 = some q3 ∧ r'.2 6 = some q6 := by
  unfold f_X10_become
  obtain ⟨r1, e1, c1, c2, c3, c4⟩ := k_becomeRiver (r := r) (N := N) h hw hw1 hne
  rw [q_ck h hw, e1, bnd_one, x_gI h hw hw1 hne, q_pI h hw, x_gI h hw hw1 hne, q_pI h hw, q_gR h hw (l := 3) (by decide), x_gR h hw hw1 hne (l := 3) (by decide), q_bck h hw (l := 3) (Or.inl rfl)]
  obtain ⟨r2, e2, d1, d2, d3, d4, d5⟩ := k_bBecome (r := (up2 (up2 r1.1 0 5 (M.2.1 (wA b w1 0) 5)) 0 6 (M.2.1 (wA b w1 0) 6), r1.2)) (N := N) h hw hw1 hne (l := 3) (Or.inl rfl) h3
  rw [e2, bnd_one, q_gR h hw (l := 6) (by decide), x_gR h hw hw1 hne (l := 6) (by decide), q_bck h hw (l := 6) (Or.inr rfl)]
  obtain ⟨r3, e3, f1, f2, f3, f4, f5⟩ := k_bBecome (r := r2) (N := N) h hw hw1 hne (l := 6) (Or.inr rfl) h6
  rw [e3, bnd_one, x_gI h hw hw1 hne, q_pZ h hw hz, x_gR h hw hw1 hne (l := 9) (by decide), q_gR h hw (l := 9) (by decide), x_copy h hw hw1 hne (l := 9) (n := 4) (by decide) rfl (by decide), bnd_one, x_gR h hw hw1 hne (l := 10) (by decide), q_gR h hw (l := 10) (by decide), x_copy h hw hw1 hne (l := 10) (n := 48) (by decide) rfl (by decide), bnd_one, x_gR h hw hw1 hne (l := 11) (by decide), q_gR h hw (l := 11) (by decide), x_copy h hw hw1 hne (l := 11) (n := 48) (by decide) rfl (by decide), bnd_one, x_gI h hw hw1 hne, q_pI h hw, x_gI h hw hw1 hne, q_pI h hw, x_gI h hw hw1 hne, q_pI h hw, x_gI h hw hw1 hne, q_pI h hw]
  have g0 : r3.1 0 = up2 (up2 r1.1 0 5 (M.2.1 (wA b w1 0) 5)) 0 6 (M.2.1 (wA b w1 0) 6) 0 := by rw [f4 0 (by decide) (by decide), d4 0 (by decide) (by decide)]
  refine ⟨_, rfl, ⟨fun k hk => ?_, fun l hl j hj => ?_, fun l hl => ?_⟩, ?_, ?_⟩
  · simp only [List.mem_cons, List.not_mem_nil, or_false] at hk
    rcases hk with rfl | rfl | rfl | rfl | rfl | rfl | rfl | rfl | rfl | rfl <;> simp [upR, up2, g0, gW, c1]
  · simp only [List.mem_cons, List.not_mem_nil, or_false] at hl
    rcases hl with rfl | rfl | rfl | rfl | rfl | rfl | rfl
    · have : r3.1 1 j = M.2.1 (wA b w1 1) j := by rw [f4 1 (by decide) (by decide), d4 1 (by decide) (by decide)]; simp [up2]; exact c2 1 (Or.inl rfl) j hj
      simp [upR, up2, gW, this]
    · have : r3.1 2 j = M.2.1 (wA b w1 2) j := by rw [f4 2 (by decide) (by decide), d4 2 (by decide) (by decide)]; simp [up2]; exact c2 2 (Or.inr rfl) j hj
      simp [upR, up2, gW, this]
    · have hj' : j < 6 := hj
      have : r3.1 4 j = M.2.1 (wA b w1 4) j := by rw [f4 4 (by decide) (by decide)]; exact d3 j hj'
      simp [upR, up2, gW, this]
    · have hj' : j < 6 := hj
      have : r3.1 7 j = M.2.1 (wA b w1 7) j := f3 j hj'
      simp [upR, up2, gW, this]
    · have hj' : j < 4 := hj
      simp [upR, up2, gW, sb_cpy0 hj']
    · have hj' : j < 48 := hj
      simp [upR, up2, gW, sb_cpy0 hj']
    · have hj' : j < 48 := hj
      simp [upR, up2, gW, sb_cpy0 hj']
  · rcases hl with rfl | rfl
    · refine ⟨fun k hk => ?_, ?_⟩
      · have : r3.1 3 k = M.2.1 (wA b w1 3) k := by rw [f4 3 (by decide) (by decide)]; exact d1 k hk
        simp [upR, up2, gW, this]
      · show r3.2 3 = M.2.2.2.1 (wA b w1 3) 4
        rw [f5 3 (by decide), d2, h3]
    · refine ⟨fun k hk => ?_, ?_⟩
      · have : r3.1 6 k = M.2.1 (wA b w1 6) k := f1 k hk
        simp [upR, up2, gW, this]
      · show r3.2 6 = M.2.2.2.1 (wA b w1 6) 4
        rw [f2, h6]
  · show r3.2 3 = some q3
    rw [f5 3 (by decide), d2]
  · exact f2
end BECOME
