/-! What holds of the class between calls. -/
theorem KP_SW {α : Type} {b : Nat} {M : Mm} {w : Nat} {r r' : WR} {x : Option (α × Mm)} {v : α} (hw : w < 7) (h : KP x (SW b M w r).2.2.2.1) (e : x = some (v, SW b M w r')) {l : Nat} (hl : l = 3 ∨ l = 6) : r'.2 l = r.2 l := by
  have := h v _ e
  have h1 := congrFun (congrFun this (wA b w l)) 4
  rw [SW_q hw hl, SW_q hw hl] at h1
  exact h1
def RM (M M' : Mm) : Prop := ∀ q kd fg, isRl M q kd fg → isRl M' q kd fg
theorem WRel_M {M M' : Mm} {S : SP} {r : WR} (hm : RM M M') (h : WRel M S r) : WRel M' S r := by
  obtain ⟨a1, a2, a3, a4, a5, a6⟩ := h
  refine ⟨a1, a2, a3, a4, fun x hx => ?_, a6⟩
  obtain ⟨b1, b2, b3, b4, q, hq, hr⟩ := a5 x hx
  exact ⟨b1, b2, b3, b4, q, hq, hm _ _ _ hr⟩
/-- nothing but the class' own cells and new ones has changed -/
def FR (b : Nat) (M M' : Mm) : Prop := nx M ≤ nx M' ∧ (∀ a, a < nx M → (a < b ∨ b + 104 ≤ a) → M'.1 a = M.1 a ∧ M'.2.1 a = M.2.1 a ∧ M'.2.2.1 a = M.2.2.1 a ∧ M'.2.2.2.1 a = M.2.2.2.1 a) ∧ ∀ a, nx M' ≤ a → M'.1 a = M.1 a
theorem FR_refl (b : Nat) (M : Mm) : FR b M M := ⟨Nat.le_refl _, fun _ _ _ => ⟨rfl, rfl, rfl, rfl⟩, fun _ _ => rfl⟩
theorem FR_trans {b : Nat} {M M' M'' : Mm} (h1 : FR b M M') (h2 : FR b M' M'') : FR b M M'' := by
  refine ⟨Nat.le_trans h1.1 h2.1, fun a ha hb => ?_, fun a ha => (h2.2.2 a ha).trans (h1.2.2 a (Nat.le_trans h2.1 ha))⟩
  obtain ⟨c1, c2, c3, c4⟩ := h1.2.1 a ha hb
  obtain ⟨d1, d2, d3, d4⟩ := h2.2.1 a (Nat.lt_of_lt_of_le ha h1.1) hb
  exact ⟨d1.trans c1, d2.trans c2, d3.trans c3, d4.trans c4⟩
/-- no cell is in use from the next address on, and the class' and the model's own cells lie below it -/
def GOOD (b : Nat) (M : Mm) : Prop := b + 117 ≤ nx M ∧ ∀ a, nx M ≤ a → (M.1 a).1 = 0
theorem GOOD_FR {b : Nat} {M M' : Mm} (h : GOOD b M) (hf : FR b M M') : GOOD b M' := ⟨Nat.le_trans h.1 hf.1, fun a ha => by rw [hf.2.2 a ha]; exact h.2 a (Nat.le_trans hf.1 ha)⟩
theorem rA_rng : ∀ w, w < 7 → ∀ l ∈ oks, 1 ≤ rA w l ∧ rA w l ≤ 84 := by decide +kernel
theorem wA_rng {b w l : Nat} (hw : w < 7) (hl : l ∈ oks) : b + 1 ≤ wA b w l ∧ wA b w l ≤ b + 84 := by
  have := rA_rng w hw l hl
  unfold wA
  omega
theorem FR_SW {b : Nat} {M : Mm} {w : Nat} {r : WR} (hw : w < 7) : FR b M (SW b M w r) := by
  refine ⟨Nat.le_refl _, fun a _ hb => ?_, fun _ _ => rfl⟩
  have hno : ∀ l ∈ oks, a ≠ wA b w l := fun l hl e => by have := wA_rng (b := b) hw hl; omega
  refine ⟨rfl, SW_io hno, rfl, ?_⟩
  funext k
  refine SW_qo (fun q => ?_)
  rcases q.2 with e | e
  · exact hno 3 (by decide) e
  · exact hno 6 (by decide) e
theorem RM_SW {b : Nat} {M : Mm} {w : Nat} {r : WR} (h : LAY b M) (hw : w < 7) : RM M (SW b M w r) := fun _ _ _ hq => rule_SW h hw hq
theorem oks7 : ∀ l ∈ [1, 2, 4, 7, 9, 10, 11], l ∈ oks := by decide
theorem gW_same {b : Nat} {M : Mm} {w : Nat} {r : WR} (hw : w < 7) : BC r (gW b (SW b M w r) w) := by
  have e : ∀ l ∈ oks, (gW b (SW b M w r) w).1 l = r.1 l := fun l hl => SW_i hw hl
  refine ⟨fun k _ => by rw [e 0 (by decide)], fun l hl j _ => ?_, fun l hl => ⟨fun k _ => ?_, ?_⟩⟩
  · rw [e l (oks7 l hl)]
  · rw [e l (by rcases hl with rfl | rfl <;> decide)]
  · exact SW_q hw hl
theorem gW_other {b : Nat} {M : Mm} {w w1 : Nat} {r : WR} (hw : w < 7) (hw1 : w1 < 7) (hne : w1 ≠ w) : BC (gW b M w1) (gW b (SW b M w r) w1) := by
  have e : ∀ l ∈ oks, (gW b (SW b M w r) w1).1 l = (gW b M w1).1 l := fun l hl => gW_SW hw hw1 hne hl
  refine ⟨fun k _ => by rw [e 0 (by decide)], fun l hl j _ => ?_, fun l hl => ⟨fun k _ => ?_, ?_⟩⟩
  · rw [e l (oks7 l hl)]
  · rw [e l (by rcases hl with rfl | rfl <;> decide)]
  · exact gW_SWq hw hw1 hne (by rcases hl with rfl | rfl <;> decide)
/-- a shelf: 0 nothing; 1 a rule, its kind, its figure; 2 a row, its sort, its size, its elements -/
abbrev SV : Type := Nat × Nat × Nat × (Nat → Int32)
def SHc (b : Nat) (M : Mm) (d : Nat) (v : SV) : Prop :=
  (v.1 = 0 ∧ M.2.2.2.1 (b + 88 + 2 * d) 0 = none ∧ M.2.1 (b + 88 + 2 * d) 1 = -2) ∨
  (v.1 = 1 ∧ (∃ q, M.2.2.2.1 (b + 88 + 2 * d) 0 = some q ∧ isRl M q v.2.1 v.2.2.1) ∧ M.2.1 (b + 88 + 2 * d) 1 = -2) ∨
  (v.1 = 2 ∧ M.2.2.2.1 (b + 88 + 2 * d) 0 = none ∧ M.2.1 (b + 88 + 2 * d) 1 = nI v.2.1 ∧ M.2.1 (b + 88 + 2 * d) 2 = nI v.2.2.1 ∧ v.2.1 < 3 ∧ v.2.2.1 ≤ 100 ∧ ∀ i, i < 100 → M.2.1 (b + 89 + 2 * d) i = v.2.2.2 i)
def CXL (b : Nat) (M : Mm) : Prop := (M.1 b).1 = 15 ∧ (M.2.2.2.1 b 0 = some (wA b 0 0) ∧ M.2.2.2.1 b 1 = some (wA b 1 0) ∧ M.2.2.2.1 b 3 = some (wA b 2 0) ∧ M.2.2.2.1 b 4 = some (b + 85) ∧ M.2.2.2.1 b 5 = some (b + 87)) ∧
  (((M.1 (b + 85)).1 = 9 ∧ M.2.2.2.1 (b + 85) 5 = some (b + 86)) ∧ M.1 (b + 86) = (1, 5) ∧ M.1 (b + 87) = (3, 8)) ∧ ∀ d, d < 8 → M.2.2.2.1 (b + 87) d = some (b + 88 + 2 * d) ∧ (M.1 (b + 88 + 2 * d)).1 = 11 ∧ M.2.2.2.1 (b + 88 + 2 * d) 3 = some (b + 89 + 2 * d) ∧ M.1 (b + 89 + 2 * d) = (1, 100)
def NB (b : Nat) (M : Mm) : Prop := ∀ w, w < 7 → ∀ l, l = 3 ∨ l = 6 → ∃ q, M.2.2.2.1 (wA b w l) 4 = some q
def WR1 (b : Nat) (M : Mm) (w : Nat) (S : SP) : Prop := WRel M S (gW b M w) ∧ WF S ∧ sn S 4 = 1
def CLS (b : Nat) (S : SP) (pic : Option SP) (sh : Nat → SV) (M : Mm) : Prop :=
  (LAY b M ∧ CXL b M ∧ NB b M) ∧ WR1 b M 0 S ∧ (∀ P, pic = some P → WR1 b M 1 P) ∧ M.2.1 b 2 = b32 (pic.isSome = true) ∧ ∀ d, d < 8 → SHc b M d (sh d)
section CLSS
variable {b : Nat} {M : Mm} {S : SP} {pic : Option SP} {sh : Nat → SV} {w : Nat} {r : WR}
theorem CXL_SW (hw : w < 7) (h : CXL b M) : CXL b (SW b M w r) := by
  have hq : ∀ a k, (a = b ∨ b + 85 ≤ a) → (SW b M w r).2.2.2.1 a k = M.2.2.2.1 a k := fun a k ha => SW_qo (fun q => by
    rcases q.2 with e | e
    · have := wA_rng (b := b) hw (show 3 ∈ oks by decide); omega
    · have := wA_rng (b := b) hw (show 6 ∈ oks by decide); omega)
  obtain ⟨h1, h2, h3, h4⟩ := h
  refine ⟨h1, ?_, ⟨⟨h3.1.1, by rw [hq _ _ (Or.inr (Nat.le_refl _))]; exact h3.1.2⟩, h3.2⟩, fun d hd => ?_⟩
  · rw [hq b _ (Or.inl rfl), hq b _ (Or.inl rfl), hq b _ (Or.inl rfl), hq b _ (Or.inl rfl), hq b _ (Or.inl rfl)]; exact h2
  · rw [hq _ _ (Or.inr (by omega)), hq _ _ (Or.inr (by omega))]; exact h4 d hd
theorem NB_SW (hw : w < 7) (h : NB b M) (h3 : ∃ q, r.2 3 = some q) (h6 : ∃ q, r.2 6 = some q) : NB b (SW b M w r) := by
  intro w1 hw1 l hl
  by_cases hne : w1 = w
  · subst hne
    rw [SW_q hw hl]
    rcases hl with rfl | rfl
    · exact h3
    · exact h6
  · rw [gW_SWq hw hw1 hne (by rcases hl with rfl | rfl <;> decide)]
    exact h w1 hw1 l hl
theorem SHc_SW (hl : LAY b M) (hw : w < 7) {d : Nat} {v : SV} (h : SHc b M d v) : SHc b (SW b M w r) d v := by
  have hi : ∀ a, b + 85 ≤ a → (SW b M w r).2.1 a = M.2.1 a := fun a ha => SW_io (fun l hl e => by have := wA_rng (b := b) hw hl; omega)
  have hq : ∀ a k, b + 85 ≤ a → (SW b M w r).2.2.2.1 a k = M.2.2.2.1 a k := fun a k ha => SW_qo (fun q => by
    rcases q.2 with e | e
    · have := wA_rng (b := b) hw (show 3 ∈ oks by decide); omega
    · have := wA_rng (b := b) hw (show 6 ∈ oks by decide); omega)
  unfold SHc
  rw [hi _ (by omega), hi _ (by omega), hq _ _ (by omega)]
  rcases h with h | ⟨h0, ⟨q, h1, h2⟩, h3⟩ | h
  · exact Or.inl h
  · exact Or.inr (Or.inl ⟨h0, ⟨q, h1, rule_SW hl hw h2⟩, h3⟩)
  · exact Or.inr (Or.inr h)
theorem WR1_other (hl : LAY b M) (hw : w < 7) {w1 : Nat} (hw1 : w1 < 7) (hne : w1 ≠ w) {P : SP} (h : WR1 b M w1 P) : WR1 b (SW b M w r) w1 P := by
  obtain ⟨h1, h2, h3⟩ := h
  exact ⟨WRel_BC (WRel_M (RM_SW hl hw) h1) h2 (gW_other hw hw1 hne), h2, h3⟩
theorem WR1_same (hl : LAY b M) (hw : w < 7) {P : SP} (h1 : WRel M P r) (h2 : WF P) (h3 : sn P 4 = 1) : WR1 b (SW b M w r) w P := ⟨WRel_BC (WRel_M (RM_SW hl hw) h1) h2 (gW_same hw), h2, h3⟩
/-- a world in mind has changed -/
theorem CLS_mind (h : CLS b S pic sh M) (hw : w < 7) (hw2 : 2 ≤ w) (h3 : ∃ q, r.2 3 = some q) (h6 : ∃ q, r.2 6 = some q) : CLS b S pic sh (SW b M w r) := by
  obtain ⟨⟨a1, a2, a3⟩, a4, a5, a6, a7⟩ := h
  refine ⟨⟨LAY_SW hw a1, CXL_SW hw a2, NB_SW hw a3 h3 h6⟩, WR1_other a1 hw (by decide) (by omega) a4, fun P hP => WR1_other a1 hw (by decide) (by omega) (a5 P hP), ?_, fun d hd => SHc_SW a1 hw (a7 d hd)⟩
  rw [SW_io (fun l hl e => by have := wA_rng (b := b) hw hl; omega)]
  exact a6
/-- the real world has changed -/
theorem CLS_real (h : CLS b S pic sh M) {S' : SP} (hr : WRel M S' r) (wf : WF S') (h1 : sn S' 4 = 1) (h6 : ∃ q, r.2 6 = some q) : CLS b S' pic sh (SW b M 0 r) := by
  obtain ⟨⟨a1, a2, a3⟩, a4, a5, a6, a7⟩ := h
  have h3 : ∃ q, r.2 3 = some q := by
    obtain ⟨-, -, -, -, q, hq, -⟩ := hr.2.2.2.2.1 0 (by omega)
    exact ⟨q, hq⟩
  refine ⟨⟨LAY_SW (by decide) a1, CXL_SW (by decide) a2, NB_SW (by decide) a3 h3 h6⟩, WR1_same a1 (by decide) hr wf h1, fun P hP => WR1_other a1 (by decide) (by decide) (by decide) (a5 P hP), ?_, fun d hd => SHc_SW a1 (by decide) (a7 d hd)⟩
  rw [SW_io (fun l hl e => by have := wA_rng (b := b) (show 0 < 7 by decide) hl; omega)]
  exact a6
end CLSS
-- a day's beginning
def dayS (S : SP) (z : Int32) (l kd fg : Nat) : SP := (upN (upN S.1 3 0) 4 1, (fun k => if k = 0 then z else 0), S.2.2.1, S.2.2.2.1, (fun _ => (l, 0, [])), (fun _ => []), (fun _ => (kd, fg)))
theorem sn_dayS (S : SP) (z : Int32) (l kd fg k : Nat) : sn (dayS S z l kd fg) k = if k = 4 then 1 else if k = 3 then 0 else sn S k := by
  show upN (upN S.1 3 0) 4 1 k = _
  simp only [upN]
theorem WF_dayS {S : SP} (wf : WF S) {z : Int32} {l kd fg : Nat} (hl : l < sn S 0) (hk : kd < 7) (hf : fg < 10) : WF (dayS S z l kd fg) := by
  obtain ⟨⟨s1, s2, s3, s4, s5, s6, s7⟩, -, -⟩ := wf
  have hn : ∀ k, k ≠ 3 → k ≠ 4 → sn (dayS S z l kd fg) k = sn S k := fun k h3 h4 => by rw [sn_dayS, if_neg h4, if_neg h3]
  refine ⟨⟨?_, ?_, ?_, ?_, ?_, ?_, s7⟩, fun x hx => ?_, fun q => ?_⟩
  · rw [hn 0 (by decide) (by decide)]; exact s1
  · rw [hn 1 (by decide) (by decide)]; exact s2
  · rw [hn 2 (by decide) (by decide)]; exact s3
  · rw [sn_dayS, if_neg (by decide), if_pos rfl]; exact Nat.zero_le _
  · rw [sn_dayS, if_pos rfl]; exact ⟨Nat.le_refl _, by decide⟩
  · rw [hn 1 (by decide) (by decide), hn 0 (by decide) (by decide)]; exact s6
  · refine ⟨by rw [hn 0 (by decide) (by decide)]; exact hl, by show 0 ≤ 9; decide, Nat.zero_le _, fun t (ht : t ∈ ([] : List Nat)) => absurd ht List.not_mem_nil, fun _ t (ht : t ∈ ([] : List Nat)) => absurd ht List.not_mem_nil, hk, hf⟩
  · exact ⟨by show 0 ≤ 12; decide, fun _ => rfl, fun p (hp : p ∈ ([] : List (Nat × Nat))) => absurd hp List.not_mem_nil, List.Pairwise.nil⟩
section DAY
variable {b : Nat} {M : Mm} {w : Nat} {r : WR} {N : Nat}
theorem s_begin33 (h : LAY b M) (hw : w < 7) : ∀ (k i fu : Nat) (r : WR), i + k = 4 → k + 1 ≤ fu → ∃ r', l_X10_beginDay_33 N fu (wA b w 0) (nI i) (SW b M w r) = some ((), SW b M w r') ∧ (∀ q, q ≠ 0 → q ≠ 9 → r'.1 q = r.1 q) ∧ r'.2 = r.2 ∧ (∀ j, (j < 13 ∨ 16 < j) → r'.1 0 j = r.1 0 j) ∧ (∀ j, 13 ≤ j → j ≤ 16 → r'.1 0 j = 0) ∧ (∀ j, j < i → r'.1 9 j = r.1 9 j) ∧ ∀ j, i ≤ j → j < 4 → r'.1 9 j = 0 := by
  intro k
  induction k with
  | zero =>
    intro i fu r hi hf
    obtain ⟨fu, rfl, -⟩ := fuel_s hf
    show ∃ r', b_X10_beginDay_33 N (l_X10_beginDay_33 N fu) _ _ _ = _ ∧ _
    unfold b_X10_beginDay_33
    rw [q_gR h hw (l := 9) (by decide), q_alen h hw (l := 9) (by decide) rfl, show nI (kW 9).2 = nI 4 from rfl, if_pos (nI_le (by omega) (by omega)), q_pI h hw, q_pI h hw, q_pI h hw, q_pI h hw]
    refine ⟨_, rfl, fun q q0 q9 => by funext j; simp [up2, q0], rfl, fun j hj => ?_, fun j h1 h2 => ?_, fun j hj => by simp [up2], fun j h1 h2 => by omega⟩
    · simp only [up2, if_true]
      rw [if_neg (by omega), if_neg (by omega), if_neg (by omega), if_neg (by omega)]
    · rcases (show j = 13 ∨ j = 14 ∨ j = 15 ∨ j = 16 by omega) with rfl | rfl | rfl | rfl <;> simp [up2]
  | succ k ih =>
    intro i fu r hi hf
    obtain ⟨fu, rfl, hf2⟩ := fuel_s hf
    show ∃ r', b_X10_beginDay_33 N (l_X10_beginDay_33 N fu) _ _ _ = _ ∧ _
    unfold b_X10_beginDay_33
    rw [q_gR h hw (l := 9) (by decide), q_alen h hw (l := 9) (by decide) rfl, show nI (kW 9).2 = nI 4 from rfl, if_neg (nI_ge (by omega) (by omega)), q_gR h hw (l := 9) (by decide), q_ast h hw (l := 9) (by decide) rfl (inA_nI (by show i < 4; omega) (by decide)), nIc (by omega), nI_1]
    obtain ⟨r', e1, e2, e3, e4, e5, e6, e7⟩ := ih (i + 1) fu (up2 r.1 9 i 0, r.2) (by omega) (by omega)
    refine ⟨r', e1, fun q q0 q9 => by rw [e2 q q0 q9]; funext j; simp [up2, q9], e3, fun j hj => by rw [e4 j hj]; simp [up2], e5, fun j hj => ?_, fun j h1 h2 => ?_⟩
    · rw [e6 j (by omega)]
      simp [up2]; omega
    · by_cases hji : j = i
      · subst hji; rw [e6 j (by omega)]; simp [up2]
      · exact e7 j (by omega) h2
theorem k_beginDay {w1 : Nat} (h : LAY b M) (hw : w < 7) (hw1 : w1 < 7) (hne : w1 ≠ w) {S : SP} (hs : WRel M S (gW b M w1)) (wf : WF S) {q kd fg l : Nat} (hq : isRl M q kd fg) (hl : l < sn S 0) {z : Int32} (hN : 10 ≤ N) : ∃ r', f_X10_beginDay N (wA b w 0) (wA b w1 0) q (nI l) z (SW b M w r) = some ((), SW b M w r') ∧ WRel M (dayS S z l kd fg) r' ∧ r'.2 6 = r.2 6 := by
  have hL := wf.1.1
  have h5 := wf.1.2.1
  unfold f_X10_beginDay
  obtain ⟨r1, e1, c1, c2, c3, c4⟩ := k_becomeRiver (r := r) (N := N) h hw hw1 hne
  have hz0 : ∀ {κ : Option (Unit × Mm)} {v : Int32} {r : WR}, True := fun {_ _ _} => trivial
  unfold f_X1_begin
  rw [q_ck h hw, e1, bnd_one, q_pI h hw, q_pI h hw, q_gR h hw (l := 3) (by decide), q_bck h hw (l := 3) (Or.inl rfl), q_bpI h hw (l := 3) (Or.inl rfl), q_bpI h hw (l := 3) (Or.inl rfl), q_bpI h hw (l := 3) (Or.inl rfl), q_bpR h hw (l := 3) (Or.inl rfl), bnd_one, q_pZ h hw (Or.inl rfl)]
  obtain ⟨r', f1, f2, f3, f4, f5, f6, f7⟩ := s_begin33 (N := N) h hw 4 0 N (up2 (up2 (up2 (up2 (up2 (up2 r1.1 0 5 z) 0 6 0) 3 0 (nI l)) 3 1 0) 3 2 0) 0 9 0, upq r1.2 3 (some q)) rfl (by omega)
  rw [show nI 0 = (0 : Int32) from rfl] at f1
  obtain ⟨a1, a2, a3, a4, a5, a6⟩ := hs
  refine ⟨r', f1, ⟨⟨?_, ?_, ?_, ?_, ?_⟩, ⟨?_, ?_, ?_, ?_, ?_⟩, fun i hi => ?_, fun t k ht hk => ?_, fun x hx => ?_, fun l' hl' => ⟨?_, fun j p (hj : ([] : List (Nat × Nat))[j]? = some p) => by cases hj⟩⟩, ?_⟩
  · rw [f4 0 (by omega), sn_dayS, if_neg (by decide), if_neg (by decide), ← a1.1]; simp [up2, c1, gW]
  · rw [f4 2 (by omega), sn_dayS, if_neg (by decide), if_neg (by decide), ← a1.2.1]; simp [up2, c1, gW]
  · rw [f4 4 (by omega), sn_dayS, if_neg (by decide), if_neg (by decide), ← a1.2.2.1]; simp [up2, c1, gW]
  · rw [f4 6 (by omega), sn_dayS, if_neg (by decide), if_pos rfl]; simp [up2, nI_0]
  · rw [f4 9 (by omega), sn_dayS, if_pos rfl]; simp [up2, nI_0]
  · rw [f4 5 (by omega)]; simp [up2, dayS, sc]
  · rw [f5 13 (by omega) (by omega)]; rfl
  · rw [f5 14 (by omega) (by omega)]; rfl
  · rw [f5 15 (by omega) (by omega)]; rfl
  · rw [f5 16 (by omega) (by omega)]; rfl
  · rw [f2 1 (by decide) (by decide)]
    have := c2 1 (Or.inl rfl) i hi
    show up2 (up2 (up2 (up2 (up2 (up2 r1.1 0 5 z) 0 6 0) 3 0 (nI l)) 3 1 0) 3 2 0) 0 9 0 1 i = nI (sy S i)
    rw [← a3 i hi]
    simp [up2, this, gW]
  · rw [sn_dayS, if_neg (by decide), if_neg (by decide)] at ht
    rw [f2 2 (by decide) (by decide)]
    have := c2 2 (Or.inr rfl) (t * 5 + k) (by show _ < 25; omega)
    show up2 (up2 (up2 (up2 (up2 (up2 r1.1 0 5 z) 0 6 0) 3 0 (nI l)) 3 1 0) 3 2 0) 0 9 0 2 (t * 5 + k) = nI (sf S t k)
    rw [← a4 t k ht hk]
    simp [up2, this, gW]
  · rw [sn_dayS, if_pos rfl] at hx
    have hx0 : x = 0 := by omega
    subst hx0
    show BRel M (l, 0, []) (kd, fg) 3 r'
    unfold BRel
    refine ⟨?_, ?_, ?_, ?_, q, ?_, hq⟩
    · rw [f2 3 (by decide) (by decide)]; simp [up2]
    · rw [f2 3 (by decide) (by decide)]; simp [up2, nI_0]
    · rw [f2 3 (by decide) (by decide)]; simp [up2, nI_0]
    · intro j t hj; simp at hj
    · rw [f3]; simp [upq]
  · show r'.1 9 l' = nI 0
    rw [f7 l' (by omega) hl', nI_0]
  · rw [f3]; simp [upq, c4]
end DAY
