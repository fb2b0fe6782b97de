/-! keep, row, put. -/
def upS (sh : Nat → SV) (d : Nat) (v : SV) : Nat → SV := fun d' => if d' = d then v else sh d'
section SHELF
variable {b : Nat} {M M2 : Mm} {S : SP} {pic : Option SP} {sh : Nat → SV} {r : Nat → Nat → Int32} {N : Nat}
/-- memory as it was but for shelf d's own cells -/
def SD (b d : Nat) (M M' : Mm) : Prop := M'.1 = M.1 ∧ M'.2.2.1 = M.2.2.1 ∧ nx M' = nx M ∧ (∀ a, a ≠ b + 88 + 2 * d → a ≠ b + 89 + 2 * d → M'.2.1 a = M.2.1 a) ∧ ∀ a k, (a ≠ b + 88 + 2 * d ∨ k ≠ 0) → M'.2.2.2.1 a k = M.2.2.2.1 a k
theorem SD_refl {d : Nat} : SD b d M M := ⟨rfl, rfl, rfl, fun _ _ _ => rfl, fun _ _ _ => rfl⟩
theorem SD_trans {d : Nat} {M' M'' : Mm} (h1 : SD b d M M') (h2 : SD b d M' M'') : SD b d M M'' := ⟨h2.1.trans h1.1, h2.2.1.trans h1.2.1, h2.2.2.1.trans h1.2.2.1, fun a h3 h4 => (h2.2.2.2.1 a h3 h4).trans (h1.2.2.2.1 a h3 h4), fun a k h => (h2.2.2.2.2 a k h).trans (h1.2.2.2.2 a k h)⟩
theorem SD_i {d a k : Nat} {v : Int32} (h : a = b + 88 + 2 * d ∨ a = b + 89 + 2 * d) : SD b d M (sI M a k v) := ⟨rfl, rfl, rfl, fun a' h1 h2 => sI_oo (by omega), fun _ _ _ => rfl⟩
theorem SD_r {d : Nat} {v : Option Nat} : SD b d M (sR M (b + 88 + 2 * d) 0 v) := ⟨rfl, rfl, rfl, fun _ _ _ => rfl, fun a k h => by
  show up2 M.2.2.2.1 (b + 88 + 2 * d) 0 v a k = _
  simp only [up2]
  split
  · rw [if_neg (by omega)]
  · rfl⟩
theorem FR_SD {d : Nat} {M' : Mm} (hd : d < 8) (h : SD b d M M') : FR b M M' := ⟨Nat.le_of_eq h.2.2.1.symm, fun a _ hb => ⟨by rw [h.1], h.2.2.2.1 a (by omega) (by omega), by rw [h.2.1], by funext k; exact h.2.2.2.2 a k (Or.inl (by omega))⟩, fun a _ => by rw [h.1]⟩
theorem RM_SD (hX : CXL b M) {d : Nat} (hd : d < 8) {M' : Mm} (h : SD b d M M') : RM M M' := by
  intro q kd fg hq
  have h8 := (hX.2.2.2 d hd).2.1
  have h9 := (hX.2.2.2 d hd).2.2.2
  have n1 : q ≠ b + 88 + 2 * d := by
    rintro rfl
    have h1 := hq.1
    rw [h8] at h1
    have : ∀ k, k < 7 → (11 : Nat) ≠ rtag k := by decide
    exact this kd hq.2.2.1 h1
  have n2 : q ≠ b + 89 + 2 * d := by
    rintro rfl
    have h1 := hq.1
    rw [h9] at h1
    have : ∀ k, k < 7 → (1 : Nat) ≠ rtag k := by decide
    exact this kd hq.2.2.1 h1
  exact ⟨by rw [h.1]; exact hq.1, by rw [h.2.2.2.1 q n1 n2]; exact hq.2.1, hq.2.2⟩
theorem CLS_SD (hc : CLS b S pic sh M) {d : Nat} (hd : d < 8) {M' : Mm} (h : SD b d M M') {v : SV} (hv : SHc b M' d v) : CLS b S pic (upS sh d v) M' := by
  obtain ⟨⟨hL, hX, hNB⟩, h0, hp, hf, hsh⟩ := hc
  have hR := RM_SD hX hd h
  have hi : ∀ w, w < 7 → ∀ l ∈ oks, M'.2.1 (wA b w l) = M.2.1 (wA b w l) := fun w hw l hl => by
    have := wA_rng (b := b) hw hl
    exact h.2.2.2.1 _ (by omega) (by omega)
  have hq : ∀ w, w < 7 → ∀ l ∈ oks, ∀ k, M'.2.2.2.1 (wA b w l) k = M.2.2.2.1 (wA b w l) k := fun w hw l hl k => by
    have := wA_rng (b := b) hw hl
    exact h.2.2.2.2 _ _ (Or.inl (by omega))
  have hW : ∀ w P, w < 7 → WR1 b M w P → WR1 b M' w P := fun w P hw hh => by
    refine ⟨WRel_BC (WRel_M hR hh.1) hh.2.1 ⟨fun k _ => ?_, fun l hl j _ => ?_, fun l hl => ⟨fun k _ => ?_, ?_⟩⟩, hh.2.1, hh.2.2⟩
    · show M'.2.1 _ k = M.2.1 _ k
      rw [hi w hw 0 (by decide)]
    · show M'.2.1 _ j = M.2.1 _ j
      rw [hi w hw l (oks7 l hl)]
    · show M'.2.1 _ k = M.2.1 _ k
      rw [hi w hw l (by rcases hl with rfl | rfl <;> decide)]
    · exact hq w hw l (by rcases hl with rfl | rfl <;> decide) 4
  refine ⟨⟨?_, ?_, ?_⟩, hW 0 S (by decide) h0, fun P hP => hW 1 P (by decide) (hp P hP), ?_, fun d' hd' => ?_⟩
  · exact LAY_of hL h.1 (fun w hw => ⟨fun k _ => ⟨hq w hw 3 (by decide) k, hq w hw 6 (by decide) k⟩, fun k => hq w hw 0 (by decide) k⟩)
  · obtain ⟨x1, x2, x3, x4⟩ := hX
    refine ⟨by rw [h.1]; exact x1, ?_, by rw [h.1, h.2.2.2.2 (b + 85) 5 (Or.inl (by omega))]; exact x3, fun d' hd' => ?_⟩
    · rw [h.2.2.2.2 b 0 (Or.inl (by omega)), h.2.2.2.2 b 1 (Or.inl (by omega)), h.2.2.2.2 b 3 (Or.inl (by omega)), h.2.2.2.2 b 4 (Or.inl (by omega)), h.2.2.2.2 b 5 (Or.inl (by omega))]
      exact x2
    · rw [h.1, h.2.2.2.2 (b + 87) _ (Or.inl (by omega)), h.2.2.2.2 _ 3 (Or.inr (by decide))]
      exact x4 d' hd'
  · intro w hw l hl
    rw [hq w hw l (by rcases hl with rfl | rfl <;> decide)]
    exact hNB w hw l hl
  · rw [h.2.2.2.1 b (by omega) (by omega)]; exact hf
  · unfold upS
    by_cases hdd : d' = d
    · subst hdd; rw [if_pos rfl]; exact hv
    · rw [if_neg hdd]
      have hs := hsh d' hd'
      unfold SHc at hs ⊢
      rw [h.2.2.2.1 _ (by omega) (by omega), h.2.2.2.1 _ (by omega) (by omega), h.2.2.2.2 _ _ (Or.inl (by omega))]
      rcases hs with hs | ⟨g0, ⟨q, g1, g2⟩, g3⟩ | hs
      · exact Or.inl hs
      · exact Or.inr (Or.inl ⟨g0, ⟨q, g1, hR _ _ _ g2⟩, g3⟩)
      · exact Or.inr (Or.inr hs)
theorem c_clear (hX : CXL b M) {d : Nat} (hd : d < 8) : ∃ M', f_X7_clear N (b + 88 + 2 * d) M = some ((), M') ∧ SD b d M M' ∧ M'.2.2.2.1 (b + 88 + 2 * d) 0 = none ∧ M'.2.1 (b + 88 + 2 * d) 1 = -2 := by
  have h8 := (hX.2.2.2 d hd).2.1
  unfold f_X7_clear
  have e1 : ∀ (M : Mm) (v : Option Nat) (κ : Mm → Option (Unit × Mm)), (M.1 (b + 88 + 2 * d)).1 = 11 → pR 7 M (b + 88 + 2 * d) 0 v κ = κ (sR M (b + 88 + 2 * d) 0 v) := fun M v κ h => if_pos h
  have e2 : ∀ (M : Mm) (k : Nat) (v : Int32) (κ : Mm → Option (Unit × Mm)), (M.1 (b + 88 + 2 * d)).1 = 11 → pI 7 M (b + 88 + 2 * d) k v κ = κ (sI M (b + 88 + 2 * d) k v) := fun M k v κ h => if_pos h
  rw [e1 M none _ h8, e2 (sR M (b + 88 + 2 * d) 0 none) 1 _ _ h8, e2 (sI (sR M (b + 88 + 2 * d) 0 none) (b + 88 + 2 * d) 1 (-2)) 2 _ _ h8]
  refine ⟨_, rfl, SD_trans SD_r (SD_trans (SD_i (Or.inl rfl)) (SD_i (Or.inl rfl))), ?_, ?_⟩
  · simp [sI, sR, up2]
  · simp [sI, sR, up2]
theorem MDR_sh (hm : MDR S pic sh r) {d : Nat} {v : SV} {r' : Nat → Nat → Int32} (hd : d < 8) (h : ∀ p, p ∈ [0, 1, 2] → r' p = r p) (ho : ∀ d', d' < 8 → d' ≠ d → (∀ p, p ∈ [5, 6, 7, 9, 10] → r' p d' = r p d') ∧ ∀ i, i < 100 → r' 8 (100 * d' + i) = r 8 (100 * d' + i)) (hv : SHm r' d v) : MDR S pic (upS sh d v) r' := by
  obtain ⟨a1, a2, a3, a4, a5⟩ := hm
  refine ⟨by rw [h 1 (by decide)]; exact a1, fun P hP => by rw [h 2 (by decide)]; exact a2 P hP, by rw [h 0 (by decide)]; exact a3, by rw [h 0 (by decide)]; exact a4, fun d' hd' => ?_⟩
  unfold upS
  by_cases hdd : d' = d
  · subst hdd; rw [if_pos rfl]; exact hv
  · rw [if_neg hdd]
    obtain ⟨o1, o2⟩ := ho d' hd' hdd
    have hs := a5 d' hd'
    unfold SHm at hs ⊢
    rw [o1 5 (by decide), o1 6 (by decide), o1 7 (by decide), o1 9 (by decide), o1 10 (by decide)]
    rcases hs with hs | hs | ⟨g0, g1, g2, g3, g4, g5, g6⟩
    · exact Or.inl hs
    · exact Or.inr (Or.inl hs)
    · exact Or.inr (Or.inr ⟨g0, g1, g2, g3, g4, g5, fun i hi => by rw [o2 i hi]; exact g6 i hi⟩)
end SHELF
