/-! The law: what holds between its iterations, and a call of both sides. -/
def MC (b : Nat) (M M' : Mm) : Prop := M'.1 = M.1 ∧ M'.2.2 = M.2.2 ∧ ∀ a, (a < b + 104 ∨ b + 116 ≤ a) → M'.2.1 a = M.2.1 a
def LIV (b : Nat) (M : Mm) : Prop := ∃ (S : SP) (pic : Option SP) (sh : Nat → SV), CLS b S pic sh M ∧ MLAY b M ∧ MDR S pic sh (gM b M) ∧ INV S pic ∧ GOOD b M ∧ M.1 (b + 116) = (2, 1)
section LAWP
variable {b : Nat} {M M' M2 : Mm} {S : SP} {pic : Option SP} {sh : Nat → SV} {r r' : Nat → Nat → Int32} {N : Nat}
theorem RM_MC (hl : MLAY b M) (h : MC b M M') : RM M M' := by
  intro q kd fg hq
  have n1 : q < b + 104 ∨ b + 116 ≤ q := by
    refine Decidable.byContradiction fun hh => ?_
    obtain ⟨p, hp, rfl⟩ : ∃ p, p < 12 ∧ q = mc b p := ⟨q - (b + 104), by omega, by unfold mc; omega⟩
    have h1 := hq.1
    rcases Nat.eq_zero_or_pos p with rfl | h0
    · rw [hl.1] at h1
      have : ∀ k, k < 7 → (16 : Nat) ≠ rtag k := by decide
      exact this kd hq.2.2.1 h1
    · rw [hl.2.1 p h0 hp] at h1
      have : ∀ k, k < 7 → (1 : Nat) ≠ rtag k := by decide
      exact this kd hq.2.2.1 h1
  exact ⟨by rw [h.1]; exact hq.1, by rw [h.2.2 q n1]; exact hq.2.1, hq.2.2⟩
theorem CLS_MC (hl : MLAY b M) (hc : CLS b S pic sh M) (h : MC b M M') : CLS b S pic sh M' := by
  obtain ⟨⟨hL, hX, hNB⟩, h0, hp, hf, hsh⟩ := hc
  have hR := RM_MC hl h
  have hi : ∀ w, w < 7 → ∀ l ∈ oks, M'.2.1 (wA b w l) = M.2.1 (wA b w l) := fun w hw l hl => by
    have := wA_rng (b := b) hw hl
    exact h.2.2 _ (Or.inl (by omega))
  have hq : ∀ w, w < 7 → ∀ l ∈ oks, ∀ k, M'.2.2.2.1 (wA b w l) k = M.2.2.2.1 (wA b w l) k := fun w hw l hl k => by rw [h.2.1]
  have hW : ∀ w P, w < 7 → WR1 b M w P → WR1 b M' w P := fun w P hw hh => by
    refine ⟨WRel_BC (WRel_M hR hh.1) hh.2.1 ⟨fun k _ => ?_, fun l hl j _ => ?_, fun l hl => ⟨fun k _ => ?_, ?_⟩⟩, hh.2.1, hh.2.2⟩
    · show M'.2.1 _ k = M.2.1 _ k
      rw [hi w hw 0 (by decide)]
    · show M'.2.1 _ j = M.2.1 _ j
      rw [hi w hw l (oks7 l hl)]
    · show M'.2.1 _ k = M.2.1 _ k
      rw [hi w hw l (by rcases hl with rfl | rfl <;> decide)]
    · exact hq w hw l (by rcases hl with rfl | rfl <;> decide) 4
  refine ⟨⟨?_, ?_, ?_⟩, hW 0 S (by decide) h0, fun P hP => hW 1 P (by decide) (hp P hP), ?_, fun d hd => ?_⟩
  · unfold LAY
    rw [h.1, h.2.1]
    exact hL
  · unfold CXL
    rw [h.1, h.2.1]
    exact hX
  · unfold NB
    rw [h.2.1]
    exact hNB
  · rw [h.2.2 b (Or.inl (by omega))]; exact hf
  · have hs := hsh d hd
    unfold SHc at hs ⊢
    rw [h.2.2 (b + 88 + 2 * d) (Or.inl (by omega)), h.2.2 (b + 89 + 2 * d) (Or.inl (by omega)), h.2.1]
    rcases hs with hs | ⟨g0, ⟨q, g1, g2⟩, g3⟩ | hs
    · exact Or.inl hs
    · exact Or.inr (Or.inl ⟨g0, ⟨q, g1, hR _ _ _ g2⟩, g3⟩)
    · exact Or.inr (Or.inr hs)
theorem MC_MW : MC b M (MW b M r) := ⟨rfl, rfl, fun a ha => by
  funext j
  show (if b + 104 ≤ a ∧ a < b + 116 then _ else _) = _
  rw [if_neg (by omega)]⟩
theorem MDR_g (h : ∀ p, p < 12 → r' p = r p) (hm : MDR S pic sh r) : MDR S pic sh r' := by
  obtain ⟨a1, a2, a3, a4, a5⟩ := hm
  refine ⟨by rw [h 1 (by decide)]; exact a1, fun P hP => by rw [h 2 (by decide)]; exact a2 P hP, by rw [h 0 (by decide)]; exact a3, by rw [h 0 (by decide)]; exact a4, fun d hd => ?_⟩
  have hs := a5 d hd
  unfold SHm at hs ⊢
  rw [h 5 (by decide), h 6 (by decide), h 7 (by decide), h 8 (by decide), h 9 (by decide), h 10 (by decide)]
  exact hs
theorem gM_MW {p : Nat} (hp : p < 12) : gM b (MW b M r) p = r p := by
  funext j
  show (MW b M r).2.1 (mc b p) j = _
  rw [MW_i hp]
theorem MW_own (h : ∀ p, p < 12 → M.2.1 (mc b p) = r p) : MW b M r = M := by
  obtain ⟨k, f, g⟩ := M
  have : (fun a j => if b + 104 ≤ a ∧ a < b + 116 then r (a - (b + 104)) j else f a j) = f := by
    funext a j
    by_cases ha : b + 104 ≤ a ∧ a < b + 116
    · rw [if_pos ha]
      have h1 : f (mc b (a - (b + 104))) = r (a - (b + 104)) := h _ (by omega)
      rw [← h1, show mc b (a - (b + 104)) = a by unfold mc; omega]
    · rw [if_neg ha]
  show (k, (fun a j => if b + 104 ≤ a ∧ a < b + 116 then r (a - (b + 104)) j else f a j), g) = _
  rw [this]
theorem mc_lt (hg : GOOD b M) {p : Nat} (hp : p < 12) : mc b p < nx M := by
  have := hg.1
  unfold mc
  omega
theorem MLAY_FR (hl : MLAY b M) (hg : GOOD b M) (hf : FR b M M') : MLAY b M' := by
  have k : ∀ p, p < 12 → M'.1 (mc b p) = M.1 (mc b p) ∧ M'.2.1 (mc b p) = M.2.1 (mc b p) ∧ M'.2.2.1 (mc b p) = M.2.2.1 (mc b p) ∧ M'.2.2.2.1 (mc b p) = M.2.2.2.1 (mc b p) := fun p hp => hf.2.1 _ (mc_lt hg hp) (Or.inr (by unfold mc; omega))
  refine ⟨by rw [(k 0 (by decide)).1]; exact hl.1, fun p h1 hp => by rw [(k p hp).1]; exact hl.2.1 p h1 hp, fun q hq => by rw [(k 0 (by decide)).2.2.2]; exact hl.2.2 q hq⟩
theorem LIV_of (hc : CLS b S pic sh M) (hl : MLAY b M) (hm : MDR S pic sh r) (hi : INV S pic) (hg : GOOD b M) (ho : M.1 (b + 116) = (2, 1)) : LIV b (MW b M r) :=
  ⟨S, pic, sh, CLS_MC hl hc MC_MW, hl, MDR_g (fun p hp => gM_MW hp) hm, hi, hg, ho⟩
theorem LIV_step {α : Type} {x : Option (α × Mm)} {y : Mm → Option (α × Mm)} (h : LIV b M) (hT : ∀ S pic sh r M2, CLS b S pic sh M → GOOD b M → MLAY b M2 → MDR S pic sh r → INV S pic → AGREE b M M2 x (y (MW b M2 r))) :
    ∃ (v : α) (Mc Mt : Mm), x = some (v, Mc) ∧ y Mc = some (v, Mt) ∧ LIV b Mt ∧ (Mc.1 (mc b 0)).1 = 12 + 4 := by
  obtain ⟨S, pic, sh, hc, hl, hm, hi, hg, ho⟩ := h
  obtain ⟨v, S1, pic1, sh1, M1, r1, e1, e2, c1, f1, m1, i1⟩ := hT S pic sh (gM b M) M hc hg hl hm hi
  have hl1 := MLAY_FR hl hg f1
  have hg1 := GOOD_FR hg f1
  have ho1 : M1.1 (b + 116) = (2, 1) := by
    have := hg.1
    rw [(f1.2.1 (b + 116) (by omega) (Or.inr (by omega))).1]; exact ho
  obtain ⟨v2, S2, pic2, sh2, M3, r2, d1, d2, c2, f2, m2, i2⟩ := hT S pic sh (gM b M) M1 hc hg hl1 hm hi
  have heq := d1.symm.trans e1
  cases heq
  have hown : MW b M1 (gM b M) = M1 := MW_own fun p hp => by
    rw [(f1.2.1 (mc b p) (mc_lt hg hp) (Or.inr (by unfold mc; omega))).2.1]
    rfl
  rw [hown] at d2
  exact ⟨v, M1, MW b M1 r2, e1, d2, LIV_of c2 hl1 m2 i2 hg1 ho1, hl1.1⟩
theorem LIV_k (h : LIV b M) : (M.1 b).1 = 11 + 4 := by
  obtain ⟨S, pic, sh, hc, -⟩ := h
  exact hc.1.2.1.1
theorem LIV_adv {k : Nat} (h : LIV b M) : LIV b (adv M k) := by
  obtain ⟨S, pic, sh, hc, hl, hm, hi, hg, ho⟩ := h
  exact ⟨S, pic, sh, hc, hl, hm, hi, ⟨Nat.le_trans hg.1 (Nat.le_add_right _ _), fun a ha => hg.2 a (Nat.le_trans (Nat.le_add_right _ _) ha)⟩, ho⟩
end LAWP
