/-! What holds at the start. -/
section START2
variable {M M' : Mm} {N b : Nat}
def CM1 (b : Nat) (M : Mm) : Prop := (∀ w, w < 7 → M.1 (b + oW w) = (14, 0) ∧ WN M (b + oW w) (b + pW w) (oN b w)) ∧ ((M.1 b).1 = 15 ∧ (M.2.2.2.1 b 0 = some (b + 1) ∧ M.2.2.2.1 b 1 = some (b + 13) ∧ M.2.2.2.1 b 3 = some (b + 25) ∧ M.2.2.2.1 b 4 = some (b + 85) ∧ M.2.2.2.1 b 5 = some (b + 87)) ∧ M.2.1 b 2 = 0) ∧ ((M.1 (b + 85)).1 = 9 ∧ M.2.2.2.1 (b + 85) 5 = some (b + 86) ∧ M.1 (b + 86) = (1, 5) ∧ M.1 (b + 87) = (3, 8)) ∧ ∀ d, d < 8 → SFm M b d
theorem ow_lt : ∀ w, w < 7 → oW w < 30 ∧ pW w + 10 < 85 := by decide
theorem CM1_keep (hk : ∀ q, q < b + 104 → SQ M M' q) (h : CM1 b M) : CM1 b M' := by
  obtain ⟨h1, h2, h3, h4⟩ := h
  have k0 := hk b (by omega)
  have k85 := hk (b + 85) (by omega)
  refine ⟨fun w hw => ?_, ?_, ?_, fun d hd => ?_⟩
  · obtain ⟨a1, a2⟩ := h1 w hw
    obtain ⟨z1, z2⟩ := ow_lt w hw
    exact ⟨by rw [(hk _ (by omega)).1]; exact a1, WN_keep (fun q hq => hk q (by rcases hq with rfl | hq <;> omega)) a2⟩
  · rw [k0.1, k0.2.2, k0.2.1]; exact h2
  · rw [k85.1, k85.2.2, (hk (b + 86) (by omega)).1, (hk (b + 87) (by omega)).1]; exact h3
  · have a := h4 d hd
    unfold SFm at a ⊢
    rw [(hk (b + 87) (by omega)).2.2, (hk (b + 88 + 2 * d) (by omega)).1, (hk (b + 88 + 2 * d) (by omega)).2.2, (hk (b + 88 + 2 * d) (by omega)).2.1, (hk (b + 89 + 2 * d) (by omega)).1]
    exact a
theorem wA_0 {w : Nat} : wA b w 0 = b + oW w := rfl
theorem wA_s {w l : Nat} : wA b w (l + 1) = b + pW w + l := by
  show b + (pW w + l) = _
  omega
theorem CLS_CM1 (h : CM1 b M) : CLS b S00 none (fun _ => (0, 0, 0, fun _ => 0)) M := by
  obtain ⟨h1, ⟨h2, ⟨r0, r1, r3, r4, r5⟩, h2'⟩, ⟨x1, x2, x3, x4⟩, h4⟩ := h
  refine ⟨⟨fun w hw => ?_, ⟨h2, ⟨r0, r1, r3, r4, r5⟩, ⟨⟨x1, x2⟩, x3, x4⟩, fun d hd => ?_⟩, fun w hw l hl => ?_⟩, ⟨?_, WF_S00, rfl⟩, fun P hP => (by cases hP), h2', fun d hd => ?_⟩
  · obtain ⟨a1, ⟨⟨k0, k1, k2, k3, k4⟩, k5, k6, k7, k8, k9, k10⟩, ⟨⟨f1, f3, f7, f8⟩, f10, f11, f12, f17⟩, ⟨⟨g1, g2⟩, g3, g4⟩, -⟩ := h1 w hw
    refine ⟨fun l hl => ?_, fun q hq => ?_, ⟨?_, ?_⟩, ?_⟩
    · rcases (by simpa [oks] using hl : l = 0 ∨ l = 1 ∨ l = 2 ∨ l = 3 ∨ l = 4 ∨ l = 6 ∨ l = 7 ∨ l = 9 ∨ l = 10 ∨ l = 11) with rfl | rfl | rfl | rfl | rfl | rfl | rfl | rfl | rfl | rfl
      · exact a1
      · rw [wA_s (l := 0)]; exact k0
      · rw [wA_s (l := 1)]; exact k1
      · rw [wA_s (l := 2)]; exact k2
      · rw [wA_s (l := 3)]; exact k3
      · rw [wA_s (l := 5)]; exact k5
      · rw [wA_s (l := 6)]; exact k6
      · rw [wA_s (l := 8)]; exact k8
      · rw [wA_s (l := 9)]; exact k9
      · rw [wA_s (l := 10)]; exact k10
    · rcases (by simpa [refsW] using hq : q = (1, 1) ∨ q = (3, 2) ∨ q = (7, 3) ∨ q = (8, 6) ∨ q = (10, 9) ∨ q = (11, 10) ∨ q = (12, 11)) with rfl | rfl | rfl | rfl | rfl | rfl | rfl
      · rw [wA_0, wA_s (l := 0)]; exact f1
      · rw [wA_0, wA_s (l := 1)]; exact f3
      · rw [wA_0, wA_s (l := 2)]; exact f7
      · rw [wA_0, wA_s (l := 5)]; exact f8
      · rw [wA_0, wA_s (l := 8)]; exact f10
      · rw [wA_0, wA_s (l := 9)]; exact f11
      · rw [wA_0, wA_s (l := 10)]; exact f12
    · rw [wA_s (l := 2), wA_s (l := 3)]; exact g1
    · rw [wA_s (l := 5), wA_s (l := 6)]; exact g3
    · rw [wA_0]; exact f17
  · obtain ⟨a1, a2, a3, a4, -, -⟩ := h4 d hd
    exact ⟨a1, a2, a3, a4⟩
  · obtain ⟨-, -, -, ⟨⟨-, g2⟩, -, g4⟩, -⟩ := h1 w hw
    rcases hl with rfl | rfl
    · exact ⟨_, by rw [wA_s (l := 2)]; exact g2⟩
    · exact ⟨_, by rw [wA_s (l := 5)]; exact g4⟩
  · obtain ⟨a1, ⟨⟨k0, k1, k2, k3, k4⟩, -⟩, -, ⟨⟨g1, g2⟩, -⟩, ⟨⟨i0, i2, i4, i5, i6⟩, i9, i13, i14, i15, i16⟩, iw, ⟨b0, b1, b2⟩, br, -, iq⟩ := h1 0 (by decide)
    refine ⟨⟨i0, i2, i4, i6, i9⟩, ⟨i5, i13, i14, i15, i16⟩, fun i hi => ?_, fun t k ht => absurd ht (Nat.not_lt_zero _), fun x hx => ?_, fun l hl => ⟨?_, fun j p hp => by cases hp⟩⟩
    · show M.2.1 (wA b 0 1) i = 3
      rw [wA_s (l := 0)]; exact iw i hi
    · obtain rfl : x = 0 := by have : x < 1 := hx; omega
      refine ⟨?_, ?_, ?_, fun j t ht => (by cases ht), b + pW 0 + 4, ?_, ?_, ?_, ?_, ?_⟩
      · show M.2.1 (wA b 0 3) 0 = _
        rw [wA_s (l := 2)]; exact b0
      · show M.2.1 (wA b 0 3) 1 = _
        rw [wA_s (l := 2)]; exact b1
      · show M.2.1 (wA b 0 3) 2 = _
        rw [wA_s (l := 2)]; exact b2
      · show M.2.2.2.1 (wA b 0 3) 4 = _
        rw [wA_s (l := 2)]; exact g2
      · rw [k4]; rfl
      · exact br
      · show 0 < 7; decide
      · show 0 < 10; decide
    · show M.2.1 (wA b 0 9) l = _
      rw [wA_s (l := 8)]; exact iq l
  · obtain ⟨-, -, -, -, a5, a6⟩ := h4 d hd
    exact Or.inl ⟨rfl, a5, a6⟩
def M00 (b : Nat) : Mm := (fun _ => (0, 0), fun _ _ => 0, fun _ _ => 0, fun _ _ => none, b)
/-- both made, and the long that the law keeps -/
theorem z_start {Mc Md : Mm} (hC : CM1 b Mc) (hcx : nx Mc = b + 104) (hc0 : ∀ q, b + 104 ≤ q → (Mc.1 q).1 = 0) (hd1 : nx Md = b + 116) (hd2 : MLAY b Md) (hd3 : KRel K0 S00 (gM b Md 1)) (hd4 : ∀ j, gM b Md 0 j = 0) (hd5 : ∀ j, gM b Md 5 j = 0) (hd6 : ∀ q, q < b + 104 → SQ (nw Mc 16 0) Md q) (hd7 : ∀ q, b + 116 ≤ q → Md.1 q = (nw Mc 16 0).1 q) : LIV b (nw Md 2 1) := by
  obtain ⟨u1, u2, u3, u4⟩ := nw_f (M := Mc) (t := 16) (k := 0)
  rw [hcx] at u1 u2 u3 u4
  obtain ⟨v1, v2, v3, v4⟩ := nw_f (M := Md) (t := 2) (k := 1)
  rw [hd1] at v1 v2 v3 v4
  have hk : ∀ q, q < b + 104 → SQ Mc (nw Md 2 1) q := fun q hq => SQ_tr (u2 q hq) (SQ_tr (hd6 q hq) (v2 q (by omega)))
  have hg : ∀ p, p < 12 → gM b (nw Md 2 1) p = gM b Md p := fun p hp => (v2 (mc b p) (by unfold mc; omega)).2.1
  refine ⟨S00, none, fun _ => (0, 0, 0, fun _ => 0), CLS_CM1 (CM1_keep hk hC), ?_, ?_, INV_S00, ⟨by omega, fun a ha => ?_⟩, v3⟩
  · have k : ∀ p, p < 12 → SQ Md (nw Md 2 1) (mc b p) := fun p hp => v2 (mc b p) (by unfold mc; omega)
    refine ⟨by rw [(k 0 (by decide)).1]; exact hd2.1, fun p h1 hp => by rw [(k p hp).1]; exact hd2.2.1 p h1 hp, fun q hq => by rw [(k 0 (by decide)).2.2]; exact hd2.2.2 q hq⟩
  · refine ⟨by rw [hg 1 (by decide)]; exact hd3, fun P hP => (by cases hP), by rw [hg 0 (by decide)]; exact hd4 10, by rw [hg 0 (by decide)]; exact hd4 18, fun d hd => Or.inl ⟨rfl, by rw [hg 5 (by decide)]; exact hd5 d⟩⟩
  · rw [v1] at ha
    rw [v4 a (by omega), hd7 a (by omega), u4 a (by omega)]
    exact hc0 a (by omega)
end START2
