/-! put. -/
def cut (s : Nat) (v : Int32) : Int32 := if s = 0 then Int8.toInt32 (Int32.toInt8 v) else if s = 1 then Int16.toInt32 (Int32.toInt16 v) else v
theorem cutE {ρ : Type} {s : Nat} {z : Int32} (hs : s < 3) (F : Int32 → ρ) : (if nI s = 0 then F (Int8.toInt32 (Int32.toInt8 z)) else if nI s = 1 then F (Int16.toInt32 (Int32.toInt16 z)) else F z) = F (cut s z) := by
  unfold cut
  rcases (show s = 0 ∨ s = 1 ∨ s = 2 by omega) with rfl | rfl | rfl
  · rw [if_pos (show nI 0 = 0 from rfl)]; rfl
  · rw [if_neg (show ¬ nI 1 = 0 by decide), if_pos (show nI 1 = 1 from rfl)]; rfl
  · rw [if_neg (show ¬ nI 2 = 0 by decide), if_neg (show ¬ nI 2 = 1 by decide)]; rfl
section PUT
variable {b : Nat} {M M2 : Mm} {S : SP} {pic : Option SP} {sh : Nat → SV} {r : Nat → Nat → Int32} {N : Nat}
theorem T_put (hc : CLS b S pic sh M) (hl : MLAY b M2) (hm : MDR S pic sh r) (hi : INV S pic) (x y z : Int32) : AGREE b M M2 (f_X11_put N b x y z M) (f_X12_put N (mc b 0) x y z (MW b M2 r)) := by
  obtain ⟨⟨hL, hX, hNB⟩, -, -, -, hsh⟩ := id hc
  have hrs := row_split (N := N) hc hl hm x 3 (by decide)
  simp only [if_true] at hrs
  rcases hrs with ⟨d, hd, rfl, h2, -, e1, e2, e3⟩ | ⟨c, o, hc0, e1, e2, e3⟩
  · obtain ⟨x1, x2, x3, x4⟩ := hX.2.2.2 d hd
    have hs := hsh d hd
    have ht := hm.2.2.2.2 d hd
    rcases hs with ⟨g0, -⟩ | ⟨g0, -⟩ | ⟨-, g1, g2, g3, g4, g5, g6⟩
    · omega
    · omega
    rcases ht with ⟨g0, -⟩ | ⟨g0, -⟩ | ⟨-, t1, t2, t3, t4, t5, t6⟩
    · omega
    · omega
    have hcl : f_X11_put N b (nI d) y z M = bnd (f_X7_write N (b + 88 + 2 * d) y z M) (fun v7 M8 => if v7 = 0 then some (-13, M8) else some (0, M8)) := by
      unfold f_X11_put onn
      rw [d_ck hX, e1, bnd_one, d_ck hX, e2, bnd_one, Option.elim_some, if_pos rfl, d_ck7 hX hd]
    have hmo : f_X12_put N (mc b 0) (nI d) y z (MW b M2 r) = if 0 ≤ y ∧ y ≤ nI (sh d).2.2.1 - 1 then ast (MW b M2 r) (mc b 8) (nI 100 * nI d + y) (cut (sh d).2.1 z) (fun M1 => some (0, M1)) else some (-13, MW b M2 r) := by
      unfold f_X12_put j_X12_put_77
      rw [n_ck hl, e3, bnd_one, if_pos rfl, n_gR hl (p := 7) (by decide), n_ald hl (by decide) (by decide) hd, t3, m_isIn y 0 (nI (sh d).2.2.1 - 1) 0 _ rfl rfl, bnd_one, b32_if]
      by_cases hy : 0 ≤ y ∧ y ≤ nI (sh d).2.2.1 - 1
      · rw [if_pos hy, if_pos hy, n_gR hl (p := 8) (by decide), n_gR hl (p := 6) (by decide), n_ald hl (by decide) (by decide) hd, t2, n_gR hl (p := 6) (by decide), n_ald hl (by decide) (by decide) hd, t2]
        exact cutE t4 (fun v => ast (MW b M2 r) (mc b 8) (100 * nI d + y) v (fun M1 => some (0, M1)))
      · rw [if_neg hy, if_neg hy]
    by_cases hy : 0 ≤ y ∧ y < nI (sh d).2.2.1
    · obtain ⟨i, hi2, rfl⟩ := in_nat hy.1 hy.2 (by omega)
      have hSD : SD b d M (sI M (b + 89 + 2 * d) i (cut (sh d).2.1 z)) := SD_i (Or.inr rfl)
      have hne : b + 88 + 2 * d ≠ b + 89 + 2 * d := by omega
      refine ⟨0, S, pic, upS sh d (2, (sh d).2.1, (sh d).2.2.1, upN (sh d).2.2.2 i (cut (sh d).2.1 z)), sI M (b + 89 + 2 * d) i (cut (sh d).2.1 z), up2 r 8 (100 * d + i) (cut (sh d).2.1 z), ?_, ?_, CLS_SD hc hd hSD (Or.inr (Or.inr ⟨rfl, g1, by rw [sI_oo hne]; exact g2, by rw [sI_oo hne]; exact g3, g4, g5, fun j hj => ?_⟩)), FR_SD hd hSD, MDR_sh hm hd (fun p hp => ?_) (fun d' hd' hne => ⟨fun p hp => ?_, fun j hj => ?_⟩) (Or.inr (Or.inr ⟨rfl, ?_, ?_, ?_, t4, t5, fun j hj => ?_⟩)), hi⟩
      · rw [hcl]
        unfold f_X7_write j_X7_write_45 f_X11_change
        have q1 : ∀ κ : Nat → Option (Int32 × Mm), gR 7 M (b + 88 + 2 * d) 3 κ = κ (b + 89 + 2 * d) := fun κ => by unfold gR; rw [if_pos x2, x3]; rfl
        have q2 : ∀ (v : Int32) (κ : Mm → Option (Unit × Mm)), ast M (b + 89 + 2 * d) (nI i) v κ = κ (sI M (b + 89 + 2 * d) i v) := fun v κ => by
          unfold ast
          rw [if_pos ⟨by rw [x4], by rw [x4]; exact inA_nI (by omega) (by decide)⟩, nIc (by omega)]
        have q3 : ∀ κ : Int32 → Option (Unit × Mm), alen M (b + 89 + 2 * d) κ = κ (nI 100) := fun κ => by unfold alen; rw [if_pos (Or.inl (by rw [x4])), x4]
        rw [if_neg (nI_neg (by omega)), d_gI7 hX hd, g3, if_pos hy.2, q1, d_gI7 hX hd, g2, d_gI7 hX hd, g2]
        have q4 : ∀ v, (if nI i < 0 then some ((), M) else alen M (b + 89 + 2 * d) (fun v2 => if v2 ≤ nI i then some ((), M) else ast M (b + 89 + 2 * d) (nI i) v (fun M3 => some ((), M3)))) = some ((), sI M (b + 89 + 2 * d) i v) := fun v => by
          rw [if_neg (nI_neg (by omega)), q3, if_neg (nI_ge (by omega) (by decide)), q2]
        rw [cutE g4 (fun v => bnd (if nI i < 0 then some ((), M) else alen M (b + 89 + 2 * d) (fun v2 => if v2 ≤ nI i then some ((), M) else ast M (b + 89 + 2 * d) (nI i) v (fun M3 => some ((), M3)))) (fun _ M2 => some ((1 : Int32), M2)))]
        rw [q4]
        rfl
      · rw [hmo, if_pos ⟨hy.1, (le_iff_predlt (by omega) (by omega)).mpr hy.2⟩, pk_mul, nI_add, n_ast hl (by decide) (by decide) (show 100 * d + i < 800 by omega)]
      · show (sI M (b + 89 + 2 * d) i (cut (sh d).2.1 z)).2.1 (b + 89 + 2 * d) j = upN (sh d).2.2.2 i (cut (sh d).2.1 z) j
        simp only [sI, up2, upN, if_true]
        split
        · rfl
        · exact g6 j hj
      · have hp3 : p < 3 := by revert hp; revert p; decide
        funext j
        simp only [up2]
        rw [if_neg (by omega)]
      · have hp8 : p ≠ 8 := by rintro rfl; revert hp; decide
        simp only [up2, if_neg hp8]
      · simp only [up2, if_true]
        rw [if_neg (by omega)]
      · simp only [up2]; exact t1
      · simp only [up2]; exact t2
      · simp only [up2]; exact t3
      · show up2 r 8 (100 * d + i) (cut (sh d).2.1 z) 8 (100 * d + j) = upN (sh d).2.2.2 i (cut (sh d).2.1 z) j
        simp only [up2, upN, if_true]
        by_cases hji : j = i
        · rw [if_pos (by rw [hji]), if_pos hji]
        · rw [if_neg (by omega), if_neg hji]; exact t6 j hj
    · refine AGREE_same hc hm hi (-13) ?_ ?_
      · rw [hcl]
        unfold f_X7_write
        by_cases h0 : y < 0
        · rw [if_pos h0, bnd_one, if_pos rfl]
        · rw [if_neg h0, d_gI7 hX hd, g3, if_neg (fun q => hy ⟨Int32.not_lt.mp h0, q⟩), bnd_one, if_pos rfl]
      · rw [hmo, if_neg]
        rintro ⟨q1, q2⟩
        by_cases hz : (sh d).2.2.1 = 0
        · rw [hz] at q2
          exact absurd (Int32.le_trans q1 q2) (by decide)
        · exact hy ⟨q1, (le_iff_predlt (by omega) (by omega)).mp q2⟩
  · refine AGREE_same hc hm hi c ?_ ?_
    · unfold f_X11_put onn
      rw [d_ck hX, e1, bnd_one, d_ck hX, e2, bnd_one]
      simp only [if_neg hc0]
      cases o <;> rfl
    · unfold f_X12_put
      rw [n_ck hl, e3, bnd_one, if_neg hc0]
end PUT
