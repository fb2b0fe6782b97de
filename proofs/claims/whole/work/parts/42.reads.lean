/-! The calls that only read. -/
theorem in_nat {x : Int32} {n : Nat} (h0 : 0 ≤ x) (h1 : x < nI n) (hn : n < 2 ^ 31) : ∃ i, i < n ∧ x = nI i := by
  obtain ⟨j, hj, rfl⟩ := nI_of (Int32.not_lt.mpr h0)
  exact ⟨j, (nI_ltI hj hn).mp h1, rfl⟩
theorem in_nat2 {x m : Int32} {n : Nat} (h0 : 0 ≤ x) (h1 : x ≤ m) (hm : m = nI n) (hn : n < 2 ^ 31) : ∃ i, i ≤ n ∧ x = nI i := by
  obtain ⟨j, hj, rfl⟩ := nI_of (Int32.not_lt.mpr h0)
  subst hm
  exact ⟨j, (nI_leI hj hn).mp h1, rfl⟩
section READS
variable {b : Nat} {M M2 : Mm} {S : SP} {pic : Option SP} {sh : Nat → SV} {r : Nat → Nat → Int32} {N : Nat}
theorem T_minutes (hc : CLS b S pic sh M) (hl : MLAY b M2) (hm : MDR S pic sh r) (hi : INV S pic) (x y : Int32) : AGREE b M M2 (f_X11_minutes N b x y M) (f_X12_minutes N (mc b 0) x y (MW b M2 r)) := by
  obtain ⟨⟨hL, hX, -⟩, ⟨hr, wf, h1⟩, -⟩ := id hc
  have hM : SW b M 0 (gW b M 0) = M := SW_get (by decide)
  have hk := hm.1
  have hL4 := wf.1.1
  refine AGREE_same hc hm hi (if (0 ≤ x ∧ x < nI (sn S 0)) ∧ (0 ≤ y ∧ y < nI (sn S 0)) ∧ x ≠ y then gM b (MW b M2 r) 1 (9 + 4 * x.toNatClampNeg + y.toNatClampNeg) else -1) ?_ ?_
  · conv => lhs; rw [← hM]
    unfold f_X11_minutes
    rw [c_real hX (by decide), q_ck hL (by decide), e_hasLanding hL (by decide), bnd_one, b32_if, hr.1.1]
    by_cases hx : 0 ≤ x ∧ x < nI (sn S 0)
    · rw [if_pos hx, c_real hX (by decide), q_ck hL (by decide), e_hasLanding hL (by decide), bnd_one, b32_if, hr.1.1]
      by_cases hy : 0 ≤ y ∧ y < nI (sn S 0)
      · rw [if_pos hy]
        by_cases hxy : x = y
        · rw [if_pos hxy, if_neg (fun q => q.2.2 hxy), hM]
        · rw [if_neg hxy, if_pos ⟨hx, hy, hxy⟩, c_real hX (by decide), q_ck hL (by decide), e_way hL (by decide), bnd_one]
          obtain ⟨i, hi', rfl⟩ := in_nat hx.1 hx.2 (by omega)
          obtain ⟨j, hj', rfl⟩ := in_nat hy.1 hy.2 (by omega)
          rw [nIm4, nI_add, rd_nI (by omega) (by decide), hr.2.2.1 _ (by omega), nIc (by omega), nIc (by omega), hM]
          show _ = some ((MW b M2 r).2.1 (mc b 1) _, _)
          rw [MW_i (by decide), show 9 + 4 * i + j = 9 + (i * 4 + j) by omega, hk.2.2.1 _ (by omega)]
      · rw [if_neg hy, if_neg (fun q => hy q.2.1), hM]
    · rw [if_neg hx, if_neg (fun q => hx q.1), hM]
  · unfold f_X12_minutes
    rw [n_ck hl, m_isLanding hl hk wf, bnd_one, b32_if]
    by_cases hx : 0 ≤ x ∧ x < nI (sn S 0)
    · rw [if_pos hx, n_ck hl, m_isLanding hl hk wf, bnd_one, b32_if]
      by_cases hy : 0 ≤ y ∧ y < nI (sn S 0)
      · rw [if_pos hy]
        by_cases hxy : x = y
        · rw [if_pos hxy, if_neg (fun q => q.2.2 hxy)]
        · rw [if_neg hxy, if_pos ⟨hx, hy, hxy⟩, n_gR hl (p := 1) (by decide)]
          obtain ⟨i, hi', rfl⟩ := in_nat hx.1 hx.2 (by omega)
          obtain ⟨j, hj', rfl⟩ := in_nat hy.1 hy.2 (by omega)
          rw [iW, n_ald hl (by decide) (by decide) (show 9 + 4 * i + j < 174 by omega), nIc (by omega), nIc (by omega)]
          show _ = some ((MW b M2 r).2.1 (mc b 1) _, _)
          rw [MW_i (by decide)]
      · rw [if_neg hy, if_neg (fun q => hy q.2.1)]
    · rw [if_neg hx, if_neg (fun q => hx q.1)]
theorem T_sort (hc : CLS b S pic sh M) (hl : MLAY b M2) (hm : MDR S pic sh r) (hi : INV S pic) (x y : Int32) : AGREE b M M2 (f_X11_sort N b x y M) (f_X12_sort N (mc b 0) x y (MW b M2 r)) := by
  obtain ⟨⟨hL, hX, -⟩, ⟨hr, wf, h1⟩, -⟩ := id hc
  have hM : SW b M 0 (gW b M 0) = M := SW_get (by decide)
  have hk := hm.1
  have h5 := wf.1.2.1
  refine AGREE_same hc hm hi (if (0 ≤ x ∧ x < nI (sn S 1)) ∧ (0 ≤ y ∧ y ≤ 4) then nI (sf S x.toNatClampNeg y.toNatClampNeg) else -1) ?_ ?_
  · conv => lhs; rw [← hM]
    unfold f_X11_sort
    rw [c_real hX (by decide), q_ck hL (by decide), e_hasSort hL (by decide), bnd_one, b32_if, hr.1.2.1]
    by_cases hx : 0 ≤ x ∧ x < nI (sn S 1)
    · rw [if_pos hx]
      by_cases hy0 : y < 0
      · rw [if_pos hy0, if_neg (fun q => absurd hy0 (Int32.not_lt.mpr q.2.1)), hM]
      · rw [if_neg hy0]
        by_cases hy4 : y ≤ 4
        · rw [if_pos hy4, if_pos ⟨hx, Int32.not_lt.mp hy0, hy4⟩, c_real hX (by decide), q_ck hL (by decide)]
          obtain ⟨i, hi', rfl⟩ := in_nat hx.1 hx.2 (by omega)
          obtain ⟨j, hj', rfl⟩ := in_nat2 (n := 4) (Int32.not_lt.mp hy0) hy4 rfl (by decide)
          rw [k_ofSort hL (by decide) hr wf hi' (by omega), bnd_one, nIc (by omega), nIc (by omega), hM]
        · rw [if_neg hy4, if_neg (fun q => hy4 q.2.2), hM]
    · rw [if_neg hx, if_neg (fun q => hx q.1), hM]
  · unfold f_X12_sort
    rw [n_ck hl, m_isSort hl hk wf, bnd_one, b32_if]
    by_cases hx : 0 ≤ x ∧ x < nI (sn S 1)
    · rw [if_pos hx, m_isIn y 0 4 0 4 rfl rfl, bnd_one, b32_if]
      by_cases hy : 0 ≤ y ∧ y ≤ 4
      · rw [if_pos hy, if_pos ⟨hx, hy⟩, n_gR hl (p := 1) (by decide)]
        obtain ⟨i, hi', rfl⟩ := in_nat hx.1 hx.2 (by omega)
        obtain ⟨j, hj', rfl⟩ := in_nat2 (n := 4) hy.1 hy.2 rfl (by decide)
        rw [MW_as (show 1 < 12 by decide), m_get (M := MW b M2 r) (AI_MW hl (by decide) (by decide)) (nI j) j rfl (by omega) (by omega), bnd_one, m_sort hk hi' (by omega), ← MW_as (by decide), nIc (by omega), nIc (by omega)]
      · rw [if_neg hy, if_neg (fun q => hy q.2)]
    · rw [if_neg hx, if_neg (fun q => hx q.1)]
theorem told4 (x : Int32) (h0 : 0 ≤ x) (h3 : x ≤ 3) : x = 0 ∨ x = 1 ∨ x = 2 ∨ x = 3 := by
  obtain ⟨i, hi, rfl⟩ := in_nat2 (n := 3) h0 h3 rfl (by decide)
  rcases (show i = 0 ∨ i = 1 ∨ i = 2 ∨ i = 3 by omega) with rfl | rfl | rfl | rfl
  · exact Or.inl rfl
  · exact Or.inr (Or.inl rfl)
  · exact Or.inr (Or.inr (Or.inl rfl))
  · exact Or.inr (Or.inr (Or.inr rfl))
theorem T_told (hc : CLS b S pic sh M) (hl : MLAY b M2) (hm : MDR S pic sh r) (hi : INV S pic) (x : Int32) : AGREE b M M2 (f_X11_told N b x M) (f_X12_told N (mc b 0) x (MW b M2 r)) := by
  obtain ⟨⟨hL, hX, -⟩, ⟨hr, wf, h1⟩, -⟩ := id hc
  have hM : SW b M 0 (gW b M 0) = M := SW_get (by decide)
  have hk := hm.1
  refine AGREE_same hc hm hi (if x = 0 then sc S 1 else if x = 1 then sc S 2 else if x = 2 then sc S 3 else if x = 3 then sc S 4 else -1) ?_ ?_
  · conv => lhs; rw [← hM]
    unfold f_X11_told
    rw [c_real hX (by decide), q_ck hL (by decide), e_figureOf hL (by decide), bnd_one, hr.2.1.2.1, hr.2.1.2.2.1, hr.2.1.2.2.2.1, hr.2.1.2.2.2.2, hM]
  · unfold f_X12_told
    rw [m_isIn x 0 3 0 3 rfl rfl, bnd_one, b32_if]
    by_cases hx : 0 ≤ x ∧ x ≤ 3
    · rw [if_pos hx, n_gR hl (p := 1) (by decide)]
      rcases told4 x hx.1 hx.2 with rfl | rfl | rfl | rfl
      · show ald (MW b M2 r) (mc b 1) (nI 5) _ = _
        rw [n_ald hl (by decide) (by decide) (by decide), hk.2.1.2.1]; rfl
      · show ald (MW b M2 r) (mc b 1) (nI 6) _ = _
        rw [n_ald hl (by decide) (by decide) (by decide), hk.2.1.2.2.1]; rfl
      · show ald (MW b M2 r) (mc b 1) (nI 7) _ = _
        rw [n_ald hl (by decide) (by decide) (by decide), hk.2.1.2.2.2.1]; rfl
      · show ald (MW b M2 r) (mc b 1) (nI 8) _ = _
        rw [n_ald hl (by decide) (by decide) (by decide), hk.2.1.2.2.2.2]; rfl
    · rw [if_neg hx, if_neg, if_neg, if_neg, if_neg]
      · rintro rfl; exact hx (by decide)
      · rintro rfl; exact hx (by decide)
      · rintro rfl; exact hx (by decide)
      · rintro rfl; exact hx (by decide)
theorem q_kind (hL : LAY b M) {w : Nat} (hw : w < 7) {q : WR} {p kd fg : Nat} (hq : isRl M p kd fg) : d_Rule_kind N p (SW b M w q) = some (nI kd, SW b M w q) := by
  have h1 : ((SW b M w q).1 p).1 = rtag kd := hq.1
  have hr : rq (ρ := Int32 × Mm) (isRule ((SW b M w q).1 p).1 = true) (some (nI kd, SW b M w q)) = some (nI kd, SW b M w q) := q_rule hL hw hq
  obtain ⟨-, -, hk, -⟩ := hq
  unfold d_Rule_kind
  match kd, hk with
  | 0, _ => simp [h1, rtag, f_X6_kind]; rfl
  | 1, _ => simp [h1, rtag, f_X9_kind]; rfl
  | 2, _ => simp [h1, rtag, f_X4_kind]; rfl
  | 3, _ => simp [h1, rtag, f_X2_kind]; rfl
  | 4, _ => simp [h1, rtag, f_X3_kind]; rfl
  | 5, _ => simp [h1, rtag, f_X0_kind]; rfl
  | 6, _ => simp [h1, rtag, f_X8_kind]; rfl
theorem T_boat (hc : CLS b S pic sh M) (hl : MLAY b M2) (hm : MDR S pic sh r) (hi : INV S pic) (x : Int32) : AGREE b M M2 (f_X11_boat N b x M) (f_X12_boat N (mc b 0) x (MW b M2 r)) := by
  obtain ⟨⟨hL, hX, -⟩, ⟨hr, wf, h1⟩, -⟩ := id hc
  have hM : SW b M 0 (gW b M 0) = M := SW_get (by decide)
  have hk := hm.1
  have hL4 := wf.1.1
  obtain ⟨w1, w2, w3, w4, w5, w6, w7⟩ := wf.2.1 0 (by omega)
  obtain ⟨b1, b2, b3, b4, q, hq, hqr⟩ := hr.2.2.2.2.1 0 (by omega)
  obtain ⟨k1, k2, k3, k5, k6, k7, k8⟩ := hk.2.2.2.2.1 0 (by omega)
  have h6 := B6 wf (x := 0) (by omega)
  have bo : ∀ (i : Int32) (j : Nat), i = nI j → j < 12 → f_X12_boatOf N (mc b 1) 0 i (MW b M2 r) = some (r 1 (50 + 12 * 0 + j), MW b M2 r) := fun i j hij hj => by
    rw [MW_as (show 1 < 12 by decide)]
    exact m_boatOf (M := MW b M2 r) (AI_MW hl (by decide) (by decide)) (x := 0) i j hij (by decide) hj
  refine AGREE_same hc hm hi (if x = 0 then r 1 50 else if x = 1 then r 1 51 else if x = 2 then nI (sB S 0).2.1 else if x = 3 then nI (sB S 0).2.2.length else if x = 4 then nI (sK S 0).1 else -1) ?_ ?_
  · conv => lhs; rw [← hM]
    unfold f_X11_boat
    have hq' : (gW b M 0).2 3 = some q := hq
    have e1 : (gW b M 0).1 3 1 = nI (sB S 0).2.1 := b2
    have e0 : (gW b M 0).1 3 0 = nI (sB S 0).1 := b1
    have e2 : (gW b M 0).1 3 2 = nI (sB S 0).2.2.length := b3
    rw [c_real hX (by decide), q_gR hL (by decide) (l := 3) (by decide), q_bgI hL (by decide) (l := 3) (Or.inl rfl), e1]
    have hj : ∀ s0 : Int32, (s0 = 0 ↔ (sB S 0).2.1 = 0) → j_X11_boat_20 N x (wA b 0 3) s0 (SW b M 0 (gW b M 0)) = some (if x = 0 then r 1 50 else if x = 1 then r 1 51 else if x = 2 then nI (sB S 0).2.1 else if x = 3 then nI (sB S 0).2.2.length else if x = 4 then nI (sK S 0).1 else -1, M) := by
      intro s0 hs0
      unfold j_X11_boat_20
      rw [q_bgI hL (by decide) (l := 3) (Or.inl rfl), q_bgI hL (by decide) (l := 3) (Or.inl rfl), q_bgI hL (by decide) (l := 3) (Or.inl rfl), q_brule hL (by decide) (l := 3) (Or.inl rfl), hq', Option.elim_some, q_kind hL (by decide) hqr, bnd_one, e0, e1, e2, hM]
      have k1' : r 1 50 = if (sB S 0).2.1 = 0 then nI (sB S 0).1 else -4 := k1
      have k2' : r 1 51 = if (sB S 0).2.1 = 0 then -4 else nI (sB S 0).1 := k2
      rw [k1', k2']
      by_cases hz : (sB S 0).2.1 = 0
      · simp only [hs0, hz, if_true]
        repeat (first | rfl | split)
      · simp only [hs0, hz, if_false]
        repeat (first | rfl | split)
    by_cases hz : (sB S 0).2.1 = 0
    · rw [if_pos ((nI_le0 (by omega)).mpr hz)]
      exact hj 0 ⟨fun _ => hz, fun _ => rfl⟩
    · rw [if_neg (fun q => hz ((nI_le0 (by omega)).mp q))]
      exact hj 1 ⟨fun q => absurd q (by decide), fun q => absurd q hz⟩
  · unfold f_X12_boat
    rw [n_gR hl (p := 1) (by decide), n_gR hl (p := 1) (by decide), n_gR hl (p := 1) (by decide), n_gR hl (p := 1) (by decide), n_gR hl (p := 1) (by decide), bo 0 0 rfl (by decide), bo 1 1 rfl (by decide), bo 2 2 rfl (by decide), bo 3 3 rfl (by decide), bo 4 4 rfl (by decide)]
    simp only [bnd_one]
    have k3' : r 1 (50 + 12 * 0 + 2) = nI (sB S 0).2.1 := k3
    have k5' : r 1 (50 + 12 * 0 + 3) = nI (sB S 0).2.2.length := k5
    have k6' : r 1 (50 + 12 * 0 + 4) = nI (sK S 0).1 := k6
    rw [k3', k5', k6']
    repeat (first | rfl | split)
end READS
