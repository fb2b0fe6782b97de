/-! A new rule; keep. -/
section KEEP
variable {b : Nat} {M M2 : Mm} {S : SP} {pic : Option SP} {sh : Nat → SV} {r : Nat → Nat → Int32} {N : Nat}
def nR (M : Mm) (kd : Nat) (v : Int32) : Mm := sI (nw M (rtag kd) 0) (nx M) 0 v
theorem c_makeRule {kd : Nat} {v : Int32} (hk : kd < 7) : f_X11_makeRule N (nI kd) v M = some (some (nx M), nR M kd v) := by
  have hp : ∀ t, isRule t = true → pF (nw M t 0) (nx M) v (fun M1 => some ((), M1)) = some ((), sI (nw M t 0) (nx M) 0 v) := fun t ht => by
    unfold pF
    rw [if_pos]
    show isRule (if nx M = nx M then (t, 0) else M.1 (nx M)).1 = true
    rw [if_pos rfl]; exact ht
  unfold f_X11_makeRule nwo f_X8_init f_X0_init f_X2_init f_X4_init f_X3_init f_X9_init f_X6_init
  dsimp only
  rw [hp 13 rfl, hp 8 rfl, hp 6 rfl, hp 7 rfl, hp 4 rfl, hp 12 rfl, hp 10 rfl]
  simp only [bnd_one]
  unfold nR
  match kd, hk with
  | 0, _ => rw [if_neg (by decide), if_neg (by decide), if_neg (by decide), if_neg (by decide), if_neg (by decide), if_neg (by decide)]; rfl
  | 1, _ => rw [if_pos (by decide)]; rfl
  | 2, _ => rw [if_neg (by decide), if_pos (by decide)]; rfl
  | 3, _ => rw [if_neg (by decide), if_neg (by decide), if_pos (by decide)]; rfl
  | 4, _ => rw [if_neg (by decide), if_neg (by decide), if_neg (by decide), if_pos (by decide)]; rfl
  | 5, _ => rw [if_neg (by decide), if_neg (by decide), if_neg (by decide), if_neg (by decide), if_pos (by decide)]; rfl
  | 6, _ => rw [if_neg (by decide), if_neg (by decide), if_neg (by decide), if_neg (by decide), if_neg (by decide), if_pos (by decide)]; rfl
theorem nR_k {kd a : Nat} {v : Int32} (h : a ≠ nx M) : (nR M kd v).1 a = M.1 a := if_neg h
theorem nR_i {kd a : Nat} {v : Int32} (h : a ≠ nx M) : (nR M kd v).2.1 a = M.2.1 a := by
  have hh : ¬ a = M.2.2.2.2 := h
  funext j; simp [nR, sI, nw, up2, upR, nx, hh]
theorem nR_l {kd a : Nat} {v : Int32} (h : a ≠ nx M) : (nR M kd v).2.2.1 a = M.2.2.1 a := by
  have hh : ¬ a = M.2.2.2.2 := h
  funext j; simp [nR, sI, nw, upR, hh]
theorem nR_q {kd a : Nat} {v : Int32} (h : a ≠ nx M) : (nR M kd v).2.2.2.1 a = M.2.2.2.1 a := by
  have hh : ¬ a = M.2.2.2.2 := h
  funext j; simp [nR, sI, nw, upR, hh]
theorem FR_nR {kd : Nat} {v : Int32} : FR b M (nR M kd v) := ⟨Nat.le_succ _, fun a ha _ => ⟨nR_k (by omega), nR_i (by omega), nR_l (by omega), nR_q (by omega)⟩, fun a ha => nR_k (by have : nx M + 1 ≤ a := ha; omega)⟩
theorem RM_nR (hg : GOOD b M) {kd : Nat} {v : Int32} : RM M (nR M kd v) := by
  intro q k f hq
  have hne : q ≠ nx M := by
    rintro rfl
    have h1 := hq.1
    rw [hg.2 _ (Nat.le_refl _)] at h1
    have : ∀ k, k < 7 → (0 : Nat) ≠ rtag k := by decide
    exact this k hq.2.2.1 h1
  exact ⟨by rw [nR_k hne]; exact hq.1, by rw [nR_i hne]; exact hq.2.1, hq.2.2⟩
theorem isRl_nR {kd fg : Nat} (hk : kd < 7) (hf : fg < 10) : isRl (nR M kd (nI fg)) (nx M) kd fg := by
  refine ⟨?_, ?_, hk, hf⟩
  · show (if nx M = nx M then (rtag kd, 0) else M.1 (nx M)).1 = rtag kd
    rw [if_pos rfl]
  · simp [nR, sI, up2]
theorem CLS_nR (hc : CLS b S pic sh M) (hg : GOOD b M) {kd : Nat} {v : Int32} : CLS b S pic sh (nR M kd v) := by
  obtain ⟨⟨hL, hX, hNB⟩, h0, hp, hf, hsh⟩ := hc
  have hR := RM_nR (kd := kd) (v := v) hg
  have hb := hg.1
  have hw : ∀ w, w < 7 → ∀ l ∈ oks, wA b w l ≠ nx M := fun w hw l hl => by
    have := wA_rng (b := b) hw hl
    omega
  have hW : ∀ w P, w < 7 → WR1 b M w P → WR1 b (nR M kd v) w P := fun w P hw7 hh => by
    refine ⟨WRel_BC (WRel_M hR hh.1) hh.2.1 ⟨fun k _ => ?_, fun l hl j _ => ?_, fun l hl => ⟨fun k _ => ?_, ?_⟩⟩, hh.2.1, hh.2.2⟩
    · show (nR M kd v).2.1 _ k = M.2.1 _ k
      rw [nR_i (hw w hw7 0 (by decide))]
    · show (nR M kd v).2.1 _ j = M.2.1 _ j
      rw [nR_i (hw w hw7 l (oks7 l hl))]
    · show (nR M kd v).2.1 _ k = M.2.1 _ k
      rw [nR_i (hw w hw7 l (by rcases hl with rfl | rfl <;> decide))]
    · show (nR M kd v).2.2.2.1 _ 4 = M.2.2.2.1 _ 4
      rw [nR_q (hw w hw7 l (by rcases hl with rfl | rfl <;> decide))]
  refine ⟨⟨?_, ?_, ?_⟩, hW 0 S (by decide) h0, fun P hP => hW 1 P (by decide) (hp P hP), by rw [nR_i (by omega)]; exact hf, fun d hd => ?_⟩
  · intro w hw7
    obtain ⟨a1, a2, a3, a4⟩ := hL w hw7
    rw [nR_q (hw w hw7 0 (by decide)), nR_q (hw w hw7 3 (by decide)), nR_q (hw w hw7 6 (by decide))]
    exact ⟨fun l hl => by rw [nR_k (hw w hw7 l hl)]; exact a1 l hl, a2, a3, a4⟩
  · obtain ⟨x1, x2, x3, x4⟩ := hX
    unfold CXL
    rw [nR_k (by omega), nR_q (by omega), nR_k (by omega), nR_k (by omega), nR_k (by omega), nR_q (by omega)]
    refine ⟨x1, x2, x3, fun d hd => ?_⟩
    rw [nR_q (by omega), nR_k (by omega), nR_q (by omega), nR_k (by omega)]
    exact x4 d hd
  · intro w hw7 l hl
    rw [nR_q (hw w hw7 l (by rcases hl with rfl | rfl <;> decide))]
    exact hNB w hw7 l hl
  · have hs := hsh d hd
    unfold SHc at hs ⊢
    rw [nR_i (by omega), nR_i (by omega), nR_q (by omega)]
    rcases hs with hs | ⟨g0, ⟨q, g1, g2⟩, g3⟩ | hs
    · exact Or.inl hs
    · exact Or.inr (Or.inl ⟨g0, ⟨q, g1, hR _ _ _ g2⟩, g3⟩)
    · exact Or.inr (Or.inr hs)
theorem T_keep (hc : CLS b S pic sh M) (hg : GOOD b M) (hl : MLAY b M2) (hm : MDR S pic sh r) (hi : INV S pic) (x y k f : Int32) : AGREE b M M2 (f_X11_keep N b x y k f M) (f_X12_keep N (mc b 0) x y k f (MW b M2 r)) := by
  obtain ⟨⟨hL, hX, hNB⟩, -, -⟩ := id hc
  rcases sh_cases x with ⟨d, hd, rfl⟩ | hno
  · obtain ⟨x1, x2, x3, x4⟩ := hX.2.2.2 d hd
    obtain ⟨M1, c1, c2, c3, c4⟩ := c_clear (N := N) hX hd
    have k1 : (M1.1 (b + 88 + 2 * d)).1 = 11 := by rw [c2.1]; exact x2
    have hc1 : ∀ v : SV, v.1 = 0 → CLS b S pic (upS sh d v) M1 := fun v hv => CLS_SD hc hd c2 (Or.inl ⟨hv, c3, c4⟩)
    have hmo : j_X12_keep_49 N (mc b 0) (nI d) y k f (MW b M2 r) = some (0, MW b M2 (up2 (up2 (up2 r 5 d y) 9 d k) 10 d f)) := by
      unfold j_X12_keep_49
      rw [n_gR hl (p := 5) (by decide), n_ast hl (by decide) (by decide) hd, n_gR hl (p := 9) (by decide), n_ast hl (by decide) (by decide) hd, n_gR hl (p := 10) (by decide), n_ast hl (by decide) (by decide) hd]
    have hmd : ∀ v : SV, SHm (up2 (up2 (up2 r 5 d y) 9 d k) 10 d f) d v → MDR S pic (upS sh d v) (up2 (up2 (up2 r 5 d y) 9 d k) 10 d f) := fun v hv => by
      refine MDR_sh hm hd (fun p hp => ?_) (fun d' hd' hne => ⟨fun p hp => ?_, fun j hj => ?_⟩) hv
      · have hp3 : p < 3 := by revert hp; revert p; decide
        funext j
        simp only [up2]
        rw [if_neg (by omega), if_neg (by omega), if_neg (by omega)]
      · simp only [up2, if_neg hne]
        repeat (first | rfl | split)
      · simp [up2]
    by_cases hy1 : y = 1
    · by_cases hkf : (0 ≤ k ∧ k ≤ 6) ∧ 0 ≤ f ∧ f ≤ 9
      · obtain ⟨kd, hkd, rfl⟩ := in_nat2 (n := 6) hkf.1.1 hkf.1.2 rfl (by decide)
        obtain ⟨fg, hfg, rfl⟩ := in_nat2 (n := 9) hkf.2.1 hkf.2.2 rfl (by decide)
        have hc0 := hc1 (0, 0, 0, fun _ => 0) rfl
        have hg1 : GOOD b M1 := GOOD_FR hg (FR_SD hd c2)
        have hc2 := CLS_nR (kd := kd) (v := nI fg) hc0 hg1
        have hSD : SD b d (nR M1 kd (nI fg)) (sR (nR M1 kd (nI fg)) (b + 88 + 2 * d) 0 (some (nx M1))) := SD_r
        have hn8 : b + 88 + 2 * d ≠ nx M1 := by have := hg1.1; omega
        have hrl : isRl (nR M1 kd (nI fg)) (nx M1) kd fg := isRl_nR (by omega) (by omega)
        have hsh : SHc b (sR (nR M1 kd (nI fg)) (b + 88 + 2 * d) 0 (some (nx M1))) d (1, kd, fg, fun _ => 0) := by
          refine Or.inr (Or.inl ⟨rfl, ⟨nx M1, by simp [sR, up2], RM_SD hc2.1.2.1 hd hSD _ _ _ hrl⟩, ?_⟩)
          show (nR M1 kd (nI fg)).2.1 (b + 88 + 2 * d) 1 = -2
          rw [nR_i hn8]; exact c4
        have hfin := CLS_SD hc2 hd hSD hsh
        have hups : upS (upS sh d (0, 0, 0, fun _ => 0)) d (1, kd, fg, fun _ => 0) = upS sh d (1, kd, fg, fun _ => 0) := by
          funext d'
          simp only [upS]
          split <;> rfl
        rw [hups] at hfin
        refine ⟨0, S, pic, upS sh d (1, kd, fg, fun _ => 0), _, _, ?_, ?_, hfin, FR_trans (FR_SD hd c2) (FR_trans FR_nR (FR_SD hd hSD)), hmd _ (Or.inr (Or.inl ⟨rfl, ?_, ?_, ?_, by show kd < 7; omega, by show fg < 10; omega⟩)), hi⟩
        · unfold f_X11_keep onn j_X11_keep_52 nn
          have q1 : pR 7 (nR M1 kd (nI fg)) (b + 88 + 2 * d) 0 (some (nx M1)) (fun M7 => some ((0 : Int32), M7)) = some (0, sR (nR M1 kd (nI fg)) (b + 88 + 2 * d) 0 (some (nx M1))) := by
            unfold pR
            rw [if_pos]
            rw [nR_k hn8]; exact k1
          rw [d_ck hX, c_shelfAt hX hd, bnd_one, Option.elim_some, hy1, if_neg (by decide), if_pos (by decide), if_pos rfl, if_neg (nI_neg (by omega)), if_neg (show ¬ (7 : Int32) ≤ nI kd from nI_ge (b := 7) (by omega) (by decide)), if_neg (nI_neg (by omega)), if_pos (show nI fg ≤ 9 from nI_le (b := 9) hfg (by decide)), d_ck7 hX hd, c1, bnd_one, if_pos rfl, c_makeRule (by omega), bnd_one, Option.elim_some, q1]
        · unfold f_X12_keep
          rw [m_isShelf, bnd_one, b32_if, if_pos (nI_in7 hd), m_isIn y 0 1 0 1 rfl rfl, bnd_one, b32_if, if_pos (by rw [hy1]; decide), if_pos hy1, m_isIn (nI kd) 0 6 0 6 rfl rfl, bnd_one, b32_if, if_pos hkf.1, m_isIn (nI fg) 0 9 0 9 rfl rfl, bnd_one, b32_if, if_pos hkf.2, hmo]
        · simp [up2, hy1]
        · simp [up2]
        · simp [up2]
      · refine AGREE_same hc hm hi (-1) ?_ ?_
        · unfold f_X11_keep onn
          rw [d_ck hX, c_shelfAt hX hd, bnd_one, Option.elim_some, hy1, if_neg (by decide), if_pos (by decide), if_pos rfl]
          by_cases a1 : k < 0
          · rw [if_pos a1]
          · rw [if_neg a1]
            by_cases a2 : 7 ≤ k
            · rw [if_pos a2]
            · rw [if_neg a2]
              by_cases a3 : f < 0
              · rw [if_pos a3]
              · rw [if_neg a3, if_neg]
                intro a4
                refine hkf ⟨⟨Int32.not_lt.mp a1, ?_⟩, Int32.not_lt.mp a3, a4⟩
                obtain ⟨j, hj, rfl⟩ := nI_of a1
                have : ¬ 7 ≤ j := fun q => a2 (nI_le (a := 7) q hj)
                exact nI_le (b := 6) (by omega) (by decide)
        · unfold f_X12_keep
          rw [m_isShelf, bnd_one, b32_if, if_pos (nI_in7 hd), m_isIn y 0 1 0 1 rfl rfl, bnd_one, b32_if, if_pos (by rw [hy1]; decide), if_pos hy1, m_isIn k 0 6 0 6 rfl rfl, bnd_one, b32_if]
          by_cases a1 : 0 ≤ k ∧ k ≤ 6
          · rw [if_pos a1, m_isIn f 0 9 0 9 rfl rfl, bnd_one, b32_if, if_neg (fun q => hkf ⟨a1, q⟩)]
          · rw [if_neg a1]
    · by_cases hy0 : 0 ≤ y ∧ y ≤ 1
      · obtain ⟨j, hj, rfl⟩ := in_nat2 (n := 1) hy0.1 hy0.2 rfl (by decide)
        have hj0 : j = 0 := by
          rcases (show j = 0 ∨ j = 1 by omega) with e | e
          · exact e
          · exact absurd (by rw [e]; rfl) hy1
        subst hj0
        refine ⟨0, S, pic, upS sh d (0, 0, 0, fun _ => 0), M1, _, ?_, ?_, hc1 _ rfl, FR_SD hd c2, hmd _ (Or.inl ⟨rfl, by simp [up2]; rfl⟩), hi⟩
        · unfold f_X11_keep onn j_X11_keep_52
          rw [d_ck hX, c_shelfAt hX hd, bnd_one, Option.elim_some, if_neg (by decide), if_pos (by decide), if_neg (by decide), d_ck7 hX hd, c1, bnd_one, if_neg (by decide)]
        · unfold f_X12_keep
          rw [m_isShelf, bnd_one, b32_if, if_pos (nI_in7 hd), m_isIn (nI 0) 0 1 0 1 rfl rfl, bnd_one, b32_if, if_pos hy0, if_neg hy1, hmo]
      · refine AGREE_same hc hm hi (-1) ?_ ?_
        · unfold f_X11_keep onn
          rw [d_ck hX, c_shelfAt hX hd, bnd_one, Option.elim_some]
          by_cases a1 : y < 0
          · rw [if_pos a1]
          · rw [if_neg a1, if_neg (fun q => hy0 ⟨Int32.not_lt.mp a1, q⟩)]
        · unfold f_X12_keep
          rw [m_isShelf, bnd_one, b32_if, if_pos (nI_in7 hd), m_isIn y 0 1 0 1 rfl rfl, bnd_one, b32_if, if_neg hy0]
  · refine AGREE_same hc hm hi (-1) ?_ ?_
    · unfold f_X11_keep onn
      rw [d_ck hX, c_shelfNo hX hno, bnd_one, Option.elim_none]
    · unfold f_X12_keep
      rw [m_isShelf, bnd_one, b32_if, if_neg hno]
end KEEP
