/-! image, restore. -/
section IMAGE
variable {b : Nat} {M M2 : Mm} {S : SP} {pic : Option SP} {sh : Nat → SV} {r : Nat → Nat → Int32} {N : Nat}
theorem sI_oo {M : Mm} {a o k : Nat} {v : Int32} (h : o ≠ a) : (sI M a k v).2.1 o = M.2.1 o := by funext j; simp [sI, up2, h]
theorem RM_b (hX : CXL b M) {k : Nat} {v : Int32} : RM M (sI M b k v) := by
  intro q kd fg hq
  have hne : q ≠ b := by
    rintro rfl
    have h1 := hq.1
    rw [hX.1] at h1
    have : ∀ k, k < 7 → (15 : Nat) ≠ rtag k := by decide
    exact this kd hq.2.2.1 h1
  exact ⟨hq.1, by rw [sI_oo hne]; exact hq.2.1, hq.2.2⟩
theorem gW_b {k : Nat} {v : Int32} {w : Nat} (hw : w < 7) : BC (gW b M w) (gW b (sI M b k v) w) := by
  have e : ∀ l ∈ oks, (gW b (sI M b k v) w).1 l = (gW b M w).1 l := fun l hl => by
    have := wA_rng (b := b) hw hl
    exact sI_oo (by omega)
  refine ⟨fun k _ => by rw [e 0 (by decide)], fun l hl j _ => ?_, fun l hl => ⟨fun k _ => ?_, rfl⟩⟩
  · rw [e l (oks7 l hl)]
  · rw [e l (by rcases hl with rfl | rfl <;> decide)]
theorem CLS_bx (hs : LAY b M ∧ CXL b M ∧ NB b M) (h0 : WR1 b M 0 S) (hp : ∀ P, pic = some P → WR1 b M 1 P) (hsh : ∀ d, d < 8 → SHc b M d (sh d)) {k : Nat} {v : Int32} (hf : (sI M b k v).2.1 b 2 = b32 (pic.isSome = true)) : CLS b S pic sh (sI M b k v) := by
  have hw : ∀ w P, w < 7 → WR1 b M w P → WR1 b (sI M b k v) w P := fun w P hw h => ⟨WRel_BC (WRel_M (RM_b hs.2.1) h.1) h.2.1 (gW_b hw), h.2.1, h.2.2⟩
  refine ⟨hs, hw 0 S (by decide) h0, fun P hP => hw 1 P (by decide) (hp P hP), hf, fun d hd => ?_⟩
  unfold SHc
  rw [sI_oo (by omega), sI_oo (by omega)]
  rcases hsh d hd with h | ⟨h0, ⟨q, h1, h2⟩, h3⟩ | h
  · exact Or.inl h
  · exact Or.inr (Or.inl ⟨h0, ⟨q, h1, RM_b hs.2.1 _ _ _ h2⟩, h3⟩)
  · exact Or.inr (Or.inr h)
theorem FR_b {k : Nat} {v : Int32} : FR b M (sI M b k v) := ⟨Nat.le_refl _, fun a _ hb => ⟨rfl, sI_oo (by omega), rfl, rfl⟩, fun _ _ => rfl⟩
theorem c_pZ (hX : CXL b M) {w : Nat} {q : WR} {k : Nat} {v : Int32} {ρ : Type} {κ : Mm → Option ρ} (hv : v = 0 ∨ v = 1) : pZ 11 (SW b M w q) b k v κ = κ (sI (SW b M w q) b k v) := if_pos ⟨hX.1, hv⟩
theorem z01 {P : SP} {w : Nat} (h : WR1 b M w P) : M.2.1 (wA b w 0) 9 = 0 ∨ M.2.1 (wA b w 0) 9 = 1 := by
  have := h.1.1.2.2.2.2
  rw [h.2.2] at this
  exact Or.inl this
theorem T_image (hc : CLS b S pic sh M) (hl : MLAY b M2) (hm : MDR S pic sh r) (hi : INV S pic) (hN : 200 ≤ N) : AGREE b M M2 (f_X11_image N b M) (f_X12_image N (mc b 0) (MW b M2 r)) := by
  obtain ⟨⟨hL, hX, hNB⟩, h0, hp, -, hsh⟩ := id hc
  obtain ⟨hr, wf, h1⟩ := id h0
  have hM : SW b M 1 (gW b M 1) = M := SW_get (by decide)
  have hk := hm.1
  obtain ⟨q3, hq3⟩ := hNB 0 (by decide) 3 (Or.inl rfl)
  obtain ⟨q6, hq6⟩ := hNB 0 (by decide) 6 (Or.inr rfl)
  obtain ⟨r', e1, e2, e3, e6⟩ := k_become (N := N) (r := gW b M 1) hL (w := 1) (w1 := 0) (by decide) (by decide) (by decide) hq3 hq6 (z01 h0)
  obtain ⟨rm, fu, c1, c2, c3⟩ := s_image_2 (N := N) hl 174 0 N r (by omega) (by omega) (fun j hj => by omega)
  have hP : WR1 b (SW b M 1 r') 1 S := WR1_same hL (by decide) (WRel_BC hr wf e2) wf h1
  have hR : WR1 b (SW b M 1 r') 0 S := WR1_other hL (by decide) (by decide) (by decide) h0
  refine ⟨nI (sn S 3), S, some S, sh, sI (SW b M 1 r') b 2 1, up2 rm 0 10 1, ?_, ?_, CLS_bx ⟨LAY_SW (by decide) hL, CXL_SW (by decide) hX, NB_SW (by decide) hNB ⟨q3, e3⟩ ⟨q6, e6⟩⟩ hR (fun P hP' => by cases hP'; exact hP) (fun d hd => SHc_SW hL (by decide) (hsh d hd)) (by simp [sI, up2, b32]), FR_trans (FR_SW (by decide)) FR_b, ?_, ⟨hi.1, fun P hP' => by cases hP'; exact hi.1⟩⟩
  · conv => lhs; rw [← hM]
    unfold f_X11_image
    rw [c_pic hX (by decide), c_real hX (by decide), q_ck hL (by decide), e1, bnd_one, c_pZ hX (Or.inr rfl)]
    have hX' : CXL b (sI (SW b M 1 r') b 2 1) := CXL_SW (by decide) hX
    have e7 : ∀ κ : Nat → Option (Int32 × Mm), gR 11 (sI (SW b M 1 r') b 2 1) b 0 κ = κ (wA b 0 0) := fun κ => by
      unfold gR
      rw [if_pos hX'.1, hX'.2.1.1]; rfl
    rw [e7]
    unfold gI
    have hk0 := (LAY_SW (r := r') (show 1 < 7 by decide) hL 0 (by decide)).1 0 (by decide)
    have hk0' : ((sI (SW b M 1 r') b 2 1).1 (wA b 0 0)).1 = 14 := by
      show ((SW b M 1 r').1 (wA b 0 0)).1 = 14
      rw [hk0]; rfl
    rw [if_pos hk0', sI_oo (by have := wA_rng (b := b) (show 0 < 7 by decide) (show 0 ∈ oks by decide); omega)]
    have := hR.1.1.2.2.2.1
    have this' : (SW b M 1 r').2.1 (wA b 0 0) 6 = nI (sn S 3) := this
    rw [this']
  · unfold f_X12_image
    rw [show (0 : Int32) = nI 0 from rfl, c1]
    unfold b_X12_image_2
    rw [if_pos (show (174 : Int32) ≤ nI 174 by decide), n_pZ hl (Or.inr rfl), n_gR hl (p := 1) (by decide), show (3 : Int32) = nI 3 from rfl, n_ald hl (by decide) (by decide) (by decide)]
    have : up2 rm 0 10 1 1 3 = nI (sn S 3) := by
      have : up2 rm 0 10 1 1 = rm 1 := by funext j; simp [up2]
      rw [this, c3 1 (by decide), hk.1.2.2.2]
    rw [this]
  · have e : ∀ p, p ≠ 0 → up2 rm 0 10 1 p = rm p := fun p hp => by funext j; simp [up2, hp]
    refine ⟨by rw [e 1 (by decide), c3 1 (by decide)]; exact hk, fun P hP' => ?_, by simp [up2, b32], ?_, fun d hd => ?_⟩
    · cases hP'
      rw [e 2 (by decide)]
      exact KRel_lt hk wf c2
    · have : up2 rm 0 10 1 0 18 = rm 0 18 := by simp [up2]
      rw [this, c3 0 (by decide)]
      exact hm.2.2.2.1
    · unfold SHm
      rw [e 5 (by decide), e 6 (by decide), e 7 (by decide), e 8 (by decide), e 9 (by decide), e 10 (by decide), c3 5 (by decide), c3 6 (by decide), c3 7 (by decide), c3 8 (by decide), c3 9 (by decide), c3 10 (by decide)]
      exact hm.2.2.2.2 d hd
theorem T_restore (hc : CLS b S pic sh M) (hl : MLAY b M2) (hm : MDR S pic sh r) (hi : INV S pic) (hN : 200 ≤ N) : AGREE b M M2 (f_X11_restore N b M) (f_X12_restore N (mc b 0) (MW b M2 r)) := by
  obtain ⟨⟨hL, hX, hNB⟩, h0, hp, hfl, hsh⟩ := id hc
  have hM : SW b M 0 (gW b M 0) = M := SW_get (by decide)
  have hgI : ∀ κ : Int32 → Option (Int32 × Mm), gI 11 M b 2 κ = κ (M.2.1 b 2) := fun κ => if_pos hX.1
  cases hpc : pic with
  | none =>
    rw [hpc] at hfl
    have h10 := hm.2.2.1
    rw [hpc] at h10
    refine AGREE_same hc hm hi (-3) ?_ ?_
    · unfold f_X11_restore
      rw [hgI, hfl, if_pos (by decide)]
    · unfold f_X12_restore
      rw [n_gI hl, h10, if_pos (by decide)]
  | some P =>
    rw [hpc] at hfl
    have h10 := hm.2.2.1
    rw [hpc] at h10
    have hP := hp P hpc
    obtain ⟨hr, wf, h1⟩ := id hP
    have hk := hm.2.1 P hpc
    obtain ⟨q3, hq3⟩ := hNB 1 (by decide) 3 (Or.inl rfl)
    obtain ⟨q6, hq6⟩ := hNB 1 (by decide) 6 (Or.inr rfl)
    obtain ⟨r', e1, e2, e3, e6⟩ := k_become (N := N) (r := gW b M 0) hL (w := 0) (w1 := 1) (by decide) (by decide) (by decide) hq3 hq6 (z01 hP)
    obtain ⟨rm, fu, c1, c2, c3⟩ := s_restore_12 (N := N) hl 174 0 N r (by omega) (by omega) (fun j hj => by omega)
    have hw := WRel_BC hr wf e2
    refine ⟨nI (sn P 3), P, pic, sh, SW b M 0 r', rm, ?_, ?_, CLS_real hc hw wf h1 ⟨q6, e6⟩, FR_SW (by decide), ?_, ⟨hi.2 P hpc, hi.2⟩⟩
    · unfold f_X11_restore
      rw [hgI, hfl, if_neg (by simp [b32])]
      conv => lhs; rw [← hM]
      rw [c_real hX (by decide), c_pic hX (by decide), q_ck hL (by decide), e1, bnd_one, c_real hX (by decide), q_gI hL (by decide), hw.1.2.2.2.1]
    · unfold f_X12_restore
      rw [n_gI hl, h10, if_neg (by simp [b32]), show (0 : Int32) = nI 0 from rfl, c1]
      unfold b_X12_restore_12
      rw [if_pos (show (174 : Int32) ≤ nI 174 by decide), n_gR hl (p := 1) (by decide), show (3 : Int32) = nI 3 from rfl, n_ald hl (by decide) (by decide) (by decide), c2 3 (by decide), hk.1.2.2.2]
    · refine ⟨KRel_lt hk wf c2, fun P' hP' => by rw [c3 2 (by decide)]; exact hm.2.1 P' hP', by rw [c3 0 (by decide)]; exact hm.2.2.1, by rw [c3 0 (by decide)]; exact hm.2.2.2.1, fun d hd => ?_⟩
      unfold SHm
      rw [c3 5 (by decide), c3 6 (by decide), c3 7 (by decide), c3 8 (by decide), c3 9 (by decide), c3 10 (by decide)]
      exact hm.2.2.2.2 d hd
end IMAGE
