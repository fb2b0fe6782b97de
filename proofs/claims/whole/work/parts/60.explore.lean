/-! bestGoings: the search, one depth over the other. -/
theorem goK_s (k cd gl : Nat) (P : SP) : goK (k + 1) cd gl P = if (sB (bringS P) 0).2.1 = 0 ∧ 0 < gl then goK k (cd / 5) (gl - 1) (closeS (sendB (bringS P) 0 (digT cd))) else goK k cd gl (closeS (askB (bringS P) 0)) := rfl
theorem dig_cmp : ∀ e, e < 5 → ∀ p, p < 4 → (nI e - 1 = nI p ↔ e = p + 1) := by decide
theorem dig_oI : ∀ e, e < 5 → nI e - 1 = oI (digT e) := by decide
theorem dig_mod (e d : Nat) : digT (e + 5 * d) = digT e := by
  unfold digT
  rw [Nat.add_mul_mod_self_left]
/-- a digit that means 'none' -/
theorem send_none {P : SP} {e : Nat} (he : e < 5) (h : e = (sB P 0).1 + 1 ∨ sn P 0 < e) : sendB P 0 (digT e) = sendB P 0 (digT 0) := by
  have h0 : sendB P 0 (digT 0) = P := rfl
  rw [h0]
  unfold digT
  rw [Nat.mod_eq_of_lt he]
  by_cases hz : e = 0
  · rw [if_pos hz]; rfl
  · rw [if_neg hz]
    unfold sendB
    simp only
    rw [if_neg]
    rintro ⟨q1, q2⟩
    omega
/-- what a search from world w at depth D (T codes, the next digit counts u) does -/
def EXP (b : Nat) (S : SP) (pic : Option SP) (sh : Nat → SV) (f : Nat → Int32) (D w u T : Nat) (F : Nat → Nat → Int32 → Int32 → Int32 → Mm → Option (Unit × Mm)) : Prop :=
  ∀ (X : Mm) (P : SP) (t0 k : Nat) (A : Nat → Prop), CLS b S pic sh X → WRel X P (gW b X w) → WF P → sn P 4 = 1 → sn P 3 + k ≤ 5000 → k ≤ 120 → t0 < u → (∀ d, d < T → f (t0 + u * d) = gn (goK k d D P)) → BST A f (X.2.1 b 6) (X.2.1 b 7) →
    ∃ X', F b (wA b w 0) (nI u) (nI t0) (nI k) X = some ((), X') ∧ CLS b S pic sh X' ∧ FR b X X' ∧ KEW b w X X' ∧ BST (fun c => A c ∨ ∃ d, d < T ∧ c = t0 + u * d) f (X'.2.1 b 6) (X'.2.1 b 7)
section EXPLORE
variable {b : Nat} {S : SP} {pic : Option SP} {sh : Nat → SV} {f : Nat → Int32} {N D w u T : Nat}
theorem s_branch {F : Nat → Nat → Int32 → Int32 → Int32 → Mm → Option (Unit × Mm)} (hF : EXP b S pic sh f D (w + 1) (u * 5) T F) (h2 : 2 ≤ w) (h6 : w < 6) (hu : u ≤ 1000) (hN : 200 ≤ N) {P : SP} (wf : WF P) (h4 : sn P 4 = 1) {t0 k : Nat} (h3 : sn P 3 + 1 + k ≤ 5000) (hk : k ≤ 119) (ht0 : t0 < u) (hf : ∀ e d, e < 5 → d < T → f (t0 + u * (e + 5 * d)) = gn (goK k d D (closeS (sendB P 0 (digT e))))) : ∀ (n e fu : Nat) (X : Mm) (A : Nat → Prop), e + n = sn P 0 + 1 → n + 1 ≤ fu → CLS b S pic sh X → WRel X P (gW b X w) → BST A f (X.2.1 b 6) (X.2.1 b 7) → ∃ X', gL N F fu b (wA b w 0) (wA b (w + 1) 0) (nI u) (nI t0) (nI (k + 1)) (nI e) X = some ((), X') ∧ CLS b S pic sh X' ∧ FR b X X' ∧ KEW b w X X' ∧ BST (fun c => A c ∨ ∃ e' d, e ≤ e' ∧ e' ≤ sn P 0 ∧ e' ≠ (sB P 0).1 + 1 ∧ d < T ∧ c = t0 + u * (e' + 5 * d)) f (X'.2.1 b 6) (X'.2.1 b 7) := by
  have hL4 := wf.1.1
  have hp := (wf.2.1 0 (by omega)).1
  intro n
  induction n with
  | zero =>
    intro e fu X A he hfu hc hr hB
    obtain ⟨fu, rfl, -⟩ := fuel_s hfu
    obtain ⟨hL, hX, hNB⟩ := hc.1
    have e0 : X.2.1 (wA b w 0) 0 = nI (sn P 0) := hr.1.1
    refine ⟨X, ?_, hc, FR_refl b X, KEW_refl b w X, BST_eq hB (fun c => ⟨fun h => Or.inl h, fun h => h.elim id (fun ⟨e', d, q1, q2, _⟩ => by omega)⟩)⟩
    show gB N F (gL N F fu) _ _ _ _ _ _ _ _ = _
    unfold gB
    rw [g_gI hL (by omega), e0, if_pos (nI_lt (by omega) (by omega))]
  | succ n ih =>
    intro e fu X A he hfu hc hr hB
    obtain ⟨fu, rfl, hf2⟩ := fuel_s hfu
    obtain ⟨hL, hX, hNB⟩ := id hc.1
    have e0 : X.2.1 (wA b w 0) 0 = nI (sn P 0) := hr.1.1
    have e3 : X.2.1 (wA b w 3) 0 = nI (sB P 0).1 := (hr.2.2.2.2.1 0 (by omega)).1
    show ∃ X', gB N F (gL N F fu) _ _ _ _ _ _ _ _ = _ ∧ _
    unfold gB
    rw [g_gI hL (by omega), e0, if_neg (nI_nlt (by omega) (by omega)), g_f3 hL (by omega), g_bI hL (by omega), e3, nI_1]
    by_cases hsk : e = (sB P 0).1 + 1
    · rw [if_pos ((dig_cmp e (by omega) _ (by omega)).mpr hsk)]
      obtain ⟨X', a1, a2, a3, a4, a5⟩ := ih (e + 1) fu X A (by omega) (by omega) hc hr hB
      refine ⟨X', a1, a2, a3, a4, BST_eq a5 (fun c => ⟨fun h => h.elim Or.inl (fun ⟨e', d, q1, q2, q3, q4⟩ => Or.inr ⟨e', d, by omega, q2, q3, q4⟩), fun h => h.elim Or.inl (fun ⟨e', d, q1, q2, q3, q4⟩ => Or.inr ⟨e', d, by omega, q2, q3, q4⟩)⟩)⟩
    · rw [if_neg (fun q => hsk ((dig_cmp e (by omega) _ (by omega)).mp q))]
      obtain ⟨r1, b1, b2, b3⟩ := w_become (N := N) hL hNB (w := w + 1) (w1 := w) (by omega) (by omega) (by omega) hr wf h4
      obtain ⟨r2, c1, c2, c3⟩ := w_send (N := N) hL (show w + 1 < 7 by omega) b2 wf (by omega) (digT e) (fun t ht => Nat.lt_of_lt_of_le (dig_lt t ht) (by decide)) b3
      have wf2 : WF (sendB P 0 (digT e)) := WF_sendB wf (by omega) _
      obtain ⟨r3, d1, d2, d3⟩ := w_close (N := N) hL (show w + 1 < 7 by omega) c2 wf2 hN c3
      have s3 : ∀ j, sn (closeS (sendB P 0 (digT e))) j = if j = 3 then sn P 3 + 1 else sn P j := fun j => by rw [sn_closeS, sn_sendS, sn_sendS]
      have wf3 : WF (closeS (sendB P 0 (digT e))) := WF_closeS wf2 (by rw [sn_sendS]; omega)
      have hc2 : CLS b S pic sh (SW b X (w + 1) r3) := CLS_mind hc (by omega) (by omega) d3.1 d3.2
      have k1 : KEW b w X (SW b X (w + 1) r3) := KEW_mono (by omega) (KEW_SW hL (by omega))
      have hT : ∀ d, d < T → f (t0 + e * u + u * 5 * d) = gn (goK k d D (closeS (sendB P 0 (digT e)))) := fun d hd => by
        rw [← hf e d (by omega) hd, Nat.mul_add, ← Nat.mul_assoc, Nat.mul_comm u e, Nat.add_assoc]
      have htu : t0 + e * u < u * 5 := by
        have : e * u ≤ 4 * u := Nat.mul_le_mul_right u (by omega)
        omega
      obtain ⟨X3, f1, f2, f3, f4, f5⟩ := hF (SW b X (w + 1) r3) (closeS (sendB P 0 (digT e))) (t0 + e * u) k A hc2 (WRel_at hL (by omega) d2 wf3) wf3 (by rw [s3, if_neg (by decide)]; exact h4) (by rw [s3, if_pos rfl]; omega) (by omega) htu hT (by rw [SW_b (by omega)]; exact hB)
      have k2 : KEW b w X X3 := KEW_trans k1 (KEW_mono (by omega) f4)
      have hr3 : WRel X3 P (gW b X3 w) := by
        have q1 := KEW_SW (r := r3) hL (show w + 1 < 7 by omega)
        exact (KEW_trans q1 f4).2 w (by omega) P wf hr
      obtain ⟨X', a1, a2, a3, a4, a5⟩ := ih (e + 1) fu X3 _ (by omega) (by omega) f2 hr3 f5
      refine ⟨X', ?_, a2, FR_trans (FR_SW (by omega)) (FR_trans f3 a3), KEW_trans k2 a4, BST_eq a5 (fun c => ⟨?_, ?_⟩)⟩
      · have f1' : F b (wA b (w + 1) 0) (nI u * 5) (nI t0 + nI e * nI u) (nI (k + 1) - 1) (SW b X (w + 1) r3) = some ((), X3) := by
          rw [nIm5, pk_mul, nI_add, nI_pred]
          exact f1
        rw [d_wck hL (by omega), b1, bnd_one, q_gR hL (by omega) f7, q_ck hL (by omega), dig_oI e (by omega), c1, bnd_one, q_ck hL (by omega), d1, bnd_one, c_ck hX, f1', bnd_one]
        exact a1
      · rintro ((h | ⟨d, q1, q2⟩) | ⟨e', d, q1, q2, q3, q4, q5⟩)
        · exact Or.inl h
        · refine Or.inr ⟨e, d, Nat.le_refl _, by omega, hsk, q1, ?_⟩
          rw [q2, Nat.mul_add, ← Nat.mul_assoc, Nat.mul_comm u e, Nat.add_assoc]
        · exact Or.inr ⟨e', d, by omega, q2, q3, q4, q5⟩
      · rintro (h | ⟨e', d, q1, q2, q3, q4, q5⟩)
        · exact Or.inl (Or.inl h)
        · by_cases hee : e' = e
          · subst hee
            refine Or.inl (Or.inr ⟨d, q4, ?_⟩)
            rw [q5, Nat.mul_add, ← Nat.mul_assoc, Nat.mul_comm u e', Nat.add_assoc]
          · exact Or.inr ⟨e', d, by omega, q2, q3, q4, q5⟩
theorem g_branch {F : Nat → Nat → Int32 → Int32 → Int32 → Mm → Option (Unit × Mm)} (hF : EXP b S pic sh f D (w + 1) (u * 5) T F) (h2 : 2 ≤ w) (h6 : w < 6) (hu : u ≤ 1000) (hN : 200 ≤ N) {P : SP} (wf : WF P) (h4 : sn P 4 = 1) {t0 k : Nat} (h3 : sn P 3 + 1 + k ≤ 5000) (hk : k ≤ 119) (ht0 : t0 < u) {T' : Nat} (hT' : T' = 5 * T) (hf : ∀ d, d < T' → f (t0 + u * d) = gn (goK k (d / 5) D (closeS (sendB P 0 (digT d))))) {X : Mm} {A : Nat → Prop} (hc : CLS b S pic sh X) (hr : WRel X P (gW b X w)) (hB : BST A f (X.2.1 b 6) (X.2.1 b 7)) : ∃ X', gL N F N b (wA b w 0) (wA b (w + 1) 0) (nI u) (nI t0) (nI (k + 1)) 0 X = some ((), X') ∧ CLS b S pic sh X' ∧ FR b X X' ∧ KEW b w X X' ∧ BST (fun c => A c ∨ ∃ d, d < T' ∧ c = t0 + u * d) f (X'.2.1 b 6) (X'.2.1 b 7) := by
  have hL4 := wf.1.1
  subst hT'
  have hf' : ∀ e d, e < 5 → d < T → f (t0 + u * (e + 5 * d)) = gn (goK k d D (closeS (sendB P 0 (digT e)))) := fun e d he hd => by
    rw [hf (e + 5 * d) (by omega), dig_mod, show (e + 5 * d) / 5 = d by omega]
  obtain ⟨X', a1, a2, a3, a4, a5⟩ := s_branch (N := N) hF h2 h6 hu hN wf h4 h3 hk ht0 hf' (sn P 0 + 1) 0 N X A (by omega) (by omega) hc hr hB
  refine ⟨X', a1, a2, a3, a4, BST_dom a5 ?_ ?_⟩
  · rintro c (h | ⟨e, d, q1, q2, q3, q4, q5⟩)
    · exact Or.inl h
    · exact Or.inr ⟨e + 5 * d, by omega, q5⟩
  · rintro c (h | ⟨d, q1, q2⟩)
    · exact ⟨c, Or.inl h, rfl, Nat.le_refl _⟩
    · by_cases hz : d % 5 = (sB P 0).1 + 1 ∨ sn P 0 < d % 5
      · refine ⟨t0 + u * (0 + 5 * (d / 5)), Or.inr ⟨0, d / 5, Nat.le_refl _, Nat.zero_le _, by omega, by omega, rfl⟩, ?_, ?_⟩
        · rw [q2, hf' 0 (d / 5) (by decide) (by omega), hf d q1, ← send_none (by omega) hz]
          have : digT d = digT (d % 5) := by
            have := dig_mod (d % 5) (d / 5)
            rw [Nat.mod_add_div] at this
            exact this
          rw [this]
        · rw [q2]
          exact Nat.add_le_add_left (Nat.mul_le_mul_left u (by omega)) t0
      · refine ⟨c, Or.inr ⟨d % 5, d / 5, Nat.zero_le _, by omega, by omega, by omega, ?_⟩, rfl, Nat.le_refl _⟩
        rw [q2, Nat.mod_add_div]
theorem g_explore {Bp : (Nat → Nat → Int32 → Int32 → Int32 → Mm → Option (Unit × Mm)) → Nat → Nat → Int32 → Int32 → Int32 → Mm → Option (Unit × Mm)} (h2 : 2 ≤ w) (hw : w < 7) (hN : 200 ≤ N) (hu : u ≤ 625) (hT0 : 0 < T)
    (hBp : (u = 625 ∧ D = 0) ∨ (u < 625 ∧ 0 < D ∧ ∀ (X : Mm) (P : SP) (t0 k : Nat) (A : Nat → Prop) (k4 : Nat → Nat → Int32 → Int32 → Int32 → Mm → Option (Unit × Mm)), CLS b S pic sh X → WRel X P (gW b X w) → WF P → sn P 4 = 1 → sn P 3 + 1 + k ≤ 5000 → k ≤ 119 → t0 < u → (∀ d, d < T → f (t0 + u * d) = gn (goK k (d / 5) (D - 1) (closeS (sendB P 0 (digT d))))) → BST A f (X.2.1 b 6) (X.2.1 b 7) → ∃ X', Bp k4 b (wA b w 0) (nI u) (nI t0) (nI (k + 1)) X = some ((), X') ∧ CLS b S pic sh X' ∧ FR b X X' ∧ KEW b w X X' ∧ BST (fun c => A c ∨ ∃ d, d < T ∧ c = t0 + u * d) f (X'.2.1 b 6) (X'.2.1 b 7)))
    {X : Mm} (hc : CLS b S pic sh X) {t0 : Nat} (ht0 : t0 < u) {A : Nat → Prop} (hB : BST A f (X.2.1 b 6) (X.2.1 b 7)) : ∀ (k fu : Nat) (P : SP) (r : WR), k + 1 ≤ fu → k ≤ 120 → WRel X P r → WF P → sn P 4 = 1 → sn P 3 + k ≤ 5000 → R36 r → (∀ d, d < T → f (t0 + u * d) = gn (goK k d D P)) → ∃ X', gEL N Bp fu b (wA b w 0) (nI u) (nI t0) (nI k) (SW b X w r) = some ((), X') ∧ CLS b S pic sh X' ∧ FR b X X' ∧ KEW b w X X' ∧ BST (fun c => A c ∨ ∃ d, d < T ∧ c = t0 + u * d) f (X'.2.1 b 6) (X'.2.1 b 7) := by
  obtain ⟨hL, hX, hNB⟩ := id hc.1
  intro k
  induction k with
  | zero =>
    intro fu P r hfu hk hr wf h4 h3 h36 hf
    obtain ⟨fu, rfl, -⟩ := fuel_s hfu
    have hcY : CLS b S pic sh (SW b X w r) := CLS_mind hc hw h2 h36.1 h36.2
    have hf0 : f t0 = gn P := hf 0 hT0
    obtain ⟨X', a1, a2, a3⟩ := c_weigh (N := N) (X := SW b X w r) hcY.1.2.1 (A := A) (f := f) (c0 := t0) (by omega) (by rw [SW_b hw]; exact hB)
    have hall : CLS b S pic sh X' ∧ FR b (SW b X w r) X' ∧ KEW b w (SW b X w r) X' := by
      rcases a2 with rfl | rfl
      · exact ⟨hcY, FR_refl _ _, KEW_refl _ _ _⟩
      · exact ⟨CLS_bk (CLS_bk hcY (by decide)) (by decide), FR_trans FR_b FR_b, KEW_trans (KEW_b hcY.1.2.1 (by omega)) (KEW_b (CLS_bk hcY (by decide)).1.2.1 (by omega))⟩
    refine ⟨X', ?_, hall.1, FR_trans (FR_SW hw) hall.2.1, KEW_trans (KEW_SW hL hw) hall.2.2, BST_dom a3 ?_ ?_⟩
    · show gEx N Bp (gEL N Bp fu) _ _ _ _ _ _ = _
      unfold gEx
      rw [if_pos (show nI 0 ≤ 0 by decide), q_ck hL hw, e_gain hL hw, bnd_one, c_ck hX, hr.2.1.2.2.2.1, hr.2.1.2.1, show sc P 3 - sc P 1 = f t0 from hf0.symm, a1, bnd_one]
    · rintro c (h | rfl)
      · exact Or.inl h
      · exact Or.inr ⟨0, hT0, by omega⟩
    · rintro c (h | ⟨d, q1, q2⟩)
      · exact ⟨c, Or.inl h, rfl, Nat.le_refl _⟩
      · refine ⟨t0, Or.inr rfl, ?_, by rw [q2]; exact Nat.le_add_right _ _⟩
        rw [q2, hf d q1, hf0]; rfl
  | succ k ih =>
    intro fu P r hfu hk hr wf h4 h3 h36 hf
    obtain ⟨fu, rfl, hf2⟩ := fuel_s hfu
    obtain ⟨r1, a1, a2, a3⟩ := w_bring (N := N) hL hw hr wf hN h36
    have wf1 := WF_bringS wf
    have h41 : sn (bringS P) 4 = 1 := by rw [snB]; exact h4
    have h31 : sn (bringS P) 3 = sn P 3 := snB P 3
    have hleft : r1.1 3 1 = nI (sB (bringS P) 0).2.1 := (a2.2.2.2.2.1 0 (by omega)).2.1
    have h9 := (wf1.2.1 0 (by omega)).2.1
    have hask : (¬ ((sB (bringS P) 0).2.1 = 0 ∧ 0 < D)) → ∃ X', gJ N (gEL N Bp fu) b (wA b w 0) (nI u) (nI t0) (nI (k + 1)) (SW b X w r1) = some ((), X') ∧ CLS b S pic sh X' ∧ FR b X X' ∧ KEW b w X X' ∧ BST (fun c => A c ∨ ∃ d, d < T ∧ c = t0 + u * d) f (X'.2.1 b 6) (X'.2.1 b 7) := fun hno => by
      obtain ⟨r2, b1, b2, b3⟩ := w_ask (N := N) hL hw a2 wf1 (by omega) hN a3
      have wf2 : WF (askB (bringS P) 0) := WF_askB wf1 (by omega)
      obtain ⟨r3, c1, c2, c3⟩ := w_close (N := N) hL hw b2 wf2 hN b3
      obtain ⟨X', d1, d2⟩ := ih fu (closeS (askB (bringS P) 0)) r3 (by omega) (by omega) c2 (wf_go2 wf h4 (by omega)) (by rw [sn_go2, if_neg (by decide)]; exact h4) (by rw [sn_go2, if_pos rfl]; omega) c3 (fun d hd => by
        rw [hf d hd, goK_s, if_neg hno])
      refine ⟨X', ?_, d2⟩
      unfold gJ
      rw [q_gR hL hw f7, q_ck hL hw, b1, bnd_one, q_ck hL hw, c1, bnd_one, pk_m1]
      exact d1
    show ∃ X', gEx N Bp (gEL N Bp fu) _ _ _ _ _ _ = _ ∧ _
    unfold gEx
    rw [if_neg (nI_nle (by omega) (by omega)), q_ck hL hw, a1, bnd_one, q_gR hL hw f7, q_bgI hL hw (l := 3) (Or.inl rfl), hleft]
    by_cases hz : (sB (bringS P) 0).2.1 = 0
    · rw [if_pos ((nI_z (by omega)).mpr hz)]
      rcases hBp with ⟨hu6, hD⟩ | ⟨hu6, hD, hBB⟩
      · rw [if_pos (show (625 : Int32) ≤ nI u from nI_le (a := 625) (by omega) (by omega))]
        exact hask (fun q => by omega)
      · rw [if_neg (show ¬ (625 : Int32) ≤ nI u from nI_ge (b := 625) (by omega) (by decide))]
        have hcY : CLS b S pic sh (SW b X w r1) := CLS_mind hc hw h2 a3.1 a3.2
        obtain ⟨X', d1, d2, d3, d4, d5⟩ := hBB (SW b X w r1) (bringS P) t0 k A (gEL N Bp fu) hcY (WRel_at hL hw a2 wf1) wf1 h41 (by omega) (by omega) ht0 (fun d hd => by
          rw [hf d hd, goK_s, if_pos ⟨hz, hD⟩]) (by rw [SW_b hw]; exact hB)
        exact ⟨X', d1, d2, FR_trans (FR_SW hw) d3, KEW_trans (KEW_SW hL hw) d4, d5⟩
    · rw [if_neg (fun q => hz ((nI_z (by omega)).mp q))]
      exact hask (fun q => hz q.1)
theorem EXP_of {Bp : (Nat → Nat → Int32 → Int32 → Int32 → Mm → Option (Unit × Mm)) → Nat → Nat → Int32 → Int32 → Int32 → Mm → Option (Unit × Mm)} {F : Nat → Nat → Int32 → Int32 → Int32 → Mm → Option (Unit × Mm)} (h2 : 2 ≤ w) (hw : w < 7) (hN : 200 ≤ N) (hu : u ≤ 625) (hT0 : 0 < T)
    (hBp : (u = 625 ∧ D = 0) ∨ (u < 625 ∧ 0 < D ∧ ∀ (X : Mm) (P : SP) (t0 k : Nat) (A : Nat → Prop) (k4 : Nat → Nat → Int32 → Int32 → Int32 → Mm → Option (Unit × Mm)), CLS b S pic sh X → WRel X P (gW b X w) → WF P → sn P 4 = 1 → sn P 3 + 1 + k ≤ 5000 → k ≤ 119 → t0 < u → (∀ d, d < T → f (t0 + u * d) = gn (goK k (d / 5) (D - 1) (closeS (sendB P 0 (digT d))))) → BST A f (X.2.1 b 6) (X.2.1 b 7) → ∃ X', Bp k4 b (wA b w 0) (nI u) (nI t0) (nI (k + 1)) X = some ((), X') ∧ CLS b S pic sh X' ∧ FR b X X' ∧ KEW b w X X' ∧ BST (fun c => A c ∨ ∃ d, d < T ∧ c = t0 + u * d) f (X'.2.1 b 6) (X'.2.1 b 7)))
    (hF : ∀ x0 x1 x2 x3 x4 M, F x0 x1 x2 x3 x4 M = gEL N Bp N x0 x1 x2 x3 x4 M) : EXP b S pic sh f D w u T F := by
  intro X P t0 k A hc hr wf h4 h3 hk ht0 hf hB
  obtain ⟨X', a1, a2⟩ := g_explore (N := N) h2 hw hN hu hT0 hBp hc ht0 hB k N P (gW b X w) (by omega) hk hr wf h4 h3 (R36_NB hc.1.2.2 hw) hf
  rw [SW_get hw] at a1
  exact ⟨X', by rw [hF]; exact a1, a2⟩
theorem EXP_up {F : Nat → Nat → Int32 → Int32 → Int32 → Mm → Option (Unit × Mm)} {F' : Nat → Nat → Int32 → Int32 → Int32 → Mm → Option (Unit × Mm)} {Fb : Nat → Nat → Nat → Int32 → Int32 → Int32 → Mm → Option (Unit × Mm)} (h2 : 2 ≤ w) (h6 : w < 6) (hN : 200 ≤ N) (hu : u < 625) (hT0 : 0 < T) (hF : EXP b S pic sh f D (w + 1) (u * 5) T F) (hb : ∀ x0 x1 x2 x3 x4 x5 M, Fb x0 x1 x2 x3 x4 x5 M = gL N F N x0 x1 x2 x3 x4 x5 0 M) (hF' : ∀ x0 x1 x2 x3 x4 M, F' x0 x1 x2 x3 x4 M = gEL N (gP N Fb) N x0 x1 x2 x3 x4 M) : EXP b S pic sh f (D + 1) w u (5 * T) F' := by
  refine EXP_of h2 (by omega) hN (by omega) (by omega) (Or.inr ⟨hu, by omega, fun X P t0 k A k4 hc hr wf h4 h3 hk ht0 hf hB => ?_⟩) hF'
  obtain ⟨X', a1, a2⟩ := g_branch (N := N) hF h2 h6 (by omega) hN wf h4 h3 hk ht0 rfl hf hc hr hB
  refine ⟨X', ?_, a2⟩
  obtain ⟨hL, hX, hNB⟩ := hc.1
  unfold gP
  rw [g_below hL h2 h6, g_below hL h2 h6, d_ck hX, hb, a1, bnd_one]
theorem EXP4 (hN : 200 ≤ N) : EXP b S pic sh f 4 2 1 625 (f_X11_explore4 N) := by
  have e0 : EXP b S pic sh f 0 6 625 1 (f_X11_explore0 N) := EXP_of (Bp := gP0 N) (by decide) (by decide) hN (by decide) (by decide) (Or.inl ⟨rfl, rfl⟩) (fun x0 x1 x2 x3 x4 M => by
    show l_X11_explore0_4 N N x0 x1 x2 x3 x4 M = _
    rw [gEL0])
  have e1 : EXP b S pic sh f 1 5 125 (5 * 1) (f_X11_explore1 N) := EXP_up (Fb := f_X11_branch1 N) (by decide) (by decide) hN (by decide) (by decide) e0 (fun x0 x1 x2 x3 x4 x5 M => by
    show l_X11_branch1_3 N N x0 x1 x2 x3 x4 x5 0 M = _
    rw [gL1]) (fun x0 x1 x2 x3 x4 M => by
    show l_X11_explore1_4 N N x0 x1 x2 x3 x4 M = _
    rw [gEL1])
  have e2 : EXP b S pic sh f 2 4 25 (5 * (5 * 1)) (f_X11_explore2 N) := EXP_up (Fb := f_X11_branch2 N) (by decide) (by decide) hN (by decide) (by decide) e1 (fun x0 x1 x2 x3 x4 x5 M => by
    show l_X11_branch2_3 N N x0 x1 x2 x3 x4 x5 0 M = _
    rw [gL2]) (fun x0 x1 x2 x3 x4 M => by
    show l_X11_explore2_4 N N x0 x1 x2 x3 x4 M = _
    rw [gEL2])
  have e3 : EXP b S pic sh f 3 3 5 (5 * (5 * (5 * 1))) (f_X11_explore3 N) := EXP_up (Fb := f_X11_branch3 N) (by decide) (by decide) hN (by decide) (by decide) e2 (fun x0 x1 x2 x3 x4 x5 M => by
    show l_X11_branch3_3 N N x0 x1 x2 x3 x4 x5 0 M = _
    rw [gL3]) (fun x0 x1 x2 x3 x4 M => by
    show l_X11_explore3_4 N N x0 x1 x2 x3 x4 M = _
    rw [gEL3])
  have e4 : EXP b S pic sh f 4 2 1 (5 * (5 * (5 * (5 * 1)))) (f_X11_explore4 N) := EXP_up (Fb := f_X11_branch4 N) (by decide) (by decide) hN (by decide) (by decide) e3 (fun x0 x1 x2 x3 x4 x5 M => by
    show l_X11_branch4_3 N N x0 x1 x2 x3 x4 x5 0 M = _
    rw [gL4]) (fun x0 x1 x2 x3 x4 M => by
    show l_X11_explore4_4 N N x0 x1 x2 x3 x4 M = _
    rw [gEL4])
  exact e4
end EXPLORE
