/-! bestGoings: both sides. -/
theorem amaxK_best (h : Nat → Int32) : ∀ (k i p : Nat), p < i → (∀ c, c < i → h c < h p ∨ (h c = h p ∧ p ≤ c)) → amaxK h k i p (h p) < i + k ∧ ∀ c, c < i + k → h c < h (amaxK h k i p (h p)) ∨ (h c = h (amaxK h k i p (h p)) ∧ amaxK h k i p (h p) ≤ c) := by
  intro k
  induction k with
  | zero => intro i p hp hc; exact ⟨hp, hc⟩
  | succ k ih =>
    intro i p hp hc
    unfold amaxK
    by_cases hv : h i ≤ h p
    · rw [if_pos hv]
      have := ih (i + 1) p (by omega) (fun c hci => by
        by_cases hci2 : c = i
        · subst hci2
          by_cases he : h c = h p
          · exact Or.inr ⟨he, by omega⟩
          · exact Or.inl (Int32.lt_of_le_of_ne hv he)
        · exact hc c (by omega))
      rw [show i + (k + 1) = i + 1 + k by omega]
      exact this
    · rw [if_neg hv]
      have hv' : h p < h i := Int32.not_le.mp hv
      have := ih (i + 1) i (by omega) (fun c hci => by
        by_cases hci2 : c = i
        · subst hci2
          exact Or.inr ⟨rfl, Nat.le_refl _⟩
        · rcases hc c (by omega) with q | ⟨q, -⟩
          · exact Or.inl (Int32.lt_trans q hv')
          · exact Or.inl (by rw [q]; exact hv'))
      rw [show i + (k + 1) = i + 1 + k by omega]
      exact this
section BESTG
variable {b : Nat} {M M2 : Mm} {S P : SP} {pic : Option SP} {sh : Nat → SV} {r r' : Nat → Nat → Int32} {N w : Nat} {ρ : Type}
theorem C13_goK : ∀ (k cd gl : Nat) (P : SP) (w e : Nat), WF P → sn P 4 = 1 → sn P 3 + k ≤ 5000 → C13 P w e → ∃ w' e', w' ≤ w + 48 * k ∧ e' ≤ e + 600 * k ∧ C13 (goK k cd gl P) w' e' := by
  intro k
  induction k with
  | zero => intro cd gl P w e wf h4 h3 h; exact ⟨w, e, by omega, by omega, h⟩
  | succ k ih =>
    intro cd gl P w e wf h4 h3 h
    obtain ⟨e1, q1, q2⟩ := C13_rest wf h4 h
    rw [goK_s]
    by_cases hc : (sB (bringS P) 0).2.1 = 0 ∧ 0 < gl
    · rw [if_pos hc]
      have wf2 : WF (sendB (bringS P) 0 (digT cd)) := WF_sendB (WF_bringS wf) (by rw [snB]; omega) _
      obtain ⟨w1, q3, q4⟩ := C13_closeS wf2 (C13_send (x := 0) (to := digT cd) q2)
      obtain ⟨w', e', a1, a2, a3⟩ := ih (cd / 5) (gl - 1) _ w1 e1 (wf_go1 wf h4 (by omega) (digT cd)) (by rw [sn_go1, if_neg (by decide)]; exact h4) (by rw [sn_go1, if_pos rfl]; omega) q4
      exact ⟨w', e', by omega, by omega, a3⟩
    · rw [if_neg hc]
      have wf2 : WF (askB (bringS P) 0) := WF_askB (WF_bringS wf) (by rw [snB]; omega)
      obtain ⟨w1, q3, q4⟩ := C13_closeS wf2 (C13_askB (x := 0) q2)
      obtain ⟨w', e', a1, a2, a3⟩ := ih cd gl _ w1 e1 (wf_go2 wf h4 (by omega)) (by rw [sn_go2, if_neg (by decide)]; exact h4) (by rw [sn_go2, if_pos rfl]; omega) q4
      exact ⟨w', e', by omega, by omega, a3⟩
theorem gn_toInt {w e : Nat} (h : C13 P w e) (hw : w < 2 ^ 28) (he : e < 2 ^ 28) : (gn P).toInt = (e : Int) - w := by
  unfold gn
  rw [h.1, h.2]
  exact pk_sub_toInt (by omega) (by omega)
theorem sub_toInt {x y : Int32} (h1 : -2 ^ 29 ≤ x.toInt) (h2 : x.toInt < 2 ^ 29) (h3 : -2 ^ 29 ≤ y.toInt) (h4 : y.toInt < 2 ^ 29) : (x - y).toInt = x.toInt - y.toInt := by
  rw [Int32.toInt_sub]
  exact Int.bmod_eq_of_le (by omega) (by omega)
theorem valG_cmp (wf : WF S) (h4 : sn S 4 = 1) (hcn : CNT S) {m : Nat} (hm : m ≤ 120) (c c' : Nat) : (valG S m c < valG S m c' ↔ gn (goK m c 4 S) < gn (goK m c' 4 S)) ∧ (valG S m c = valG S m c' ↔ gn (goK m c 4 S) = gn (goK m c' 4 S)) := by
  obtain ⟨h9, w, e, c1, c2, c3, c5⟩ := hcn
  have hb : ∀ c, ∃ i : Int, (gn (goK m c 4 S)).toInt = i ∧ -2 ^ 28 ≤ i ∧ i < 2 ^ 28 := fun c => by
    obtain ⟨w', e', a1, a2, a3⟩ := C13_goK m c 4 S w e wf h4 (by omega) ⟨c1, c3⟩
    exact ⟨_, gn_toInt a3 (by omega) (by omega), by omega, by omega⟩
  have h0 : (gn S).toInt = (e : Int) - w := gn_toInt ⟨c1, c3⟩ (by omega) (by omega)
  have hv : ∀ c, (valG S m c).toInt = (gn (goK m c 4 S)).toInt - ((e : Int) - w) := fun c => by
    obtain ⟨i, i1, i2, i3⟩ := hb c
    rw [← h0]
    exact sub_toInt (x := gn (goK m c 4 S)) (y := gn S) (by omega) (by omega) (by omega) (by omega)
  refine ⟨?_, ?_⟩
  · rw [Int32.lt_iff_toInt_lt, Int32.lt_iff_toInt_lt, hv, hv]; omega
  · rw [← Int32.toInt_inj, ← Int32.toInt_inj, hv, hv]; omega
theorem s_mbestg (hl : MLAY b M2) (wf : WF S) (h4 : sn S 4 = 1) (h3 : sn S 3 ≤ 999) {m : Nat} (hm : m ≤ 120) (hN : 200 ≤ N) : ∀ (k i fu p : Nat) (r : Nat → Nat → Int32), i + k = 625 → k + 1 ≤ fu → KRel K0 S (r 1) → r 0 18 = 0 → ∃ r', l_X12_bestGoings_21 N fu (mc b 0) (nI m) (nI p) (valG S m p) (nI i) (MW b M2 r) = some (nI (amaxK (valG S m) k i p (valG S m p)), MW b M2 r') ∧ MM r r' := by
  intro k
  induction k with
  | zero =>
    intro i fu p r hi hf hk h18
    obtain ⟨fu, rfl, -⟩ := fuel_s hf
    refine ⟨r, ?_, MM_refl h18⟩
    show b_X12_bestGoings_21 N (l_X12_bestGoings_21 N fu) _ _ _ _ _ _ = _
    unfold b_X12_bestGoings_21
    rw [if_pos (show (625 : Int32) ≤ nI i from nI_le (a := 625) (by omega) (by omega))]
    rfl
  | succ k ih =>
    intro i fu p r hi hf hk h18
    obtain ⟨fu, rfl, hf2⟩ := fuel_s hf
    obtain ⟨r1, a1, a2⟩ := m_goingsOf (N := N) hl hk wf h4 h3 (cd := i) (by omega) hm hN
    have hk1 : KRel K0 S (r1 1) := by rw [a2.1 1 (by decide) (by decide)]; exact hk
    show ∃ r', b_X12_bestGoings_21 N (l_X12_bestGoings_21 N fu) _ _ _ _ _ _ = _ ∧ _
    unfold b_X12_bestGoings_21
    rw [if_neg (show ¬ (625 : Int32) ≤ nI i from nI_ge (b := 625) (by omega) (by decide)), n_ck hl, a1, bnd_one, nI_1]
    unfold amaxK
    by_cases hv : valG S m i ≤ valG S m p
    · rw [if_neg (Int32.not_lt.mpr hv), if_pos hv]
      obtain ⟨r', b1, b2⟩ := ih (i + 1) fu p r1 (by omega) (by omega) hk1 a2.2.2
      exact ⟨r', b1, MM_trans a2 b2⟩
    · rw [if_pos (Int32.not_le.mp hv), if_neg hv]
      obtain ⟨r', b1, b2⟩ := ih (i + 1) fu i r1 (by omega) (by omega) hk1 a2.2.2
      exact ⟨r', b1, MM_trans a2 b2⟩
theorem T_bestGoings (hc : CLS b S pic sh M) (hl : MLAY b M2) (hm : MDR S pic sh r) (hi : INV S pic) (hN : 700 ≤ N) (m : Int32) : AGREE b M M2 (f_X11_bestGoings N b m M) (f_X12_bestGoings N (mc b 0) m (MW b M2 r)) := by
  obtain ⟨⟨hL, hX, hNB⟩, ⟨hr, wf, h1⟩, -⟩ := id hc
  have h999 := hi.1.1
  unfold f_X11_bestGoings f_X12_bestGoings
  rw [c_isNoSpan, bnd_one, b32_ifn]
  rw [m_isDay, bnd_one, b32_if, n_ck hl]
  by_cases hB : 1 ≤ m ∧ m ≤ 120
  rotate_left
  · exact AGREE_same hc hm hi (-1) (by simp only [if_neg hB]) (by simp only [if_neg hB])
  obtain ⟨m, hm1, hm2, rfl⟩ := one_nat hB.1 hB.2 (n := 120) rfl (by decide)
  have hpI : ∀ κ : Mm → Option (Int32 × Mm), pI 11 M b 7 (-1) κ = κ (sI M b 7 (-1)) := fun κ => if_pos hX.1
  have hc4 : CLS b S pic sh (sI M b 7 (-1)) := CLS_bk hc (by decide)
  obtain ⟨hL4, hX4, hNB4⟩ := id hc4.1
  obtain ⟨r1, a1, a2, a3⟩ := c_mbecome (N := N) hc4
  have hc8 : CLS b S pic sh (SW b (sI M b 7 (-1)) 2 r1) := CLS_mind hc4 (by decide) (by decide) a3.1 a3.2
  obtain ⟨X', b1, b2, b3, b4, b5⟩ := EXP4 (N := N) (b := b) (S := S) (pic := pic) (sh := sh) (f := fun c => gn (goK m c 4 S)) (by omega) (SW b (sI M b 7 (-1)) 2 r1) S 0 m (fun _ => False) hc8 (WRel_at hL4 (by decide) a2 wf) wf h1 (by omega) hm2 (by decide) (fun d _ => by rw [Nat.zero_add, Nat.one_mul]) (Or.inl ⟨by rw [SW_b (by decide)]; simp [sI, up2], fun _ h => h⟩)
  rcases b5 with ⟨-, hn⟩ | ⟨c, hc625, d1, d2, d3, d4⟩
  · exact absurd (Or.inr ⟨0, by decide, rfl⟩) (hn 0)
  obtain ⟨r2, e1, e2⟩ := m_goingsOf (N := N) hl hm.1 wf h1 h999 (cd := 0) (by decide) hm2 (by omega)
  obtain ⟨r3, f1, f2⟩ := s_mbestg (N := N) hl wf h1 h999 hm2 (by omega) 624 1 N 0 r2 rfl (by omega) (by rw [e2.1 1 (by decide) (by decide)]; exact hm.1) e2.2.2
  obtain ⟨g1, g2⟩ := amaxK_best (valG S m) 624 1 0 (by decide) (fun c hc => Or.inr ⟨by rw [show c = 0 by omega], Nat.zero_le _⟩)
  have hq : amaxK (valG S m) 624 1 0 (valG S m 0) = c := by
    have hA : ∀ c', c' < 625 → gn (goK m c' 4 S) < gn (goK m c 4 S) ∨ (gn (goK m c' 4 S) = gn (goK m c 4 S) ∧ c ≤ c') := fun c' hc' => d4 c' (Or.inr ⟨c', hc', by rw [Nat.zero_add, Nat.one_mul]⟩)
    obtain ⟨v1, v2⟩ := valG_cmp wf h1 hi.1 hm2 c (amaxK (valG S m) 624 1 0 (valG S m 0))
    rcases hA (amaxK (valG S m) 624 1 0 (valG S m 0)) g1 with q1 | ⟨q1, q2⟩
    · rcases g2 c hc625 with q3 | ⟨q3, -⟩
      · exact absurd (Int32.lt_trans q1 (v1.mp q3)) Int32.lt_irrefl
      · rw [v2.mp q3] at q1
        exact absurd q1 Int32.lt_irrefl
    · rcases g2 c hc625 with q3 | ⟨q3, q4⟩
      · have := v1.mp q3
        rw [q1] at this
        exact absurd this Int32.lt_irrefl
      · omega
  refine ⟨nI c, S, pic, sh, X', r3, ?_, ?_, b2, FR_trans FR_b (FR_trans (FR_SW (by decide)) b3), MDR_MM hm (MM_trans e2 f2), hi⟩
  · have b1' : f_X11_explore4 N b (wA b 2 0) 1 0 (nI m) (SW b (sI M b 7 (-1)) 2 r1) = some ((), X') := b1
    have hg : ∀ κ : Int32 → Option (Int32 × Mm), gI 11 X' b 7 κ = κ (X'.2.1 b 7) := fun κ => if_pos b2.1.2.1.1
    rw [if_pos hB, hpI, d_mind hX4, d_real hX4, d_wck hL4 (by decide), a1, bnd_one, c_mind hX4 (by decide), c_ck hX4, b1', bnd_one, hg, d1]
  · have e1' : f_X12_goingsOf N (mc b 0) 0 (nI m) (MW b M2 r) = some (valG S m 0, MW b M2 r2) := e1
    have f1' : l_X12_bestGoings_21 N N (mc b 0) (nI m) 0 (valG S m 0) 1 (MW b M2 r2) = _ := f1
    rw [if_pos hB, e1', bnd_one, f1', hq]
end BESTG
