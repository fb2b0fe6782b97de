/-! lantern, price. -/
theorem min_lit {a : Nat} (c : Nat) (ha : a < 2 ^ 31) (hc : c < 2 ^ 31) : (if nI c < nI a then nI c else nI a) = nI (min a c) := by
  by_cases h : c < a
  · rw [if_pos (nI_lt h ha), Nat.min_eq_right (by omega)]
  · rw [if_neg (nI_nlt (by omega) hc), Nat.min_eq_left (by omega)]
theorem min_lit2 {ρ : Type} {a : Nat} (c : Nat) (ha : a < 2 ^ 31) (hc : c < 2 ^ 31) (F : Int32 → ρ) : (if nI a ≤ nI c then F (nI a) else F (nI c)) = F (nI (min a c)) := by
  by_cases h : a ≤ c
  · rw [if_pos (nI_le h hc), Nat.min_eq_left h]
  · rw [if_neg (nI_ge (by omega) ha), Nat.min_eq_right (by omega)]
theorem sub_lit {a k : Nat} (ha : a < 2 ^ 30) (hk : k < 2 ^ 30) : (nI a - nI k < 1 ∧ max (a - k) 1 = 1) ∨ (¬ nI a - nI k < 1 ∧ nI a - nI k = nI (max (a - k) 1)) := by
  by_cases h : k < a
  · refine Or.inr ⟨?_, ?_⟩
    · rw [pk_sub (by omega)]
      exact nI_nlt (b := 1) (by omega) (by omega)
    · rw [pk_sub (by omega), Nat.max_eq_left (by omega)]
  · refine Or.inl ⟨?_, by omega⟩
    by_cases h2 : a = k
    · subst h2
      rw [pk_sub (Nat.le_refl _), Nat.sub_self]
      decide
    · exact Int32.lt_trans (pk_sneg hk (by omega)) (by decide)
theorem max_lit {a k : Nat} (ha : a < 2 ^ 30) (hk : k < 2 ^ 30) : (if nI a - nI k < 1 then (1 : Int32) else nI a - nI k) = nI (max (a - k) 1) := by
  rcases sub_lit ha hk with ⟨h1, h2⟩ | ⟨h1, h2⟩
  · rw [if_pos h1, h2]; rfl
  · rw [if_neg h1, h2]
theorem max_lit2 {ρ : Type} {a k : Nat} (ha : a < 2 ^ 30) (hk : k < 2 ^ 30) (F : Int32 → ρ) : (if 1 ≤ nI a - nI k then F (nI a - nI k) else F 1) = F (nI (max (a - k) 1)) := by
  rcases sub_lit ha hk with ⟨h1, h2⟩ | ⟨h1, h2⟩
  · rw [if_neg (Int32.not_le.mpr h1), h2]; rfl
  · rw [if_pos (Int32.not_lt.mp h1), ← h2]
def lantK (n : Nat) : Nat → Nat → SP → SP
  | 0, _, P => P
  | k + 1, t, P => lantK n k (t + 1) (ssf P t 3 (min (sf P t 3 + n) 20))
section PRICE
variable {b : Nat} {M M2 : Mm} {S : SP} {pic : Option SP} {sh : Nat → SV} {r r' : Nat → Nat → Int32} {N : Nat} {ρ : Type}
theorem s_clant (hL : LAY b M) (hX : CXL b M) {m n : Nat} (hm : m ≤ 120) (hn : n ≤ 20) (hN : 200 ≤ N) (v : Int32) : ∀ (k t fu : Nat) (P : SP) (r : WR), t + k = sn P 1 → k + 1 ≤ fu → WRel M P r → WF P → (∀ l, sQ P l = []) → sn P 3 = 0 → R36 r → ∃ r', l_X11_lantern_92 N fu b (nI m) (nI n) v (nI t) (SW b M 2 r) = some (v - sc (passS (lantK n k t P) m) 2, SW b M 2 r') ∧ R36 r' := by
  intro k
  induction k with
  | zero =>
    intro t fu P r ht hf hr wf hQ h3 h36
    obtain ⟨fu, rfl, -⟩ := fuel_s hf
    have h5 := wf.1.2.1
    obtain ⟨r2, b1, b2, b3, b4⟩ := c_pass2 (N := N) hL hr wf (n := m) (by omega) hN hm h36
    refine ⟨r2, ?_, b4⟩
    show b_X11_lantern_92 N (l_X11_lantern_92 N fu) _ _ _ _ _ _ = _
    unfold b_X11_lantern_92
    rw [c_mind hX (by decide), q_gI hL (by decide), hr.1.2.1, if_pos (nI_le (by omega) (by omega)), c_mind hX (by decide), q_ck hL (by decide), b1, bnd_one, c_mind hX (by decide), q_gI hL (by decide), b2.2.1.2.2.1]
    rfl
  | succ k ih =>
    intro t fu P r ht hf hr wf hQ h3 h36
    obtain ⟨fu, rfl, hf2⟩ := fuel_s hf
    have h5 := wf.1.2.1
    have hw := (wf.1.2.2.2.2.2.1 t (by omega)).2.2.2.2.1
    obtain ⟨r', c1, c2⟩ := ih (t + 1) fu (ssf P t 3 (min (sf P t 3 + n) 20)) _ (by show t + 1 + k = sn P 1; omega) (by omega) (WRel_ssf hr wf (t := t) (k := 3) (v := min (sf P t 3 + n) 20) (by omega) (by decide) (fun _ => hQ)) (WF_ssf wf (Or.inr (Or.inl ⟨rfl, by omega, hQ⟩))) hQ h3 h36
    refine ⟨r', ?_, c2⟩
    show b_X11_lantern_92 N (l_X11_lantern_92 N fu) _ _ _ _ _ _ = _
    unfold b_X11_lantern_92
    rw [c_mind hX (by decide), q_gI hL (by decide), hr.1.2.1, if_neg (nI_ge (by omega) (by omega)), c_mind hX (by decide), q_ck hL (by decide), show (3 : Int32) = nI 3 from rfl, k_ofSort hL (by decide) hr wf (by omega) (by decide), bnd_one, c_mind hX (by decide), q_ck hL (by decide), nI_add, show (20 : Int32) = nI 20 from rfl, min_lit 20 (by omega) (by omega), k_changeSort hL (by decide) (by omega) (by decide), bnd_one, nI_1]
    exact c1
theorem s_mlant (hl : MLAY b M2) {m n : Nat} (hm : m ≤ 120) (hn : n ≤ 20) (hN : 200 ≤ N) (v : Int32) : ∀ (k t fu : Nat) (P : SP) (r : Nat → Nat → Int32), t + k = sn P 1 → k + 1 ≤ fu → KRel K0 P (r 3) → WF P → (∀ l, sQ P l = []) → sn P 3 = 0 → sn P 4 = 1 → r 0 18 = 0 → ∃ r', l_X12_lantern_70 N fu (mc b 0) (nI m) (nI n) v (nI t) (MW b M2 r) = some (v - sc (passS (lantK n k t P) m) 2, MW b M2 r') ∧ MM r r' := by
  intro k
  induction k with
  | zero =>
    intro t fu P r ht hf hk wf hQ h3 h4 h18
    obtain ⟨fu, rfl, -⟩ := fuel_s hf
    have h5 := wf.1.2.1
    obtain ⟨r2, b1, b2, b3⟩ := m_goesD (N := N) hl (w := 1) (by decide) hN hm h3 h4 hk wf h18 1 rfl
    refine ⟨r2, ?_, b3⟩
    show b_X12_lantern_70 N (l_X12_lantern_70 N fu) _ _ _ _ _ _ = _
    unfold b_X12_lantern_70
    rw [n_gR hl (p := 3) (by decide), n_ald1 hl (by decide) (by decide) (by decide), hk.1.2.1, if_pos (nI_le (by omega) (by omega)), n_ck hl, b1, bnd_one]
    rfl
  | succ k ih =>
    intro t fu P r ht hf hk wf hQ h3 h4 h18
    obtain ⟨fu, rfl, hf2⟩ := fuel_s hf
    have h5 := wf.1.2.1
    have hw := (wf.1.2.2.2.2.2.1 t (by omega)).2.2.2.2.1
    have hmm : MM r (upR r 3 (upN (r 3) (25 + 5 * t + 3) (nI (min (sf P t 3 + n) 20)))) := MM_3 h18 (fun p hp => upR_n hp)
    obtain ⟨r', c1, c2⟩ := ih (t + 1) fu (ssf P t 3 (min (sf P t 3 + n) 20)) (upR r 3 (upN (r 3) (25 + 5 * t + 3) (nI (min (sf P t 3 + n) 20)))) (by show t + 1 + k = sn P 1; omega) (by omega) (by rw [upR_s]; exact KRel_ssf hk wf (by omega) (by decide)) (WF_ssf wf (Or.inr (Or.inl ⟨rfl, by omega, hQ⟩))) hQ h3 h4 hmm.2.2
    refine ⟨r', ?_, MM_trans hmm c2⟩
    have hA : AI (MW b M2 r) (mc b 3) 174 := AI_MW hl (by decide) (by decide)
    have e3 : f_X12_get N (mc b 3) (nI t) 3 (MW b M2 r) = some (nI (sf P t 3), MW b M2 r) := by
      rw [MW_as (show 3 < 12 by decide), ← hk.2.2.2.1 t 3 (by omega) (by decide)]
      exact m_get (M := MW b M2 r) hA 3 3 rfl (by omega) (by decide)
    show b_X12_lantern_70 N (l_X12_lantern_70 N fu) _ _ _ _ _ _ = _
    unfold b_X12_lantern_70
    rw [n_gR hl (p := 3) (by decide), n_ald1 hl (by decide) (by decide) (by decide), hk.1.2.1, if_neg (nI_ge (by omega) (by omega)), n_gR hl (p := 3) (by decide), e3, bnd_one, n_gR hl (p := 3) (by decide), nI_add, show (20 : Int32) = nI 20 from rfl, min_lit2 20 (by omega) (by omega) (fun v' => j_X12_lantern_123 N (l_X12_lantern_70 N fu) (mc b 0) (nI m) (nI n) v (nI t) v' (25 + 5 * nI t + 3) (mc b 3) (MW b M2 r))]
    unfold j_X12_lantern_123
    rw [show (3 : Int32) = nI 3 from rfl, iS, n_ast hl (by decide) (by decide) (show 25 + 5 * t + 3 < 174 by omega), upR_up2, nI_1]
    exact c1
theorem T_lantern (hc : CLS b S pic sh M) (hl : MLAY b M2) (hm : MDR S pic sh r) (hi : INV S pic) (hN : 200 ≤ N) (x l m z n : Int32) : AGREE b M M2 (f_X11_lantern N b x l m z n M) (f_X12_lantern N (mc b 0) x l m z n (MW b M2 r)) := by
  obtain ⟨⟨hL, hX, hNB⟩, ⟨hr, wf, h1⟩, -⟩ := id hc
  have hM2 : SW b M 2 (gW b M 2) = M := SW_get (by decide)
  have hL4 := wf.1.1
  unfold f_X11_lantern f_X12_lantern f_X12_wrongDay
  rw [d_real hX, d_wck hL (by decide), d_hasLanding hc, bnd_one, b32_if, c_isNoSpan, bnd_one, b32_ifn, rng_if, d_ck hX]
  rw [m_isIn n 0 20 0 20 rfl rfl, bnd_one, b32_if, n_ck hl, m_isShelf, bnd_one, b32_if, n_ck hl, m_isLanding hl hm.1 wf, bnd_one, b32_if, m_isDay, bnd_one, b32_if, n_ck hl]
  by_cases hA : 0 ≤ l ∧ l < nI (sn S 0)
  rotate_left
  · exact AGREE_same hc hm hi (-1000000001) (by simp only [if_neg hA]) (by simp only [if_neg hA, ite_self, bnd_one, if_neg m1z, farm1])
  by_cases hB : 1 ≤ m ∧ m ≤ 120
  rotate_left
  · exact AGREE_same hc hm hi (-1000000001) (by simp only [if_neg hB, ite_self]) (by simp only [if_neg hB, ite_self, bnd_one, if_neg m1z, farm1])
  by_cases hC : 0 ≤ n ∧ n ≤ 20
  rotate_left
  · exact AGREE_same hc hm hi (-1000000001) (by simp only [if_neg hC, ite_self]) (by simp only [if_neg hC, ite_self])
  rw [if_pos hA, if_pos hB, if_pos hC, if_pos hC, if_pos hA, if_pos hB]
  rcases rule3 (N := N) hc hl hm x with ⟨d, q, kd, fg, hd, rfl, hq, e1, e2, e9, e10⟩ | ⟨hS, c, hc0, e1, e2, e3⟩ | ⟨hS, e1, e2⟩
  · rw [if_pos (nI_in7 hd), e1, bnd_one, onn_s, e2, bnd_one, bnd_one, if_pos rfl, d_ck hX, n_ck hl]
    obtain ⟨l, hl', rfl⟩ := in_nat hA.1 hA.2 (by omega)
    obtain ⟨m, hm1, hm2, rfl⟩ := one_nat hB.1 hB.2 (n := 120) rfl (by decide)
    obtain ⟨n, hn, rfl⟩ := in_nat2 (n := 20) hC.1 hC.2 rfl (by decide)
    have wfd := WF_dayS (z := z) wf hl' hq.2.2.1 hq.2.2.2
    obtain ⟨r1, r2, a1, a2, a3, a4⟩ := c_day (N := N) hc hq hl' hm2 z hN (R36_NB hNB (show 2 < 7 by decide))
    rw [hM2] at a1
    obtain ⟨r3, b1, b2, b3⟩ := c_begin (N := N) hL hX hr wf hq hl' z (by omega) a4
    obtain ⟨r4, c1, c2⟩ := s_clant (N := N) hL hX (m := m) hm2 hn hN (sc (passS (dayS S z l kd fg) m) 2) (sn S 1) 0 N (dayS S z l kd fg) r3 (by rw [sn_dayS, if_neg (by decide), if_neg (by decide)]; omega) (by have := wf.1.2.1; omega) b2 wfd (fun _ => rfl) (by rw [sn_dayS, if_neg (by decide), if_pos rfl]) b3
    obtain ⟨g1, d1, d2⟩ := m_dayOf (N := N) hl hm.1 wf hd hl' hq.2.2.1 hq.2.2.2 hm2 (show 1 < 4 by omega) e9 e10 z hN 1 rfl
    have e9' : g1 9 d = nI kd := by rw [d2.1 9 (by decide) (by decide)]; exact e9
    have e10' : g1 10 d = nI fg := by rw [d2.1 10 (by decide) (by decide)]; exact e10
    obtain ⟨g2, f1, f2, f3⟩ := m_begins2 (N := N) (r := g1) hl (by rw [d2.1 1 (by decide) (by decide)]; exact hm.1) wf z l kd fg hN
    obtain ⟨g3, k1, k2⟩ := s_mlant (N := N) hl (m := m) hm2 hn hN (sc (passS (dayS S z l kd fg) m) 2) (sn S 1) 0 N (dayS S z l kd fg) g2 (by rw [sn_dayS, if_neg (by decide), if_neg (by decide)]; omega) (by have := wf.1.2.1; omega) f2 wfd (fun _ => rfl) (by rw [sn_dayS, if_neg (by decide), if_pos rfl]) (sn4_day S z l kd fg) f3.2.2
    refine AGREE_mind hc hm hi c2 (MM_trans d2 (MM_trans f3 k2)) (sc (passS (dayS S z l kd fg) m) 2 - sc (passS (lantK n (sn S 1) 0 (dayS S z l kd fg)) m) 2) ?_ ?_
    · rw [a1, bnd_one, c_mind hX (by decide), q_ck hL (by decide), a2, bnd_one, c_mind hX (by decide), q_gI hL (by decide), a3.2.1.2.2.1, c_ck hX, b1, bnd_one]
      exact c1
    · rw [d1, bnd_one, n_gR hl (p := 9) (by decide), n_ald hl (by decide) (by decide) hd, n_gR hl (p := 10) (by decide), n_ald hl (by decide) (by decide) hd, e9', e10', n_ck hl, f1, bnd_one]
      exact k1
  · rw [if_pos hS, e1, bnd_one, onn_n, d_ck hX, e2, bnd_one, e3, bnd_one, bnd_one, if_neg hc0]
    exact AGREE_same hc hm hi (-1000000000 + c) rfl rfl
  · rw [if_neg hS, e1, bnd_one, onn_n, d_ck hX, e2, bnd_one, bnd_one, if_neg m1z]
    exact AGREE_same hc hm hi (-1000000001) rfl rfl
theorem T_price (hc : CLS b S pic sh M) (hl : MLAY b M2) (hm : MDR S pic sh r) (hi : INV S pic) (hN : 200 ≤ N) (x t m z n : Int32) : AGREE b M M2 (f_X11_price N b x t m z n M) (f_X12_price N (mc b 0) x t m z n (MW b M2 r)) := by
  obtain ⟨⟨hL, hX, hNB⟩, ⟨hr, wf, h1⟩, -⟩ := id hc
  have hM2 : SW b M 2 (gW b M 2) = M := SW_get (by decide)
  have hL4 := wf.1.1
  have h5 := wf.1.2.1
  have h00 : (0 : Int32) ≤ 0 ∧ (0 : Int32) < nI (sn S 0) := ⟨Int32.le_refl _, (nI_0lt (by omega)).mpr (by omega)⟩
  unfold f_X11_price f_X12_price f_X12_wrongDay
  rw [d_real hX, d_wck hL (by decide), d_hasSort hc, bnd_one, b32_if, c_isNoSpan, bnd_one, b32_ifn, rng_if, d_ck hX]
  rw [n_ck hl, m_isSort hl hm.1 wf, bnd_one, b32_if, m_isIn n 0 99 0 99 rfl rfl, bnd_one, b32_if, n_ck hl, m_isShelf, bnd_one, b32_if, n_ck hl, m_isLanding hl hm.1 wf, bnd_one, b32_if, if_pos h00, m_isDay, bnd_one, b32_if, n_ck hl]
  by_cases hA : 0 ≤ t ∧ t < nI (sn S 1)
  rotate_left
  · exact AGREE_same hc hm hi (-1000000001) (by simp only [if_neg hA]) (by simp only [if_neg hA])
  by_cases hB : 1 ≤ m ∧ m ≤ 120
  rotate_left
  · exact AGREE_same hc hm hi (-1000000001) (by simp only [if_neg hB, ite_self]) (by simp only [if_neg hB, ite_self, bnd_one, if_neg m1z, farm1])
  by_cases hC : 0 ≤ n ∧ n ≤ 99
  rotate_left
  · exact AGREE_same hc hm hi (-1000000001) (by simp only [if_neg hC, ite_self]) (by simp only [if_neg hC, ite_self])
  rw [if_pos hA, if_pos hB, if_pos hC, if_pos hA, if_pos hC, if_pos hB]
  rcases rule3 (N := N) hc hl hm x with ⟨d, q, kd, fg, hd, rfl, hq, e1, e2, e9, e10⟩ | ⟨hS, c, hc0, e1, e2, e3⟩ | ⟨hS, e1, e2⟩
  · rw [if_pos (nI_in7 hd), e1, bnd_one, onn_s, e2, bnd_one, bnd_one, if_pos rfl, d_ck hX, n_ck hl]
    obtain ⟨t, ht, rfl⟩ := in_nat hA.1 hA.2 (by omega)
    obtain ⟨m, hm1, hm2, rfl⟩ := one_nat hB.1 hB.2 (n := 120) rfl (by decide)
    obtain ⟨n, hn, rfl⟩ := in_nat2 (n := 99) hC.1 hC.2 rfl (by decide)
    have hl' : 0 < sn S 0 := by omega
    have wfd := WF_dayS (z := z) wf hl' hq.2.2.1 hq.2.2.2
    have hs1 : sn (dayS S z 0 kd fg) 1 = sn S 1 := by rw [sn_dayS, if_neg (by decide), if_neg (by decide)]
    have ht' : t < sn (dayS S z 0 kd fg) 1 := by rw [hs1]; exact ht
    obtain ⟨-, -, -, -, hw, hp⟩ := wf.1.2.2.2.2.2.1 t ht
    have e4 : sf (dayS S z 0 kd fg) t 4 = sf S t 4 := rfl
    have e3 : sf (dayS S z 0 kd fg) t 3 = sf S t 3 := rfl
    have hdiv : nI n / 10 = nI (n / 10) := pk_div (d := 10) (by omega) (by decide) (by decide)
    have wf1 : WF (ssf (dayS S z 0 kd fg) t 4 (min (sf S t 4 + n) 99)) := WF_ssf wfd (Or.inr (Or.inr ⟨rfl, by omega⟩))
    have wf2 : WF (ssf (ssf (dayS S z 0 kd fg) t 4 (min (sf S t 4 + n) 99)) t 3 (max (sf S t 3 - n / 10) 1)) := WF_ssf wf1 (Or.inr (Or.inl ⟨rfl, by omega, fun _ => rfl⟩))
    obtain ⟨r1, r2, a1, a2, a3, a4⟩ := c_day (N := N) hc hq hl' hm2 z hN (R36_NB hNB (show 2 < 7 by decide))
    rw [hM2] at a1
    obtain ⟨r3, b1, b2, b3⟩ := c_begin (N := N) hL hX hr wf hq hl' z (by omega) a4
    have w1 := WRel_ssf b2 wfd (t := t) (k := 4) (v := min (sf S t 4 + n) 99) ht' (by decide) (fun h => absurd h (by decide))
    have w2 := WRel_ssf w1 wf1 (t := t) (k := 3) (v := max (sf S t 3 - n / 10) 1) ht' (by decide) (fun _ _ => rfl)
    obtain ⟨r4, c1, c2, c3, c4⟩ := c_pass2 (N := N) hL w2 wf2 (sn3_day S z 0 kd fg hm2) hN hm2 b3
    obtain ⟨g1, d1, d2⟩ := m_dayOf (N := N) hl hm.1 wf hd hl' hq.2.2.1 hq.2.2.2 hm2 (show 2 < 4 by omega) e9 e10 z hN 2 rfl
    have e9' : g1 9 d = nI kd := by rw [d2.1 9 (by decide) (by decide)]; exact e9
    have e10' : g1 10 d = nI fg := by rw [d2.1 10 (by decide) (by decide)]; exact e10
    obtain ⟨g2, f1, f2, f3⟩ := m_begins2 (N := N) (r := g1) hl (by rw [d2.1 1 (by decide) (by decide)]; exact hm.1) wf z 0 kd fg hN
    have y1 := KRel_ssf f2 wfd (t := t) (k := 4) (v := min (sf S t 4 + n) 99) ht' (by decide)
    have y2 := KRel_ssf y1 wf1 (t := t) (k := 3) (v := max (sf S t 3 - n / 10) 1) ht' (by decide)
    have hmm : MM g2 (upR g2 3 (upN (upN (g2 3) (25 + 5 * t + 4) (nI (min (sf S t 4 + n) 99))) (25 + 5 * t + 3) (nI (max (sf S t 3 - n / 10) 1)))) := MM_3 f3.2.2 (fun p hp => upR_n hp)
    obtain ⟨g3, k1, k2, k3⟩ := m_goesD (N := N) hl (r := upR g2 3 (upN (upN (g2 3) (25 + 5 * t + 4) (nI (min (sf S t 4 + n) 99))) (25 + 5 * t + 3) (nI (max (sf S t 3 - n / 10) 1)))) (w := 2) (by decide) hN hm2 (P := ssf (ssf (dayS S z 0 kd fg) t 4 (min (sf S t 4 + n) 99)) t 3 (max (sf S t 3 - n / 10) 1)) (by show sn (dayS S z 0 kd fg) 3 = 0; rw [sn_dayS, if_neg (by decide), if_pos rfl]) (sn4_day S z 0 kd fg) (by rw [upR_s]; exact y2) wf2 hmm.2.2 2 rfl
    have hA' : AI (MW b M2 g2) (mc b 3) 174 := AI_MW hl (by decide) (by decide)
    have gt : ∀ (i : Int32) (k : Nat), i = nI k → k < 5 → f_X12_get N (mc b 3) (nI t) i (MW b M2 g2) = some (nI (sf S t k), MW b M2 g2) := fun i k hik hk5 => by
      rw [MW_as (show 3 < 12 by decide), show nI (sf S t k) = g2 3 (25 + 5 * t + k) from (f2.2.2.2.1 t k ht' hk5).symm]
      exact m_get (M := MW b M2 g2) hA' i k hik (by omega) hk5
    refine AGREE_mind hc hm hi c4 (MM_trans d2 (MM_trans f3 (MM_trans hmm k3))) (sc (passS (ssf (ssf (dayS S z 0 kd fg) t 4 (min (sf S t 4 + n) 99)) t 3 (max (sf S t 3 - n / 10) 1)) m) 3 - sc (passS (dayS S z 0 kd fg) m) 3) ?_ ?_
    · have a1' : f_X11_begin N b q 0 z M = some ((), SW b M 2 r1) := a1
      have b1' : f_X11_begin N b q 0 z (SW b M 2 r2) = some ((), SW b M 2 r3) := b1
      rw [a1', bnd_one, c_mind hX (by decide), q_ck hL (by decide), a2, bnd_one, c_mind hX (by decide), q_gI hL (by decide), a3.2.1.2.2.2.1, c_ck hX, b1', bnd_one, c_mind hX (by decide), q_ck hL (by decide), show (4 : Int32) = nI 4 from rfl, k_ofSort hL (by decide) b2 wfd ht' (by decide), bnd_one, e4, nI_add, show (99 : Int32) = nI 99 from rfl, min_lit 99 (by omega) (by omega), c_mind hX (by decide), q_ck hL (by decide), k_changeSort hL (by decide) (by omega) (by decide), bnd_one, c_mind hX (by decide), q_ck hL (by decide), show (3 : Int32) = nI 3 from rfl, k_ofSort hL (by decide) w1 wf1 ht' (by decide), bnd_one, show sf (ssf (dayS S z 0 kd fg) t 4 (min (sf S t 4 + n) 99)) t 3 = sf S t 3 from (by rw [sf_ssf, if_neg (by omega)]; rfl), hdiv, max_lit (by omega) (by omega), c_mind hX (by decide), q_ck hL (by decide), k_changeSort hL (by decide) (by omega) (by decide), bnd_one, c_mind hX (by decide), q_ck hL (by decide), c1, bnd_one, c_mind hX (by decide), q_gI hL (by decide), c2.2.1.2.2.2.1]
    · have f1' : f_X12_begins N (mc b 0) z 0 (nI kd) (nI fg) (MW b M2 g1) = some ((), MW b M2 g2) := f1
      have d1' : f_X12_dayOf N (mc b 0) (nI d) 0 (nI m) z 2 (MW b M2 r) = some (sc (passS (dayS S z 0 kd fg) m) (1 + 2), MW b M2 g1) := d1
      rw [d1', bnd_one, n_gR hl (p := 9) (by decide), n_ald hl (by decide) (by decide) hd, n_gR hl (p := 10) (by decide), n_ald hl (by decide) (by decide) hd, e9', e10', n_ck hl, f1', bnd_one, n_gR hl (p := 3) (by decide), gt 4 4 rfl (by decide), bnd_one, n_gR hl (p := 3) (by decide), gt 3 3 rfl (by decide), bnd_one, n_gR hl (p := 3) (by decide), hdiv, nI_add, show (99 : Int32) = nI 99 from rfl, min_lit2 99 (by omega) (by omega) (fun v' => j_X12_price_132 N (mc b 0) (nI t) (nI m) (sc (passS (dayS S z 0 kd fg) m) (1 + 2)) (nI (sf S t 3) - nI (n / 10)) v' (25 + 5 * nI t + 4) (mc b 3) (MW b M2 g2))]
      unfold j_X12_price_132
      rw [show (4 : Int32) = nI 4 from rfl, iS, n_ast hl (by decide) (by decide) (show 25 + 5 * t + 4 < 174 by omega), n_gR hl (p := 3) (by decide), max_lit2 (by omega) (by omega) (fun v' => j_X12_price_157 N (mc b 0) (nI m) (sc (passS (dayS S z 0 kd fg) m) (1 + 2)) v' (25 + 5 * nI t + 3) (mc b 3) (MW b M2 (up2 g2 3 (25 + 5 * t + 4) (nI (min (sf S t 4 + n) 99)))))]
      unfold j_X12_price_157
      rw [show (3 : Int32) = nI 3 from rfl, iS, n_ast hl (by decide) (by decide) (show 25 + 5 * t + 3 < 174 by omega), upR_up2, upR_up2, upR_s, upR_R, n_ck hl, k1, bnd_one]
  · rw [if_pos hS, e1, bnd_one, onn_n, d_ck hX, e2, bnd_one, e3, bnd_one, bnd_one, if_neg hc0]
    exact AGREE_same hc hm hi (-1000000000 + c) rfl rfl
  · rw [if_neg hS, e1, bnd_one, onn_n, d_ck hX, e2, bnd_one, bnd_one, if_neg m1z]
    exact AGREE_same hc hm hi (-1000000001) rfl rfl
end PRICE
