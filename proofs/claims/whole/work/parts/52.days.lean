/-! Days in mind: both sides' pieces; day, mean. -/
theorem onn_s {ρ : Type} {a : Nat} {κ0 : Option ρ} {κ : Nat → Option ρ} : onn (some a) κ0 κ = κ a := rfl
theorem onn_n {ρ : Type} {κ0 : Option ρ} {κ : Nat → Option ρ} : onn none κ0 κ = κ0 := rfl
theorem b32_ifn {ρ : Type} {p : Prop} [Decidable p] {A B : ρ} : (if b32 (¬ p) = 0 then A else B) = (if p then A else B) := by
  by_cases hp : p <;> simp [b32, hp]
theorem rng_if {ρ : Type} {x h : Int32} {A B : ρ} : (if x < 0 then B else if x ≤ h then A else B) = if 0 ≤ x ∧ x ≤ h then A else B := by
  by_cases h0 : x < 0
  · rw [if_pos h0, if_neg (fun q => absurd h0 (Int32.not_lt.mpr q.1))]
  · rw [if_neg h0]
    by_cases h1 : x ≤ h
    · rw [if_pos h1, if_pos ⟨Int32.not_lt.mp h0, h1⟩]
    · rw [if_neg h1, if_neg (fun q => h1 q.2)]
theorem m1z : ¬ (-1 : Int32) = 0 := by decide
theorem farm1 : (-1000000000 : Int32) + -1 = -1000000001 := by decide
section DAYS
variable {b : Nat} {M M2 : Mm} {S : SP} {pic : Option SP} {sh : Nat → SV} {r r' : Nat → Nat → Int32} {N : Nat} {ρ : Type}
theorem d_real (h : CXL b M) {κ : Nat → Option ρ} : gR 11 M b 0 κ = κ (wA b 0 0) := by
  unfold gR
  rw [if_pos h.1, h.2.1.1]; rfl
theorem d_mind (h : CXL b M) {κ : Nat → Option ρ} : gR 11 M b 3 κ = κ (wA b 2 0) := by
  unfold gR
  rw [if_pos h.1, h.2.1.2.2.1]; rfl
theorem d_wck (h : LAY b M) {w : Nat} (hw : w < 7) {κ : Option ρ} : ck 10 M (wA b w 0) κ = κ := by
  unfold ck
  rw [if_pos (by rw [(h w hw).1 0 (by decide)]; rfl)]
theorem d_hasLanding (hc : CLS b S pic sh M) {x : Int32} : f_X10_hasLanding N (wA b 0 0) x M = some (b32 (0 ≤ x ∧ x < nI (sn S 0)), M) := by
  obtain ⟨⟨hL, -⟩, ⟨hr, wf, h1⟩, -⟩ := hc
  have hM : SW b M 0 (gW b M 0) = M := SW_get (by decide)
  conv => lhs; rw [← hM]
  rw [e_hasLanding hL (by decide), hr.1.1, hM]
theorem d_hasSort (hc : CLS b S pic sh M) {x : Int32} : f_X10_hasSort N (wA b 0 0) x M = some (b32 (0 ≤ x ∧ x < nI (sn S 1)), M) := by
  obtain ⟨⟨hL, -⟩, ⟨hr, wf, h1⟩, -⟩ := hc
  have hM : SW b M 0 (gW b M 0) = M := SW_get (by decide)
  conv => lhs; rw [← hM]
  rw [e_hasSort hL (by decide), hr.1.2.1, hM]
theorem c_isNoSpan {M : Mm} {x : Int32} : f_X11_isNoSpan N x M = some (b32 (¬ (1 ≤ x ∧ x ≤ 120)), M) := by
  unfold f_X11_isNoSpan j_X11_isNoSpan_11 b32
  by_cases h0 : x < 1
  · rw [if_pos h0, if_pos (fun q => absurd h0 (Int32.not_lt.mpr q.1))]
  · rw [if_neg h0]
    by_cases h1 : x ≤ 120
    · rw [if_pos h1, if_neg (fun q => q ⟨Int32.not_lt.mp h0, h1⟩)]
    · rw [if_neg h1, if_pos (fun q => h1 q.2)]
theorem c_isNoDays {M : Mm} {x : Int32} : f_X11_isNoDays N x M = some (b32 (¬ (1 ≤ x ∧ x ≤ 10)), M) := by
  unfold f_X11_isNoDays j_X11_isNoDays_11 b32
  by_cases h0 : x < 1
  · rw [if_pos h0, if_pos (fun q => absurd h0 (Int32.not_lt.mpr q.1))]
  · rw [if_neg h0]
    by_cases h1 : x ≤ 10
    · rw [if_pos h1, if_neg (fun q => q ⟨Int32.not_lt.mp h0, h1⟩)]
    · rw [if_neg h1, if_pos (fun q => h1 q.2)]
theorem one_nat {x m : Int32} {n : Nat} (h0 : 1 ≤ x) (h1 : x ≤ m) (hm : m = nI n) (hn : n < 2 ^ 31) : ∃ i, 1 ≤ i ∧ i ≤ n ∧ x = nI i := by
  obtain ⟨i, hi, rfl⟩ := in_nat2 (Int32.le_trans (by decide) h0) h1 hm hn
  exact ⟨i, (nI_leI (a := 1) (by decide) (by omega)).mp h0, hi, rfl⟩
theorem rule3 (hc : CLS b S pic sh M) (hl : MLAY b M2) (hm : MDR S pic sh r) (x : Int32) :
    (∃ d q kd fg, d < 8 ∧ x = nI d ∧ isRl M q kd fg ∧ f_X11_ruleAt N b x M = some (some q, M) ∧ f_X12_wrongRule N (mc b 0) x (MW b M2 r) = some (0, MW b M2 r) ∧ r 9 d = nI kd ∧ r 10 d = nI fg) ∨
    ((0 ≤ x ∧ x ≤ 7) ∧ ∃ c, c ≠ 0 ∧ f_X11_ruleAt N b x M = some (none, M) ∧ f_X11_refuseRule N b x M = some (c, M) ∧ f_X12_wrongRule N (mc b 0) x (MW b M2 r) = some (c, MW b M2 r)) ∨
    (¬ (0 ≤ x ∧ x ≤ 7) ∧ f_X11_ruleAt N b x M = some (none, M) ∧ f_X11_refuseRule N b x M = some (-1, M)) := by
  rcases rule_split (N := N) hc hl hm x with h | ⟨c, h0, -, h1, h2, h3⟩
  · exact Or.inl h
  · by_cases hx : 0 ≤ x ∧ x ≤ 7
    · exact Or.inr (Or.inl ⟨hx, c, h0, h1, h2, h3⟩)
    · refine Or.inr (Or.inr ⟨hx, h1, ?_⟩)
      unfold f_X12_wrongRule at h3
      rw [m_isShelf, bnd_one, b32_if, if_neg hx] at h3
      have : (-1 : Int32) = c := congrArg Prod.fst (Option.some.inj h3)
      rw [h2, ← this]
def R36 (q : WR) : Prop := (∃ a, q.2 3 = some a) ∧ ∃ a, q.2 6 = some a
theorem R36_NB (h : NB b M) {w : Nat} (hw : w < 7) : R36 (gW b M w) := ⟨h w hw 3 (Or.inl rfl), h w hw 6 (Or.inr rfl)⟩
theorem WRel_3 {P : SP} {q : WR} (h : WRel M P q) (h4 : 1 ≤ sn P 4) : ∃ a, q.2 3 = some a := by
  obtain ⟨-, -, -, -, q3, hq, -⟩ := h.2.2.2.2.1 0 (by omega)
  exact ⟨q3, hq⟩
theorem c_begin (hL : LAY b M) (hX : CXL b M) (hr : WRel M S (gW b M 0)) (wf : WF S) {q kd fg l : Nat} (hq : isRl M q kd fg) (hl : l < sn S 0) (z : Int32) (hN : 10 ≤ N) {r : WR} (h36 : R36 r) : ∃ r', f_X11_begin N b q (nI l) z (SW b M 2 r) = some ((), SW b M 2 r') ∧ WRel M (dayS S z l kd fg) r' ∧ R36 r' := by
  obtain ⟨r', e, h1, h2⟩ := k_beginDay (N := N) (r := r) hL (w := 2) (w1 := 0) (by decide) (by decide) (by decide) hr wf hq hl (z := z) hN
  refine ⟨r', ?_, h1, WRel_3 h1 (by rw [sn_dayS, if_pos rfl]; exact Nat.le_refl _), by rw [h2]; exact h36.2⟩
  unfold f_X11_begin
  rw [c_mind hX (by decide), c_real hX (by decide), q_ck hL (by decide), e, bnd_one]
theorem c_pass2 (hL : LAY b M) {P : SP} {r : WR} (hr : WRel M P r) (wf : WF P) {n : Nat} (hm : sn P 3 + n ≤ 5000) (hN : 200 ≤ N) (hn : n ≤ 120) (h36 : R36 r) : ∃ r', f_X10_pass N (wA b 2 0) (nI n) (SW b M 2 r) = some ((), SW b M 2 r') ∧ WRel M (passS P n) r' ∧ WF (passS P n) ∧ R36 r' := by
  obtain ⟨r', p1, p2, p3⟩ := k_pass (N := N) hL (w := 2) (by decide) hr wf (n := n) hm (by omega) (by omega)
  have hk := KP_f_X10_pass N (wA b 2 0) (nI n) (SW b M 2 r)
  exact ⟨r', p1, p2, p3, by rw [KP_SW (by decide) hk p1 (l := 3) (Or.inl rfl)]; exact h36.1, by rw [KP_SW (by decide) hk p1 (l := 6) (Or.inr rfl)]; exact h36.2⟩
/-- the model's cells but the row in mind -/
def MM (r r' : Nat → Nat → Int32) : Prop := (∀ p, p ≠ 0 → p ≠ 3 → r' p = r p) ∧ (∀ k, k ≠ 17 → k ≠ 18 → r' 0 k = r 0 k) ∧ r' 0 18 = 0
theorem MM_refl (h : r 0 18 = 0) : MM r r := ⟨fun _ _ _ => rfl, fun _ _ _ => rfl, h⟩
theorem MM_trans {r'' : Nat → Nat → Int32} (h1 : MM r r') (h2 : MM r' r'') : MM r r'' := ⟨fun p h0 h3 => (h2.1 p h0 h3).trans (h1.1 p h0 h3), fun k h h' => (h2.2.1 k h h').trans (h1.2.1 k h h'), h2.2.2⟩
theorem MM_3 (h : r 0 18 = 0) (h' : ∀ p, p ≠ 3 → r' p = r p) : MM r r' := ⟨fun p _ h3 => h' p h3, fun k _ _ => by rw [h' 0 (by decide)], by rw [h' 0 (by decide)]; exact h⟩
theorem MDR_MM (hm : MDR S pic sh r) (h : MM r r') : MDR S pic sh r' := by
  obtain ⟨a1, a2, a3, a4, a5⟩ := hm
  refine ⟨by rw [h.1 1 (by decide) (by decide)]; exact a1, fun P hP => by rw [h.1 2 (by decide) (by decide)]; exact a2 P hP, by rw [h.2.1 10 (by decide) (by decide)]; exact a3, h.2.2, fun d hd => ?_⟩
  unfold SHm
  rw [h.1 5 (by decide) (by decide), h.1 6 (by decide) (by decide), h.1 7 (by decide) (by decide), h.1 8 (by decide) (by decide), h.1 9 (by decide) (by decide), h.1 10 (by decide) (by decide)]
  exact a5 d hd
theorem K_sc {D : Nat → Nat} {g : Nat → Int32} (hk : KRel D S g) {w : Nat} (hw : w < 4) : g (5 + w) = sc S (1 + w) := by
  match w, hw with
  | 0, _ => exact hk.2.1.2.1
  | 1, _ => exact hk.2.1.2.2.1
  | 2, _ => exact hk.2.1.2.2.2.1
  | 3, _ => exact hk.2.1.2.2.2.2
theorem m_begins2 (h : MLAY b M2) (hk : KRel K0 S (r 1)) (wf : WF S) (z : Int32) (l kd fg : Nat) (hN : 200 ≤ N) : ∃ r', f_X12_begins N (mc b 0) z (nI l) (nI kd) (nI fg) (MW b M2 r) = some ((), MW b M2 r') ∧ KRel K0 (dayS S z l kd fg) (r' 3) ∧ MM r r' := by
  obtain ⟨r', c1, c2, c3, c4, c5⟩ := m_begins (N := N) h hk wf (z := z) (l := l) (kd := kd) (fg := fg) hN
  exact ⟨r', c1, c2, c3, fun k _ h18 => c4 k h18, c5⟩
theorem m_goes2 (h : MLAY b M2) {n w : Nat} (hw : w < 4) {P : SP} (hN : 200 ≤ N) (hn : n ≤ 120) (hm : sn P 3 + n ≤ 5000) (hk : KRel K0 P (r 3)) (wf : WF P) (h18 : r 0 18 = 0) : ∃ r', f_X12_goesBy N (mc b 0) (nI n) (nI (sn P 4)) (nI w) (MW b M2 r) = some (sc (passS P n) (1 + w), MW b M2 r') ∧ KRel K0 (passS P n) (r' 3) ∧ MM r r' := by
  obtain ⟨r', c1, c2, c3⟩ := m_goesBy (N := N) h hw (n := n) (by omega) (by omega) hm hk wf h18
  exact ⟨r', by rw [c1, K_sc c2 hw], c2, MM_3 h18 c3⟩
theorem AGREE_mind {α : Type} {x y : Option (α × Mm)} (hc : CLS b S pic sh M) (hm : MDR S pic sh r) (hi : INV S pic) {q : WR} (h36 : R36 q) (hmm : MM r r') (v : α) (h1 : x = some (v, SW b M 2 q)) (h2 : y = some (v, MW b M2 r')) : AGREE b M M2 x y :=
  ⟨v, S, pic, sh, SW b M 2 q, r', h1, h2, CLS_mind hc (by decide) (by decide) h36.1 h36.2, FR_SW (by decide), MDR_MM hm hmm, hi⟩
theorem sn3_day (S : SP) (z : Int32) (l kd fg : Nat) {n : Nat} (hn : n ≤ 120) : sn (dayS S z l kd fg) 3 + n ≤ 5000 := by
  rw [sn_dayS, if_neg (by decide), if_pos rfl]; omega
theorem sn4_day (S : SP) (z : Int32) (l kd fg : Nat) : sn (dayS S z l kd fg) 4 = 1 := by rw [sn_dayS, if_pos rfl]
theorem m_goesD (h : MLAY b M2) {n w : Nat} (hw : w < 4) {P : SP} (hN : 200 ≤ N) (hn : n ≤ 120) (h3 : sn P 3 = 0) (h4 : sn P 4 = 1) (hk : KRel K0 P (r 3)) (wf : WF P) (h18 : r 0 18 = 0) (w' : Int32) (hw' : w' = nI w) : ∃ r', f_X12_goesBy N (mc b 0) (nI n) 1 w' (MW b M2 r) = some (sc (passS P n) (1 + w), MW b M2 r') ∧ KRel K0 (passS P n) (r' 3) ∧ MM r r' := by
  obtain ⟨r', c1, c2⟩ := m_goes2 (N := N) h hw hN hn (by omega) hk wf h18
  rw [h4] at c1
  rw [hw']
  exact ⟨r', c1, c2⟩
theorem c_day (hc : CLS b S pic sh M) {q kd fg l m : Nat} (hq : isRl M q kd fg) (hl : l < sn S 0) (hm : m ≤ 120) (z : Int32) (hN : 200 ≤ N) {r : WR} (h36 : R36 r) : ∃ r1 r2, f_X11_begin N b q (nI l) z (SW b M 2 r) = some ((), SW b M 2 r1) ∧ f_X10_pass N (wA b 2 0) (nI m) (SW b M 2 r1) = some ((), SW b M 2 r2) ∧ WRel M (passS (dayS S z l kd fg) m) r2 ∧ R36 r2 := by
  obtain ⟨⟨hL, hX, hNB⟩, ⟨hr, wf, h1⟩, -⟩ := hc
  obtain ⟨r1, a1, a2, a3⟩ := c_begin (N := N) hL hX hr wf hq hl z (by omega) h36
  obtain ⟨r2, b1, b2, b3, b4⟩ := c_pass2 (N := N) hL a2 (WF_dayS wf hl hq.2.2.1 hq.2.2.2) (sn3_day S z l kd fg hm) hN hm a3
  exact ⟨r1, r2, a1, b1, b2, b4⟩
theorem m_dayOf (hl : MLAY b M2) (hk : KRel K0 S (r 1)) (wf : WF S) {d kd fg l m w : Nat} (hd : d < 8) (hl' : l < sn S 0) (hk7 : kd < 7) (hf : fg < 10) (hm : m ≤ 120) (hw : w < 4) (e9 : r 9 d = nI kd) (e10 : r 10 d = nI fg) (z : Int32) (hN : 200 ≤ N) (w' : Int32) (hw' : w' = nI w) : ∃ r', f_X12_dayOf N (mc b 0) (nI d) (nI l) (nI m) z w' (MW b M2 r) = some (sc (passS (dayS S z l kd fg) m) (1 + w), MW b M2 r') ∧ MM r r' := by
  obtain ⟨r1, a1, a2, a3⟩ := m_begins2 (N := N) hl hk wf z l kd fg hN
  obtain ⟨r2, b1, b2, b3⟩ := m_goesD (N := N) hl hw hN hm (by rw [sn_dayS, if_neg (by decide), if_pos rfl]) (sn4_day S z l kd fg) a2 (WF_dayS wf hl' hk7 hf) a3.2.2 w' hw'
  refine ⟨r2, ?_, MM_trans a3 b3⟩
  unfold f_X12_dayOf
  rw [n_gR hl (p := 9) (by decide), n_ald hl (by decide) (by decide) hd, n_gR hl (p := 10) (by decide), n_ald hl (by decide) (by decide) hd, e9, e10, n_ck hl, a1, bnd_one, n_ck hl, b1, bnd_one]
theorem T_day (hc : CLS b S pic sh M) (hl : MLAY b M2) (hm : MDR S pic sh r) (hi : INV S pic) (hN : 200 ≤ N) (x l m z w : Int32) : AGREE b M M2 (f_X11_day N b x l m z w M) (f_X12_day N (mc b 0) x l m z w (MW b M2 r)) := by
  obtain ⟨⟨hL, hX, hNB⟩, ⟨hr, wf, h1⟩, -⟩ := id hc
  have hM2 : SW b M 2 (gW b M 2) = M := SW_get (by decide)
  have hL4 := wf.1.1
  unfold f_X11_day f_X12_day
  rw [d_real hX, d_wck hL (by decide), d_hasLanding hc, bnd_one, b32_if, c_isNoSpan, bnd_one, b32_ifn, rng_if, d_ck hX]
  rw [m_isShelf, bnd_one, b32_if, n_ck hl, m_isLanding hl hm.1 wf, bnd_one, b32_if, m_isDay, bnd_one, b32_if, m_isIn w 0 3 0 3 rfl rfl, bnd_one, b32_if, n_ck hl]
  by_cases hA : 0 ≤ l ∧ l < nI (sn S 0)
  rotate_left
  · exact AGREE_same hc hm hi (-1) (by simp only [if_neg hA]) (by simp only [if_neg hA, ite_self])
  by_cases hB : 1 ≤ m ∧ m ≤ 120
  rotate_left
  · exact AGREE_same hc hm hi (-1) (by simp only [if_neg hB, ite_self]) (by simp only [if_neg hB, ite_self])
  by_cases hC : 0 ≤ w ∧ w ≤ 3
  rotate_left
  · exact AGREE_same hc hm hi (-1) (by simp only [if_neg hC, ite_self]) (by simp only [if_neg hC, ite_self])
  rw [if_pos hA, if_pos hB, if_pos hC, if_pos hA, if_pos hB, if_pos hC]
  rcases rule3 (N := N) hc hl hm x with ⟨d, q, kd, fg, hd, rfl, hq, e1, e2, e9, e10⟩ | ⟨hS, c, hc0, e1, e2, e3⟩ | ⟨hS, e1, e2⟩
  · rw [if_pos (nI_in7 hd), e1, bnd_one, onn_s, e2, bnd_one, if_pos rfl, d_ck hX, n_ck hl]
    obtain ⟨l, hl', rfl⟩ := in_nat hA.1 hA.2 (by omega)
    obtain ⟨m, hm1, hm2, rfl⟩ := one_nat hB.1 hB.2 (n := 120) rfl (by decide)
    obtain ⟨w, hw, rfl⟩ := in_nat2 (n := 3) hC.1 hC.2 rfl (by decide)
    obtain ⟨r1, r2, a1, a2, a3, a4⟩ := c_day (N := N) hc hq hl' hm2 z hN (R36_NB hNB (show 2 < 7 by decide))
    rw [hM2] at a1
    obtain ⟨r4, d1, d2⟩ := m_dayOf (N := N) hl hm.1 wf hd hl' hq.2.2.1 hq.2.2.2 hm2 (show w < 4 by omega) e9 e10 z hN (nI w) rfl
    refine AGREE_mind hc hm hi a4 d2 (sc (passS (dayS S z l kd fg) m) (1 + w)) ?_ ?_
    · rw [a1, bnd_one, c_mind hX (by decide), q_ck hL (by decide), a2, bnd_one, c_mind hX (by decide), q_ck hL (by decide), e_figureOf hL (by decide), bnd_one, a3.2.1.2.1, a3.2.1.2.2.1, a3.2.1.2.2.2.1, a3.2.1.2.2.2.2]
      rcases (show w = 0 ∨ w = 1 ∨ w = 2 ∨ w = 3 by omega) with rfl | rfl | rfl | rfl <;> rfl
    · rw [d1, bnd_one]
  · rw [if_pos hS, e1, bnd_one, onn_n, d_ck hX, e2, bnd_one, e3, bnd_one, if_neg hc0]
    exact AGREE_same hc hm hi c rfl rfl
  · rw [if_neg hS, e1, bnd_one, onn_n, d_ck hX, e2, bnd_one]
    exact AGREE_same hc hm hi (-1) rfl rfl
-- the mean of some days
def meanK (S : SP) (l kd fg m : Nat) (z : Int32) : Nat → Nat → Int32 → Int32
  | 0, _, c => c
  | k + 1, i, c => meanK S l kd fg m z k (i + 1) (c + (sc (passS (dayS S (z + nI i) l kd fg) m) 3 - sc (passS (dayS S (z + nI i) l kd fg) m) 1))
theorem s_cmean (hc : CLS b S pic sh M) {q kd fg l m n : Nat} (hq : isRl M q kd fg) (hl : l < sn S 0) (hm : m ≤ 120) (z : Int32) (hN : 200 ≤ N) (hn : n ≤ 10) : ∀ (k i fu : Nat) (r : WR) (c : Int32), i + k = n → k + 1 ≤ fu → R36 r → ∃ r', l_X11_meanOf_6 N fu b q (nI l) (nI m) (nI n) z c (nI i) (SW b M 2 r) = some (meanK S l kd fg m z k i c, SW b M 2 r') ∧ R36 r' := by
  have hL := hc.1.1
  have hX := hc.1.2.1
  intro k
  induction k with
  | zero =>
    intro i fu r c hi hf h36
    obtain ⟨fu, rfl, -⟩ := fuel_s hf
    refine ⟨r, ?_, h36⟩
    show b_X11_meanOf_6 N (l_X11_meanOf_6 N fu) _ _ _ _ _ _ _ _ _ = _
    unfold b_X11_meanOf_6
    rw [if_pos (nI_le (by omega) (by omega))]
    rfl
  | succ k ih =>
    intro i fu r c hi hf h36
    obtain ⟨fu, rfl, hf2⟩ := fuel_s hf
    obtain ⟨r1, r2, a1, a2, a3, a4⟩ := c_day (N := N) hc hq hl hm (z + nI i) hN h36
    obtain ⟨r', e1, e2⟩ := ih (i + 1) fu r2 (c + (sc (passS (dayS S (z + nI i) l kd fg) m) 3 - sc (passS (dayS S (z + nI i) l kd fg) m) 1)) (by omega) (by omega) a4
    refine ⟨r', ?_, e2⟩
    show b_X11_meanOf_6 N (l_X11_meanOf_6 N fu) _ _ _ _ _ _ _ _ _ = _
    unfold b_X11_meanOf_6
    rw [if_neg (nI_ge (by omega) (by omega)), c_ck hX, a1, bnd_one, c_mind hX (by decide), q_ck hL (by decide), a2, bnd_one, c_mind hX (by decide), q_ck hL (by decide), e_gain hL (by decide), bnd_one, a3.2.1.2.2.2.1, a3.2.1.2.1, nI_1]
    exact e1
theorem c_meanOf (hc : CLS b S pic sh M) {q kd fg l m n : Nat} (hq : isRl M q kd fg) (hl : l < sn S 0) (hm : m ≤ 120) (z : Int32) (hN : 200 ≤ N) (hn : n ≤ 10) {r : WR} (h36 : R36 r) : ∃ r', f_X11_meanOf N b q (nI l) (nI m) (nI n) z (SW b M 2 r) = some (meanK S l kd fg m z n 0 0, SW b M 2 r') ∧ R36 r' := by
  unfold f_X11_meanOf
  exact s_cmean (N := N) hc hq hl hm z hN hn n 0 N r 0 (by omega) (by omega) h36
theorem s_mmean (hl : MLAY b M2) (wf : WF S) {kd fg l m n : Nat} (hl' : l < sn S 0) (hk7 : kd < 7) (hf : fg < 10) (hm : m ≤ 120) (z : Int32) (hN : 200 ≤ N) (hn : n ≤ 10) : ∀ (k i fu : Nat) (r : Nat → Nat → Int32) (c : Int32), i + k = n → k + 1 ≤ fu → KRel K0 S (r 1) → r 0 18 = 0 → ∃ r', l_X12_meanOf_6 N fu (mc b 0) (nI kd) (nI fg) (nI l) (nI m) (nI n) z c (nI i) (MW b M2 r) = some (meanK S l kd fg m z k i c, MW b M2 r') ∧ MM r r' := by
  intro k
  induction k with
  | zero =>
    intro i fu r c hi hf hk h18
    obtain ⟨fu, rfl, -⟩ := fuel_s hf
    refine ⟨r, ?_, MM_refl h18⟩
    show b_X12_meanOf_6 N (l_X12_meanOf_6 N fu) _ _ _ _ _ _ _ _ _ _ = _
    unfold b_X12_meanOf_6
    rw [if_pos (nI_le (by omega) (by omega))]
    rfl
  | succ k ih =>
    intro i fu r c hi hf hk h18
    obtain ⟨fu, rfl, hf2⟩ := fuel_s hf
    obtain ⟨r1, a1, a2, a3⟩ := m_begins2 (N := N) hl hk wf (z + nI i) l kd fg hN
    obtain ⟨r2, b1, b2, b3⟩ := m_goesD (N := N) hl (w := 0) (by decide) hN hm (by rw [sn_dayS, if_neg (by decide), if_pos rfl]) (sn4_day S (z + nI i) l kd fg) a2 (WF_dayS wf hl' hk7 (by assumption)) a3.2.2 0 rfl
    have hmm := MM_trans a3 b3
    obtain ⟨r', e1, e2⟩ := ih (i + 1) fu r2 (c + (sc (passS (dayS S (z + nI i) l kd fg) m) 3 - sc (passS (dayS S (z + nI i) l kd fg) m) 1)) (by omega) (by omega) (by rw [hmm.1 1 (by decide) (by decide)]; exact hk) hmm.2.2
    refine ⟨r', ?_, MM_trans hmm e2⟩
    show b_X12_meanOf_6 N (l_X12_meanOf_6 N fu) _ _ _ _ _ _ _ _ _ _ = _
    unfold b_X12_meanOf_6
    have e7 : r2 3 7 = sc (passS (dayS S (z + nI i) l kd fg) m) 3 := b2.2.1.2.2.2.1
    rw [if_neg (nI_ge (by omega) (by omega)), n_ck hl, a1, bnd_one, n_ck hl, b1, bnd_one, n_gR hl (p := 3) (by decide), show (7 : Int32) = nI 7 from rfl, n_ald hl (by decide) (by decide) (show 7 < 174 by decide), e7, nI_1]
    exact e1
theorem m_meanOf (hl : MLAY b M2) (hk : KRel K0 S (r 1)) (wf : WF S) {kd fg l m n : Nat} (hl' : l < sn S 0) (hk7 : kd < 7) (hf : fg < 10) (hm : m ≤ 120) (z : Int32) (hN : 200 ≤ N) (hn : n ≤ 10) (h18 : r 0 18 = 0) : ∃ r', f_X12_meanOf N (mc b 0) (nI kd) (nI fg) (nI l) (nI m) (nI n) z (MW b M2 r) = some (meanK S l kd fg m z n 0 0, MW b M2 r') ∧ MM r r' := by
  unfold f_X12_meanOf
  exact s_mmean (N := N) hl wf hl' hk7 hf hm z hN hn n 0 N r 0 (by omega) (by omega) hk h18
theorem T_mean (hc : CLS b S pic sh M) (hl : MLAY b M2) (hm : MDR S pic sh r) (hi : INV S pic) (hN : 200 ≤ N) (x l m n z : Int32) : AGREE b M M2 (f_X11_mean N b x l m n z M) (f_X12_mean N (mc b 0) x l m n z (MW b M2 r)) := by
  obtain ⟨⟨hL, hX, hNB⟩, ⟨hr, wf, h1⟩, -⟩ := id hc
  have hM2 : SW b M 2 (gW b M 2) = M := SW_get (by decide)
  have hL4 := wf.1.1
  unfold f_X11_mean f_X12_mean
  rw [d_real hX, d_wck hL (by decide), d_hasLanding hc, bnd_one, b32_if, c_isNoSpan, bnd_one, b32_ifn, c_isNoDays, bnd_one, b32_ifn, d_ck hX]
  rw [m_isShelf, bnd_one, b32_if, n_ck hl, m_isLanding hl hm.1 wf, bnd_one, b32_if, m_isDay, bnd_one, b32_if, m_isIn n 1 10 1 10 rfl rfl, bnd_one, b32_if, n_ck hl]
  by_cases hA : 0 ≤ l ∧ l < nI (sn S 0)
  rotate_left
  · exact AGREE_same hc hm hi (-1000000001) (by simp only [if_neg hA]) (by simp only [if_neg hA, ite_self])
  by_cases hB : 1 ≤ m ∧ m ≤ 120
  rotate_left
  · exact AGREE_same hc hm hi (-1000000001) (by simp only [if_neg hB, ite_self]) (by simp only [if_neg hB, ite_self])
  by_cases hC : 1 ≤ n ∧ n ≤ 10
  rotate_left
  · exact AGREE_same hc hm hi (-1000000001) (by simp only [if_neg hC, ite_self]) (by simp only [if_neg hC, ite_self])
  rw [if_pos hA, if_pos hB, if_pos hC, if_pos hA, if_pos hB, if_pos hC]
  rcases rule3 (N := N) hc hl hm x with ⟨d, q, kd, fg, hd, rfl, hq, e1, e2, e9, e10⟩ | ⟨hS, c, hc0, e1, e2, e3⟩ | ⟨hS, e1, e2⟩
  · rw [if_pos (nI_in7 hd), e1, bnd_one, onn_s, e2, bnd_one, if_pos rfl, d_ck hX, n_gR hl (p := 9) (by decide), n_ald hl (by decide) (by decide) hd, n_gR hl (p := 10) (by decide), n_ald hl (by decide) (by decide) hd, e9, e10, n_ck hl]
    obtain ⟨l, hl', rfl⟩ := in_nat hA.1 hA.2 (by omega)
    obtain ⟨m, hm1, hm2, rfl⟩ := one_nat hB.1 hB.2 (n := 120) rfl (by decide)
    obtain ⟨n, hn1, hn2, rfl⟩ := one_nat hC.1 hC.2 (n := 10) rfl (by decide)
    obtain ⟨r1, a1, a2⟩ := c_meanOf (N := N) hc hq hl' hm2 z hN hn2 (R36_NB hNB (show 2 < 7 by decide))
    rw [hM2] at a1
    obtain ⟨r4, d1, d2⟩ := m_meanOf (N := N) hl hm.1 wf hl' hq.2.2.1 hq.2.2.2 hm2 z hN hn2 hm.2.2.2.1
    exact AGREE_mind hc hm hi a2 d2 (meanK S l kd fg m z n 0 0) (by rw [a1, bnd_one]) (by rw [d1, bnd_one])
  · rw [if_pos hS, e1, bnd_one, onn_n, d_ck hX, e2, bnd_one, e3, bnd_one, if_neg hc0]
    exact AGREE_same hc hm hi (-1000000000 + c) rfl rfl
  · rw [if_neg hS, e1, bnd_one, onn_n, d_ck hX, e2, bnd_one]
    exact AGREE_same hc hm hi (-1000000001) rfl rfl
end DAYS
