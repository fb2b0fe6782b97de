/-! where, enough. -/
def amaxK (f : Nat → Int32) : Nat → Nat → Nat → Int32 → Nat
  | 0, _, p, _ => p
  | k + 1, i, p, c => if f i ≤ c then amaxK f k (i + 1) p c else amaxK f k (i + 1) i (f i)
theorem amaxK_lt (f : Nat → Int32) : ∀ (k i p : Nat) (c : Int32) (L : Nat), i + k ≤ L → p < L → amaxK f k i p c < L := by
  intro k
  induction k with
  | zero => intro i p c L _ hp; exact hp
  | succ k ih =>
    intro i p c L h hp
    unfold amaxK
    split
    · exact ih (i + 1) p c L (by omega) hp
    · exact ih (i + 1) i (f i) L (by omega) (by omega)
section WHERE
variable {b : Nat} {M M2 : Mm} {S : SP} {pic : Option SP} {sh : Nat → SV} {r r' : Nat → Nat → Int32} {N : Nat} {ρ : Type}
theorem n_ald0 (h : MLAY b M) {p : Nat} (h1 : 1 ≤ p) (hp : p < 12) (hj : 0 < lM p) {κ : Int32 → Option ρ} : ald (MW b M r) (mc b p) 0 κ = κ (r p 0) := n_ald (j := 0) h h1 hp hj
theorem n_ald1 (h : MLAY b M) {p : Nat} (h1 : 1 ≤ p) (hp : p < 12) (hj : 1 < lM p) {κ : Int32 → Option ρ} : ald (MW b M r) (mc b p) 1 κ = κ (r p 1) := n_ald (j := 1) h h1 hp hj
theorem s_cwhere (hc : CLS b S pic sh M) {q kd fg m n : Nat} (hq : isRl M q kd fg) (hm : m ≤ 120) (z : Int32) (hN : 200 ≤ N) (hn : n ≤ 10) : ∀ (k i fu : Nat) (r : WR) (p : Nat) (c : Int32), i + k = sn S 0 → 1 ≤ i → k + 1 ≤ fu → R36 r → ∃ r', l_X11_where_43 N fu b (nI m) (nI n) z q (nI p) c (nI i) (SW b M 2 r) = some (nI (amaxK (fun l => meanK S l kd fg m z n 0 0) k i p c), SW b M 2 r') ∧ R36 r' := by
  obtain ⟨⟨hL, hX, hNB⟩, ⟨hr, wf, h1⟩, -⟩ := id hc
  have hL4 := wf.1.1
  have e0 : M.2.1 (wA b 0 0) 0 = nI (sn S 0) := hr.1.1
  intro k
  induction k with
  | zero =>
    intro i fu r p c hi hi1 hf h36
    obtain ⟨fu, rfl, -⟩ := fuel_s hf
    refine ⟨r, ?_, h36⟩
    show b_X11_where_43 N (l_X11_where_43 N fu) _ _ _ _ _ _ _ _ _ = _
    unfold b_X11_where_43
    rw [c_real hX (by decide), x_gI hL (by decide) (by decide) (by decide), e0, if_pos (nI_le (by omega) (by omega))]
    rfl
  | succ k ih =>
    intro i fu r p c hi hi1 hf h36
    obtain ⟨fu, rfl, hf2⟩ := fuel_s hf
    obtain ⟨r1, a1, a2⟩ := c_meanOf (N := N) hc hq (l := i) (by omega) hm z hN hn h36
    show ∃ r', b_X11_where_43 N (l_X11_where_43 N fu) _ _ _ _ _ _ _ _ _ = _ ∧ _
    unfold b_X11_where_43 j_X11_where_81
    rw [c_real hX (by decide), x_gI hL (by decide) (by decide) (by decide), e0, if_neg (nI_ge (by omega) (by omega)), c_ck hX, a1, bnd_one, if_neg (nI_ne0 (by omega) (by omega)), nI_1]
    unfold amaxK
    by_cases hv : meanK S i kd fg m z n 0 0 ≤ c
    · rw [if_pos hv, if_pos hv]
      exact ih (i + 1) fu r1 p c (by omega) (by omega) (by omega) a2
    · rw [if_neg hv, if_neg hv]
      exact ih (i + 1) fu r1 i _ (by omega) (by omega) (by omega) a2
theorem s_mwhere (hl : MLAY b M2) (wf : WF S) {d kd fg m n : Nat} (hd : d < 8) (hk7 : kd < 7) (hf : fg < 10) (hm : m ≤ 120) (z : Int32) (hN : 200 ≤ N) (hn : n ≤ 10) : ∀ (k i fu : Nat) (r : Nat → Nat → Int32) (p : Nat) (c : Int32), i + k = sn S 0 → 1 ≤ i → p < 4 → k + 1 ≤ fu → KRel K0 S (r 1) → r 0 18 = 0 → r 8 d = r 8 d → r 9 d = nI kd → r 10 d = nI fg → ∃ r', l_X12_where_53 N fu (mc b 0) (nI d) (nI m) (nI n) z (nI p) c (nI i) (MW b M2 r) = some (nI (amaxK (fun l => meanK S l kd fg m z n 0 0) k i p c), MW b M2 r') ∧ MM r r' := by
  have hL4 := wf.1.1
  intro k
  induction k with
  | zero =>
    intro i fu r p c hi hi1 hp hf hk h18 _ e9 e10
    obtain ⟨fu, rfl, -⟩ := fuel_s hf
    refine ⟨r, ?_, MM_refl h18⟩
    show b_X12_where_53 N (l_X12_where_53 N fu) _ _ _ _ _ _ _ _ _ = _
    unfold b_X12_where_53
    rw [n_gR hl (p := 1) (by decide), n_ald0 hl (by decide) (by decide) (by decide), hk.1.1, if_pos (nI_le (by omega) (by omega))]
    rfl
  | succ k ih =>
    intro i fu r p c hi hi1 hp hfu hk h18 _ e9 e10
    obtain ⟨fu, rfl, hf2⟩ := fuel_s hfu
    obtain ⟨r1, a1, a2⟩ := m_meanOf (N := N) hl hk wf (l := i) (by omega) hk7 hf hm z hN hn h18
    have hk1 : KRel K0 S (r1 1) := by rw [a2.1 1 (by decide) (by decide)]; exact hk
    have e9' : r1 9 d = nI kd := by rw [a2.1 9 (by decide) (by decide)]; exact e9
    have e10' : r1 10 d = nI fg := by rw [a2.1 10 (by decide) (by decide)]; exact e10
    show ∃ r', b_X12_where_53 N (l_X12_where_53 N fu) _ _ _ _ _ _ _ _ _ = _ ∧ _
    unfold b_X12_where_53 j_X12_where_103
    rw [n_gR hl (p := 1) (by decide), n_ald0 hl (by decide) (by decide) (by decide), hk.1.1, if_neg (nI_ge (by omega) (by omega)), n_gR hl (p := 9) (by decide), n_ald hl (by decide) (by decide) hd, n_gR hl (p := 10) (by decide), n_ald hl (by decide) (by decide) hd, e9, e10, n_ck hl, a1, bnd_one, if_neg (nI_neg (by omega)), nI_1]
    unfold amaxK
    by_cases hv : meanK S i kd fg m z n 0 0 ≤ c
    · rw [if_pos hv, if_neg (Int32.not_lt.mpr hv)]
      obtain ⟨r', b1, b2⟩ := ih (i + 1) fu r1 p c (by omega) (by omega) hp (by omega) hk1 a2.2.2 rfl e9' e10'
      exact ⟨r', b1, MM_trans a2 b2⟩
    · rw [if_neg hv, if_pos (Int32.not_le.mp hv)]
      obtain ⟨r', b1, b2⟩ := ih (i + 1) fu r1 i _ (by omega) (by omega) (by omega) (by omega) hk1 a2.2.2 rfl e9' e10'
      exact ⟨r', b1, MM_trans a2 b2⟩
theorem T_where (hc : CLS b S pic sh M) (hl : MLAY b M2) (hm : MDR S pic sh r) (hi : INV S pic) (hN : 200 ≤ N) (x m n z : Int32) : AGREE b M M2 (f_X11_where N b x m n z M) (f_X12_where N (mc b 0) x m n z (MW b M2 r)) := by
  obtain ⟨⟨hL, hX, hNB⟩, ⟨hr, wf, h1⟩, -⟩ := id hc
  have hM2 : SW b M 2 (gW b M 2) = M := SW_get (by decide)
  have hL4 := wf.1.1
  have h36 := R36_NB hNB (show 2 < 7 by decide)
  unfold f_X11_where f_X12_where
  rw [c_isNoSpan, bnd_one, b32_ifn, c_isNoDays, bnd_one, b32_ifn, d_ck hX]
  rw [m_isShelf, bnd_one, b32_if, m_isDay, bnd_one, b32_if, m_isIn n 1 10 1 10 rfl rfl, bnd_one, b32_if, n_ck hl]
  by_cases hB : 1 ≤ m ∧ m ≤ 120
  rotate_left
  · exact AGREE_same hc hm hi (-1) (by simp only [if_neg hB, ite_self]) (by simp only [if_neg hB, ite_self])
  by_cases hC : 1 ≤ n ∧ n ≤ 10
  rotate_left
  · exact AGREE_same hc hm hi (-1) (by simp only [if_neg hC, ite_self]) (by simp only [if_neg hC, ite_self])
  rw [if_pos hB, if_pos hC, if_pos hB, if_pos hC]
  rcases rule3 (N := N) hc hl hm x with ⟨d, q, kd, fg, hd, rfl, hq, e1, e2, e9, e10⟩ | ⟨hS, c, hc0, e1, e2, e3⟩ | ⟨hS, e1, e2⟩
  · rw [if_pos (nI_in7 hd), e1, bnd_one, onn_s, e2, bnd_one, if_pos rfl]
    obtain ⟨m, hm1, hm2, rfl⟩ := one_nat hB.1 hB.2 (n := 120) rfl (by decide)
    obtain ⟨n, hn1, hn2, rfl⟩ := one_nat hC.1 hC.2 (n := 10) rfl (by decide)
    have hk := hm.1
    obtain ⟨N, rfl⟩ : ∃ N', N = N' + 1 := ⟨N - 1, by omega⟩
    obtain ⟨r1, a1, a2⟩ := c_meanOf (N := N + 1) hc hq (l := 0) (by omega) hm2 z hN hn2 h36
    obtain ⟨r2, b1, b2⟩ := s_cwhere (N := N + 1) hc hq hm2 z hN hn2 (sn S 0 - 1) 1 N r1 0 (meanK S 0 kd fg m z n 0 0) (by omega) (by omega) (by omega) a2
    obtain ⟨r3, c1, c2⟩ := m_meanOf (N := N + 1) hl hk wf (l := 0) (by omega) hq.2.2.1 hq.2.2.2 hm2 z hN hn2 hm.2.2.2.1
    obtain ⟨r4, d1, d2⟩ := s_mwhere (N := N + 1) hl wf hd hq.2.2.1 hq.2.2.2 hm2 z hN hn2 (sn S 0 - 1) 1 N r3 0 (meanK S 0 kd fg m z n 0 0) (by omega) (by omega) (by omega) (by omega) (by rw [c2.1 1 (by decide) (by decide)]; exact hk) c2.2.2 rfl (by rw [c2.1 9 (by decide) (by decide)]; exact e9) (by rw [c2.1 10 (by decide) (by decide)]; exact e10)
    refine AGREE_mind hc hm hi b2 (MM_trans c2 d2) (nI (amaxK (fun l => meanK S l kd fg m z n 0 0) (sn S 0 - 1) 1 0 (meanK S 0 kd fg m z n 0 0))) ?_ ?_
    · show b_X11_where_43 (N + 1) (l_X11_where_43 (N + 1) N) _ _ _ _ _ _ _ _ _ = _
      unfold b_X11_where_43 j_X11_where_81
      conv => lhs; rw [← hM2]
      have e0 : M.2.1 (wA b 0 0) 0 = nI (sn S 0) := hr.1.1
      rw [c_real hX (by decide), x_gI hL (by decide) (by decide) (by decide), e0, if_neg (show ¬ nI (sn S 0) ≤ (0 : Int32) from nI_ge (a := 0) (by omega) (by omega)), c_ck hX]
      have a1' : f_X11_meanOf (N + 1) b q 0 (nI m) (nI n) z (SW b M 2 (gW b M 2)) = some (meanK S 0 kd fg m z n 0 0, SW b M 2 r1) := a1
      rw [a1', bnd_one, if_pos rfl]
      exact b1
    · show b_X12_where_53 (N + 1) (l_X12_where_53 (N + 1) N) _ _ _ _ _ _ _ _ _ = _
      unfold b_X12_where_53 j_X12_where_103
      rw [n_gR hl (p := 1) (by decide), n_ald0 hl (by decide) (by decide) (by decide), hk.1.1, if_neg (show ¬ nI (sn S 0) ≤ (0 : Int32) from nI_ge (a := 0) (by omega) (by omega)), n_gR hl (p := 9) (by decide), n_ald hl (by decide) (by decide) hd, n_gR hl (p := 10) (by decide), n_ald hl (by decide) (by decide) hd, e9, e10, n_ck hl]
      have c1' : f_X12_meanOf (N + 1) (mc b 0) (nI kd) (nI fg) 0 (nI m) (nI n) z (MW b M2 r) = some (meanK S 0 kd fg m z n 0 0, MW b M2 r3) := c1
      rw [c1', bnd_one, if_pos (by decide)]
      exact d1
  · rw [if_pos hS, e1, bnd_one, onn_n, d_ck hX, e2, bnd_one, e3, bnd_one, if_neg hc0]
    exact AGREE_same hc hm hi c rfl rfl
  · rw [if_neg hS, e1, bnd_one, onn_n, d_ck hX, e2, bnd_one]
    exact AGREE_same hc hm hi (-1) rfl rfl
-- enough
def enoughK (S : SP) (l kd fg m : Nat) (z : Int32) : Nat → Nat → Int32
  | 0, _ => -4
  | k + 1, i => if sc (passS (ssn (dayS S z l kd fg) 2 i) m) 2 = 0 then nI i else enoughK S l kd fg m z k (i + 1)
theorem sn_ssn (P : SP) (k v j : Nat) : sn (ssn P k v) j = if j = k then v else sn P j := rfl
theorem WF_day2 (wf : WF S) {l kd fg : Nat} {z : Int32} (hl : l < sn S 0) (hk : kd < 7) (hf : fg < 10) {i : Nat} (hi : 1 ≤ i ∧ i ≤ 6) : WF (ssn (dayS S z l kd fg) 2 i) := WF_seats (WF_dayS wf hl hk hf) hi (fun _ _ => Nat.zero_le _)
theorem s_cenough (hc : CLS b S pic sh M) {q kd fg l m : Nat} (hq : isRl M q kd fg) (hl : l < sn S 0) (hm : m ≤ 120) (z : Int32) (hN : 200 ≤ N) : ∀ (k i fu : Nat) (r : WR), i + k = 7 → 1 ≤ i → k + 1 ≤ fu → R36 r → ∃ r', l_X11_enough_41 N fu b (nI l) (nI m) z q (nI i) (SW b M 2 r) = some (enoughK S l kd fg m z k i, SW b M 2 r') ∧ R36 r' := by
  obtain ⟨⟨hL, hX, hNB⟩, ⟨hr, wf, h1⟩, -⟩ := id hc
  intro k
  induction k with
  | zero =>
    intro i fu r hi hi1 hf h36
    obtain ⟨fu, rfl, -⟩ := fuel_s hf
    refine ⟨r, ?_, h36⟩
    show b_X11_enough_41 N (l_X11_enough_41 N fu) _ _ _ _ _ _ _ = _
    unfold b_X11_enough_41
    rw [if_pos (show (6 : Int32) < nI i from nI_lt (a := 6) (by omega) (by omega))]
    rfl
  | succ k ih =>
    intro i fu r hi hi1 hf h36
    obtain ⟨fu, rfl, hf2⟩ := fuel_s hf
    obtain ⟨r1, a1, a2, a3⟩ := c_begin (N := N) hL hX hr wf hq hl z (by omega) h36
    have wfd := WF_dayS (z := z) wf hl hq.2.2.1 hq.2.2.2
    have wf2 : WF (ssn (dayS S z l kd fg) 2 i) := WF_day2 wf hl hq.2.2.1 hq.2.2.2 (by omega)
    obtain ⟨r2, b1, b2, b3, b4⟩ := c_pass2 (N := N) hL (WRel_seats a2 wfd (v := i)) wf2 (sn3_day S z l kd fg hm) hN hm a3
    show ∃ r', b_X11_enough_41 N (l_X11_enough_41 N fu) _ _ _ _ _ _ _ = _ ∧ _
    unfold b_X11_enough_41
    rw [if_neg (show ¬ (6 : Int32) < nI i from nI_nlt (b := i) (a := 6) (by omega) (by omega)), c_ck hX, a1, bnd_one, c_mind hX (by decide), q_pI hL (by decide), c_mind hX (by decide), q_ck hL (by decide), b1, bnd_one, c_mind hX (by decide), q_gI hL (by decide), b2.2.1.2.2.1, nI_1]
    unfold enoughK
    by_cases hv : sc (passS (ssn (dayS S z l kd fg) 2 i) m) 2 = 0
    · rw [if_pos hv, if_pos hv]
      exact ⟨r2, rfl, b4⟩
    · rw [if_neg hv, if_neg hv]
      exact ih (i + 1) fu r2 (by omega) (by omega) (by omega) b4
theorem s_menough (hl : MLAY b M2) (wf : WF S) {d kd fg l m : Nat} (hd : d < 8) (hl' : l < sn S 0) (hk7 : kd < 7) (hf : fg < 10) (hm : m ≤ 120) (z : Int32) (hN : 200 ≤ N) : ∀ (k i fu : Nat) (r : Nat → Nat → Int32), i + k = 7 → 1 ≤ i → k + 1 ≤ fu → KRel K0 S (r 1) → r 0 18 = 0 → r 9 d = nI kd → r 10 d = nI fg → ∃ r', l_X12_enough_20 N fu (mc b 0) (nI d) (nI l) (nI m) z (nI i) (MW b M2 r) = some (enoughK S l kd fg m z k i, MW b M2 r') ∧ MM r r' := by
  intro k
  induction k with
  | zero =>
    intro i fu r hi hi1 hf hk h18 e9 e10
    obtain ⟨fu, rfl, -⟩ := fuel_s hf
    refine ⟨r, ?_, MM_refl h18⟩
    show b_X12_enough_20 N (l_X12_enough_20 N fu) _ _ _ _ _ _ _ = _
    unfold b_X12_enough_20
    rw [if_pos (show (7 : Int32) ≤ nI i from nI_le (a := 7) (by omega) (by omega))]
    rfl
  | succ k ih =>
    intro i fu r hi hi1 hfu hk h18 e9 e10
    obtain ⟨fu, rfl, hf2⟩ := fuel_s hfu
    obtain ⟨r1, a1, a2, a3⟩ := m_begins2 (N := N) hl hk wf z l kd fg hN
    have wfd := WF_dayS (z := z) wf hl' hk7 hf
    have wf2 : WF (ssn (dayS S z l kd fg) 2 i) := WF_day2 wf hl' hk7 hf (by omega)
    have hmm1 : MM r1 (upR r1 3 (upN (r1 3) 2 (nI i))) := MM_3 a3.2.2 (fun p hp => upR_n hp)
    obtain ⟨r2, b1, b2, b3⟩ := m_goesD (N := N) (r := upR r1 3 (upN (r1 3) 2 (nI i))) hl (w := 1) (by decide) hN hm (by rw [sn_ssn, if_neg (by decide), sn_dayS, if_neg (by decide), if_pos rfl]) (by rw [sn_ssn, if_neg (by decide), sn_dayS, if_pos rfl]) (by rw [upR_s]; exact KRel_seats a2 wfd (v := i)) wf2 hmm1.2.2 1 rfl
    have hmm := MM_trans a3 (MM_trans hmm1 b3)
    show ∃ r', b_X12_enough_20 N (l_X12_enough_20 N fu) _ _ _ _ _ _ _ = _ ∧ _
    unfold b_X12_enough_20
    rw [if_neg (show ¬ (7 : Int32) ≤ nI i from nI_ge (b := 7) (by omega) (by omega)), n_gR hl (p := 9) (by decide), n_ald hl (by decide) (by decide) hd, n_gR hl (p := 10) (by decide), n_ald hl (by decide) (by decide) hd, e9, e10, n_ck hl, a1, bnd_one, n_gR hl (p := 3) (by decide), show (2 : Int32) = nI 2 from rfl, n_ast hl (by decide) (by decide) (show 2 < 174 by decide), upR_up2, n_ck hl, b1, bnd_one, nI_1]
    unfold enoughK
    by_cases hv : sc (passS (ssn (dayS S z l kd fg) 2 i) m) 2 = 0
    · rw [if_pos hv, if_pos hv]
      exact ⟨r2, rfl, hmm⟩
    · rw [if_neg hv, if_neg hv]
      obtain ⟨r', c1, c2⟩ := ih (i + 1) fu r2 (by omega) (by omega) (by omega) (by rw [hmm.1 1 (by decide) (by decide)]; exact hk) hmm.2.2 (by rw [hmm.1 9 (by decide) (by decide)]; exact e9) (by rw [hmm.1 10 (by decide) (by decide)]; exact e10)
      exact ⟨r', c1, MM_trans hmm c2⟩
theorem T_enough (hc : CLS b S pic sh M) (hl : MLAY b M2) (hm : MDR S pic sh r) (hi : INV S pic) (hN : 200 ≤ N) (x l m z : Int32) : AGREE b M M2 (f_X11_enough N b x l m z M) (f_X12_enough N (mc b 0) x l m z (MW b M2 r)) := by
  obtain ⟨⟨hL, hX, hNB⟩, ⟨hr, wf, h1⟩, -⟩ := id hc
  have hM2 : SW b M 2 (gW b M 2) = M := SW_get (by decide)
  have hL4 := wf.1.1
  unfold f_X11_enough f_X12_enough f_X12_wrongDay
  rw [d_real hX, d_wck hL (by decide), d_hasLanding hc, bnd_one, b32_if, c_isNoSpan, bnd_one, b32_ifn, d_ck hX]
  rw [n_ck hl, m_isShelf, bnd_one, b32_if, n_ck hl, m_isLanding hl hm.1 wf, bnd_one, b32_if, m_isDay, bnd_one, b32_if, n_ck hl]
  by_cases hA : 0 ≤ l ∧ l < nI (sn S 0)
  rotate_left
  · exact AGREE_same hc hm hi (-1) (by simp only [if_neg hA]) (by simp only [if_neg hA, ite_self, bnd_one, if_neg m1z])
  by_cases hB : 1 ≤ m ∧ m ≤ 120
  rotate_left
  · exact AGREE_same hc hm hi (-1) (by simp only [if_neg hB, ite_self]) (by simp only [if_neg hB, ite_self, bnd_one, if_neg m1z])
  rw [if_pos hA, if_pos hB, if_pos hA, if_pos hB]
  rcases rule3 (N := N) hc hl hm x with ⟨d, q, kd, fg, hd, rfl, hq, e1, e2, e9, e10⟩ | ⟨hS, c, hc0, e1, e2, e3⟩ | ⟨hS, e1, e2⟩
  · rw [if_pos (nI_in7 hd), e1, bnd_one, onn_s, e2, bnd_one, bnd_one, if_pos rfl]
    obtain ⟨l, hl', rfl⟩ := in_nat hA.1 hA.2 (by omega)
    obtain ⟨m, hm1, hm2, rfl⟩ := one_nat hB.1 hB.2 (n := 120) rfl (by decide)
    obtain ⟨r1, a1, a2⟩ := s_cenough (N := N) hc hq hl' hm2 z hN 6 1 N (gW b M 2) rfl (by decide) (by omega) (R36_NB hNB (show 2 < 7 by decide))
    rw [hM2] at a1
    obtain ⟨r4, d1, d2⟩ := s_menough (N := N) hl wf hd hl' hq.2.2.1 hq.2.2.2 hm2 z hN 6 1 N r rfl (by decide) (by omega) hm.1 hm.2.2.2.1 e9 e10
    exact AGREE_mind hc hm hi a2 d2 _ a1 d1
  · rw [if_pos hS, e1, bnd_one, onn_n, d_ck hX, e2, bnd_one, e3, bnd_one, bnd_one, if_neg hc0]
    exact AGREE_same hc hm hi c rfl rfl
  · rw [if_neg hS, e1, bnd_one, onn_n, d_ck hX, e2, bnd_one, bnd_one, if_neg m1z]
    exact AGREE_same hc hm hi (-1) rfl rfl
end WHERE
