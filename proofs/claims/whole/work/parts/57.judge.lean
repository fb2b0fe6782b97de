/-! judge. -/
def judgeK (e : Nat → Int32) (u : Int32) (l : Nat) : Nat → Nat → SP → Int32
  | 0, _, _ => -4
  | k + 1, i, P => if e i = u then judgeK e u l k (i + 1) (minS P) else if e i = nI (sQ (minS P) l).length then judgeK e u l k (i + 1) (minS P) else nI i
def leastI (s : Nat) : Int32 := if nI s = 0 then -128 else if nI s = 1 then -32768 else -2147483648
section JUDGE
variable {b : Nat} {M M2 : Mm} {S : SP} {pic : Option SP} {sh : Nat → SV} {r r' : Nat → Nat → Int32} {N w : Nat} {ρ : Type}
theorem sn_min4 (S : SP) : sn (minS S) 4 = sn S 4 := by
  show (minS S).1 4 = _
  rw [sn_minS]
  exact upN_n _ _ (by decide)
theorem sn_min3 (S : SP) : sn (minS S) 3 = sn S 3 + 1 := by
  show (minS S).1 3 = _
  rw [sn_minS]
  exact upN_s _ _ _
theorem c_mbecome (hc : CLS b S pic sh M) : ∃ r', f_X10_become N (wA b 2 0) (wA b 0 0) M = some ((), SW b M 2 r') ∧ WRel M S r' ∧ R36 r' := by
  obtain ⟨⟨hL, hX, hNB⟩, h0, -⟩ := id hc
  obtain ⟨hr, wf, h1⟩ := id h0
  have hM2 : SW b M 2 (gW b M 2) = M := SW_get (by decide)
  obtain ⟨q3, hq3⟩ := hNB 0 (by decide) 3 (Or.inl rfl)
  obtain ⟨q6, hq6⟩ := hNB 0 (by decide) 6 (Or.inr rfl)
  obtain ⟨r', e1, e2, e3, e6⟩ := k_become (N := N) (r := gW b M 2) hL (w := 2) (w1 := 0) (by decide) (by decide) (by decide) hq3 hq6 (z01 h0)
  rw [hM2] at e1
  exact ⟨r', e1, WRel_BC hr wf e2, ⟨q3, e3⟩, q6, e6⟩
theorem d_least (hX : CXL b M) {d : Nat} {v : SV} (hd : d < 8) (h : SHc b M d v) (h2 : v.1 = 2) : f_X7_leastNumber N (b + 88 + 2 * d) M = some (leastI v.2.1, M) := by
  obtain ⟨-, g2, -⟩ := rowc h h2
  unfold f_X7_leastNumber leastI
  rw [d_gI7 hX hd, d_gI7 hX hd, g2]
  split
  · rfl
  · split <;> rfl
theorem m_leastOf (hl : MLAY b M2) {d s : Nat} (hd : d < 8) (e6 : r 6 d = nI s) : f_X12_leastOf N (mc b 0) (nI d) (MW b M2 r) = some (leastI s, MW b M2 r) := by
  unfold f_X12_leastOf leastI
  rw [n_gR hl (p := 6) (by decide), n_ald hl (by decide) (by decide) hd, n_gR hl (p := 6) (by decide), n_ald hl (by decide) (by decide) hd, e6]
  split
  · rfl
  · split <;> rfl
theorem m_min1 (hl : MLAY b M2) {P : SP} (hk : KRel K0 P (r 3)) (wf : WF P) (h4 : sn P 4 = 1) (h18 : r 0 18 = 0) (hN : 20 ≤ N) : ∃ g', f_X12_minute N (mc b 0) (mc b 3) 1 (MW b M2 r) = some ((), MW b M2 (upR r 3 g')) ∧ KRel K0 (minS P) g' := by
  have hA : AI (MW b M2 r) (mc b 3) 174 := AI_MW hl (by decide) (by decide)
  have h18' : (MW b M2 r).2.1 (mc b 0) 18 = 0 := by rw [MW_i (by decide)]; exact h18
  obtain ⟨g', c1, c2⟩ := m_minute (N := N) hA (o := mc b 0) (by unfold mc; omega) hl.1 h18' (g := r 3) hk wf hN
  rw [← MW_as (by decide), sG_MW (by decide), h4] at c1
  exact ⟨g', c1, c2⟩
theorem m_stand (hl : MLAY b M2) {P : SP} (hk : KRel K0 P (r 3)) {l : Nat} (h : l < 4) : f_X12_standing N (mc b 3) (nI l) (MW b M2 r) = some (nI (sQ P l).length, MW b M2 r) := by
  have hA : AI (MW b M2 r) (mc b 3) 174 := AI_MW hl (by decide) (by decide)
  rw [MW_as (show 3 < 12 by decide), m_standing (M := MW b M2 r) hA h, (hk.2.2.2.2.2 l h).1]
theorem s_cjudge (hL : LAY b M) (hX : CXL b M) {d l : Nat} {v : SV} (hd : d < 8) (hs : SHc b M d v) (h2 : v.1 = 2) (hl4 : l < 4) (hN : 200 ≤ N) : ∀ (k i fu : Nat) (P : SP) (r : WR), i + k = v.2.2.1 → k + 1 ≤ fu → WRel M P r → WF P → sn P 3 + k ≤ 5000 → R36 r → ∃ r', l_X11_judge_52 N fu b (nI l) (b + 88 + 2 * d) (nI i) (SW b M 2 r) = some (judgeK v.2.2.2 (leastI v.2.1) l k i P, SW b M 2 r') ∧ R36 r' := by
  intro k
  induction k with
  | zero =>
    intro i fu P r hi hf hr wf hm h36
    obtain ⟨fu, rfl, -⟩ := fuel_s hf
    have hX' : CXL b (SW b M 2 r) := CXL_SW (by decide) hX
    obtain ⟨g1, g2, g3, g4, g5, g6⟩ := rowc (SHc_SW (r := r) hL (show 2 < 7 by decide) hs) h2
    refine ⟨r, ?_, h36⟩
    show b_X11_judge_52 N (l_X11_judge_52 N fu) _ _ _ _ _ = _
    unfold b_X11_judge_52
    rw [d_gI7 hX' hd, g3, if_pos (nI_le (by omega) (by omega))]
    rfl
  | succ k ih =>
    intro i fu P r hi hf hr wf hm h36
    obtain ⟨fu, rfl, hf2⟩ := fuel_s hf
    have hX' : CXL b (SW b M 2 r) := CXL_SW (by decide) hX
    obtain ⟨g1, g2, g3, g4, g5, g6⟩ := rowc (SHc_SW (r := r) hL (show 2 < 7 by decide) hs) h2
    obtain ⟨r1, b1, b2, b3, b4⟩ := c_pass2 (N := N) hL hr wf (n := 1) (by omega) hN (by decide) h36
    have b1' : f_X10_pass N (wA b 2 0) 1 (SW b M 2 r) = some ((), SW b M 2 r1) := b1
    have b2' : WRel M (minS P) r1 := b2
    have b3' : WF (minS P) := b3
    have hX1 : CXL b (SW b M 2 r1) := CXL_SW (by decide) hX
    have hs1 : SHc b (SW b M 2 r1) d v := SHc_SW hL (by decide) hs
    have hst : rd (kW 9).2 (r1.1 9) (nI l) = nI (sQ (minS P) l).length := by
      rw [show (kW 9).2 = 4 from rfl, rd_nI hl4 (by decide)]
      exact (b2'.2.2.2.2.2 l hl4).1
    have hst' : rd 4 (r1.1 9) (nI l) = nI (sQ (minS P) l).length := hst
    show ∃ r', b_X11_judge_52 N (l_X11_judge_52 N fu) _ _ _ _ _ = _ ∧ _
    unfold b_X11_judge_52
    rw [d_gI7 hX' hd, g3, if_neg (nI_ge (by omega) (by omega)), c_mind hX (by decide), q_ck hL (by decide), b1', bnd_one, d_ck7 hX1 hd, d_read hX1 hd hs1 h2 (by omega), bnd_one, d_ck7 hX1 hd, d_least hX1 hd hs1 h2, bnd_one, nI_1]
    unfold judgeK
    by_cases hu : v.2.2.2 i = leastI v.2.1
    · rw [if_pos hu, if_pos hu]
      exact ih (i + 1) fu (minS P) r1 (by omega) (by omega) b2' b3' (by rw [sn_min3]; omega) b4
    · rw [if_neg hu, if_neg hu, c_mind hX (by decide), q_ck hL (by decide), e_standingAt hL (by decide), bnd_one, hst']
      by_cases he : v.2.2.2 i = nI (sQ (minS P) l).length
      · rw [if_pos he, if_pos he]
        exact ih (i + 1) fu (minS P) r1 (by omega) (by omega) b2' b3' (by rw [sn_min3]; omega) b4
      · rw [if_neg he, if_neg he]
        exact ⟨r1, rfl, b4⟩
theorem s_mjudge (hl : MLAY b M2) {d l n s : Nat} {e : Nat → Int32} (hd : d < 8) (hn : n ≤ 100) (hl4 : l < 4) (hN : 200 ≤ N) : ∀ (k i fu : Nat) (P : SP) (r : Nat → Nat → Int32), i + k = n → k + 1 ≤ fu → KRel K0 P (r 3) → WF P → sn P 4 = 1 → sn P 3 + k ≤ 5000 → r 0 18 = 0 → r 7 d = nI n → r 6 d = nI s → (∀ j, j < 100 → r 8 (100 * d + j) = e j) → ∃ r', l_X12_judge_69 N fu (mc b 0) (nI l) (nI d) (nI i) (MW b M2 r) = some (judgeK e (leastI s) l k i P, MW b M2 r') ∧ MM r r' := by
  intro k
  induction k with
  | zero =>
    intro i fu P r hi hf hk wf h4 hm h18 e7 e6 e8
    obtain ⟨fu, rfl, -⟩ := fuel_s hf
    refine ⟨r, ?_, MM_refl h18⟩
    show b_X12_judge_69 N (l_X12_judge_69 N fu) _ _ _ _ _ = _
    unfold b_X12_judge_69
    rw [n_gR hl (p := 7) (by decide), n_ald hl (by decide) (by decide) hd, e7, if_pos (nI_le (by omega) (by omega))]
    rfl
  | succ k ih =>
    intro i fu P r hi hf hk wf h4 hm h18 e7 e6 e8
    obtain ⟨fu, rfl, hf2⟩ := fuel_s hf
    obtain ⟨g', c1, c2⟩ := m_min1 (N := N) hl hk wf h4 h18 (by omega)
    have hmm : MM r (upR r 3 g') := MM_3 h18 (fun p hp => upR_n hp)
    have e7' : upR r 3 g' 7 d = nI n := by rw [upR_n (by decide)]; exact e7
    have e6' : upR r 3 g' 6 d = nI s := by rw [upR_n (by decide)]; exact e6
    have e8' : ∀ j, j < 100 → upR r 3 g' 8 (100 * d + j) = e j := by rw [upR_n (by decide)]; exact e8
    have hk' : KRel K0 (minS P) (upR r 3 g' 3) := by rw [upR_s]; exact c2
    have wf' : WF (minS P) := WF_minS wf (by omega)
    show ∃ r', b_X12_judge_69 N (l_X12_judge_69 N fu) _ _ _ _ _ = _ ∧ _
    unfold b_X12_judge_69
    rw [n_gR hl (p := 7) (by decide), n_ald hl (by decide) (by decide) hd, e7, if_neg (nI_ge (by omega) (by omega)), n_gR hl (p := 3) (by decide), n_ck hl, c1, bnd_one, n_gR hl (p := 8) (by decide), ix8, n_ald hl (by decide) (by decide) (show 100 * d + i < 800 by omega), e8' i (by omega), n_ck hl, m_leastOf hl hd e6', bnd_one, nI_1]
    unfold judgeK
    by_cases hu : e i = leastI s
    · rw [if_pos hu, if_pos hu]
      obtain ⟨r', d1, d2⟩ := ih (i + 1) fu (minS P) _ (by omega) (by omega) hk' wf' (by rw [sn_min4]; exact h4) (by rw [sn_min3]; omega) hmm.2.2 e7' e6' e8'
      exact ⟨r', d1, MM_trans hmm d2⟩
    · rw [if_neg hu, if_neg hu, n_gR hl (p := 3) (by decide), m_stand hl hk' hl4, bnd_one]
      by_cases he : e i = nI (sQ (minS P) l).length
      · rw [if_pos he, if_pos he]
        obtain ⟨r', d1, d2⟩ := ih (i + 1) fu (minS P) _ (by omega) (by omega) hk' wf' (by rw [sn_min4]; exact h4) (by rw [sn_min3]; omega) hmm.2.2 e7' e6' e8'
        exact ⟨r', d1, MM_trans hmm d2⟩
      · rw [if_neg he, if_neg he]
        exact ⟨_, rfl, hmm⟩
theorem judgeK_ext {e e' : Nat → Int32} {u : Int32} {l : Nat} : ∀ (k i : Nat) (P : SP), (∀ j, i ≤ j → j < i + k → e j = e' j) → judgeK e u l k i P = judgeK e' u l k i P := by
  intro k
  induction k with
  | zero => intro i P _; rfl
  | succ k ih =>
    intro i P h
    unfold judgeK
    rw [h i (Nat.le_refl _) (by omega), ih (i + 1) (minS P) (fun j h1 h2 => h j (by omega) (by omega))]
theorem T_judge (hc : CLS b S pic sh M) (hl : MLAY b M2) (hm : MDR S pic sh r) (hi : INV S pic) (hN : 200 ≤ N) (l x : Int32) : AGREE b M M2 (f_X11_judge N b l x M) (f_X12_judge N (mc b 0) l x (MW b M2 r)) := by
  obtain ⟨⟨hL, hX, hNB⟩, ⟨hr, wf, h1⟩, -, -, hsh⟩ := id hc
  have hL4 := wf.1.1
  have h999 := hi.1.1
  unfold f_X11_judge f_X12_judge
  rw [d_real hX, d_wck hL (by decide), d_hasLanding hc, bnd_one, b32_if, d_ck hX]
  rw [n_ck hl, m_isLanding hl hm.1 wf, bnd_one, b32_if, m_isShelf, bnd_one, b32_if, n_ck hl]
  by_cases hA : 0 ≤ l ∧ l < nI (sn S 0)
  rotate_left
  · exact AGREE_same hc hm hi (-1) (by simp only [if_neg hA]) (by simp only [if_neg hA])
  rw [if_pos hA, if_pos hA]
  rcases row3 (N := N) hc hl hm x 3 (by decide) (-1) rfl with ⟨d, hd, rfl, h2, hof, e1, e2, e3⟩ | ⟨hS, c, o, hc0, e1, e2, e3⟩ | ⟨hS, e1, e2⟩
  · obtain ⟨g1, g2, g3, g4, g5, g6⟩ := rowc (hsh d hd) h2
    obtain ⟨t1, t2, t3, t4, t5, t6⟩ := rowm (hm.2.2.2.2 d hd) h2
    obtain ⟨l, hl', rfl⟩ := in_nat hA.1 hA.2 (by omega)
    rw [if_pos (nI_in7 hd), e1, bnd_one, d_ck hX, e2, bnd_one, onn_s, if_pos rfl, d_mind hX, d_real hX, d_wck hL (by decide)]
    rw [e3, bnd_one, if_pos rfl]
    obtain ⟨r1, a1, a2, a3⟩ := c_mbecome (N := N) hc
    obtain ⟨r2, b1, b2⟩ := s_cjudge (N := N) hL hX hd (hsh d hd) h2 (l := l) (by omega) hN (sh d).2.2.1 0 N S r1 (by omega) (by omega) a2 wf (by omega) a3
    obtain ⟨r3, fu, c1, c2, c3⟩ := s_judge_33 (N := N) hl (nI l) (nI d) 174 0 N r (by omega) (by omega) (fun j hj => by omega)
    have hmm : MM r (up2 r3 0 18 0) := ⟨fun p p0 p3 => by funext j; simp only [up2, if_neg p0]; rw [c3 p p3], fun k _ k18 => by simp only [up2, if_true, if_neg k18]; rw [c3 0 (by decide)], by simp [up2]⟩
    have e3' : up2 r3 0 18 0 3 = r3 3 := by funext j; simp [up2]
    obtain ⟨r4, d1, d2⟩ := s_mjudge (N := N) hl hd (l := l) (n := (sh d).2.2.1) (s := (sh d).2.1) (e := (sh d).2.2.2) (by omega) (by omega) hN (sh d).2.2.1 0 N S (up2 r3 0 18 0) (by omega) (by omega) (by rw [e3']; exact KRel_lt hm.1 wf c2) wf h1 (by omega) hmm.2.2 (by rw [hmm.1 7 (by decide) (by decide)]; exact t3) (by rw [hmm.1 6 (by decide) (by decide)]; exact t2) (fun j hj => by rw [hmm.1 8 (by decide) (by decide)]; exact t6 j hj)
    refine AGREE_mind hc hm hi b2 (MM_trans hmm d2) (judgeK (sh d).2.2.2 (leastI (sh d).2.1) l (sh d).2.2.1 0 S) ?_ ?_
    · rw [a1, bnd_one]
      exact b1
    · have c1' : l_X12_judge_33 N N (mc b 0) (nI l) (nI d) 0 (MW b M2 r) = _ := c1
      rw [c1']
      unfold b_X12_judge_33
      rw [if_pos (show (174 : Int32) ≤ nI 174 by decide), n_pI hl]
      exact d1
  · rw [if_pos hS, e1, bnd_one, d_ck hX, e2, bnd_one, e3, bnd_one]
    refine AGREE_same hc hm hi c ?_ (if_neg hc0)
    cases o
    · exact onn_n.trans (if_neg hc0)
    · exact onn_s.trans (if_neg hc0)
  · rw [if_neg hS, e1, bnd_one, d_ck hX, e2, bnd_one, onn_n, if_neg m1z]
    exact AGREE_same hc hm hi (-1) rfl rfl
end JUDGE
