/-! goings. -/
def goK : Nat → Nat → Nat → SP → SP
  | 0, _, _, P => P
  | k + 1, cd, gl, P => if (sB (bringS P) 0).2.1 = 0 ∧ 0 < gl then goK k (cd / 5) (gl - 1) (closeS (sendB (bringS P) 0 (digT cd))) else goK k cd gl (closeS (askB (bringS P) 0))
theorem sub4 (a b c d : Int32) : (a - b) - (c - d) = (a - c) - (b - d) := by
  simp only [Int32.sub_eq_add_neg, Int32.neg_add, Int32.neg_neg]
  ac_rfl
def valG (S : SP) (m cd : Nat) : Int32 := (sc (goK m cd 4 S) 3 - sc (goK m cd 4 S) 1) - (sc S 3 - sc S 1)
section GOINGS
variable {b : Nat} {M M2 : Mm} {S P : SP} {pic : Option SP} {sh : Nat → SV} {r r' : Nat → Nat → Int32} {N w : Nat} {ρ : Type}
theorem R36_KP {α : Type} {r r' : WR} {x : Option (α × Mm)} {v : α} (hw : w < 7) (h : KP x (SW b M w r).2.2.2.1) (e : x = some (v, SW b M w r')) (h36 : R36 r) : R36 r' := ⟨by rw [KP_SW hw h e (l := 3) (Or.inl rfl)]; exact h36.1, by rw [KP_SW hw h e (l := 6) (Or.inr rfl)]; exact h36.2⟩
theorem w_bring (hL : LAY b M) (hw : w < 7) {r : WR} (hr : WRel M P r) (wf : WF P) (hN : 200 ≤ N) (h36 : R36 r) : ∃ r', f_X10_bring N (wA b w 0) (SW b M w r) = some ((), SW b M w r') ∧ WRel M (bringS P) r' ∧ R36 r' := by
  obtain ⟨r', e1, e2⟩ := k_bring (N := N) hL hw hr wf (by omega)
  exact ⟨r', e1, e2, R36_KP hw (KP_f_X10_bring N (wA b w 0) (SW b M w r)) e1 h36⟩
theorem w_send (hL : LAY b M) (hw : w < 7) {r : WR} (hr : WRel M P r) (wf : WF P) (h4 : 1 ≤ sn P 4) (to : Option Nat) (hto : ∀ t, to = some t → t < 2 ^ 30) (h36 : R36 r) : ∃ r', f_X10_send N (wA b w 0) (wA b w 3) (oI to) (SW b M w r) = some ((), SW b M w r') ∧ WRel M (sendB P 0 to) r' ∧ R36 r' := by
  obtain ⟨r', e1, e2⟩ := k_send (N := N) hL hw hr wf (x := 0) (by omega) to hto
  exact ⟨r', e1, e2, R36_KP hw (KP_f_X10_send N (wA b w 0) (wA b w 3) (oI to) (SW b M w r)) e1 h36⟩
theorem w_ask (hL : LAY b M) (hw : w < 7) {r : WR} (hr : WRel M P r) (wf : WF P) (h4 : 1 ≤ sn P 4) (hN : 200 ≤ N) (h36 : R36 r) : ∃ r', f_X10_ask N (wA b w 0) (wA b w 3) (SW b M w r) = some ((), SW b M w r') ∧ WRel M (askB P 0) r' ∧ R36 r' := by
  obtain ⟨r', e1, e2⟩ := k_ask (N := N) hL hw hr wf (x := 0) (by omega) (by omega)
  exact ⟨r', e1, e2, R36_KP hw (KP_f_X10_ask N (wA b w 0) (wA b w 3) (SW b M w r)) e1 h36⟩
theorem w_close (hL : LAY b M) (hw : w < 7) {r : WR} (hr : WRel M P r) (wf : WF P) (hN : 200 ≤ N) (h36 : R36 r) : ∃ r', f_X10_close N (wA b w 0) (SW b M w r) = some ((), SW b M w r') ∧ WRel M (closeS P) r' ∧ R36 r' := by
  obtain ⟨r', e1, e2⟩ := k_close (N := N) hL hw hr wf (by omega)
  exact ⟨r', e1, e2, R36_KP hw (KP_f_X10_close N (wA b w 0) (SW b M w r)) e1 h36⟩
theorem dig_val {cd : Nat} (h : cd < 1000) : nI cd - nI cd / 5 * 5 - 1 = oI (digT cd) := by
  have hm5 := Nat.mod_lt cd (show 0 < 5 by decide)
  rw [show (5 : Int32) = nI 5 from rfl, pk_rem (by omega) (by decide) (by decide)]
  by_cases hd : cd % 5 = 0
  · rw [hd, show digT cd = none from if_pos hd]; rfl
  · rw [show digT cd = some (cd % 5 - 1) from if_neg hd, show (1 : Int32) = nI 1 from rfl, pk_sub (by omega)]; rfl
theorem dig_lt {cd : Nat} : ∀ t, digT cd = some t → t < 4 := by
  intro t ht
  unfold digT at ht
  have hm5 := Nat.mod_lt cd (show 0 < 5 by decide)
  split at ht
  · cases ht
  · cases ht; omega
theorem snB (P : SP) (k : Nat) : sn (bringS P) k = sn P k := sne (sn_bringS P) k
theorem wf_go1 (wf : WF P) (h4 : sn P 4 = 1) (hm : sn P 3 < 5000) (to : Option Nat) : WF (closeS (sendB (bringS P) 0 to)) := WF_closeS (WF_sendB (WF_bringS wf) (by rw [snB]; omega) to) (by rw [sn_sendS, snB]; exact hm)
theorem wf_go2 (wf : WF P) (h4 : sn P 4 = 1) (hm : sn P 3 < 5000) : WF (closeS (askB (bringS P) 0)) := WF_closeS (WF_askB (WF_bringS wf) (by rw [snB]; omega)) (by rw [sne (sn_askB 0) 3, snB]; exact hm)
theorem sn_go1 (to : Option Nat) (k : Nat) : sn (closeS (sendB (bringS P) 0 to)) k = if k = 3 then sn P 3 + 1 else sn P k := by rw [sn_closeS, sn_sendS, sn_sendS, snB, snB]
theorem sn_go2 (k : Nat) : sn (closeS (askB (bringS P) 0)) k = if k = 3 then sn P 3 + 1 else sn P k := by rw [sn_closeS, sne (sn_askB 0) 3, sne (sn_askB 0) k, snB, snB]
theorem f7 : (7, 3) ∈ refsW := by decide
theorem s_cgo (hc : CLS b S pic sh M) {m : Nat} (hm : m ≤ 120) (hN : 200 ≤ N) : ∀ (k i fu cd j : Nat) (P : SP) (r : WR), i + k = m → k + 1 ≤ fu → j ≤ 4 → cd < 1000 → WRel M P r → WF P → sn P 4 = 1 → sn P 3 + k ≤ 5000 → R36 r → ∃ r', l_X11_goings_40 N fu b (nI m) (nI cd) (nI (5 ^ j)) (nI i) (SW b M 2 r) = some ((sc (goK k cd (4 - j) P) 3 - sc (goK k cd (4 - j) P) 1) - (sc S 3 - sc S 1), SW b M 2 r') ∧ R36 r' := by
  obtain ⟨⟨hL, hX, hNB⟩, ⟨hr0, wf0, h10⟩, -⟩ := id hc
  intro k
  induction k with
  | zero =>
    intro i fu cd j P r hi hf hj hcd hr wf h4 h3 h36
    obtain ⟨fu, rfl, -⟩ := fuel_s hf
    refine ⟨r, ?_, h36⟩
    have e15 : M.2.1 (wA b 0 0) 15 = sc S 3 := hr0.2.1.2.2.2.1
    have e13 : M.2.1 (wA b 0 0) 13 = sc S 1 := hr0.2.1.2.1
    show b_X11_goings_40 N (l_X11_goings_40 N fu) _ _ _ _ _ _ = _
    unfold b_X11_goings_40
    rw [if_pos (nI_le (by omega) (by omega)), c_mind hX (by decide), q_ck hL (by decide), e_gain hL (by decide), bnd_one, c_real hX (by decide), d_wck (LAY_SW (by decide) hL) (by decide)]
    unfold f_X10_gain
    rw [x_gI hL (by decide) (by decide) (by decide), x_gI hL (by decide) (by decide) (by decide), bnd_one, e15, e13, hr.2.1.2.2.2.1, hr.2.1.2.1]
    rfl
  | succ k ih =>
    intro i fu cd j P r hi hf hj hcd hr wf h4 h3 h36
    obtain ⟨fu, rfl, hf2⟩ := fuel_s hf
    obtain ⟨r1, a1, a2, a3⟩ := w_bring (N := N) hL (show 2 < 7 by decide) hr wf hN h36
    have wf1 := WF_bringS wf
    have h41 : sn (bringS P) 4 = 1 := by rw [snB]; exact h4
    have hleft : r1.1 3 1 = nI (sB (bringS P) 0).2.1 := (a2.2.2.2.2.1 0 (by omega)).2.1
    have h9 := (wf1.2.1 0 (by omega)).2.1
    have hask : ∃ r', j_X11_goings_106 N (l_X11_goings_40 N fu) b (nI m) (nI cd) (nI (5 ^ j)) (nI i) (SW b M 2 r1) = some ((sc (goK k cd (4 - j) (closeS (askB (bringS P) 0))) 3 - sc (goK k cd (4 - j) (closeS (askB (bringS P) 0))) 1) - (sc S 3 - sc S 1), SW b M 2 r') ∧ R36 r' := by
      obtain ⟨r2, b1, b2, b3⟩ := w_ask (N := N) hL (show 2 < 7 by decide) a2 wf1 (by omega) hN a3
      have wf2 : WF (askB (bringS P) 0) := WF_askB wf1 (by omega)
      obtain ⟨r3, c1, c2, c3⟩ := w_close (N := N) hL (show 2 < 7 by decide) b2 wf2 hN b3
      obtain ⟨r', d1, d2⟩ := ih (i + 1) fu cd j _ r3 (by omega) (by omega) hj hcd c2 (wf_go2 wf h4 (by omega)) (by rw [sn_go2, if_neg (by decide)]; exact h4) (by rw [sn_go2, if_pos rfl]; omega) c3
      refine ⟨r', ?_, d2⟩
      unfold j_X11_goings_106 j_X11_goings_120
      rw [c_mind hX (by decide), c_mind hX (by decide), q_gR hL (by decide) f7, q_ck hL (by decide), b1, bnd_one, c_mind hX (by decide), q_ck hL (by decide), c1, bnd_one, nI_1]
      exact d1
    show ∃ r', b_X11_goings_40 N (l_X11_goings_40 N fu) _ _ _ _ _ _ = _ ∧ _
    unfold b_X11_goings_40
    rw [if_neg (nI_ge (by omega) (by omega)), c_mind hX (by decide), q_ck hL (by decide), a1, bnd_one, c_mind hX (by decide), q_gR hL (by decide) f7, q_bgI hL (by decide) (l := 3) (Or.inl rfl), hleft]
    unfold goK
    by_cases hz : (sB (bringS P) 0).2.1 = 0
    · rw [if_pos ((nI_z (by omega)).mpr hz)]
      by_cases hj4 : j = 4
      · subst hj4
        rw [if_pos (show (625 : Int32) ≤ nI (5 ^ 4) by decide), if_neg (fun q => absurd q.2 (by decide))]
        exact hask
      · have hunit : ∀ j, j < 4 → ¬ (625 : Int32) ≤ nI (5 ^ j) := by decide
        rw [if_neg (hunit j (by omega)), if_pos ⟨hz, by omega⟩, c_mind hX (by decide), c_mind hX (by decide), q_gR hL (by decide) f7, q_ck hL (by decide), dig_val hcd]
        obtain ⟨r2, b1, b2, b3⟩ := w_send (N := N) hL (show 2 < 7 by decide) a2 wf1 (by omega) (digT cd) (fun t ht => Nat.lt_of_lt_of_le (dig_lt t ht) (by decide)) a3
        have wf2 : WF (sendB (bringS P) 0 (digT cd)) := WF_sendB wf1 (by omega) _
        obtain ⟨r3, c1, c2, c3⟩ := w_close (N := N) hL (show 2 < 7 by decide) b2 wf2 hN b3
        have hcd5 : cd / 5 ≤ cd := Nat.div_le_self cd 5
        obtain ⟨r', d1, d2⟩ := ih (i + 1) fu (cd / 5) (j + 1) _ r3 (by omega) (by omega) (by omega) (by omega) c2 (wf_go1 wf h4 (by omega) _) (by rw [sn_go1, if_neg (by decide)]; exact h4) (by rw [sn_go1, if_pos rfl]; omega) c3
        refine ⟨r', ?_, d2⟩
        unfold j_X11_goings_120
        rw [b1, bnd_one, c_mind hX (by decide), q_ck hL (by decide), c1, bnd_one, nI_1, show (5 : Int32) = nI 5 from rfl, pk_div (by omega) (by decide) (by decide), pk_mul, ← Nat.pow_succ, show 4 - j - 1 = 4 - (j + 1) by omega]
        exact d1
    · rw [if_neg (fun q => hz ((nI_z (by omega)).mp q)), if_neg (fun q => hz q.1)]
      exact hask
theorem m_asksU {M : Mm} {a : Nat} {g : Nat → Int32} {D : Nat → Nat} (h : AI M a 174) {o : Nat} (hk : KRel D P g) (wf : WF P) (h4 : 0 < sn P 4) (hz : ¬ (sB P 0).2.1 = 0) : f_X12_asks N o a (nI 0) (sG M a g) = some ((), sG M a g) := by
  unfold f_X12_asks
  rw [m_isAt h h4 wf hk, bnd_one, b32_if, if_neg hz]
theorem m_minG (hl : MLAY b M2) {cd gl : Nat} (hcd : cd < 1000) (hgl : gl ≤ 4) (h17 : r 0 17 = nI cd) (h18 : r 0 18 = nI gl) (hk : KRel K0 P (r 3)) (wf : WF P) (h4 : sn P 4 = 1) (hN : 20 ≤ N) : ∃ r', f_X12_minute N (mc b 0) (mc b 3) 1 (MW b M2 r) = some ((), MW b M2 r') ∧ KRel K0 (if (sB (bringS P) 0).2.1 = 0 ∧ 0 < gl then closeS (sendB (bringS P) 0 (digT cd)) else closeS (askB (bringS P) 0)) (r' 3) ∧ (∀ p, p ≠ 0 → p ≠ 3 → r' p = r p) ∧ (∀ k, k ≠ 17 → k ≠ 18 → r' 0 k = r 0 k) ∧ r' 0 17 = nI (if (sB (bringS P) 0).2.1 = 0 ∧ 0 < gl then cd / 5 else cd) ∧ r' 0 18 = nI (if (sB (bringS P) 0).2.1 = 0 ∧ 0 < gl then gl - 1 else gl) := by
  have hA : AI (MW b M2 r) (mc b 3) 174 := AI_MW hl (by decide) (by decide)
  have ho : mc b 0 ≠ mc b 3 := by unfold mc; omega
  have hto : ((MW b M2 r).1 (mc b 0)).1 = 16 := hl.1
  have h17' : (MW b M2 r).2.1 (mc b 0) 17 = nI cd := by rw [MW_i (by decide)]; exact h17
  have h18' : (MW b M2 r).2.1 (mc b 0) 18 = nI gl := by rw [MW_i (by decide)]; exact h18
  obtain ⟨N', hN', hN2⟩ := fuel_s hN
  obtain ⟨N3, hN3', -⟩ := fuel_s hN2
  have u45 : ∀ o a b i M', l_X12_minute_45 N N o a b i M' = b_X12_minute_45 N (b_X12_minute_45 N (l_X12_minute_45 N N3)) o a b i M' := by
    intro o a b i M'; rw [hN', hN3']; rfl
  obtain ⟨g1, c1, k1⟩ := m_bring (N := N) hA hto hk wf hN
  rw [← MW_as (by decide), h4] at c1
  have f1 := WF_bringS wf
  have s1 : sn (bringS P) 4 = 1 := by rw [snB]; exact h4
  have c1' : f_X12_minute N (mc b 0) (mc b 3) 1 (MW b M2 r) = l_X12_minute_45 N N (mc b 0) (mc b 3) (nI 1) (nI 0) (sG (MW b M2 r) (mc b 3) g1) := c1
  rw [c1', u45]
  by_cases hcond : (sB (bringS P) 0).2.1 = 0 ∧ 0 < gl
  · obtain ⟨gl', rfl⟩ : ∃ g', gl = g' + 1 := ⟨gl - 1, by omega⟩
    obtain ⟨g2, c2, k2⟩ := m_asksG (N := N) hA ho hto h17' h18' hcd (by omega) k1 f1 (x := 0) (by omega) hcond.1 hN
    have f2 : WF (sendB (bringS P) 0 (digT cd)) := WF_sendB f1 (by omega) _
    have hA2 : AI (sI (sI (MW b M2 r) (mc b 0) 17 (nI (cd / 5))) (mc b 0) 18 (nI gl')) (mc b 3) 174 := hA
    obtain ⟨g3, c3, k3⟩ := m_end (N := N) hA2 (o := mc b 0) hto k2 f2 hN (l_X12_minute_45 N N3) (bn := 1) (i := 1) (by decide) (by decide)
    simp only [if_pos hcond]
    refine ⟨upR (up2 (up2 r 0 17 (nI (cd / 5))) 0 18 (nI gl')) 3 g3, ?_, by rw [upR_s]; exact k3, fun p p0 p3 => ?_, fun k k17 k18 => ?_, ?_, ?_⟩
    · show (if nI 1 ≤ nI 0 then _ else ck 12 (sG (MW b M2 r) (mc b 3) g1) (mc b 0) (bnd (f_X12_asks N (mc b 0) (mc b 3) (nI 0) (sG (MW b M2 r) (mc b 3) g1)) _)) = _
      rw [if_neg (nI_ge (by decide) (by decide)), m_ck hto, c2, bnd_one, nI_1, c3, sI_MW (by decide), sI_MW (by decide), sG_MW (by decide)]
    · rw [upR_n p3]; funext j; simp [up2, p0]
    · rw [upR_n (by decide)]; simp [up2, k17, k18]
    · rw [upR_n (by decide)]; simp [up2]
    · rw [upR_n (by decide)]; simp [up2]
  · simp only [if_neg hcond]
    have hasks : ∃ g2, f_X12_asks N (mc b 0) (mc b 3) (nI 0) (sG (MW b M2 r) (mc b 3) g1) = some ((), sG (MW b M2 r) (mc b 3) g2) ∧ KRel K0 (askB (bringS P) 0) g2 := by
      by_cases hz : (sB (bringS P) 0).2.1 = 0
      · have hg0 : gl = 0 := by
          rcases Nat.eq_zero_or_pos gl with h | h
          · exact h
          · exact absurd ⟨hz, h⟩ hcond
        exact m_asks (N := N) hA ho hto (by rw [h18', hg0]; rfl) k1 f1 (x := 0) (by omega) hN
      · refine ⟨g1, m_asksU hA k1 f1 (by omega) hz, ?_⟩
        unfold askB
        rw [if_neg hz]; exact k1
    obtain ⟨g2, c2, k2⟩ := hasks
    have f2 : WF (askB (bringS P) 0) := WF_askB f1 (by omega)
    obtain ⟨g3, c3, k3⟩ := m_end (N := N) hA (o := mc b 0) hto k2 f2 hN (l_X12_minute_45 N N3) (bn := 1) (i := 1) (by decide) (by decide)
    refine ⟨upR r 3 g3, ?_, by rw [upR_s]; exact k3, fun p p0 p3 => upR_n p3, fun k k17 k18 => by rw [upR_n (by decide)], by rw [upR_n (by decide)]; exact h17, by rw [upR_n (by decide)]; exact h18⟩
    show (if nI 1 ≤ nI 0 then _ else ck 12 (sG (MW b M2 r) (mc b 3) g1) (mc b 0) (bnd (f_X12_asks N (mc b 0) (mc b 3) (nI 0) (sG (MW b M2 r) (mc b 3) g1)) _)) = _
    rw [if_neg (nI_ge (by decide) (by decide)), m_ck hto, c2, bnd_one, nI_1, c3, sG_MW (by decide)]
theorem s_goesG (hl : MLAY b M2) {m : Nat} (hm : m ≤ 120) (hN : 200 ≤ N) : ∀ (k i fu cd gl : Nat) (P : SP) (r : Nat → Nat → Int32), i + k = m → k + 1 ≤ fu → cd < 1000 → gl ≤ 4 → r 0 17 = nI cd → r 0 18 = nI gl → KRel K0 P (r 3) → WF P → sn P 4 = 1 → sn P 3 + k ≤ 5000 → ∃ r', l_X12_goesBy_3 N fu (mc b 0) (nI m) 1 0 (nI i) (MW b M2 r) = some (sc (goK k cd gl P) 1, MW b M2 r') ∧ KRel K0 (goK k cd gl P) (r' 3) ∧ (∀ p, p ≠ 0 → p ≠ 3 → r' p = r p) ∧ (∀ k, k ≠ 17 → k ≠ 18 → r' 0 k = r 0 k) := by
  intro k
  induction k with
  | zero =>
    intro i fu cd gl P r hi hf hcd hgl h17 h18 hk wf h4 h3
    obtain ⟨fu, rfl, -⟩ := fuel_s hf
    refine ⟨r, ?_, hk, fun _ _ _ => rfl, fun _ _ _ => rfl⟩
    have e5 : r 3 5 = sc P 1 := hk.2.1.2.1
    show b_X12_goesBy_3 N (l_X12_goesBy_3 N fu) _ _ _ _ _ _ = _
    unfold b_X12_goesBy_3
    rw [if_pos (nI_le (by omega) (by omega)), n_gR hl (p := 3) (by decide), show (5 : Int32) + 0 = nI 5 from rfl, n_ald hl (by decide) (by decide) (show 5 < 174 by decide), e5]
    rfl
  | succ k ih =>
    intro i fu cd gl P r hi hf hcd hgl h17 h18 hk wf h4 h3
    obtain ⟨fu, rfl, hf2⟩ := fuel_s hf
    obtain ⟨r1, a1, a2, a3, a4, a5, a6⟩ := m_minG (N := N) hl hcd hgl h17 h18 hk wf h4 (by omega)
    have hcd5 : cd / 5 ≤ cd := Nat.div_le_self cd 5
    show ∃ r', b_X12_goesBy_3 N (l_X12_goesBy_3 N fu) _ _ _ _ _ _ = _ ∧ _
    unfold b_X12_goesBy_3
    rw [if_neg (nI_ge (by omega) (by omega)), n_gR hl (p := 3) (by decide), n_ck hl, a1, bnd_one, nI_1]
    unfold goK
    by_cases hcond : (sB (bringS P) 0).2.1 = 0 ∧ 0 < gl
    · rw [if_pos hcond] at a2 a5 a6
      rw [if_pos hcond]
      obtain ⟨r', b1, b2, b3, b4⟩ := ih (i + 1) fu (cd / 5) (gl - 1) _ r1 (by omega) (by omega) (by omega) (by omega) a5 a6 a2 (wf_go1 wf h4 (by omega) _) (by rw [sn_go1, if_neg (by decide)]; exact h4) (by rw [sn_go1, if_pos rfl]; omega)
      exact ⟨r', b1, b2, fun p p0 p3 => (b3 p p0 p3).trans (a3 p p0 p3), fun k q1 q2 => (b4 k q1 q2).trans (a4 k q1 q2)⟩
    · rw [if_neg hcond] at a2 a5 a6
      rw [if_neg hcond]
      obtain ⟨r', b1, b2, b3, b4⟩ := ih (i + 1) fu cd gl _ r1 (by omega) (by omega) hcd hgl a5 a6 a2 (wf_go2 wf h4 (by omega)) (by rw [sn_go2, if_neg (by decide)]; exact h4) (by rw [sn_go2, if_pos rfl]; omega)
      exact ⟨r', b1, b2, fun p p0 p3 => (b3 p p0 p3).trans (a3 p p0 p3), fun k q1 q2 => (b4 k q1 q2).trans (a4 k q1 q2)⟩
theorem m_goingsOf (hl : MLAY b M2) (hk : KRel K0 S (r 1)) (wf : WF S) (h4 : sn S 4 = 1) (h3 : sn S 3 ≤ 999) {cd m : Nat} (hcd : cd < 1000) (hm : m ≤ 120) (hN : 200 ≤ N) : ∃ r', f_X12_goingsOf N (mc b 0) (nI cd) (nI m) (MW b M2 r) = some (valG S m cd, MW b M2 r') ∧ MM r r' := by
  obtain ⟨r1, fu, c1, c2, c3⟩ := s_goingsOf_2 (N := N) hl (nI cd) (nI m) 174 0 N r (by omega) (by omega) (fun j hj => by omega)
  have e3 : up2 (up2 r1 0 17 (nI cd)) 0 18 4 3 = r1 3 := by funext j; simp [up2]
  obtain ⟨r2, d1, d2, d3, d4⟩ := s_goesG (N := N) hl hm hN m 0 N cd 4 S (up2 (up2 r1 0 17 (nI cd)) 0 18 4) (by omega) (by omega) hcd (by decide) (by simp [up2]) (by simp [up2]; rfl) (by rw [e3]; exact KRel_lt hk wf c2) wf h4 (by omega)
  have o1 : r2 1 = r 1 := by
    rw [d3 1 (by decide) (by decide)]
    have : up2 (up2 r1 0 17 (nI cd)) 0 18 4 1 = r1 1 := by funext j; simp [up2]
    rw [this, c3 1 (by decide)]
  have e5 : r2 1 5 = sc S 1 := by rw [o1]; exact hk.2.1.2.1
  have e7 : r2 1 7 = sc S 3 := by rw [o1]; exact hk.2.1.2.2.2.1
  have e37 : r2 3 7 = sc (goK m cd 4 S) 3 := d2.2.1.2.2.2.1
  refine ⟨up2 r2 0 18 0, ?_, fun p p0 p3 => ?_, fun k k17 k18 => ?_, by simp [up2]⟩
  · unfold f_X12_goingsOf
    have c1' : l_X12_goingsOf_2 N N (mc b 0) (nI cd) (nI m) 0 (MW b M2 r) = _ := c1
    rw [c1']
    unfold b_X12_goingsOf_2 f_X12_goesBy
    have d1' : l_X12_goesBy_3 N N (mc b 0) (nI m) 1 0 0 (MW b M2 (up2 (up2 r1 0 17 (nI cd)) 0 18 4)) = _ := d1
    rw [if_pos (show (174 : Int32) ≤ nI 174 by decide), n_pI hl, n_pI hl, n_ck hl, d1', bnd_one, n_gR hl (p := 1) (by decide), show (5 : Int32) = nI 5 from rfl, n_ald hl (by decide) (by decide) (show 5 < 174 by decide), e5, n_pI hl, n_gR hl (p := 3) (by decide), show (7 : Int32) = nI 7 from rfl, n_ald hl (by decide) (by decide) (show 7 < 174 by decide), n_gR hl (p := 1) (by decide), n_ald hl (by decide) (by decide) (show 7 < 174 by decide)]
    have q1 : up2 r2 0 18 0 3 7 = sc (goK m cd 4 S) 3 := by rw [← e37]; simp [up2]
    have q2 : up2 r2 0 18 0 1 7 = sc S 3 := by rw [← e7]; simp [up2]
    rw [q1, q2, sub4]
    rfl
  · have : up2 r2 0 18 0 p = r2 p := by funext j; simp [up2, p0]
    rw [this, d3 p p0 p3]
    have : up2 (up2 r1 0 17 (nI cd)) 0 18 4 p = r1 p := by funext j; simp [up2, p0]
    rw [this, c3 p p3]
  · have : up2 r2 0 18 0 0 k = r2 0 k := by simp [up2, k18]
    rw [this, d4 k k17 k18]
    have : up2 (up2 r1 0 17 (nI cd)) 0 18 4 0 k = r1 0 k := by simp [up2, k17, k18]
    rw [this, c3 0 (by decide)]
theorem T_goings (hc : CLS b S pic sh M) (hl : MLAY b M2) (hm : MDR S pic sh r) (hi : INV S pic) (hN : 200 ≤ N) (x m : Int32) : AGREE b M M2 (f_X11_goings N b x m M) (f_X12_goings N (mc b 0) x m (MW b M2 r)) := by
  obtain ⟨⟨hL, hX, hNB⟩, ⟨hr, wf, h1⟩, -⟩ := id hc
  have h999 := hi.1.1
  unfold f_X11_goings f_X12_goings
  rw [c_isNoSpan, bnd_one, b32_ifn]
  rw [m_isIn x 0 624 0 624 rfl rfl, bnd_one, b32_if, m_isDay, bnd_one, b32_if, n_ck hl]
  by_cases hA : 0 ≤ x ∧ x ≤ 624
  rotate_left
  · refine AGREE_same hc hm hi (-1000000001) ?_ (by simp only [if_neg hA])
    by_cases h0 : x < 0
    · rw [if_pos h0]
    · rw [if_neg h0, if_pos]
      obtain ⟨j, hj, rfl⟩ := nI_of h0
      have : ¬ j ≤ 624 := fun q => hA ⟨Int32.not_lt.mp h0, nI_le (b := 624) q (by decide)⟩
      exact nI_le (a := 625) (by omega) hj
  by_cases hB : 1 ≤ m ∧ m ≤ 120
  rotate_left
  · exact AGREE_same hc hm hi (-1000000001) (by simp only [if_neg hB, ite_self]) (by simp only [if_neg hB, ite_self])
  obtain ⟨cd, hcd, rfl⟩ := in_nat2 (n := 624) hA.1 hA.2 rfl (by decide)
  obtain ⟨m, hm1, hm2, rfl⟩ := one_nat hB.1 hB.2 (n := 120) rfl (by decide)
  rw [if_neg (nI_neg (by omega)), if_neg (show ¬ (625 : Int32) ≤ nI cd from nI_ge (b := 625) (by omega) (by decide)), if_pos hB, if_pos hA, if_pos hB, d_mind hX, d_real hX, d_wck hL (by decide)]
  obtain ⟨r1, a1, a2, a3⟩ := c_mbecome (N := N) hc
  obtain ⟨r2, b1, b2⟩ := s_cgo (N := N) hc hm2 hN m 0 N cd 0 S r1 (by omega) (by omega) (by decide) (by omega) a2 wf h1 (by omega) a3
  obtain ⟨r4, d1, d2⟩ := m_goingsOf (N := N) hl hm.1 wf h1 h999 (cd := cd) (by omega) hm2 hN
  refine AGREE_mind hc hm hi b2 d2 (valG S m cd) ?_ ?_
  · rw [a1, bnd_one]
    exact b1
  · rw [d1, bnd_one]
end GOINGS
