/-! son: a second boat. -/
def twoS (P : SP) (o kd fg : Nat) : SP := (upN P.1 4 2, P.2.1, P.2.2.1, P.2.2.2.1, upN P.2.2.2.2.1 1 (o, 0, []), P.2.2.2.2.2.1, upN P.2.2.2.2.2.2 1 (kd, fg))
theorem sn_two (P : SP) (o kd fg k : Nat) : sn (twoS P o kd fg) k = if k = 4 then 2 else sn P k := rfl
theorem sB_two (P : SP) (o kd fg x : Nat) : sB (twoS P o kd fg) x = if x = 1 then (o, 0, []) else sB P x := rfl
theorem sK_two (P : SP) (o kd fg x : Nat) : sK (twoS P o kd fg) x = if x = 1 then (kd, fg) else sK P x := rfl
section SON
variable {b : Nat} {M M2 : Mm} {S P : SP} {pic : Option SP} {sh : Nat → SV} {r r' : Nat → Nat → Int32} {N : Nat} {ρ : Type}
theorem WF_two (wf : WF P) (h1 : sn P 4 = 1) {o kd fg : Nat} (ho : o < sn P 0) (hk : kd < 7) (hf : fg < 10) : WF (twoS P o kd fg) := by
  obtain ⟨⟨s1, s2, s3, s4, s5, s6, s7⟩, wb, wq⟩ := wf
  have hn : ∀ k, k ≠ 4 → sn (twoS P o kd fg) k = sn P k := fun k h => by rw [sn_two, if_neg h]
  refine ⟨⟨?_, ?_, ?_, ?_, ?_, ?_, s7⟩, fun x hx => ?_, fun l => ?_⟩
  · rw [hn 0 (by decide)]; exact s1
  · rw [hn 1 (by decide)]; exact s2
  · rw [hn 2 (by decide)]; exact s3
  · rw [hn 3 (by decide)]; exact s4
  · rw [sn_two, if_pos rfl]; exact ⟨by decide, by decide⟩
  · rw [hn 1 (by decide), hn 0 (by decide)]; exact s6
  · rw [sn_two, if_pos rfl] at hx
    unfold WFB
    rw [sB_two, sK_two, hn 0 (by decide), hn 1 (by decide), hn 2 (by decide)]
    by_cases hx1 : x = 1
    · rw [if_pos hx1, if_pos hx1]
      exact ⟨ho, by show 0 ≤ 9; decide, Nat.zero_le _, fun t (ht : t ∈ ([] : List Nat)) => absurd ht List.not_mem_nil, fun _ t (ht : t ∈ ([] : List Nat)) => absurd ht List.not_mem_nil, hk, hf⟩
    · rw [if_neg hx1, if_neg hx1]
      exact wb x (by omega)
  · obtain ⟨q1, q2, q3, q4⟩ := wq l
    exact ⟨q1, by rw [hn 0 (by decide)]; exact q2, by rw [hn 1 (by decide), hn 3 (by decide)]; exact q3, q4⟩
theorem WRel_two {M : Mm} {r : WR} (hr : WRel M P r) (h1 : sn P 4 = 1) {o q kd fg : Nat} (hq : isRl M q kd fg) : WRel M (twoS P o kd fg) (up2 (up2 (up2 (up2 r.1 0 9 1) 6 0 (nI o)) 6 1 0) 6 2 0, upq r.2 6 (some q)) := by
  have hn : ∀ k, k ≠ 4 → sn (twoS P o kd fg) k = sn P k := fun k h => by rw [sn_two, if_neg h]
  obtain ⟨a1, a2, a3, a4, a5, a6⟩ := hr
  refine ⟨?_, ?_, fun i hi => ?_, fun t k ht hk => ?_, fun x hx => ?_, fun l hl => ⟨?_, fun j p hj => ?_⟩⟩
  · rw [hn 0 (by decide), hn 1 (by decide), hn 2 (by decide), hn 3 (by decide), sn_two, if_pos rfl]
    simp only [up2]
    exact ⟨a1.1, a1.2.1, a1.2.2.1, a1.2.2.2.1, rfl⟩
  · simp only [up2]; exact a2
  · simp only [up2]; exact a3 i hi
  · rw [hn 1 (by decide)] at ht
    simp only [up2]; exact a4 t k ht hk
  · rw [sn_two, if_pos rfl] at hx
    rw [sB_two, sK_two]
    by_cases hx1 : x = 1
    · subst hx1
      rw [if_pos rfl, if_pos rfl]
      exact ⟨by simp [up2, lb], by simp [up2, lb, nI_0], by simp [up2, lb, nI_0], fun j t hj => by simp at hj, q, by simp [upq, lb], hq⟩
    · have hx0 : x = 0 := by omega
      subst hx0
      rw [if_neg (by decide), if_neg (by decide)]
      exact BRel_of (a5 0 (by omega)) (by funext j; simp [up2, lb]) (by funext j; simp [up2, lb]) (by simp [upq, lb])
  · simp only [up2]; exact (a6 l hl).1
  · simp only [up2]; exact (a6 l hl).2 j p hj
theorem KRel_two {D : Nat → Nat} {g : Nat → Int32} (hk : KRel D P g) (wf : WF P) (h1 : sn P 4 = 1) {o kd fg : Nat} : KRel D (twoS P o kd fg) (upN (upN (upN (upN (upN (upN g (50 + 12 * 1) (nI o)) (50 + 12 * 1 + 1) (-4)) (50 + 12 * 1 + 2) 0) (50 + 12 * 1 + 3) 0) (50 + 12 * 1 + 4) (nI kd)) (50 + 12 * 1 + 5) (nI fg)) := by
  have h5 := wf.1.2.1
  have hn : ∀ k, k ≠ 4 → sn (twoS P o kd fg) k = sn P k := fun k h => by rw [sn_two, if_neg h]
  have hg : ∀ j, upN (upN (upN (upN (upN (upN g (50 + 12 * 1) (nI o)) (50 + 12 * 1 + 1) (-4)) (50 + 12 * 1 + 2) 0) (50 + 12 * 1 + 3) 0) (50 + 12 * 1 + 4) (nI kd)) (50 + 12 * 1 + 5) (nI fg) j = (if j = 67 then nI fg else if j = 66 then nI kd else if j = 65 then 0 else if j = 64 then 0 else if j = 63 then -4 else if j = 62 then nI o else g j) := fun j => rfl
  have e : ∀ j, (j < 62 ∨ 68 ≤ j) → upN (upN (upN (upN (upN (upN g (50 + 12 * 1) (nI o)) (50 + 12 * 1 + 1) (-4)) (50 + 12 * 1 + 2) 0) (50 + 12 * 1 + 3) 0) (50 + 12 * 1 + 4) (nI kd)) (50 + 12 * 1 + 5) (nI fg) j = g j := fun j hj => by
    rw [hg, if_neg (by omega), if_neg (by omega), if_neg (by omega), if_neg (by omega), if_neg (by omega), if_neg (by omega)]
  obtain ⟨a1, a2, a3, a4, a5, a6⟩ := hk
  refine ⟨?_, ?_, fun i hi => ?_, fun t k ht hk => ?_, fun x hx => ?_, fun l hl => ?_⟩
  · rw [hn 0 (by decide), hn 1 (by decide), hn 2 (by decide), hn 3 (by decide), e 0 (by decide), e 1 (by decide), e 2 (by decide), e 3 (by decide)]
    exact a1
  · rw [e 4 (by decide), e 5 (by decide), e 6 (by decide), e 7 (by decide), e 8 (by decide)]; exact a2
  · rw [e _ (by omega)]; exact a3 i hi
  · rw [hn 1 (by decide)] at ht
    rw [e _ (by omega)]; exact a4 t k ht hk
  · rw [sn_two, if_pos rfl] at hx
    rw [sB_two, sK_two]
    by_cases hx1 : x = 1
    · subst hx1
      rw [if_pos rfl, if_pos rfl]
      exact ⟨by rw [hg]; rfl, by rw [hg]; rfl, by rw [hg]; rfl, by rw [hg]; rfl, by rw [hg]; rfl, by rw [hg]; rfl, fun j t hj => by simp at hj⟩
    · have hx0 : x = 0 := by omega
      subst hx0
      rw [if_neg (by decide), if_neg (by decide)]
      exact KB_of (a5 0 (by omega)) (B6 wf (by omega)) (fun j h1 h2 => e j (by omega))
  · rw [hn 3 (by decide)]
    exact KQ_of (a6 l hl) (WF_q12 wf l) (fun j h1 h2 => e j (by omega))
theorem T_son (hc : CLS b S pic sh M) (hl : MLAY b M2) (hm : MDR S pic sh r) (hi : INV S pic) (hN : 200 ≤ N) (x l o m z : Int32) : AGREE b M M2 (f_X11_son N b x l o m z M) (f_X12_son N (mc b 0) x l o m z (MW b M2 r)) := by
  obtain ⟨⟨hL, hX, hNB⟩, ⟨hr, wf, h1⟩, -⟩ := id hc
  have hM2 : SW b M 2 (gW b M 2) = M := SW_get (by decide)
  have hL4 := wf.1.1
  unfold f_X11_son f_X12_son f_X12_wrongDay
  rw [d_real hX, d_wck hL (by decide), d_hasLanding hc, bnd_one, b32_if, d_real hX, d_wck hL (by decide), d_hasLanding hc, bnd_one, b32_if, c_isNoSpan, bnd_one, b32_ifn, d_ck hX]
  rw [n_ck hl, m_isLanding hl hm.1 wf, bnd_one, b32_if, n_ck hl, m_isShelf, bnd_one, b32_if, n_ck hl, m_isLanding hl hm.1 wf, bnd_one, b32_if, m_isDay, bnd_one, b32_if, n_ck hl]
  by_cases hA : 0 ≤ l ∧ l < nI (sn S 0)
  rotate_left
  · refine AGREE_same hc hm hi (-1000000001) (by simp only [if_neg hA]) ?_
    simp only [if_neg hA, ite_self, bnd_one, if_neg m1z, farm1]
  by_cases hO : 0 ≤ o ∧ o < nI (sn S 0)
  rotate_left
  · exact AGREE_same hc hm hi (-1000000001) (by simp only [if_neg hO, ite_self]) (by simp only [if_neg hO])
  by_cases hlo : l = o
  · exact AGREE_same hc hm hi (-1000000001) (by simp only [if_pos hlo, ite_self]) (by simp only [if_pos hlo.symm, ite_self])
  have hol : ¬ o = l := fun q => hlo q.symm
  by_cases hB : 1 ≤ m ∧ m ≤ 120
  rotate_left
  · exact AGREE_same hc hm hi (-1000000001) (by simp only [if_neg hB, ite_self]) (by simp only [if_neg hB, ite_self, bnd_one, if_neg m1z, farm1])
  rw [if_pos hA, if_pos hO, if_neg hlo, if_pos hB, if_pos hO, if_neg hol, if_pos hA, if_pos hB]
  rcases rule3 (N := N) hc hl hm x with ⟨d, q, kd, fg, hd, rfl, hq, e1, e2, e9, e10⟩ | ⟨hS, c, hc0, e1, e2, e3⟩ | ⟨hS, e1, e2⟩
  · rw [if_pos (nI_in7 hd), e1, bnd_one, onn_s, e2, bnd_one, bnd_one, if_pos rfl, d_ck hX, n_ck hl]
    obtain ⟨l, hl', rfl⟩ := in_nat hA.1 hA.2 (by omega)
    obtain ⟨o, ho', rfl⟩ := in_nat hO.1 hO.2 (by omega)
    obtain ⟨m, hm1, hm2, rfl⟩ := one_nat hB.1 hB.2 (n := 120) rfl (by decide)
    have wfd := WF_dayS (z := z) wf hl' hq.2.2.1 hq.2.2.2
    have h4d := sn4_day S z l kd fg
    have hs0 : sn (dayS S z l kd fg) 0 = sn S 0 := by rw [sn_dayS, if_neg (by decide), if_neg (by decide)]
    have wf2 : WF (twoS (dayS S z l kd fg) o kd fg) := WF_two wfd h4d (by rw [hs0]; exact ho') hq.2.2.1 hq.2.2.2
    have h32 : sn (twoS (dayS S z l kd fg) o kd fg) 3 + m ≤ 5000 := by rw [sn_two, if_neg (by decide)]; exact sn3_day S z l kd fg hm2
    obtain ⟨r1, r2, a1, a2, a3, a4⟩ := c_day (N := N) hc hq hl' hm2 z hN (R36_NB hNB (show 2 < 7 by decide))
    rw [hM2] at a1
    obtain ⟨r3, b1, b2, b3⟩ := c_begin (N := N) hL hX hr wf hq hl' z (by omega) a4
    have w2 := WRel_two b2 h4d (o := o) hq
    have h36 : R36 (up2 (up2 (up2 (up2 r3.1 0 9 1) 6 0 (nI o)) 6 1 0) 6 2 0, upq r3.2 6 (some q)) := ⟨by simp [upq]; exact b3.1, ⟨q, by simp [upq]⟩⟩
    obtain ⟨r4, c1, c2, c3, c4⟩ := c_pass2 (N := N) hL w2 wf2 h32 hN hm2 h36
    obtain ⟨g1, d1, d2⟩ := m_dayOf (N := N) hl hm.1 wf hd hl' hq.2.2.1 hq.2.2.2 hm2 (show 0 < 4 by omega) e9 e10 z hN 0 rfl
    have e9' : g1 9 d = nI kd := by rw [d2.1 9 (by decide) (by decide)]; exact e9
    have e10' : g1 10 d = nI fg := by rw [d2.1 10 (by decide) (by decide)]; exact e10
    obtain ⟨g2, f1, f2, f3⟩ := m_begins2 (N := N) (r := g1) hl (by rw [d2.1 1 (by decide) (by decide)]; exact hm.1) wf z l kd fg hN
    have e9'' : g2 9 d = nI kd := by rw [f3.1 9 (by decide) (by decide)]; exact e9'
    have e10'' : g2 10 d = nI fg := by rw [f3.1 10 (by decide) (by decide)]; exact e10'
    have y2 := KRel_two f2 wfd h4d (o := o) (kd := kd) (fg := fg)
    have hmm := MM_3 (r := g2) (r' := upR g2 3 (upN (upN (upN (upN (upN (upN (g2 3) (50 + 12 * 1) (nI o)) (50 + 12 * 1 + 1) (-4)) (50 + 12 * 1 + 2) 0) (50 + 12 * 1 + 3) 0) (50 + 12 * 1 + 4) (nI kd)) (50 + 12 * 1 + 5) (nI fg))) f3.2.2 (fun p hp => upR_n hp)
    obtain ⟨g3, k1, k2, k3⟩ := m_goes2 (N := N) hl (r := upR g2 3 (upN (upN (upN (upN (upN (upN (g2 3) (50 + 12 * 1) (nI o)) (50 + 12 * 1 + 1) (-4)) (50 + 12 * 1 + 2) 0) (50 + 12 * 1 + 3) 0) (50 + 12 * 1 + 4) (nI kd)) (50 + 12 * 1 + 5) (nI fg))) (w := 0) (by decide) hN hm2 (P := twoS (dayS S z l kd fg) o kd fg) h32 (by rw [upR_s]; exact y2) wf2 hmm.2.2
    refine AGREE_mind hc hm hi c4 (MM_trans d2 (MM_trans f3 (MM_trans hmm k3))) (sc (passS (dayS S z l kd fg) m) 1 - sc (passS (twoS (dayS S z l kd fg) o kd fg) m) 1) ?_ ?_
    · rw [a1, bnd_one, c_mind hX (by decide), q_ck hL (by decide), a2, bnd_one, c_mind hX (by decide), q_gI hL (by decide), a3.2.1.2.1, c_ck hX, b1, bnd_one, c_mind hX (by decide), q_pZ hL (by decide) (Or.inr rfl), c_mind hX (by decide), q_gR hL (by decide) (l := 6) (by decide), q_bck hL (by decide) (l := 6) (Or.inr rfl)]
      unfold f_X1_begin
      rw [q_bpI hL (by decide) (l := 6) (Or.inr rfl), q_bpI hL (by decide) (l := 6) (Or.inr rfl), q_bpI hL (by decide) (l := 6) (Or.inr rfl), q_bpR hL (by decide) (l := 6) (Or.inr rfl), bnd_one, c_mind hX (by decide), q_ck hL (by decide), c1, bnd_one, c_mind hX (by decide), q_gI hL (by decide), c2.2.1.2.1]
    · have k1' : f_X12_goesBy N (mc b 0) (nI m) 2 0 _ = _ := k1
      rw [d1, bnd_one, n_gR hl (p := 9) (by decide), n_ald hl (by decide) (by decide) hd, n_gR hl (p := 10) (by decide), n_ald hl (by decide) (by decide) hd, e9', e10', n_ck hl, f1, bnd_one, n_gR hl (p := 3) (by decide), n_gR hl (p := 9) (by decide), n_ald hl (by decide) (by decide) hd, n_gR hl (p := 10) (by decide), n_ald hl (by decide) (by decide) hd, e9'', e10'', show (1 : Int32) = nI 1 from rfl, n_puts hl (p := 3) (x := 1) (by decide) (by decide) (by decide), bnd_one, n_ck hl, k1', bnd_one]
  · rw [if_pos hS, e1, bnd_one, onn_n, d_ck hX, e2, bnd_one, e3, bnd_one, bnd_one, if_neg hc0]
    exact AGREE_same hc hm hi (-1000000000 + c) rfl rfl
  · rw [if_neg hS, e1, bnd_one, onn_n, d_ck hX, e2, bnd_one, bnd_one, if_neg m1z]
    exact AGREE_same hc hm hi (-1000000001) rfl rfl
end SON
