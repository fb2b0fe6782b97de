/-! Boarding: the class' boats. -/
section BOARD
variable {b : Nat} {M : Mm} {w : Nat} {N : Nat} {S : SP}
theorem s_board1 (h : LAY b M) (hw : w < 7) {l p mm : Nat} {n3 : Int32} (hl : l = 3 ∨ l = 6) (hp : p < 4) (hmm : mm ≤ 12) :
    ∀ (xs ab : List Nat) (i m : Nat) (r : WR), xs.length + 1 ≤ m → xs.length + i = mm → ab.length + xs.length ≤ 6 → r.1 l 2 = nI ab.length → (∀ j t, ab[j]? = some t → r.1 (l + 1) j = nI t) → (∀ j t, xs[j]? = some t → r.1 10 (p * 12 + (i + j)) = nI t) →
    ∃ r', l_X10_board_51 N m (wA b w 0) (wA b w l) n3 (nI (p * 12)) (nI mm) (nI i) (SW b M w r) = l_X10_board_100 N N (wA b w 0) (wA b w l) n3 (nI (p * 12)) (nI mm) (nI mm) (SW b M w r') ∧ (∀ q, q ≠ l → q ≠ l + 1 → r'.1 q = r.1 q) ∧ (∀ k, k ≠ 2 → r'.1 l k = r.1 l k) ∧ r'.2 = r.2 ∧ r'.1 l 2 = nI (ab ++ xs).length ∧ ∀ j t, (ab ++ xs)[j]? = some t → r'.1 (l + 1) j = nI t := by
  have hl1 : l + 1 ∈ oks := by rcases hl with rfl | rfl <;> decide
  have hk1 : kW (l + 1) = (1, 6) := by rcases hl with rfl | rfl <;> rfl
  have hl0 : l ≠ 10 ∧ l + 1 ≠ 10 := by rcases hl with rfl | rfl <;> decide
  intro xs
  induction xs with
  | nil =>
    intro ab i m r hm hi h6 h2 ha hx
    obtain ⟨m, rfl, -⟩ := fuel_s hm
    simp at hi
    subst hi
    show ∃ r', b_X10_board_51 N (l_X10_board_51 N m) _ _ _ _ _ _ _ = _ ∧ _
    unfold b_X10_board_51
    rw [if_pos (nI_le (Nat.le_refl _) (by omega))]
    exact ⟨r, rfl, fun _ _ _ => rfl, fun _ _ => rfl, rfl, by simpa using h2, fun j t hj => ha j t (by simpa using hj)⟩
  | cons t xs ih =>
    intro ab i m r hm hi h6 h2 ha hx
    simp only [List.length_cons] at hm hi h6
    obtain ⟨m, rfl, hm2⟩ := fuel_s hm
    show ∃ r', b_X10_board_51 N (l_X10_board_51 N m) _ _ _ _ _ _ _ = _ ∧ _
    unfold b_X10_board_51
    rw [if_neg (nI_ge (by omega) (by omega)), q_bseat h hw hl, q_bgI h hw hl, q_gR h hw (l := 10) (by decide), nI_add, k_at h hw (n := 48) (by decide) rfl (by omega), bnd_one, show r.1 10 (p * 12 + i) = nI t from hx 0 t rfl, h2, k_change h hw (n := 6) hl1 hk1 (by omega), bnd_one, q_bgI h hw hl, q_bpI h hw hl]
    have e2 : ((up2 r.1 (l + 1) ab.length (nI t), r.2) : WR).1 l 2 = nI ab.length := by simp [up2, h2]
    rw [e2, nI_1, nI_1]
    obtain ⟨r', c1, c2, c3, c4, c5, c6⟩ := ih (ab ++ [t]) (i + 1) m (up2 (up2 r.1 (l + 1) ab.length (nI t)) l 2 (nI (ab.length + 1)), r.2) (by omega) (by omega) (by simp; omega) (by simp [up2]) (fun j t' hj => by
        rcases gpush hj with ⟨h1, h3⟩ | ⟨rfl, rfl⟩
        · have : ¬ j = ab.length := by omega
          simp [up2, this]; exact ha j t' h3
        · simp [up2]) (fun j t' hj => by
        simp [up2, Ne.symm hl0.1, Ne.symm hl0.2]
        have := hx (j + 1) t' hj
        rwa [show i + (j + 1) = i + 1 + j by omega] at this)
    refine ⟨r', c1, fun q q1 q2 => by rw [c2 q q1 q2]; funext j; simp [up2, q1, q2], fun k hk => by rw [c3 k hk]; simp [up2, hk], c4, ?_, ?_⟩
    · rw [c5]; simp
    · intro j t' hj; apply c6; simpa using hj
theorem s_board2 (h : LAY b M) (hw : w < 7) {l p mm n : Nat} (hl : l = 3 ∨ l = 6) (hp : p < 4) (hn : n ≤ 12) (hmm : mm ≤ n) :
    ∀ (ys done : List (Nat × Nat)) (i m : Nat) (r : WR), ys.length + 1 ≤ m → i + ys.length = n → i = mm + done.length → r.1 l 0 = nI p → (∀ j q, done[j]? = some q → r.1 10 (p * 12 + j) = nI q.1 ∧ r.1 11 (p * 12 + j) = nI q.2) → (∀ j q, ys[j]? = some q → r.1 10 (p * 12 + (i + j)) = nI q.1 ∧ r.1 11 (p * 12 + (i + j)) = nI q.2) →
    ∃ r', l_X10_board_100 N m (wA b w 0) (wA b w l) (nI n) (nI (p * 12)) (nI mm) (nI i) (SW b M w r) = some ((), SW b M w r') ∧ (∀ q, q ≠ 9 → q ≠ 10 → q ≠ 11 → r'.1 q = r.1 q) ∧ r'.2 = r.2 ∧ (∀ k, k ≠ p → r'.1 9 k = r.1 9 k) ∧ (∀ k, (k < p * 12 ∨ p * 12 + 12 ≤ k) → r'.1 10 k = r.1 10 k ∧ r'.1 11 k = r.1 11 k) ∧ r'.1 9 p = nI (n - mm) ∧ ∀ j q, (done ++ ys)[j]? = some q → r'.1 10 (p * 12 + j) = nI q.1 ∧ r'.1 11 (p * 12 + j) = nI q.2 := by
  have hl9 : l ≠ 9 ∧ l ≠ 10 ∧ l ≠ 11 := by rcases hl with rfl | rfl <;> decide
  intro ys
  induction ys with
  | nil =>
    intro done i m r hm hi hd h0 hdn hy
    obtain ⟨m, rfl, -⟩ := fuel_s hm
    simp at hi
    show ∃ r', b_X10_board_100 N (l_X10_board_100 N m) _ _ _ _ _ _ _ = _ ∧ _
    unfold b_X10_board_100
    rw [if_pos (nI_le (by omega) (by omega)), q_gR h hw (l := 9) (by decide), q_bgI h hw hl, h0, pk_sub hmm, k_change h hw (n := 4) (by decide) rfl hp, bnd_one]
    refine ⟨_, rfl, fun q q1 _ _ => by funext j; simp [up2, q1], rfl, fun k hk => by simp [up2, hk], fun k _ => by simp [up2], by simp [up2], fun j q hj => ?_⟩
    simp at hj
    simp [up2]
    exact hdn j q hj
  | cons y ys ih =>
    intro done i m r hm hi hd h0 hdn hy
    simp only [List.length_cons] at hm hi
    obtain ⟨m, rfl, hm2⟩ := fuel_s hm
    show ∃ r', b_X10_board_100 N (l_X10_board_100 N m) _ _ _ _ _ _ _ = _ ∧ _
    unfold b_X10_board_100
    obtain ⟨y1, y2⟩ := hy 0 y rfl
    rw [Nat.add_zero] at y1 y2
    rw [if_neg (nI_ge (by omega) (by omega)), q_gR h hw (l := 10) (by decide), q_gR h hw (l := 10) (by decide), nI_add, k_at h hw (n := 48) (by decide) rfl (by omega), bnd_one, y1, pk_sub (by omega), k_change h hw (n := 48) (by decide) rfl (by omega), bnd_one, q_gR h hw (l := 11) (by decide), q_gR h hw (l := 11) (by decide), k_at h hw (n := 48) (by decide) rfl (by omega), bnd_one]
    have e1 : ((up2 r.1 10 (p * 12 + i - mm) (nI y.1), r.2) : WR).1 11 (p * 12 + i) = nI y.2 := by simp [up2, y2]
    rw [e1, k_change h hw (n := 48) (by decide) rfl (by omega), bnd_one, nI_1]
    have hpos : p * 12 + i - mm = p * 12 + done.length := by omega
    rw [hpos]
    obtain ⟨r', c1, c2, c3, c4, c5, c6, c7⟩ := ih (done ++ [y]) (i + 1) m (up2 (up2 r.1 10 (p * 12 + done.length) (nI y.1)) 11 (p * 12 + done.length) (nI y.2), r.2) (by omega) (by omega) (by simp; omega) (by simp [up2, hl9, h0]) (fun j q hj => by
        rcases gpush hj with ⟨h1, h3⟩ | ⟨rfl, rfl⟩
        · have n1 : ¬ j = done.length := by omega
          simp [up2, n1]; exact hdn j q h3
        · simp [up2]) (fun j q hj => by
        have n1 : ¬ (i + 1 + j = done.length) := by omega
        simp [up2, n1]
        have := hy (j + 1) q hj
        rwa [show i + (j + 1) = i + 1 + j by omega] at this)
    refine ⟨r', c1, fun q q1 q2 q3 => by rw [c2 q q1 q2 q3]; funext j; simp [up2, q2, q3], c3, fun k hk => by rw [c4 k hk]; simp [up2], fun k hk => ?_, c6, fun j q hj => c7 j q (by simpa using hj)⟩
    obtain ⟨d1, d2⟩ := c5 k hk
    have n1 : ¬ k = p * 12 + done.length := by omega
    rw [d1, d2]
    simp [up2, n1]
/-- a record whose boat x and queue at p have changed -/
theorem WRel_BQ {r r' : WR} {x p : Nat} {v : Nat × Nat × List Nat} {q' : List (Nat × Nat)} (hr : WRel M S r) (h2 : sn S 4 ≤ 2) (hx : x < sn S 4) (hp : p < 4) (hq12 : ∀ l, (sQ S l).length ≤ 12) (h0 : ∀ q, q ≠ lb x → q ≠ lb x + 1 → q ≠ 9 → q ≠ 10 → q ≠ 11 → r'.1 q = r.1 q) (hq : r'.2 = r.2) (hb : r'.1 (lb x) 0 = nI v.1 ∧ r'.1 (lb x) 1 = nI v.2.1 ∧ r'.1 (lb x) 2 = nI v.2.2.length ∧ ∀ j t, v.2.2[j]? = some t → r'.1 (lb x + 1) j = nI t)
    (h9 : ∀ k, k ≠ p → r'.1 9 k = r.1 9 k) (hk : ∀ k, (k < p * 12 ∨ p * 12 + 12 ≤ k) → r'.1 10 k = r.1 10 k ∧ r'.1 11 k = r.1 11 k) (hn : r'.1 9 p = nI q'.length) (hqq : ∀ j z, q'[j]? = some z → r'.1 10 (p * 12 + j) = nI z.1 ∧ r'.1 11 (p * 12 + j) = nI (z.2 + sf S z.1 3)) : WRel M (ssQ (ssB S x v) p q') r' := by
  have hl := lb_cases (Nat.lt_of_lt_of_le hx h2)
  obtain ⟨a1, a2, a3, a4, a5, a6⟩ := hr
  have e0 : r'.1 0 = r.1 0 := by rcases hl with e | e <;> exact h0 0 (by rw [e]; decide) (by rw [e]; decide) (by decide) (by decide) (by decide)
  have e1 : r'.1 1 = r.1 1 := by rcases hl with e | e <;> exact h0 1 (by rw [e]; decide) (by rw [e]; decide) (by decide) (by decide) (by decide)
  have e2 : r'.1 2 = r.1 2 := by rcases hl with e | e <;> exact h0 2 (by rw [e]; decide) (by rw [e]; decide) (by decide) (by decide) (by decide)
  refine ⟨by rw [e0]; exact a1, by rw [e0]; exact a2, by rw [e1]; exact a3, by rw [e2]; exact a4, ?_, ?_⟩
  · intro y hy
    by_cases hxy : y = x
    · subst hxy
      have hB : sB (ssQ (ssB S y v) p q') y = v := upN_s _ _ _
      rw [hB]
      obtain ⟨-, -, -, -, q, hq1, hq2⟩ := a5 y hy
      exact ⟨hb.1, hb.2.1, hb.2.2.1, hb.2.2.2, q, by rw [hq]; exact hq1, hq2⟩
    · have hB : sB (ssQ (ssB S x v) p q') y = sB S y := upN_n _ _ hxy
      rw [hB]
      have hy2 : y < 2 := Nat.lt_of_lt_of_le hy h2
      have hx2 : x < 2 := Nat.lt_of_lt_of_le hx h2
      have hne : lb y ≠ lb x ∧ lb y ≠ lb x + 1 ∧ lb y + 1 ≠ lb x ∧ lb y + 1 ≠ lb x + 1 ∧ lb y ≠ 9 ∧ lb y ≠ 10 ∧ lb y ≠ 11 ∧ lb y + 1 ≠ 9 ∧ lb y + 1 ≠ 10 ∧ lb y + 1 ≠ 11 := by unfold lb; omega
      obtain ⟨n1, n2, n3, n4, n5, n6, n7, n8, n9, n10⟩ := hne
      exact BRel_of (a5 y hy) (h0 _ n1 n2 n5 n6 n7) (h0 _ n3 n4 n8 n9 n10) (by rw [hq])
  · intro l hl4
    obtain ⟨q1, q2⟩ := a6 l hl4
    by_cases hlp : l = p
    · subst hlp
      have hQ : sQ (ssQ (ssB S x v) l q') l = q' := upN_s _ _ _
      unfold QRel
      rw [hQ]
      exact ⟨hn, hqq⟩
    · have hQ : sQ (ssQ (ssB S x v) p q') l = sQ S l := upN_n _ _ hlp
      unfold QRel
      rw [hQ]
      refine ⟨by rw [h9 l hlp]; exact q1, fun j z hz => ?_⟩
      have hj := gE hz
      have := hq12 l
      obtain ⟨d1, d2⟩ := hk (l * 12 + j) (by omega)
      rw [d1, d2]
      exact q2 j z hz
theorem k_board {r : WR} (h : LAY b M) (hw : w < 7) (hr : WRel M S r) (wf : WF S) {x : Nat} (hx : x < sn S 4) (hN : 20 ≤ N) : ∃ r', f_X10_board N (wA b w 0) (wA b w (lb x)) (SW b M w r) = some ((), SW b M w r') ∧ WRel M (boardB S x) r' := by
  have h2 := wf.1.2.2.2.2.1.2
  have hl := lb_cases (Nat.lt_of_lt_of_le hx h2)
  have hL := wf.1.1
  obtain ⟨w1, w2, w3, w4, w5, w6, w7⟩ := wf.2.1 x hx
  obtain ⟨b1, b2, b3, b4, b5⟩ := hr.2.2.2.2.1 x hx
  have h6 := wf.1.2.2.1
  have hp4 : (sB S x).1 < 4 := by omega
  have hq := WF_q12 wf (sB S x).1
  have hQ := hr.2.2.2.2.2 _ hp4
  unfold f_X10_board boardB
  rw [q_bgI h hw hl, b1, q_ck h hw, k_standingAt h hw hr hp4, bnd_one, q_bgI h hw hl, b2]
  by_cases hz : (sB S x).2.1 = 0
  · rw [if_neg (fun q => by have := (nI_0lt (by omega)).mp q; omega), if_neg (show ¬ (sB S x).2.1 ≠ 0 by omega)]
    by_cases hn : (sQ S (sB S x).1).length = 0
    · rw [if_pos ((nI_z (by omega)).mpr hn)]
      refine ⟨r, rfl, ?_⟩
      have hnil : sQ S (sB S x).1 = [] := List.length_eq_zero_iff.mp hn
      refine WRel_BQ hr h2 hx hp4 (WF_q12 wf) (fun _ _ _ _ _ _ => rfl) rfl ⟨b1, by rw [b2, hz], by rw [b3, hnil]; simp, fun j t hj => b4 j t (by rw [hnil] at hj; simpa using hj)⟩ (fun _ _ => rfl) (fun _ _ => ⟨rfl, rfl⟩) (by rw [hQ.1, hnil]; simp) (fun j z hj => by rw [hnil] at hj; simp at hj)
    · rw [if_neg (fun q => hn ((nI_z (by omega)).mp q)), q_bgI h hw hl, q_gI h hw, q_bgI h hw hl, b1, b3, hr.1.2.2.1, pk_sub w3, nIm12]
      have hmin : (if (0 : Int32) < (if nI (sn S 2 - (sB S x).2.2.length) < nI (sQ S (sB S x).1).length then nI (sn S 2 - (sB S x).2.2.length) else nI (sQ S (sB S x).1).length) then (if nI (sn S 2 - (sB S x).2.2.length) < nI (sQ S (sB S x).1).length then nI (sn S 2 - (sB S x).2.2.length) else nI (sQ S (sB S x).1).length) else (0 : Int32)) = nI (nbd S x) := by
        have e : (if nI (sn S 2 - (sB S x).2.2.length) < nI (sQ S (sB S x).1).length then nI (sn S 2 - (sB S x).2.2.length) else nI (sQ S (sB S x).1).length) = nI (nbd S x) := by
          unfold nbd
          by_cases hc : sn S 2 - (sB S x).2.2.length < (sQ S (sB S x).1).length
          · rw [if_pos ((nI_ltI (by omega) (by omega)).mpr hc), Nat.min_eq_right (by omega)]
          · rw [if_neg (fun q => hc ((nI_ltI (by omega) (by omega)).mp q)), Nat.min_eq_left (by omega)]
        rw [e]
        by_cases hc : 0 < nbd S x
        · rw [if_pos ((nI_0lt (by unfold nbd; omega)).mpr hc)]
        · rw [if_neg (fun q => hc ((nI_0lt (by unfold nbd; omega)).mp q)), show nbd S x = 0 by omega]; rfl
      rw [hmin]
      have hnb : nbd S x ≤ (sQ S (sB S x).1).length ∧ (sB S x).2.2.length + nbd S x ≤ 6 := by unfold nbd; omega
      have hlt : (((sQ S (sB S x).1).take (nbd S x)).map Prod.fst).length = nbd S x := by simp; omega
      obtain ⟨r1, c1, c2, c3, c4, c5, c6⟩ := s_board1 (N := N) h hw (mm := nbd S x) (n3 := nI (sQ S (sB S x).1).length) hl hp4 (by omega) (((sQ S (sB S x).1).take (nbd S x)).map Prod.fst) (sB S x).2.2 0 N r (by omega) (by omega) (by omega) b3 b4 (fun j t hj => by
        rw [List.getElem?_map] at hj
        cases hg : ((sQ S (sB S x).1).take (nbd S x))[j]? with
        | none => rw [hg] at hj; cases hj
        | some z =>
          rw [hg] at hj
          have hj2 : z.1 = t := Option.some.inj hj
          have hg2 : (sQ S (sB S x).1)[j]? = some z := by
            rw [List.getElem?_take] at hg
            split at hg
            · exact hg
            · cases hg
          rw [Nat.zero_add, ← hj2]
          exact (hQ.2 j z hg2).1)
      have hne : lb x ≠ 9 ∧ lb x ≠ 10 ∧ lb x ≠ 11 ∧ lb x + 1 ≠ 9 ∧ lb x + 1 ≠ 10 ∧ lb x + 1 ≠ 11 := by have := Nat.lt_of_lt_of_le hx h2; unfold lb; omega
      have ld : ((sQ S (sB S x).1).drop (nbd S x)).length = (sQ S (sB S x).1).length - nbd S x := by simp
      obtain ⟨r2, d1, d2, d3, d4, d5, d6, d7⟩ := s_board2 (N := N) h hw (mm := nbd S x) (n := (sQ S (sB S x).1).length) hl hp4 hq hnb.1 (((sQ S (sB S x).1).drop (nbd S x)).map (fun z => (z.1, z.2 + sf S z.1 3))) [] (nbd S x) N r1 (by simp; omega) (by simp; omega) (by simp) (by rw [c3 0 (by decide), b1]) (fun j q hj => by simp at hj) (fun j q hj => by
        rw [List.getElem?_map, List.getElem?_drop] at hj
        cases hg : (sQ S (sB S x).1)[nbd S x + j]? with
        | none => rw [hg] at hj; cases hj
        | some z =>
          rw [hg] at hj
          have hj2 : (z.1, z.2 + sf S z.1 3) = q := Option.some.inj hj
          rw [c2 10 (Ne.symm hne.2.1) (Ne.symm hne.2.2.2.2.1), c2 11 (Ne.symm hne.2.2.1) (Ne.symm hne.2.2.2.2.2), ← hj2]
          exact hQ.2 _ z hg)
      have c1' := c1
      rw [show (nI 0 : Int32) = 0 from rfl] at c1'
      rw [c1', d1]
      refine ⟨r2, rfl, ?_⟩
      refine WRel_BQ hr h2 hx hp4 (WF_q12 wf) (fun q q1 q2 q3 q4 q5 => by rw [d2 q q3 q4 q5, c2 q q1 q2]) (by rw [d3, c4]) ⟨?_, ?_, ?_, ?_⟩ (fun k hk => by rw [d4 k hk, c2 9 (Ne.symm hne.1) (Ne.symm hne.2.2.2.1)]) (fun k hk => ?_) (by rw [d6, ld]) (fun j z hz => ?_)
      · rw [d2 _ hne.1 hne.2.1 hne.2.2.1, c3 0 (by decide), b1]
      · rw [d2 _ hne.1 hne.2.1 hne.2.2.1, c3 1 (by decide), b2, hz]
      · rw [d2 _ hne.1 hne.2.1 hne.2.2.1, c5]
      · intro j t hj
        rw [d2 _ hne.2.2.2.1 hne.2.2.2.2.1 hne.2.2.2.2.2]
        exact c6 j t hj
      · obtain ⟨f1, f2⟩ := d5 k hk
        rw [f1, f2, c2 10 (Ne.symm hne.2.1) (Ne.symm hne.2.2.2.2.1), c2 11 (Ne.symm hne.2.2.1) (Ne.symm hne.2.2.2.2.2)]
        exact ⟨rfl, rfl⟩
      · have := d7 j (z.1, z.2 + sf S z.1 3) (by rw [List.nil_append, List.getElem?_map, hz]; rfl)
        exact this
  · rw [if_pos ((nI_0lt (by omega)).mpr (by omega)), if_pos hz]
    exact ⟨r, rfl, hr⟩
end BOARD
