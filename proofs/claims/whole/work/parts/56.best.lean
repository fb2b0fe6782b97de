/-! best. -/
theorem rng_if2 {ρ : Type} {x h : Int32} {A B : ρ} : (if x < 0 then B else if h < x then B else A) = if 0 ≤ x ∧ x ≤ h then A else B := by
  by_cases h0 : x < 0
  · rw [if_pos h0, if_neg (fun q => absurd h0 (Int32.not_lt.mpr q.1))]
  · rw [if_neg h0]
    by_cases h1 : h < x
    · rw [if_pos h1, if_neg (fun q => absurd h1 (Int32.not_lt.mpr q.2))]
    · rw [if_neg h1, if_pos ⟨Int32.not_lt.mp h0, Int32.not_lt.mp h1⟩]
def okK (e : Nat → Int32) : Nat → Nat → Bool
  | 0, _ => true
  | k + 1, i => decide (0 ≤ e i ∧ e i ≤ 6) && okK e k (i + 1)
theorem okK_all (e : Nat → Int32) : ∀ (k i : Nat), okK e k i = true → ∀ j, i ≤ j → j < i + k → e j = nI (e j).toNatClampNeg ∧ (e j).toNatClampNeg < 7 := by
  intro k
  induction k with
  | zero => intro i _ j h1 h2; omega
  | succ k ih =>
    intro i h j h1 h2
    unfold okK at h
    rw [Bool.and_eq_true, decide_eq_true_eq] at h
    by_cases hji : j = i
    · subst hji
      obtain ⟨a, ha, e1⟩ := in_nat2 (n := 6) h.1.1 h.1.2 rfl (by decide)
      rw [e1, nIc (by omega)]
      exact ⟨rfl, by omega⟩
    · exact ih (i + 1) h.2 j (by omega) (by omega)
section BEST
variable {b : Nat} {M M2 : Mm} {S : SP} {pic : Option SP} {sh : Nat → SV} {r r' : Nat → Nat → Int32} {N : Nat} {ρ : Type}
theorem row3 (hc : CLS b S pic sh M) (hl : MLAY b M2) (hm : MDR S pic sh r) (x : Int32) (of : Nat) (hof : of < 4) (w : Int32) (hw : (if of = 3 then -1 else nI of) = w) :
    (∃ d, d < 8 ∧ x = nI d ∧ (sh d).1 = 2 ∧ (of = 3 ∨ (sh d).2.1 = of) ∧ f_X11_refuseRow N b x w M = some (0, M) ∧ f_X11_shelfAt N b x M = some (some (b + 88 + 2 * d), M) ∧ f_X12_wrongRow N (mc b 0) x w (MW b M2 r) = some (0, MW b M2 r)) ∨
    ((0 ≤ x ∧ x ≤ 7) ∧ ∃ c o, c ≠ 0 ∧ f_X11_refuseRow N b x w M = some (c, M) ∧ f_X11_shelfAt N b x M = some (o, M) ∧ f_X12_wrongRow N (mc b 0) x w (MW b M2 r) = some (c, MW b M2 r)) ∨
    (¬ (0 ≤ x ∧ x ≤ 7) ∧ f_X11_refuseRow N b x w M = some (-1, M) ∧ f_X11_shelfAt N b x M = some (none, M)) := by
  have h := row_split (N := N) hc hl hm x of hof
  rw [hw] at h
  rcases h with h | ⟨c, o, h0, h1, h2, h3⟩
  · exact Or.inl h
  · by_cases hx : 0 ≤ x ∧ x ≤ 7
    · exact Or.inr (Or.inl ⟨hx, c, o, h0, h1, h2, h3⟩)
    · refine Or.inr (Or.inr ⟨hx, ?_, c_shelfNo hc.1.2.1 hx⟩)
      unfold f_X12_wrongRow at h3
      rw [m_isShelf, bnd_one, b32_if, if_neg hx] at h3
      have : (-1 : Int32) = c := congrArg Prod.fst (Option.some.inj h3)
      rw [h1, ← this]
theorem rowc {d : Nat} {v : SV} (h : SHc b M d v) (h2 : v.1 = 2) : M.2.2.2.1 (b + 88 + 2 * d) 0 = none ∧ M.2.1 (b + 88 + 2 * d) 1 = nI v.2.1 ∧ M.2.1 (b + 88 + 2 * d) 2 = nI v.2.2.1 ∧ v.2.1 < 3 ∧ v.2.2.1 ≤ 100 ∧ ∀ i, i < 100 → M.2.1 (b + 89 + 2 * d) i = v.2.2.2 i := by
  rcases h with ⟨g0, -⟩ | ⟨g0, -⟩ | ⟨-, h⟩
  · omega
  · omega
  · exact h
theorem rowm {d : Nat} {v : SV} (h : SHm r d v) (h2 : v.1 = 2) : r 5 d = 2 ∧ r 6 d = nI v.2.1 ∧ r 7 d = nI v.2.2.1 ∧ v.2.1 < 3 ∧ v.2.2.1 ≤ 100 ∧ ∀ i, i < 100 → r 8 (100 * d + i) = v.2.2.2 i := by
  rcases h with ⟨g0, -⟩ | ⟨g0, -⟩ | ⟨-, h⟩
  · omega
  · omega
  · exact h
theorem d_read (hX : CXL b M) {d : Nat} {v : SV} (hd : d < 8) (h : SHc b M d v) (h2 : v.1 = 2) {i : Nat} (hi : i < 100) : f_X7_read N (b + 88 + 2 * d) (nI i) M = some (v.2.2.2 i, M) := by
  obtain ⟨x1, x2, x3, x4⟩ := hX.2.2.2 d hd
  obtain ⟨-, -, -, -, -, h6⟩ := rowc h h2
  unfold f_X7_read f_X11_at gR alen ald
  rw [if_pos x2, x3, Option.elim_some, if_neg (nI_neg (by omega)), if_pos (Or.inl (by rw [x4])), x4]
  dsimp only
  rw [if_neg (nI_ge (by omega) (by decide)), if_pos ⟨rfl, inA_nI (by omega) (by decide)⟩, nIc (by omega), h6 i hi]
  rfl
theorem s_holdsKinds (hX : CXL b M) {d : Nat} {v : SV} (hd : d < 8) (h : SHc b M d v) (h2 : v.1 = 2) : ∀ (k i fu : Nat), i + k = v.2.2.1 → k + 1 ≤ fu → l_X7_holdsKinds_2 N fu (b + 88 + 2 * d) (nI i) M = some (if okK v.2.2.2 k i = true ∧ 1 ≤ v.2.2.1 ∧ v.2.2.1 ≤ 7 then 1 else 0, M) := by
  obtain ⟨h3, h4, h5, h6, h7, h8⟩ := rowc h h2
  intro k
  induction k with
  | zero =>
    intro i fu hi hf
    obtain ⟨fu, rfl, -⟩ := fuel_s hf
    show b_X7_holdsKinds_2 N (l_X7_holdsKinds_2 N fu) _ _ _ = _
    unfold b_X7_holdsKinds_2
    rw [d_gI7 hX hd, h5, if_pos (nI_le (by omega) (by omega)), d_gI7 hX hd, h5, d_gI7 hX hd, h5]
    by_cases h1 : v.2.2.1 < 1
    · rw [if_pos (show nI v.2.2.1 < 1 from nI_lt (b := 1) h1 (by decide)), if_neg (fun q => by omega)]
    · rw [if_neg (show ¬ nI v.2.2.1 < 1 from nI_nlt (b := 1) (by omega) (by omega))]
      by_cases h9 : 7 < v.2.2.1
      · rw [if_pos (show (7 : Int32) < nI v.2.2.1 from nI_lt (a := 7) h9 (by omega)), if_neg (fun q => by omega)]
      · rw [if_neg (show ¬ (7 : Int32) < nI v.2.2.1 from nI_nlt (a := 7) (by omega) (by decide)), if_pos ⟨rfl, by omega, by omega⟩]
  | succ k ih =>
    intro i fu hi hf
    obtain ⟨fu, rfl, hf2⟩ := fuel_s hf
    show b_X7_holdsKinds_2 N (l_X7_holdsKinds_2 N fu) _ _ _ = _
    unfold b_X7_holdsKinds_2
    rw [d_gI7 hX hd, h5, if_neg (nI_ge (by omega) (by omega)), d_ck7 hX hd, d_read hX hd h h2 (by omega), bnd_one, d_ck7 hX hd, d_read hX hd h h2 (by omega), bnd_one]
    by_cases h0 : v.2.2.2 i < 0
    · have hk : okK v.2.2.2 (k + 1) i = false := by
        unfold okK
        rw [decide_eq_false (fun q => absurd h0 (Int32.not_lt.mpr q.1))]; rfl
      rw [if_pos h0, hk, if_neg (fun q => absurd q.1 (by decide))]
    · rw [if_neg h0]
      by_cases h9 : v.2.2.2 i < 7
      · have h6' : v.2.2.2 i ≤ 6 := by
          obtain ⟨j, hj, e⟩ := nI_of h0
          rw [e] at h9 ⊢
          have := (nI_ltI (b := 7) hj (by decide)).mp h9
          exact nI_le (b := 6) (by omega) (by decide)
        have hk : okK v.2.2.2 (k + 1) i = okK v.2.2.2 k (i + 1) := by
          show (decide (0 ≤ v.2.2.2 i ∧ v.2.2.2 i ≤ 6) && okK v.2.2.2 k (i + 1)) = _
          rw [decide_eq_true ⟨Int32.not_lt.mp h0, h6'⟩, Bool.true_and]
        rw [if_pos h9, hk, nI_1]
        exact ih (i + 1) fu (by omega) (by omega)
      · have hk : okK v.2.2.2 (k + 1) i = false := by
          unfold okK
          rw [decide_eq_false (fun q => h9 (Int32.lt_of_le_of_lt q.2 (by decide)))]; rfl
        rw [if_neg h9, hk, if_neg (fun q => absurd q.1 (by decide))]
theorem c_bstep (hc : CLS b S pic sh M) (hg : GOOD b M) {d fg m n : Nat} {z : Int32} (hd : d < 8) (h2 : (sh d).1 = 2) (hf : fg < 10) (hm : m ≤ 120) (hN : 200 ≤ N) (hn : n ≤ 10) {i gc kd : Nat} (hi : i < (sh d).2.2.1) (h7 : (sh d).2.2.1 ≤ 7) (hgc : gc ≤ i) (he : (sh d).2.2.2 i = nI kd) (hk7 : kd < 7) (K : Nat → Int32 → Int32 → Int32 → Int32 → Nat → Int32 → Int32 → Int32 → Nat → Nat → Mm → Option (Int32 × Mm)) (p c : Int32) : ∃ M1, b_X11_best_75 N K b (nI fg) (nI m) (nI n) z (b + 88 + 2 * d) p c (nI i) gc gc M = (if nI i = 0 then K b (nI fg) (nI m) (nI n) z (b + 88 + 2 * d) (nI i) (meanK S 0 kd fg m z n 0 0) (nI (i + 1)) (gc + 1) (gc + 1) M1 else if meanK S 0 kd fg m z n 0 0 ≤ c then K b (nI fg) (nI m) (nI n) z (b + 88 + 2 * d) p c (nI (i + 1)) (gc + 1) (gc + 1) M1 else K b (nI fg) (nI m) (nI n) z (b + 88 + 2 * d) (nI i) (meanK S 0 kd fg m z n 0 0) (nI (i + 1)) (gc + 1) (gc + 1) M1) ∧ CLS b S pic sh M1 ∧ FR b M M1 := by
  obtain ⟨⟨hL, hX, hNB⟩, ⟨hr, wf, h1⟩, -, -, hsh⟩ := id hc
  have hL4 := wf.1.1
  have hc1 : CLS b S pic sh (nR M kd (nI fg)) := CLS_nR hc hg
  have hX1 := hc1.1.2.1
  have hq : isRl (nR M kd (nI fg)) (nx M) kd fg := isRl_nR hk7 hf
  have hM2 : SW b (nR M kd (nI fg)) 2 (gW b (nR M kd (nI fg)) 2) = nR M kd (nI fg) := SW_get (by decide)
  obtain ⟨r1, a1, a2⟩ := c_meanOf (N := N) hc1 hq (l := 0) (by omega) hm z hN hn (R36_NB hc1.1.2.2 (show 2 < 7 by decide))
  rw [hM2] at a1
  have a1' : f_X11_meanOf N b (nx M) 0 (nI m) (nI n) z (nR M kd (nI fg)) = some (meanK S 0 kd fg m z n 0 0, SW b (nR M kd (nI fg)) 2 r1) := a1
  obtain ⟨g1, g2, g3, g4, g5, g6⟩ := rowc (hsh d hd) h2
  refine ⟨SW b (nR M kd (nI fg)) 2 r1, ?_, CLS_mind hc1 (by decide) (by decide) a2.1 a2.2, FR_trans FR_nR (FR_SW (by decide))⟩
  unfold b_X11_best_75 j_X11_best_120 rq
  rw [d_gI7 hX hd, g3, if_neg (nI_ge hi (by omega)), if_pos ⟨by omega, by omega⟩, d_ck7 hX hd, d_read hX hd (hsh d hd) h2 (by omega), bnd_one, if_pos ⟨by omega, by omega⟩, he, c_makeRule hk7, bnd_one]
  unfold nn
  rw [Option.elim_some, if_pos ⟨by omega, by omega⟩, d_ck hX1, a1', bnd_one, nI_1]
theorem s_cbest {d fg m n : Nat} {z : Int32} (hd : d < 8) (h2 : (sh d).1 = 2) (hf : fg < 10) (hm : m ≤ 120) (hN : 200 ≤ N) (hn : n ≤ 10) (h7 : (sh d).2.2.1 ≤ 7) (he : ∀ j, j < (sh d).2.2.1 → (sh d).2.2.2 j = nI ((sh d).2.2.2 j).toNatClampNeg ∧ ((sh d).2.2.2 j).toNatClampNeg < 7) : ∀ (k i fu gc p : Nat) (c : Int32) (M : Mm), CLS b S pic sh M → GOOD b M → i + k = (sh d).2.2.1 → 1 ≤ i → gc ≤ i → k + 1 ≤ fu → ∃ M', l_X11_best_75 N fu b (nI fg) (nI m) (nI n) z (b + 88 + 2 * d) (nI p) c (nI i) gc gc M = some (nI (amaxK (fun i => meanK S 0 ((sh d).2.2.2 i).toNatClampNeg fg m z n 0 0) k i p c), M') ∧ CLS b S pic sh M' ∧ FR b M M' := by
  intro k
  induction k with
  | zero =>
    intro i fu gc p c M hc hg hi hi1 hgc hfu
    obtain ⟨fu, rfl, -⟩ := fuel_s hfu
    obtain ⟨g1, g2, g3, g4, g5, g6⟩ := rowc (hc.2.2.2.2 d hd) h2
    refine ⟨M, ?_, hc, FR_refl b M⟩
    show b_X11_best_75 N (l_X11_best_75 N fu) _ _ _ _ _ _ _ _ _ _ _ _ = _
    unfold b_X11_best_75 rq
    rw [d_gI7 hc.1.2.1 hd, g3, if_pos (nI_le (by omega) (by omega)), if_pos ⟨by omega, by omega⟩]
    rfl
  | succ k ih =>
    intro i fu gc p c M hc hg hi hi1 hgc hfu
    obtain ⟨fu, rfl, hf2⟩ := fuel_s hfu
    obtain ⟨e1, e2⟩ := he i (by omega)
    obtain ⟨M1, c1, c2, c3⟩ := c_bstep (N := N) hc hg (z := z) hd h2 hf hm hN hn (i := i) (gc := gc) (by omega) h7 hgc e1 e2 (l_X11_best_75 N fu) (nI p) c
    show ∃ M', b_X11_best_75 N (l_X11_best_75 N fu) _ _ _ _ _ _ _ _ _ _ _ _ = _ ∧ _
    rw [c1, if_neg (nI_ne0 (by omega) (by omega))]
    unfold amaxK
    by_cases hv : meanK S 0 ((sh d).2.2.2 i).toNatClampNeg fg m z n 0 0 ≤ c
    · rw [if_pos hv, if_pos hv]
      obtain ⟨M', d1, d2, d3⟩ := ih (i + 1) fu (gc + 1) p c M1 c2 (GOOD_FR hg c3) (by omega) (by omega) (by omega) (by omega)
      exact ⟨M', d1, d2, FR_trans c3 d3⟩
    · rw [if_neg hv, if_neg hv]
      obtain ⟨M', d1, d2, d3⟩ := ih (i + 1) fu (gc + 1) i _ M1 c2 (GOOD_FR hg c3) (by omega) (by omega) (by omega) (by omega)
      exact ⟨M', d1, d2, FR_trans c3 d3⟩
theorem ix8 (d i : Nat) : (100 : Int32) * nI d + nI i = nI (100 * d + i) := by
  rw [show (100 : Int32) = nI 100 from rfl, pk_mul, nI_add]
theorem s_mb80 (hl : MLAY b M2) {d n : Nat} (hd : d < 8) (hn : n ≤ 100) (e7 : r 7 d = nI n) (x2 x3 x4 x5 : Int32) : ∀ (k i fu : Nat), i + k = n → k + 1 ≤ fu → l_X12_best_80 N fu (mc b 0) (nI d) x2 x3 x4 x5 (nI i) (MW b M2 r) = if okK (fun j => r 8 (100 * d + j)) k i = true then l_X12_best_133 N N (mc b 0) (nI d) x2 x3 x4 x5 (-4) 0 0 (MW b M2 r) else some (-13, MW b M2 r) := by
  intro k
  induction k with
  | zero =>
    intro i fu hi hf
    obtain ⟨fu, rfl, -⟩ := fuel_s hf
    show b_X12_best_80 N (l_X12_best_80 N fu) _ _ _ _ _ _ _ _ = _
    unfold b_X12_best_80
    rw [n_gR hl (p := 7) (by decide), n_ald hl (by decide) (by decide) hd, e7, if_pos (nI_le (by omega) (by omega)), if_pos (show okK (fun j => r 8 (100 * d + j)) 0 i = true from rfl)]
  | succ k ih =>
    intro i fu hi hf
    obtain ⟨fu, rfl, hf2⟩ := fuel_s hf
    show b_X12_best_80 N (l_X12_best_80 N fu) _ _ _ _ _ _ _ _ = _
    unfold b_X12_best_80
    rw [n_gR hl (p := 7) (by decide), n_ald hl (by decide) (by decide) hd, e7, if_neg (nI_ge (by omega) (by omega)), n_gR hl (p := 8) (by decide), ix8, n_ald hl (by decide) (by decide) (show 100 * d + i < 800 by omega), m_isIn (r 8 (100 * d + i)) 0 6 0 6 rfl rfl, bnd_one, b32_if, nI_1]
    by_cases h0 : 0 ≤ r 8 (100 * d + i) ∧ r 8 (100 * d + i) ≤ 6
    · have hk : okK (fun j => r 8 (100 * d + j)) (k + 1) i = okK (fun j => r 8 (100 * d + j)) k (i + 1) := by
        show (decide (0 ≤ r 8 (100 * d + i) ∧ r 8 (100 * d + i) ≤ 6) && okK _ k (i + 1)) = _
        rw [decide_eq_true h0, Bool.true_and]
      rw [if_pos h0, hk]
      exact ih (i + 1) fu (by omega) (by omega)
    · have hk : okK (fun j => r 8 (100 * d + j)) (k + 1) i = false := by
        show (decide (0 ≤ r 8 (100 * d + i) ∧ r 8 (100 * d + i) ≤ 6) && okK _ k (i + 1)) = _
        rw [decide_eq_false h0]; rfl
      rw [if_neg h0, hk, if_neg (by decide)]
theorem s_mbest (hl : MLAY b M2) (wf : WF S) {d fg m n L : Nat} {e : Nat → Int32} (hd : d < 8) (hf : fg < 10) (hm : m ≤ 120) (z : Int32) (hN : 200 ≤ N) (hn : n ≤ 10) (hL7 : L ≤ 7) (he : ∀ j, j < L → e j = nI (e j).toNatClampNeg ∧ (e j).toNatClampNeg < 7) : ∀ (k i fu p : Nat) (c : Int32) (r : Nat → Nat → Int32), i + k = L → 1 ≤ i → p < 7 → k + 1 ≤ fu → KRel K0 S (r 1) → r 0 18 = 0 → r 7 d = nI L → (∀ j, j < L → r 8 (100 * d + j) = e j) → ∃ r', l_X12_best_133 N fu (mc b 0) (nI d) (nI fg) (nI m) (nI n) z (nI p) c (nI i) (MW b M2 r) = some (nI (amaxK (fun i => meanK S 0 (e i).toNatClampNeg fg m z n 0 0) k i p c), MW b M2 r') ∧ MM r r' := by
  have hL4 := wf.1.1
  intro k
  induction k with
  | zero =>
    intro i fu p c r hi hi1 hp hfu hk h18 e7 e8
    obtain ⟨fu, rfl, -⟩ := fuel_s hfu
    refine ⟨r, ?_, MM_refl h18⟩
    show b_X12_best_133 N (l_X12_best_133 N fu) _ _ _ _ _ _ _ _ _ _ = _
    unfold b_X12_best_133
    rw [n_gR hl (p := 7) (by decide), n_ald hl (by decide) (by decide) hd, e7, if_pos (nI_le (by omega) (by omega))]
    rfl
  | succ k ih =>
    intro i fu p c r hi hi1 hp hfu hk h18 e7 e8
    obtain ⟨fu, rfl, hf2⟩ := fuel_s hfu
    obtain ⟨q1, q2⟩ := he i (by omega)
    obtain ⟨r1, a1, a2⟩ := m_meanOf (N := N) hl hk wf (l := 0) (by omega) q2 hf hm z hN hn h18
    have a1' : f_X12_meanOf N (mc b 0) (e i) (nI fg) 0 (nI m) (nI n) z (MW b M2 r) = some (meanK S 0 (e i).toNatClampNeg fg m z n 0 0, MW b M2 r1) := by
      rw [← q1] at a1
      exact a1
    have hk1 : KRel K0 S (r1 1) := by rw [a2.1 1 (by decide) (by decide)]; exact hk
    have e7' : r1 7 d = nI L := by rw [a2.1 7 (by decide) (by decide)]; exact e7
    have e8' : ∀ j, j < L → r1 8 (100 * d + j) = e j := by rw [a2.1 8 (by decide) (by decide)]; exact e8
    show ∃ r', b_X12_best_133 N (l_X12_best_133 N fu) _ _ _ _ _ _ _ _ _ _ = _ ∧ _
    unfold b_X12_best_133 j_X12_best_184
    rw [n_gR hl (p := 7) (by decide), n_ald hl (by decide) (by decide) hd, e7, if_neg (nI_ge (by omega) (by omega)), n_gR hl (p := 8) (by decide), ix8, n_ald hl (by decide) (by decide) (show 100 * d + i < 800 by omega), e8 i (by omega), n_ck hl, a1', bnd_one, if_neg (nI_neg (by omega)), nI_1]
    unfold amaxK
    by_cases hv : meanK S 0 (e i).toNatClampNeg fg m z n 0 0 ≤ c
    · rw [if_pos hv, if_neg (Int32.not_lt.mpr hv)]
      obtain ⟨r', b1, b2⟩ := ih (i + 1) fu p c r1 (by omega) (by omega) hp (by omega) hk1 a2.2.2 e7' e8'
      exact ⟨r', b1, MM_trans a2 b2⟩
    · rw [if_neg hv, if_pos (Int32.not_le.mp hv)]
      obtain ⟨r', b1, b2⟩ := ih (i + 1) fu i _ r1 (by omega) (by omega) (by omega) (by omega) hk1 a2.2.2 e7' e8'
      exact ⟨r', b1, MM_trans a2 b2⟩
theorem okK_ext {e e' : Nat → Int32} : ∀ (k i : Nat), (∀ j, i ≤ j → j < i + k → e j = e' j) → okK e k i = okK e' k i := by
  intro k
  induction k with
  | zero => intro i _; rfl
  | succ k ih =>
    intro i h
    unfold okK
    rw [h i (Nat.le_refl _) (by omega), ih (i + 1) (fun j h1 h2 => h j (by omega) (by omega))]
theorem T_best (hc : CLS b S pic sh M) (hg : GOOD b M) (hl : MLAY b M2) (hm : MDR S pic sh r) (hi : INV S pic) (hN : 200 ≤ N) (x f m n z : Int32) : AGREE b M M2 (f_X11_best N b x f m n z M) (f_X12_best N (mc b 0) x f m n z (MW b M2 r)) := by
  obtain ⟨⟨hL, hX, hNB⟩, ⟨hr, wf, h1⟩, -, -, hsh⟩ := id hc
  have hL4 := wf.1.1
  unfold f_X11_best f_X12_best
  rw [rng_if2, c_isNoSpan, bnd_one, b32_ifn, c_isNoDays, bnd_one, b32_ifn, d_ck hX]
  rw [m_isShelf, bnd_one, b32_if, m_isIn f 0 9 0 9 rfl rfl, bnd_one, b32_if, m_isDay, bnd_one, b32_if, m_isIn n 1 10 1 10 rfl rfl, bnd_one, b32_if, n_ck hl]
  by_cases hA : 0 ≤ f ∧ f ≤ 9
  rotate_left
  · exact AGREE_same hc hm hi (-1) (by simp only [if_neg hA]) (by simp only [if_neg hA, ite_self])
  by_cases hB : 1 ≤ m ∧ m ≤ 120
  rotate_left
  · exact AGREE_same hc hm hi (-1) (by simp only [if_neg hB, ite_self]) (by simp only [if_neg hB, ite_self])
  by_cases hC : 1 ≤ n ∧ n ≤ 10
  rotate_left
  · exact AGREE_same hc hm hi (-1) (by simp only [if_neg hC, ite_self]) (by simp only [if_neg hC, ite_self])
  rw [if_pos hA, if_pos hB, if_pos hC, if_pos hA, if_pos hB, if_pos hC]
  rcases row3 (N := N) hc hl hm x 0 (by decide) 0 rfl with ⟨d, hd, rfl, h2, hof, e1, e2, e3⟩ | ⟨hS, c, o, hc0, e1, e2, e3⟩ | ⟨hS, e1, e2⟩
  · obtain ⟨g1, g2, g3, g4, g5, g6⟩ := rowc (hsh d hd) h2
    obtain ⟨t1, t2, t3, t4, t5, t6⟩ := rowm (hm.2.2.2.2 d hd) h2
    have hok : okK (fun j => r 8 (100 * d + j)) (sh d).2.2.1 0 = okK (sh d).2.2.2 (sh d).2.2.1 0 := okK_ext _ _ (fun j _ hj => t6 j (by omega))
    rw [if_pos (nI_in7 hd), e1, bnd_one, d_ck hX, e2, bnd_one, onn_s, if_pos rfl, d_ck7 hX hd]
    rw [e3, bnd_one, if_pos rfl, n_gR hl (p := 7) (by decide), n_ald hl (by decide) (by decide) hd, t3, m_isIn (nI (sh d).2.2.1) 1 7 1 7 rfl rfl, bnd_one, b32_if]
    unfold f_X7_holdsKinds
    have hk := s_holdsKinds (N := N) hX hd (hsh d hd) h2 (sh d).2.2.1 0 N (by omega) (by omega)
    have hk' : l_X7_holdsKinds_2 N N (b + 88 + 2 * d) 0 M = _ := hk
    have hb := s_mb80 (N := N) (r := r) (b := b) hl hd (n := (sh d).2.2.1) (by omega) t3 f m n z (sh d).2.2.1 0 N (by omega) (by omega)
    have hb' : l_X12_best_80 N N (mc b 0) (nI d) f m n z 0 (MW b M2 r) = _ := hb
    have hsz : (1 ≤ nI (sh d).2.2.1 ∧ nI (sh d).2.2.1 ≤ 7) ↔ (1 ≤ (sh d).2.2.1 ∧ (sh d).2.2.1 ≤ 7) := by
      rw [show (1 : Int32) = nI 1 from rfl, show (7 : Int32) = nI 7 from rfl, nI_leI (by omega) (by omega), nI_leI (by omega) (by omega)]
    rw [hk', bnd_one, hb', hok]
    by_cases hz : 1 ≤ (sh d).2.2.1 ∧ (sh d).2.2.1 ≤ 7
    rotate_left
    · rw [if_neg (show ¬ (okK (sh d).2.2.2 (sh d).2.2.1 0 = true ∧ 1 ≤ (sh d).2.2.1 ∧ (sh d).2.2.1 ≤ 7) from fun q => hz q.2), if_pos rfl, if_neg (fun q => hz (hsz.mp q))]
      exact AGREE_same hc hm hi (-13) rfl rfl
    rw [if_pos (hsz.mpr hz)]
    by_cases hk1 : okK (sh d).2.2.2 (sh d).2.2.1 0 = true
    rotate_left
    · rw [if_neg (show ¬ (okK (sh d).2.2.2 (sh d).2.2.1 0 = true ∧ 1 ≤ (sh d).2.2.1 ∧ (sh d).2.2.1 ≤ 7) from fun q => hk1 q.1), if_pos rfl, if_neg hk1]
      exact AGREE_same hc hm hi (-13) rfl rfl
    rw [if_pos (show okK (sh d).2.2.2 (sh d).2.2.1 0 = true ∧ 1 ≤ (sh d).2.2.1 ∧ (sh d).2.2.1 ≤ 7 from ⟨hk1, hz⟩), if_neg (by decide), if_pos hk1]
    have he : ∀ j, j < (sh d).2.2.1 → (sh d).2.2.2 j = nI ((sh d).2.2.2 j).toNatClampNeg ∧ ((sh d).2.2.2 j).toNatClampNeg < 7 := fun j hj => okK_all _ _ _ hk1 j (Nat.zero_le _) (by omega)
    obtain ⟨f, hf, rfl⟩ := in_nat2 (n := 9) hA.1 hA.2 rfl (by decide)
    obtain ⟨m, hm1, hm2, rfl⟩ := one_nat hB.1 hB.2 (n := 120) rfl (by decide)
    obtain ⟨n, hn1, hn2, rfl⟩ := one_nat hC.1 hC.2 (n := 10) rfl (by decide)
    obtain ⟨N, rfl⟩ : ∃ N', N = N' + 1 := ⟨N - 1, by omega⟩
    obtain ⟨k0, k1⟩ := he 0 (by omega)
    obtain ⟨M1, a1, a2, a3⟩ := c_bstep (N := N + 1) hc hg (z := z) hd h2 (fg := f) (by omega) hm2 hN hn2 (i := 0) (gc := 0) (by omega) hz.2 (Nat.le_refl _) k0 k1 (l_X11_best_75 (N + 1) N) 0 0
    obtain ⟨M', b1, b2, b3⟩ := s_cbest (N := N + 1) (z := z) hd h2 (fg := f) (by omega) hm2 hN hn2 hz.2 he ((sh d).2.2.1 - 1) 1 N 1 0 (meanK S 0 ((sh d).2.2.2 0).toNatClampNeg f m z n 0 0) M1 a2 (GOOD_FR hg a3) (by omega) (by omega) (by omega) (by omega)
    obtain ⟨r1, c1, c2⟩ := m_meanOf (N := N + 1) hl hm.1 wf (l := 0) (kd := ((sh d).2.2.2 0).toNatClampNeg) (fg := f) (by omega) k1 (by omega) hm2 z hN hn2 hm.2.2.2.1
    obtain ⟨r2, d1, d2⟩ := s_mbest (N := N + 1) (L := (sh d).2.2.1) hl wf hd (fg := f) (by omega) hm2 z hN hn2 hz.2 he ((sh d).2.2.1 - 1) 1 N 0 (meanK S 0 ((sh d).2.2.2 0).toNatClampNeg f m z n 0 0) r1 (by omega) (by omega) (by omega) (by omega) (by rw [c2.1 1 (by decide) (by decide)]; exact hm.1) c2.2.2 (by rw [c2.1 7 (by decide) (by decide)]; exact t3) (fun j hj => by rw [c2.1 8 (by decide) (by decide)]; exact t6 j (by omega))
    refine ⟨nI (amaxK (fun i => meanK S 0 ((sh d).2.2.2 i).toNatClampNeg f m z n 0 0) ((sh d).2.2.1 - 1) 1 0 (meanK S 0 ((sh d).2.2.2 0).toNatClampNeg f m z n 0 0)), S, pic, sh, M', r2, ?_, ?_, b2, FR_trans a3 b3, MDR_MM hm (MM_trans c2 d2), hi⟩
    · show b_X11_best_75 (N + 1) (l_X11_best_75 (N + 1) N) b (nI f) (nI m) (nI n) z (b + 88 + 2 * d) 0 0 (nI 0) 0 0 M = _
      rw [a1, if_pos (show nI 0 = 0 from rfl)]
      exact b1
    · show b_X12_best_133 (N + 1) (l_X12_best_133 (N + 1) N) (mc b 0) (nI d) (nI f) (nI m) (nI n) z (-4) 0 (nI 0) (MW b M2 r) = _
      have c1' : f_X12_meanOf (N + 1) (mc b 0) ((sh d).2.2.2 0) (nI f) 0 (nI m) (nI n) z (MW b M2 r) = some (meanK S 0 ((sh d).2.2.2 0).toNatClampNeg f m z n 0 0, MW b M2 r1) := by
        rw [← k0] at c1
        exact c1
      unfold b_X12_best_133 j_X12_best_184
      rw [n_gR hl (p := 7) (by decide), n_ald hl (by decide) (by decide) hd, t3, if_neg (nI_ge (by omega) (by omega)), n_gR hl (p := 8) (by decide), ix8, n_ald hl (by decide) (by decide) (show 100 * d + 0 < 800 by omega), t6 0 (by decide), n_ck hl, c1', bnd_one, if_pos (by decide)]
      exact d1
  · rw [if_pos hS, e1, bnd_one, d_ck hX, e2, bnd_one, e3, bnd_one]
    refine AGREE_same hc hm hi c ?_ (if_neg hc0)
    cases o
    · exact onn_n.trans (if_neg hc0)
    · exact onn_s.trans (if_neg hc0)
  · rw [if_neg hS, e1, bnd_one, d_ck hX, e2, bnd_one, onn_n, if_neg m1z]
    exact AGREE_same hc hm hi (-1) rfl rfl
end BEST
