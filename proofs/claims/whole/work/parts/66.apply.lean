/-! Rivers: what a statement does, on both sides. -/
def addS (P : SP) (f : Nat → Nat) : SP := (upN P.1 1 (sn P 1 + 1), P.2.1, P.2.2.1, (fun t k => if t = sn P 1 then f k else P.2.2.2.1 t k), P.2.2.2.2)
def wayS (P : SP) (a c k : Nat) : SP := (P.1, P.2.1, (fun i => if i = c * 4 + a then k else if i = a * 4 + c then k else P.2.2.1 i), P.2.2.2)
theorem sf_addS (P : SP) (f : Nat → Nat) (t k : Nat) : sf (addS P f) t k = if t = sn P 1 then f k else sf P t k := rfl
theorem sn_addS (P : SP) (f : Nat → Nat) (k : Nat) : sn (addS P f) k = if k = 1 then sn P 1 + 1 else sn P k := rfl
theorem sy_wayS (P : SP) (a c k i : Nat) : sy (wayS P a c k) i = if i = c * 4 + a then k else if i = a * 4 + c then k else sy P i := rfl
/-- both sides do it, or neither can -/
def BOK (b : Nat) (Y M2 : Mm) (r : Nat → Nat → Int32) (P : SP) (x y : Option (Int32 × Mm)) : Prop :=
  (∃ (P' : SP) (q' : WR) (g' : Nat → Int32), x = some (1, SW b Y 2 q') ∧ y = some (1, MW b M2 (upR r 4 g')) ∧ WRel Y P' q' ∧ R36 q' ∧ KRel K0 P' g' ∧ WF P' ∧ sn P' 4 = 1 ∧ sn P' 3 = sn P 3 ∧ P'.2.1 = P.2.1) ∨
  (∃ (q' : WR) (g' : Nat → Int32), x = some (0, SW b Y 2 q') ∧ y = some (0, MW b M2 (upR r 4 g')) ∧ R36 q')
section APPLY
variable {b : Nat} {M Y M2 : Mm} {S P : SP} {r : Nat → Nat → Int32} {N w : Nat} {q : WR} {ρ : Type}
theorem s_sumLw (hL : LAY b M) (hw : w < 7) {q : WR} (hr : WRel M S q) : ∀ (k l : Nat) (acc : Int32) (fu : Nat), l + k = 4 → k + 1 ≤ fu → l_X10_standingInAll_13 N fu acc (wA b w 9) (nI 4) (nI l) (SW b M w q) = some (acc + nI (sumL S k l), SW b M w q) := by
  intro k
  induction k with
  | zero =>
    intro l acc fu hl hf
    obtain ⟨fu, rfl, -⟩ := fuel_s hf
    show b_X10_standingInAll_13 N (l_X10_standingInAll_13 N fu) _ _ _ _ _ = _
    unfold b_X10_standingInAll_13
    rw [if_pos (nI_le (by omega) (by omega))]
    show some (acc, _) = some (acc + nI 0, _)
    rw [nI_0, Int32.add_zero]
  | succ k ih =>
    intro l acc fu hl hf
    obtain ⟨fu, rfl, hf2⟩ := fuel_s hf
    show b_X10_standingInAll_13 N (l_X10_standingInAll_13 N fu) _ _ _ _ _ = _
    unfold b_X10_standingInAll_13
    rw [if_neg (nI_ge (by omega) (by omega)), q_ald hL hw (l := 9) (by decide) rfl (inA_nI (show l < 4 by omega) (by decide)), nIc (by omega), (hr.2.2.2.2.2 l (by omega)).1, nI_1, ih (l + 1) _ fu (by omega) (by omega), Int32.add_assoc, nI_add]
    rfl
theorem w_standingInAll (hL : LAY b M) (hw : w < 7) {q : WR} (hr : WRel M S q) (hN : 20 ≤ N) : f_X10_standingInAll N (wA b w 0) (SW b M w q) = some (nI (sumL S 4 0), SW b M w q) := by
  unfold f_X10_standingInAll
  rw [q_gR hL hw (l := 9) (by decide), q_alen hL hw (l := 9) (by decide) rfl, show nI (kW 9).2 = nI 4 from rfl, show l_X10_standingInAll_13 N N 0 (wA b w 9) (nI 4) 0 (SW b M w q) = l_X10_standingInAll_13 N N 0 (wA b w 9) (nI 4) (nI 0) (SW b M w q) from rfl, s_sumLw hL hw hr 4 0 0 N (by omega) (by omega), Int32.zero_add]
theorem sumL_4 (S : SP) : sumL S 4 0 = (sQ S 0).length + ((sQ S 1).length + ((sQ S 2).length + ((sQ S 3).length + 0))) := rfl
theorem w_hasLanding (hL : LAY b M) (hw : w < 7) (hr : WRel M P q) (wf : WF P) {a : Nat} (ha : a < 1000) : f_X10_hasLanding N (wA b w 0) (nI a) (SW b M w q) = some (b32 (a < sn P 0), SW b M w q) := by
  have hL4 := wf.1.1
  rw [e_hasLanding hL hw, hr.1.1]
  have : (0 ≤ nI a ∧ nI a < nI (sn P 0)) ↔ a < sn P 0 := ⟨fun h => (nI_ltI (by omega) (by omega)).mp h.2, fun h => ⟨nI_pos' (by omega), nI_lt h (by omega)⟩⟩
  unfold b32
  by_cases h : a < sn P 0
  · rw [if_pos h, if_pos (this.mpr h)]
  · rw [if_neg h, if_neg (fun h' => h (this.mp h'))]
-- seats
theorem B_seats (hL : LAY b Y) (hr : WRel Y P q) (wf : WF P) (h4 : sn P 4 = 1) (h36 : R36 q) (hl : MLAY b M2) (hk : KRel K0 P (r 4)) {v : Nat} (hv : v < 1000) {κ : Int32 → Mm → Option (Int32 × Mm)} (hκ : ∀ (x : Int32) (M : Mm), (x = 0 ∨ x = 1) → κ x M = some (x, M)) : BOK b Y M2 r P (bnd (f_X10_takeSeats N (wA b 2 0) (nI v) (SW b Y 2 q)) κ) (ast (MW b M2 r) (mc b 4) 2 (nI v) (fun M31 => bnd (f_X12_isIn N (Int32.toInt64 (nI v)) (1 : Int64) (6 : Int64) M31) (fun v32 M33 => (if v32 = 0 then some ((0 : Int32), M33) else gR 12 M33 (mc b 0) 3 (fun v35 => bnd (f_X12_boatOf N v35 (0 : Int32) (3 : Int32) M33) (fun v36 M37 => (if nI v < v36 then some ((0 : Int32), M37) else some ((1 : Int32), M37)))))))) := by
  have h6 := B6 wf (x := 0) (by omega)
  have e2 : q.1 3 2 = nI (sB P 0).2.2.length := (hr.2.2.2.2.1 0 (by omega)).2.2.1
  have hA : AI (MW b M2 (upR r 4 (upN (r 4) 2 (nI v)))) (mc b 4) 174 := AI_MW hl (by decide) (by decide)
  have bo : f_X12_boatOf N (mc b 4) 0 3 (MW b M2 (upR r 4 (upN (r 4) 2 (nI v)))) = some (nI (sB P 0).2.2.length, MW b M2 (upR r 4 (upN (r 4) 2 (nI v)))) := by
    have k5 : upR r 4 (upN (r 4) 2 (nI v)) 4 (50 + 12 * 0 + 3) = nI (sB P 0).2.2.length := by
      rw [upR_s, upN_n _ _ (by decide)]
      exact (hk.2.2.2.2.1 0 (by omega)).2.2.2.1
    rw [MW_as (show 4 < 12 by decide), ← k5]
    exact m_boatOf (M := MW b M2 (upR r 4 (upN (r 4) 2 (nI v)))) hA (x := 0) 3 3 rfl (by decide) (by decide)
  rw [show (2 : Int32) = nI 2 from rfl, n_ast hl (by decide) (by decide) (show 2 < 174 by decide), upR_up2, m_isIn (nI v) 1 6 1 6 rfl rfl, bnd_one, b32_if, n_gR hl (p := 4) (by decide), bo, bnd_one]
  unfold f_X10_takeSeats
  have hiff : (1 ≤ nI v ∧ nI v ≤ 6) ↔ (1 ≤ v ∧ v ≤ 6) := by
    rw [show (1 : Int32) = nI 1 from rfl, show (6 : Int32) = nI 6 from rfl, nI_leI (by omega) (by omega), nI_leI (by omega) (by omega)]
  rw [q_gR hL (by decide) f7, q_bgI hL (by decide) (l := 3) (Or.inl rfl), e2, q_pI hL (by decide)]
  by_cases h1 : v < 1
  · rw [if_pos (show nI v < 1 from nI_lt (b := 1) h1 (by decide)), bnd_one, hκ 0 _ (Or.inl rfl), if_neg (fun h => by have := hiff.mp h; omega)]
    exact Or.inr ⟨q, _, rfl, rfl, h36⟩
  rw [if_neg (show ¬ nI v < 1 from nI_nlt (b := 1) (by omega) (by omega))]
  by_cases h2 : 6 < v
  · rw [if_pos (show (6 : Int32) < nI v from nI_lt (a := 6) h2 (by omega)), bnd_one, hκ 0 _ (Or.inl rfl), if_neg (fun h => by have := hiff.mp h; omega)]
    exact Or.inr ⟨q, _, rfl, rfl, h36⟩
  rw [if_neg (show ¬ (6 : Int32) < nI v from nI_nlt (a := 6) (by omega) (by decide)), if_pos (hiff.mpr ⟨by omega, by omega⟩)]
  by_cases h3 : (sB P 0).2.2.length ≤ v
  · rw [if_pos (nI_le h3 (by omega)), bnd_one, hκ 1 _ (Or.inr rfl), if_neg (nI_nlt h3 (by omega))]
    refine Or.inl ⟨ssn P 2 v, _, _, rfl, rfl, WRel_seats hr wf, h36, KRel_seats hk wf, WF_seats wf ⟨by omega, by omega⟩ (fun x hx => by rw [show x = 0 by omega]; exact h3), by rw [sn_ssn, if_neg (by decide)]; exact h4, by rw [sn_ssn, if_neg (by decide)], rfl⟩
  · rw [if_neg (nI_ge (by omega) (by omega)), bnd_one, hκ 0 _ (Or.inl rfl), if_pos (nI_lt (by omega) (by omega))]
    exact Or.inr ⟨q, _, rfl, rfl, h36⟩
-- minutes between
theorem WF_way (wf : WF P) {a c k : Nat} (hk : 1 ≤ k ∧ k ≤ 9) : WF (wayS P a c k) := by
  obtain ⟨⟨s1, s2, s3, s4, s5, s6, s7⟩, wb, wq⟩ := wf
  refine ⟨⟨s1, s2, s3, s4, s5, s6, fun i hi => ?_⟩, wb, wq⟩
  rw [sy_wayS]
  split
  · exact hk
  · split
    · exact hk
    · exact s7 i hi
theorem WRel_way (hr : WRel M P q) (wf : WF P) {a c k : Nat} : WRel M (wayS P a c k) (up2 (up2 q.1 1 (a * 4 + c) (nI k)) 1 (c * 4 + a) (nI k), q.2) := by
  have h2 := wf.1.2.2.2.2.1.2
  obtain ⟨a1, a2, a3, a4, a5, a6⟩ := hr
  refine ⟨?_, ?_, fun i hi => ?_, fun t k ht hk => ?_, fun x hx => ?_, fun l hl => ⟨?_, fun j p hj => ?_⟩⟩
  · simp only [up2]; exact a1
  · simp only [up2]; exact a2
  · rw [sy_wayS]
    simp only [up2, if_true]
    by_cases h1 : i = c * 4 + a
    · rw [if_pos h1, if_pos h1]
    · rw [if_neg h1, if_neg h1]
      by_cases h2 : i = a * 4 + c
      · rw [if_pos h2, if_pos h2]
      · rw [if_neg h2, if_neg h2]; exact a3 i hi
  · simp only [up2]; exact a4 t k ht hk
  · have hx' : x < sn P 4 := hx
    have n1 : lb x ≠ 1 := by unfold lb; omega
    have n0 : lb x ≠ 0 := by unfold lb; omega
    exact BRel_of (a5 x hx) (by funext j; simp [up2, n1]) (by funext j; simp [up2, n0]) rfl
  · simp only [up2]; exact (a6 l hl).1
  · simp only [up2]; exact (a6 l hl).2 j p hj
theorem KRel_way {D : Nat → Nat} {g : Nat → Int32} (hk : KRel D P g) (wf : WF P) {a c k : Nat} (ha : a < 4) (hc : c < 4) : KRel D (wayS P a c k) (upN (upN g (9 + 4 * a + c) (nI k)) (9 + 4 * c + a) (nI k)) := by
  have h5 := wf.1.2.1
  obtain ⟨a1, a2, a3, a4, a5, a6⟩ := hk
  have e : ∀ j, (j < 9 ∨ 25 ≤ j) → upN (upN g (9 + 4 * a + c) (nI k)) (9 + 4 * c + a) (nI k) j = g j := fun j hj => by
    rw [upN_n _ _ (by omega), upN_n _ _ (by omega)]
  refine ⟨?_, ?_, fun i hi => ?_, fun t k ht hk => ?_, fun y hy => ?_, fun l hl => ?_⟩
  · rw [e 0 (by decide), e 1 (by decide), e 2 (by decide), e 3 (by decide)]; exact a1
  · rw [e 4 (by decide), e 5 (by decide), e 6 (by decide), e 7 (by decide), e 8 (by decide)]; exact a2
  · rw [sy_wayS]
    by_cases h1 : i = c * 4 + a
    · rw [if_pos h1, show 9 + i = 9 + 4 * c + a by omega, upN_s]
    · rw [if_neg h1, upN_n _ _ (by omega)]
      by_cases h2 : i = a * 4 + c
      · rw [if_pos h2, show 9 + i = 9 + 4 * a + c by omega, upN_s]
      · rw [if_neg h2, upN_n _ _ (by omega)]; exact a3 i hi
  · have ht' : t < sn P 1 := ht
    rw [e _ (by omega)]; exact a4 t k ht hk
  · exact KB_of (a5 y hy) (B6 wf hy) (fun j h1 h2 => e j (by omega))
  · exact KQ_of (a6 l hl) (WF_q12 wf l) (fun j h1 h2 => e j (by omega))
/-- the way between two landings, as the class takes it -/
theorem w_takeWay (hL : LAY b Y) (hr : WRel Y P q) (wf : WF P) {a c k : Nat} (ha : a < 1000) (hc : c < 1000) (hk : k < 1000) : f_X10_takeWay N (wA b 2 0) (nI a) (nI c) (nI k) (SW b Y 2 q) = (if a < sn P 0 ∧ c < sn P 0 ∧ a ≠ c ∧ 1 ≤ k ∧ k ≤ 9 then some (1, SW b Y 2 (up2 (up2 q.1 1 (a * 4 + c) (nI k)) 1 (c * 4 + a) (nI k), q.2)) else some (0, SW b Y 2 q)) := by
  have hL4 := wf.1.1
  unfold f_X10_takeWay
  rw [q_ck hL (by decide), w_hasLanding hL (by decide) hr wf ha, bnd_one, b32_if]
  by_cases h1 : a < sn P 0
  rotate_left
  · rw [if_neg h1, if_neg (fun h => h1 h.1)]
  rw [if_pos h1, q_ck hL (by decide), w_hasLanding hL (by decide) hr wf hc, bnd_one, b32_if]
  by_cases h2 : c < sn P 0
  rotate_left
  · rw [if_neg h2, if_neg (fun h => h2 h.2.1)]
  rw [if_pos h2]
  by_cases h3 : a = c
  · rw [if_pos (by rw [h3]), if_neg (fun h => h.2.2.1 h3)]
  rw [if_neg (fun h => h3 ((nI_eq (by omega) (by omega)).mp h))]
  by_cases h4 : k < 1
  · rw [if_pos (show nI k < 1 from nI_lt (b := 1) h4 (by decide)), if_neg (fun h => by omega)]
  rw [if_neg (show ¬ nI k < 1 from nI_nlt (b := 1) (by omega) (by omega))]
  by_cases h5 : k ≤ 9
  rotate_left
  · rw [if_neg (show ¬ nI k ≤ 9 from nI_ge (a := 9) (by omega) (by omega)), if_neg (fun h => by omega)]
  rw [if_pos (show nI k ≤ 9 from nI_le (b := 9) h5 (by decide)), if_pos ⟨h1, h2, h3, by omega, h5⟩, q_gR hL (by decide) (l := 1) (by decide), nIm4, nI_add, k_change hL (by decide) (n := 16) (by decide) rfl (by omega), bnd_one, q_gR hL (by decide) (l := 1) (by decide), nIm4, nI_add, k_change hL (by decide) (n := 16) (by decide) rfl (by omega), bnd_one]
-- landings
def okT (P : SP) (v : Nat) : Nat → Nat → Bool
  | 0, _ => true
  | k + 1, t => (decide (sf P t 0 < v) && decide (sf P t 1 < v)) && okT P v k (t + 1)
theorem okT_all (P : SP) (v : Nat) : ∀ (k t : Nat), okT P v k t = true → ∀ j, t ≤ j → j < t + k → sf P j 0 < v ∧ sf P j 1 < v := by
  intro k
  induction k with
  | zero => intro t _ j h1 h2; omega
  | succ k ih =>
    intro t h j h1 h2
    unfold okT at h
    rw [Bool.and_eq_true, Bool.and_eq_true, decide_eq_true_eq, decide_eq_true_eq] at h
    by_cases hjt : j = t
    · subst hjt; exact h.1
    · exact ih (t + 1) h.2 j (by omega) (by omega)
theorem s_ctl (hL : LAY b Y) (hr : WRel Y P q) (wf : WF P) {v : Nat} (hv : v < 1000) : ∀ (k t fu : Nat), t + k = sn P 1 → k + 1 ≤ fu → l_X10_takeLandings_42 N fu (wA b 2 0) (nI v) (nI t) (SW b Y 2 q) = (if okT P v k t = true then some (1, SW b Y 2 (up2 q.1 0 0 (nI v), q.2)) else some (0, SW b Y 2 q)) := by
  have h5 := wf.1.2.1
  have hL4 := wf.1.1
  intro k
  induction k with
  | zero =>
    intro t fu ht hf
    obtain ⟨fu, rfl, -⟩ := fuel_s hf
    show b_X10_takeLandings_42 N (l_X10_takeLandings_42 N fu) _ _ _ _ = _
    unfold b_X10_takeLandings_42
    rw [q_gI hL (by decide), hr.1.2.1, if_pos (nI_le (by omega) (by omega)), q_pI hL (by decide), if_pos (show okT P v 0 t = true from rfl)]
  | succ k ih =>
    intro t fu ht hf
    obtain ⟨fu, rfl, hf2⟩ := fuel_s hf
    obtain ⟨f0, f1, -⟩ := wf.1.2.2.2.2.2.1 t (by omega)
    show b_X10_takeLandings_42 N (l_X10_takeLandings_42 N fu) _ _ _ _ = _
    unfold b_X10_takeLandings_42
    rw [q_gI hL (by decide), hr.1.2.1, if_neg (nI_ge (by omega) (by omega)), q_ck hL (by decide), show f_X10_ofSort N (wA b 2 0) (nI t) 0 (SW b Y 2 q) = some (nI (sf P t 0), SW b Y 2 q) from k_ofSort (k := 0) hL (by decide) hr wf (by omega) (by decide), bnd_one]
    by_cases h0 : sf P t 0 < v
    rotate_left
    · have : okT P v (k + 1) t = false := by
        unfold okT
        rw [decide_eq_false h0]; rfl
      rw [if_pos (nI_le (by omega) (by omega)), this, if_neg (by decide)]
    rw [if_neg (nI_ge h0 (by omega)), q_ck hL (by decide), show f_X10_ofSort N (wA b 2 0) (nI t) 1 (SW b Y 2 q) = some (nI (sf P t 1), SW b Y 2 q) from k_ofSort (k := 1) hL (by decide) hr wf (by omega) (by decide), bnd_one]
    by_cases h1 : sf P t 1 < v
    rotate_left
    · have : okT P v (k + 1) t = false := by
        unfold okT
        rw [decide_eq_false h1, Bool.and_false]; rfl
      rw [if_neg (nI_nlt (by omega) (by omega)), this, if_neg (by decide)]
    have : okT P v (k + 1) t = okT P v k (t + 1) := by
      show ((decide _ && decide _) && _) = _
      rw [decide_eq_true h0, decide_eq_true h1]; rfl
    rw [if_pos (nI_lt h1 (by omega)), this, nI_1]
    exact ih (t + 1) fu (by omega) (by omega)
/-- who may be told to be n landings -/
def okL (P : SP) (v : Nat) : Prop := (2 ≤ v ∧ v ≤ 4) ∧ sumL P 4 0 = 0 ∧ (sB P 0).2.2.length = 0 ∧ (sB P 0).1 < v ∧ okT P v (sn P 1) 0 = true
theorem w_takeLandings (hL : LAY b Y) (hr : WRel Y P q) (wf : WF P) (h4 : sn P 4 = 1) (hN : 20 ≤ N) {v : Nat} (hv : v < 1000) : (okL P v ∧ f_X10_takeLandings N (wA b 2 0) (nI v) (SW b Y 2 q) = some (1, SW b Y 2 (up2 q.1 0 0 (nI v), q.2))) ∨ (¬ okL P v ∧ f_X10_takeLandings N (wA b 2 0) (nI v) (SW b Y 2 q) = some (0, SW b Y 2 q)) := by
  have h5 := wf.1.2.1
  have h6 := B6 wf (x := 0) (by omega)
  have hL4 := wf.1.1
  have w0 := (wf.2.1 0 (by omega)).1
  have e2 : q.1 3 2 = nI (sB P 0).2.2.length := (hr.2.2.2.2.1 0 (by omega)).2.2.1
  have e0 : q.1 3 0 = nI (sB P 0).1 := (hr.2.2.2.2.1 0 (by omega)).1
  have hs : sumL P 4 0 ≤ 48 := by
    have := WF_q12 wf 0; have := WF_q12 wf 1; have := WF_q12 wf 2; have := WF_q12 wf 3
    rw [sumL_4]; omega
  unfold f_X10_takeLandings
  by_cases h1 : v < 2
  · exact Or.inr ⟨fun h => by have := h.1.1; omega, if_pos (show nI v < 2 from nI_lt (b := 2) h1 (by decide))⟩
  rw [if_neg (show ¬ nI v < 2 from nI_nlt (b := 2) (by omega) (by omega))]
  by_cases h2 : 4 < v
  · exact Or.inr ⟨fun h => by have := h.1.2; omega, if_pos (show (4 : Int32) < nI v from nI_lt (a := 4) h2 (by omega))⟩
  rw [if_neg (show ¬ (4 : Int32) < nI v from nI_nlt (a := 4) (by omega) (by decide)), q_ck hL (by decide), w_standingInAll hL (by decide) hr hN, bnd_one]
  by_cases h3 : 0 < sumL P 4 0
  · exact Or.inr ⟨fun h => by have := h.2.1; omega, if_pos ((nI_0lt (by omega)).mpr h3)⟩
  rw [if_neg (fun h => h3 ((nI_0lt (by omega)).mp h)), q_gR hL (by decide) f7, q_bgI hL (by decide) (l := 3) (Or.inl rfl), e2]
  by_cases h7 : 0 < (sB P 0).2.2.length
  · exact Or.inr ⟨fun h => by have := h.2.2.1; omega, if_pos ((nI_0lt (by omega)).mpr h7)⟩
  rw [if_neg (fun h => h7 ((nI_0lt (by omega)).mp h)), q_gR hL (by decide) f7, q_bgI hL (by decide) (l := 3) (Or.inl rfl), e0]
  by_cases h8 : (sB P 0).1 < v
  rotate_left
  · exact Or.inr ⟨fun h => h8 h.2.2.2.1, if_neg (nI_nlt (by omega) (by omega))⟩
  rw [if_pos (nI_lt h8 (by omega))]
  have := s_ctl (N := N) hL hr wf hv (sn P 1) 0 N (by omega) (by omega)
  have this' : l_X10_takeLandings_42 N N (wA b 2 0) (nI v) 0 (SW b Y 2 q) = _ := this
  rw [this']
  by_cases h9 : okT P v (sn P 1) 0 = true
  · exact Or.inl ⟨⟨⟨by omega, by omega⟩, by omega, by omega, h8, h9⟩, if_pos h9⟩
  · exact Or.inr ⟨fun h => h9 h.2.2.2.2, if_neg h9⟩
theorem WF_lands (wf : WF P) (h4 : sn P 4 = 1) {v : Nat} (h : okL P v) : WF (ssn P 0 v) := by
  obtain ⟨⟨s1, s2, s3, s4, s5, s6, s7⟩, wb, wq⟩ := wf
  obtain ⟨h1, h2, h3, h5, h6⟩ := h
  have hn : ∀ k, k ≠ 0 → sn (ssn P 0 v) k = sn P k := fun k hk => upN_n _ _ hk
  have h00 : sn (ssn P 0 v) 0 = v := upN_s P.1 0 v
  have hT := okT_all P v _ _ h6
  have hQ : ∀ l, sQ P l = [] := fun l => by
    rw [sumL_4] at h2
    by_cases hl : l < 4
    · rcases (show l = 0 ∨ l = 1 ∨ l = 2 ∨ l = 3 by omega) with rfl | rfl | rfl | rfl
      · exact List.length_eq_zero_iff.mp (by omega)
      · exact List.length_eq_zero_iff.mp (by omega)
      · exact List.length_eq_zero_iff.mp (by omega)
      · exact List.length_eq_zero_iff.mp (by omega)
    · exact (wq l).2.1 (by omega)
  refine ⟨⟨?_, ?_, ?_, ?_, ?_, ?_, s7⟩, fun x hx => ?_, fun l => ?_⟩
  · rw [h00]; exact h1
  · rw [hn 1 (by decide)]; exact s2
  · rw [hn 2 (by decide)]; exact s3
  · rw [hn 3 (by decide)]; exact s4
  · rw [hn 4 (by decide)]; exact s5
  · rw [hn 1 (by decide), h00]
    intro t ht
    obtain ⟨-, -, c3, c4, c5, c6⟩ := s6 t ht
    exact ⟨(hT t (Nat.zero_le _) (by omega)).1, (hT t (Nat.zero_le _) (by omega)).2, c3, c4, c5, c6⟩
  · rw [hn 4 (by decide)] at hx
    obtain ⟨a1, a2, a3, a4, a5, a6, a7⟩ := wb x hx
    have hx0 : x = 0 := by omega
    subst hx0
    exact ⟨by rw [h00]; exact h5, a2, by rw [hn 2 (by decide)]; exact a3, by rw [hn 1 (by decide)]; exact a4, a5, a6, a7⟩
  · have hq : sQ (ssn P 0 v) l = [] := hQ l
    refine ⟨by rw [hq]; exact Nat.zero_le _, fun _ => hq, fun p hp => by rw [hq] at hp; exact absurd hp List.not_mem_nil, by rw [hq]; exact List.Pairwise.nil⟩
theorem WRel_lands (hr : WRel M P q) (wf : WF P) {v : Nat} : WRel M (ssn P 0 v) (up2 q.1 0 0 (nI v), q.2) := by
  have h2 := wf.1.2.2.2.2.1.2
  have hn : ∀ k, k ≠ 0 → sn (ssn P 0 v) k = sn P k := fun k hk => upN_n _ _ hk
  have h00 : sn (ssn P 0 v) 0 = v := upN_s P.1 0 v
  obtain ⟨a1, a2, a3, a4, a5, a6⟩ := hr
  refine ⟨?_, ?_, fun i hi => ?_, fun t k ht hk => ?_, fun x hx => ?_, fun l hl => ⟨?_, fun j p hj => ?_⟩⟩
  · rw [hn 1 (by decide), hn 2 (by decide), hn 3 (by decide), hn 4 (by decide), h00]
    simp only [up2]
    exact ⟨rfl, a1.2⟩
  · simp only [up2]; exact a2
  · simp only [up2]; exact a3 i hi
  · rw [hn 1 (by decide)] at ht
    simp only [up2]; exact a4 t k ht hk
  · rw [hn 4 (by decide)] at hx
    have n1 : lb x ≠ 0 := by unfold lb; omega
    exact BRel_of (a5 x hx) (by funext j; simp [up2, n1]) (by funext j; simp [up2]) rfl
  · simp only [up2]; exact (a6 l hl).1
  · simp only [up2]; exact (a6 l hl).2 j p hj
theorem KRel_lands {D : Nat → Nat} {g : Nat → Int32} (hk : KRel D P g) (wf : WF P) {v : Nat} : KRel D (ssn P 0 v) (upN g 0 (nI v)) := by
  have h5 := wf.1.2.1
  have hn : ∀ k, k ≠ 0 → sn (ssn P 0 v) k = sn P k := fun k hk => upN_n _ _ hk
  have h00 : sn (ssn P 0 v) 0 = v := upN_s P.1 0 v
  obtain ⟨a1, a2, a3, a4, a5, a6⟩ := hk
  have e : ∀ j, j ≠ 0 → upN g 0 (nI v) j = g j := fun j hj => upN_n _ _ hj
  refine ⟨?_, ?_, fun i hi => ?_, fun t k ht hk => ?_, fun y hy => ?_, fun l hl => ?_⟩
  · rw [upN_s, e 1 (by decide), e 2 (by decide), e 3 (by decide), hn 1 (by decide), hn 2 (by decide), hn 3 (by decide), h00]
    exact ⟨rfl, a1.2⟩
  · rw [e 4 (by decide), e 5 (by decide), e 6 (by decide), e 7 (by decide), e 8 (by decide)]; exact a2
  · rw [e _ (by omega)]; exact a3 i hi
  · rw [hn 1 (by decide)] at ht
    rw [e _ (by omega)]; exact a4 t k ht hk
  · rw [hn 4 (by decide)] at hy
    exact KB_of (a5 y hy) (B6 wf hy) (fun j h1 h2 => e j (by omega))
  · rw [hn 3 (by decide)]
    exact KQ_of (a6 l hl) (WF_q12 wf l) (fun j h1 h2 => e j (by omega))
end APPLY
