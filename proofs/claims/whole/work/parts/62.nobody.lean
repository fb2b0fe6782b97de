/-! nobody. -/
def cntK (S : SP) (l : Nat) : Nat → Nat → Nat
  | 0, _ => 0
  | k + 1, t => (if sf S t 0 = l then 1 else 0) + cntK S l k (t + 1)
def prodA (S : SP) (l m : Nat) : Nat → Nat → Nat → Nat
  | 0, _, A => A
  | k + 1, t, A => prodA S l m k (t + 1) (if sf S t 0 = l then A * (100 - sf S t 2) ^ m else A)
def prodB (S : SP) (l m : Nat) : Nat → Nat → Nat → Nat
  | 0, _, B => B
  | k + 1, t, B => prodB S l m k (t + 1) (if sf S t 0 = l then B * 100 ^ m else B)
theorem prodB_val (S : SP) (l m : Nat) : ∀ (k t B : Nat), prodB S l m k t B = B * 100 ^ (m * cntK S l k t) := by
  intro k
  induction k with
  | zero => intro t B; show B = B * 100 ^ (m * 0); rw [Nat.mul_zero, Nat.pow_zero, Nat.mul_one]
  | succ k ih =>
    intro t B
    show prodB S l m k (t + 1) _ = B * 100 ^ (m * ((if sf S t 0 = l then 1 else 0) + cntK S l k (t + 1)))
    rw [ih]
    by_cases h : sf S t 0 = l
    · rw [if_pos h, if_pos h, Nat.mul_add, Nat.mul_one, Nat.pow_add, Nat.mul_assoc]
    · rw [if_neg h, if_neg h, Nat.zero_add]
theorem prodA_le (S : SP) (l m : Nat) : ∀ (k t A B : Nat), A ≤ B → prodA S l m k t A ≤ prodB S l m k t B := by
  intro k
  induction k with
  | zero => intro t A B h; exact h
  | succ k ih =>
    intro t A B h
    show prodA S l m k (t + 1) _ ≤ prodB S l m k (t + 1) _
    refine ih (t + 1) _ _ ?_
    by_cases hh : sf S t 0 = l
    · rw [if_pos hh, if_pos hh]
      exact Nat.mul_le_mul h (Nat.pow_le_pow_left (Nat.sub_le _ _) m)
    · rw [if_neg hh, if_neg hh]; exact h
theorem lN0 (a : Nat) (h : a < 2 ^ 63) : lN a = 0 ↔ a = 0 := pk_lEQ (b := 0) h (by decide)
theorem lrm_lN {ρ : Type} {a c : Nat} {κ : Int64 → Option ρ} (ha : a < 2 ^ 63) (h0 : 0 < c) (hc : c < 2 ^ 63) : lrm (lN a) (lN c) κ = κ (lN (a % c)) := by
  unfold lrm
  rw [if_neg (fun q => by have := (lN0 c hc).mp q; omega), pk_lRem ha h0 hc]
theorem gcd_step (a c : Nat) : Nat.gcd a c = Nat.gcd c (a % c) := by
  rw [Nat.gcd_comm a c, Nat.gcd_rec c a, Nat.gcd_comm]
theorem rem_half {c d : Nat} (h0 : 0 < d) (h : d < c) : 2 * (c % d) < c := by
  have h1 := Nat.mod_lt c h0
  have h2 := Nat.div_add_mod c d
  have h3 : 1 ≤ c / d := (Nat.one_le_div_iff h0).mpr (Nat.le_of_lt h)
  have h4 : d * 1 ≤ d * (c / d) := Nat.mul_le_mul_left d h3
  omega
theorem s_gcdc {N : Nat} {M : Mm} : ∀ (k a c i fu : Nat), c < 2 ^ k → a < 2 ^ 63 → c < 2 ^ 63 → i + 2 * k + 1 ≤ 200 → 2 * k + 2 ≤ fu → l_X11_commonDivisor_9 N fu (lN a) (lN c) (nI i) M = some (lN (Nat.gcd a c), M) := by
  have hz : ∀ (a i fu : Nat), i < 200 → 1 ≤ fu → l_X11_commonDivisor_9 N fu (lN a) (lN 0) (nI i) M = some (lN (Nat.gcd a 0), M) := by
    intro a i fu hi hf
    obtain ⟨fu, rfl⟩ : ∃ f, fu = f + 1 := ⟨fu - 1, by omega⟩
    show b_X11_commonDivisor_9 N (l_X11_commonDivisor_9 N fu) _ _ _ _ = _
    unfold b_X11_commonDivisor_9
    rw [if_neg (show ¬ (200 : Int32) ≤ nI i from nI_ge (b := 200) (by omega) (by decide)), if_pos (show lg_cmp (lN 0) 0 = 0 from (lg_cmp_eq _ _).mpr rfl), Nat.gcd_zero_right]
  have hs : ∀ (a c i fu : Nat), 0 < c → a < 2 ^ 63 → c < 2 ^ 63 → i < 200 → l_X11_commonDivisor_9 N (fu + 1) (lN a) (lN c) (nI i) M = l_X11_commonDivisor_9 N fu (lN c) (lN (a % c)) (nI (i + 1)) M := by
    intro a c i fu h0 ha hc hi
    show b_X11_commonDivisor_9 N (l_X11_commonDivisor_9 N fu) _ _ _ _ = _
    unfold b_X11_commonDivisor_9
    rw [if_neg (show ¬ (200 : Int32) ≤ nI i from nI_ge (b := 200) (by omega) (by decide)), if_neg (fun q => by have := (lN0 c hc).mp ((lg_cmp_eq _ _).mp q); omega), lrm_lN ha h0 hc, nI_1]
  intro k
  induction k with
  | zero =>
    intro a c i fu hc _ _ hi hf
    have : c = 0 := by omega
    subst this
    exact hz a i fu (by omega) (by omega)
  | succ k ih =>
    intro a c i fu hck ha hc hi hf
    rcases Nat.eq_zero_or_pos c with rfl | h0
    · exact hz a i fu (by omega) (by omega)
    · obtain ⟨fu, rfl⟩ : ∃ f, fu = f + 2 := ⟨fu - 2, by omega⟩
      have hm := Nat.mod_lt a h0
      rw [hs a c i (fu + 1) h0 ha hc (by omega), gcd_step]
      rcases Nat.eq_zero_or_pos (a % c) with h1 | h1
      · rw [h1]
        exact hz c (i + 1) (fu + 1) (by omega) (by omega)
      · have hh := rem_half h1 hm
        rw [hs c (a % c) (i + 1) fu h1 hc (by omega) (by omega), gcd_step c]
        exact ih (a % c) (c % (a % c)) (i + 2) fu (by rw [Nat.pow_succ] at hck; omega) (by omega) (by omega) (by omega) (by omega)
theorem s_gcdm {N : Nat} {M : Mm} : ∀ (k a c fu : Nat), c < 2 ^ k → a < 2 ^ 63 → c < 2 ^ 63 → 2 * k + 2 ≤ fu → l_X12_common_6 N fu (lN a) (lN c) M = some (lN (Nat.gcd a c), M) := by
  have hz : ∀ (a fu : Nat), 1 ≤ fu → l_X12_common_6 N fu (lN a) (lN 0) M = some (lN (Nat.gcd a 0), M) := by
    intro a fu hf
    obtain ⟨fu, rfl⟩ : ∃ f, fu = f + 1 := ⟨fu - 1, by omega⟩
    show b_X12_common_6 N (l_X12_common_6 N fu) _ _ _ = _
    unfold b_X12_common_6
    rw [if_pos (show lg_cmp (lN 0) 0 = 0 from (lg_cmp_eq _ _).mpr rfl), Nat.gcd_zero_right]
  have hs : ∀ (a c fu : Nat), 0 < c → a < 2 ^ 63 → c < 2 ^ 63 → l_X12_common_6 N (fu + 1) (lN a) (lN c) M = l_X12_common_6 N fu (lN c) (lN (a % c)) M := by
    intro a c fu h0 ha hc
    show b_X12_common_6 N (l_X12_common_6 N fu) _ _ _ = _
    unfold b_X12_common_6
    rw [if_neg (fun q => by have := (lN0 c hc).mp ((lg_cmp_eq _ _).mp q); omega), lrm_lN ha h0 hc]
  intro k
  induction k with
  | zero =>
    intro a c fu hc _ _ hf
    have : c = 0 := by omega
    subst this
    exact hz a fu (by omega)
  | succ k ih =>
    intro a c fu hck ha hc hf
    rcases Nat.eq_zero_or_pos c with rfl | h0
    · exact hz a fu (by omega)
    · obtain ⟨fu, rfl⟩ : ∃ f, fu = f + 2 := ⟨fu - 2, by omega⟩
      have hm := Nat.mod_lt a h0
      rw [hs a c (fu + 1) h0 ha hc, gcd_step]
      rcases Nat.eq_zero_or_pos (a % c) with h1 | h1
      · rw [h1]
        exact hz c (fu + 1) (by omega)
      · have hh := rem_half h1 hm
        rw [hs c (a % c) fu h1 hc (by omega), gcd_step c]
        exact ih (a % c) (c % (a % c)) fu (by rw [Nat.pow_succ] at hck; omega) (by omega) (by omega) (by omega)
section NOBODY
variable {b : Nat} {M M2 : Mm} {S : SP} {pic : Option SP} {sh : Nat → SV} {r : Nat → Nat → Int32} {N : Nat} {q : WR}
theorem s_csf (hL : LAY b M) (hr : WRel M S q) (wf : WF S) {l : Nat} (hl : l < 100) : ∀ (k t fu a : Nat), t + k = sn S 1 → k + 1 ≤ fu → l_X10_sortsFrom_4 N fu (wA b 0 0) (nI l) (nI a) (nI t) (SW b M 0 q) = some (nI (a + cntK S l k t), SW b M 0 q) := by
  have h5 := wf.1.2.1
  intro k
  induction k with
  | zero =>
    intro t fu a ht hf
    obtain ⟨fu, rfl, -⟩ := fuel_s hf
    show b_X10_sortsFrom_4 N (l_X10_sortsFrom_4 N fu) _ _ _ _ _ = _
    unfold b_X10_sortsFrom_4
    rw [q_gI hL (by decide), hr.1.2.1, if_pos (nI_le (by omega) (by omega))]
    rfl
  | succ k ih =>
    intro t fu a ht hf
    obtain ⟨fu, rfl, hf2⟩ := fuel_s hf
    have h40 := (wf.1.2.2.2.2.2.1 t (by omega)).1
    have hL4 := wf.1.1
    show b_X10_sortsFrom_4 N (l_X10_sortsFrom_4 N fu) _ _ _ _ _ = _
    unfold b_X10_sortsFrom_4
    rw [q_gI hL (by decide), hr.1.2.1, if_neg (nI_ge (by omega) (by omega)), q_ck hL (by decide), show (0 : Int32) = nI 0 from rfl, k_ofSort hL (by decide) hr wf (by omega) (by decide), bnd_one, nI_1, nI_1]
    show _ = some (nI (a + ((if sf S t 0 = l then 1 else 0) + cntK S l k (t + 1))), _)
    by_cases h : sf S t 0 = l
    · rw [if_pos (by rw [h]), if_pos h, ih (t + 1) fu (a + 1) (by omega) (by omega), Nat.add_assoc]
    · rw [if_neg (fun e => h ((nI_eq (by omega) (by omega)).mp e)), if_neg h, ih (t + 1) fu a (by omega) (by omega), Nat.zero_add]
theorem mul_c {A c : Nat} (hc : c ≤ 100) : lN A * Int32.toInt64 (100 - nI c) = lN (A * (100 - c)) := by
  rw [show (100 : Int32) = nI 100 from rfl, pk_sub hc, nI_l (by omega), lN_mul]
theorem mul_100 (B : Nat) : lN B * 100 = lN (B * 100) := lN_mul B 100
theorem s_c90 (hL : LAY b M) (hX : CXL b M) (hr : WRel M S q) (wf : WF S) {l m t : Nat} (ht : t < sn S 1) (hm : m ≤ 4) (x3 : Int32) (K : Nat → Int32 → Int32 → Int32 → Int64 → Int64 → Int32 → Mm → Option (Int64 × Mm)) : ∀ (k j fu A B : Nat), j + k = m → k + 1 ≤ fu → l_X11_nobody_90 N K fu b (nI l) (nI m) x3 (lN A) (lN B) (nI t) (nI j) (SW b M 0 q) = K b (nI l) (nI m) x3 (lN (A * (100 - sf S t 2) ^ k)) (lN (B * 100 ^ k)) (nI (t + 1)) (SW b M 0 q) := by
  have hc100 := (wf.1.2.2.2.2.2.1 t ht).2.2.2.1
  intro k
  induction k with
  | zero =>
    intro j fu A B hj hf
    obtain ⟨fu, rfl, -⟩ := fuel_s hf
    show b_X11_nobody_90 N K (l_X11_nobody_90 N K fu) _ _ _ _ _ _ _ _ _ = _
    unfold b_X11_nobody_90
    rw [if_pos (nI_le (by omega) (by omega)), nI_1, Nat.pow_zero, Nat.pow_zero, Nat.mul_one, Nat.mul_one]
  | succ k ih =>
    intro j fu A B hj hf
    obtain ⟨fu, rfl, hf2⟩ := fuel_s hf
    show b_X11_nobody_90 N K (l_X11_nobody_90 N K fu) _ _ _ _ _ _ _ _ _ = _
    unfold b_X11_nobody_90
    rw [if_neg (nI_ge (by omega) (by omega)), c_real hX (by decide), q_ck hL (by decide), show (2 : Int32) = nI 2 from rfl, k_ofSort hL (by decide) hr wf ht (by decide), bnd_one, mul_c hc100, mul_100, nI_1, ih (j + 1) fu _ _ (by omega) (by omega), Nat.mul_assoc, Nat.mul_assoc, Nat.pow_succ', Nat.pow_succ']
theorem s_c61 (hL : LAY b M) (hX : CXL b M) (hr : WRel M S q) (wf : WF S) {l m : Nat} (hl : l < 100) (hm : m ≤ 4) (hN : 200 ≤ N) (x3 : Int32) : ∀ (k t fu A B : Nat), t + k = sn S 1 → k + 1 ≤ fu → l_X11_nobody_61 N fu b (nI l) (nI m) x3 (lN A) (lN B) (nI t) (SW b M 0 q) = bnd (f_X11_commonDivisor N (lN (prodA S l m k t A)) (lN (prodB S l m k t B)) (SW b M 0 q)) (fun v3 M4 => (if x3 = 0 then j_X11_nobody_155 N v3 (lN (prodA S l m k t A)) M4 else j_X11_nobody_155 N v3 (lN (prodB S l m k t B)) M4)) := by
  have h5 := wf.1.2.1
  have hL4 := wf.1.1
  intro k
  induction k with
  | zero =>
    intro t fu A B ht hf
    obtain ⟨fu, rfl, -⟩ := fuel_s hf
    show b_X11_nobody_61 N (l_X11_nobody_61 N fu) _ _ _ _ _ _ _ _ = _
    unfold b_X11_nobody_61
    rw [c_real hX (by decide), q_gI hL (by decide), hr.1.2.1, if_pos (nI_le (by omega) (by omega))]
    rfl
  | succ k ih =>
    intro t fu A B ht hf
    obtain ⟨fu, rfl, hf2⟩ := fuel_s hf
    have h40 := (wf.1.2.2.2.2.2.1 t (by omega)).1
    show b_X11_nobody_61 N (l_X11_nobody_61 N fu) _ _ _ _ _ _ _ _ = _
    unfold b_X11_nobody_61
    rw [c_real hX (by decide), q_gI hL (by decide), hr.1.2.1, if_neg (nI_ge (by omega) (by omega)), c_real hX (by decide), q_ck hL (by decide), show f_X10_ofSort N (wA b 0 0) (nI t) 0 (SW b M 0 q) = some (nI (sf S t 0), SW b M 0 q) from k_ofSort (k := 0) hL (by decide) hr wf (by omega) (by decide), bnd_one]
    unfold prodA prodB
    by_cases h : sf S t 0 = l
    · rw [if_pos (by rw [h]), if_pos h, if_pos h]
      have := s_c90 (N := N) hL hX hr wf (l := l) (m := m) (t := t) (by omega) hm x3 (l_X11_nobody_61 N fu) m 0 N A B (by omega) (by omega)
      have this' : l_X11_nobody_90 N (l_X11_nobody_61 N fu) N b (nI l) (nI m) x3 (lN A) (lN B) (nI t) 0 (SW b M 0 q) = _ := this
      rw [this', ih (t + 1) fu _ _ (by omega) (by omega)]
    · rw [if_neg (fun e => h ((nI_eq (by omega) (by omega)).mp e)), if_neg h, if_neg h, nI_1, ih (t + 1) fu _ _ (by omega) (by omega)]
theorem m_getS (hl : MLAY b M2) (hk : KRel K0 S (r 1)) (wf : WF S) {t : Nat} (ht : t < sn S 1) (i : Int32) (k : Nat) (hi : i = nI k) (hk5 : k < 5) : f_X12_get N (mc b 1) (nI t) i (MW b M2 r) = some (nI (sf S t k), MW b M2 r) := by
  have h5 := wf.1.2.1
  have hA : AI (MW b M2 r) (mc b 1) 174 := AI_MW hl (by decide) (by decide)
  rw [MW_as (show 1 < 12 by decide), show nI (sf S t k) = r 1 (25 + 5 * t + k) from (hk.2.2.2.1 t k ht hk5).symm]
  exact m_get (M := MW b M2 r) hA i k hi (by omega) hk5
theorem s_m134 (hl : MLAY b M2) (hk : KRel K0 S (r 1)) (wf : WF S) {l m t : Nat} (ht : t < sn S 1) (hm : m ≤ 4) (x3 : Int32) (K : Nat → Int32 → Int32 → Int32 → Int64 → Int64 → Int32 → Mm → Option (Int64 × Mm)) : ∀ (k j fu A B : Nat), j + k = m → k + 1 ≤ fu → l_X12_nobody_134 N K fu (mc b 0) (nI l) (nI m) x3 (lN A) (lN B) (nI t) (nI j) (MW b M2 r) = K (mc b 0) (nI l) (nI m) x3 (lN (A * (100 - sf S t 2) ^ k)) (lN (B * 100 ^ k)) (nI (t + 1)) (MW b M2 r) := by
  have hc100 := (wf.1.2.2.2.2.2.1 t ht).2.2.2.1
  intro k
  induction k with
  | zero =>
    intro j fu A B hj hf
    obtain ⟨fu, rfl, -⟩ := fuel_s hf
    show b_X12_nobody_134 N K (l_X12_nobody_134 N K fu) _ _ _ _ _ _ _ _ _ = _
    unfold b_X12_nobody_134
    rw [if_pos (nI_le (by omega) (by omega)), nI_1, Nat.pow_zero, Nat.pow_zero, Nat.mul_one, Nat.mul_one]
  | succ k ih =>
    intro j fu A B hj hf
    obtain ⟨fu, rfl, hf2⟩ := fuel_s hf
    show b_X12_nobody_134 N K (l_X12_nobody_134 N K fu) _ _ _ _ _ _ _ _ _ = _
    unfold b_X12_nobody_134
    rw [if_neg (nI_ge (by omega) (by omega)), n_gR hl (p := 1) (by decide), m_getS hl hk wf ht 2 2 rfl (by decide), bnd_one, mul_c hc100, mul_100, nI_1, ih (j + 1) fu _ _ (by omega) (by omega), Nat.mul_assoc, Nat.mul_assoc, Nat.pow_succ', Nat.pow_succ']
theorem s_m103 (hl : MLAY b M2) (hk : KRel K0 S (r 1)) (wf : WF S) {l m : Nat} (hl1 : l < 100) (hm : m ≤ 4) (hN : 200 ≤ N) (x3 : Int32) : ∀ (k t fu A B : Nat), t + k = sn S 1 → k + 1 ≤ fu → l_X12_nobody_103 N fu (mc b 0) (nI l) (nI m) x3 (lN A) (lN B) (nI t) (MW b M2 r) = bnd (f_X12_common N (lN (prodA S l m k t A)) (lN (prodB S l m k t B)) (MW b M2 r)) (fun v3 M4 => (if x3 = 0 then ldv (lN (prodA S l m k t A)) v3 (fun v7 => some (v7, M4)) else ldv (lN (prodB S l m k t B)) v3 (fun v6 => some (v6, M4)))) := by
  have h5 := wf.1.2.1
  have hL4 := wf.1.1
  intro k
  induction k with
  | zero =>
    intro t fu A B ht hf
    obtain ⟨fu, rfl, -⟩ := fuel_s hf
    show b_X12_nobody_103 N (l_X12_nobody_103 N fu) _ _ _ _ _ _ _ _ = _
    unfold b_X12_nobody_103
    rw [n_gR hl (p := 1) (by decide), n_ald1 hl (by decide) (by decide) (by decide), hk.1.2.1, if_pos (nI_le (by omega) (by omega))]
    rfl
  | succ k ih =>
    intro t fu A B ht hf
    obtain ⟨fu, rfl, hf2⟩ := fuel_s hf
    have h40 := (wf.1.2.2.2.2.2.1 t (by omega)).1
    show b_X12_nobody_103 N (l_X12_nobody_103 N fu) _ _ _ _ _ _ _ _ = _
    unfold b_X12_nobody_103
    rw [n_gR hl (p := 1) (by decide), n_ald1 hl (by decide) (by decide) (by decide), hk.1.2.1, if_neg (nI_ge (by omega) (by omega)), n_gR hl (p := 1) (by decide), m_getS hl hk wf (by omega) 0 0 rfl (by decide), bnd_one]
    unfold prodA prodB
    by_cases h : sf S t 0 = l
    · rw [if_pos (by rw [h]), if_pos h, if_pos h]
      have := s_m134 (N := N) hl hk wf (l := l) (m := m) (t := t) (by omega) hm x3 (l_X12_nobody_103 N fu) m 0 N A B (by omega) (by omega)
      have this' : l_X12_nobody_134 N (l_X12_nobody_103 N fu) N (mc b 0) (nI l) (nI m) x3 (lN A) (lN B) (nI t) 0 (MW b M2 r) = _ := this
      rw [this', ih (t + 1) fu _ _ (by omega) (by omega)]
    · rw [if_neg (fun e => h ((nI_eq (by omega) (by omega)).mp e)), if_neg h, if_neg h, nI_1, ih (t + 1) fu _ _ (by omega) (by omega)]
theorem s_m40 (hl : MLAY b M2) (hk : KRel K0 S (r 1)) (wf : WF S) {l m : Nat} (hl1 : l < 100) (x3 : Int32) : ∀ (k t fu a : Nat), t + k = sn S 1 → k + 1 ≤ fu → l_X12_nobody_40 N fu (mc b 0) (nI l) (nI m) x3 (nI a) (nI t) (MW b M2 r) = (if nI m * nI (a + cntK S l k t) ≤ (8 : Int32) then l_X12_nobody_103 N N (mc b 0) (nI l) (nI m) x3 (1 : Int64) (1 : Int64) (0 : Int32) (MW b M2 r) else some ((-4000000000000000003 : Int64), MW b M2 r)) := by
  have h5 := wf.1.2.1
  have hL4 := wf.1.1
  intro k
  induction k with
  | zero =>
    intro t fu a ht hf
    obtain ⟨fu, rfl, -⟩ := fuel_s hf
    show b_X12_nobody_40 N (l_X12_nobody_40 N fu) _ _ _ _ _ _ _ = _
    unfold b_X12_nobody_40
    rw [n_gR hl (p := 1) (by decide), n_ald1 hl (by decide) (by decide) (by decide), hk.1.2.1, if_pos (nI_le (by omega) (by omega))]
    rfl
  | succ k ih =>
    intro t fu a ht hf
    obtain ⟨fu, rfl, hf2⟩ := fuel_s hf
    have h40 := (wf.1.2.2.2.2.2.1 t (by omega)).1
    show b_X12_nobody_40 N (l_X12_nobody_40 N fu) _ _ _ _ _ _ _ = _
    unfold b_X12_nobody_40 j_X12_nobody_72
    rw [n_gR hl (p := 1) (by decide), n_ald1 hl (by decide) (by decide) (by decide), hk.1.2.1, if_neg (nI_ge (by omega) (by omega)), n_gR hl (p := 1) (by decide), m_getS hl hk wf (by omega) 0 0 rfl (by decide), bnd_one, nI_1 t]
    rw [show a + cntK S l (k + 1) t = a + (if sf S t 0 = l then 1 else 0) + cntK S l k (t + 1) from (Nat.add_assoc _ _ _).symm]
    by_cases h : sf S t 0 = l
    · rw [if_pos (by rw [h]), if_pos h, nI_1, ih (t + 1) fu (a + 1) (by omega) (by omega)]
    · rw [if_neg (fun e => h ((nI_eq (by omega) (by omega)).mp e)), if_neg h, show nI a + 0 = nI (a + 0) from nI_add a 0, ih (t + 1) fu (a + 0) (by omega) (by omega)]
theorem cntK_le (S : SP) (l : Nat) : ∀ (k t : Nat), cntK S l k t ≤ k := by
  intro k
  induction k with
  | zero => intro t; exact Nat.le_refl _
  | succ k ih =>
    intro t
    have := ih (t + 1)
    unfold cntK
    split <;> omega
theorem T_nobody (hc : CLS b S pic sh M) (hl : MLAY b M2) (hm : MDR S pic sh r) (hi : INV S pic) (hN : 200 ≤ N) (l m p : Int32) : AGREE b M M2 (f_X11_nobody N b l m p M) (f_X12_nobody N (mc b 0) l m p (MW b M2 r)) := by
  obtain ⟨⟨hL, hX, hNB⟩, ⟨hr, wf, h1⟩, -⟩ := id hc
  have hM : SW b M 0 (gW b M 0) = M := SW_get (by decide)
  have hL4 := wf.1.1
  have h5 := wf.1.2.1
  unfold f_X11_nobody f_X12_nobody
  rw [d_real hX, d_wck hL (by decide), d_hasLanding hc, bnd_one, b32_if, rng_if2, rng_if]
  rw [n_ck hl, m_isLanding hl hm.1 wf, bnd_one, b32_if, m_isIn m 0 4 0 4 rfl rfl, bnd_one, b32_if, m_isIn p 0 1 0 1 rfl rfl, bnd_one, b32_if]
  by_cases hA : 0 ≤ l ∧ l < nI (sn S 0)
  rotate_left
  · exact AGREE_same hc hm hi (-4000000000000000001) (by simp only [if_neg hA]) (by simp only [if_neg hA])
  by_cases hB : 0 ≤ m ∧ m ≤ 4
  rotate_left
  · exact AGREE_same hc hm hi (-4000000000000000001) (by simp only [if_neg hB, ite_self]) (by simp only [if_neg hB, ite_self])
  by_cases hC : 0 ≤ p ∧ p ≤ 1
  rotate_left
  · exact AGREE_same hc hm hi (-4000000000000000001) (by simp only [if_neg hC, ite_self]) (by simp only [if_neg hC, ite_self])
  rw [if_pos hA, if_pos hB, if_pos hC, if_pos hA, if_pos hB, if_pos hC]
  obtain ⟨l, hl', rfl⟩ := in_nat hA.1 hA.2 (by omega)
  obtain ⟨m, hm2, rfl⟩ := in_nat2 (n := 4) hB.1 hB.2 rfl (by decide)
  have c1 := s_csf (N := N) hL hr wf (l := l) (by omega) (sn S 1) 0 N 0 (by omega) (by omega)
  have c2 := s_m40 (N := N) (m := m) hl hm.1 wf (l := l) (by omega) p (sn S 1) 0 N 0 (by omega) (by omega)
  have c1' : f_X10_sortsFrom N (wA b 0 0) (nI l) M = some (nI (0 + cntK S l (sn S 1) 0), M) := by
    rw [hM] at c1
    exact c1
  have c2' : l_X12_nobody_40 N N (mc b 0) (nI l) (nI m) p 0 0 (MW b M2 r) = _ := c2
  have hcn := cntK_le S l (sn S 1) 0
  rw [d_real hX, d_wck hL (by decide), c1', bnd_one, c2', Nat.zero_add]
  by_cases h8 : nI m * nI (cntK S l (sn S 1) 0) ≤ (8 : Int32)
  · rw [if_pos h8, if_pos h8]
    have h8' : m * cntK S l (sn S 1) 0 ≤ 8 := by
      rw [pk_mul] at h8
      have : m * cntK S l (sn S 1) 0 ≤ 4 * 5 := Nat.mul_le_mul hm2 (by omega)
      exact (nI_leI (b := 8) (by omega) (by decide)).mp h8
    have d1 := s_c61 (N := N) hL hX hr wf (l := l) (m := m) (by omega) hm2 hN p (sn S 1) 0 N 1 1 (by omega) (by omega)
    have d2 := s_m103 (N := N) (r := r) hl hm.1 wf (l := l) (m := m) (by omega) hm2 hN p (sn S 1) 0 N 1 1 (by omega) (by omega)
    rw [hM] at d1
    have d1' : l_X11_nobody_61 N N b (nI l) (nI m) p 1 1 0 M = _ := d1
    have d2' : l_X12_nobody_103 N N (mc b 0) (nI l) (nI m) p 1 1 0 (MW b M2 r) = _ := d2
    have hBv := prodB_val S l m (sn S 1) 0 1
    have hAB := prodA_le S l m (sn S 1) 0 1 1 (Nat.le_refl _)
    have hB8 : 100 ^ (m * cntK S l (sn S 1) 0) ≤ 100 ^ 8 := Nat.pow_le_pow_right (by decide) h8'
    have hB0 : 0 < 100 ^ (m * cntK S l (sn S 1) 0) := Nat.pow_pos (by decide)
    rw [Nat.one_mul] at hBv
    have e54 : (100 : Nat) ^ 8 < 2 ^ 54 := by decide
    generalize prodA S l m (sn S 1) 0 1 = A at *
    generalize prodB S l m (sn S 1) 0 1 = B at *
    have hBB : B < 2 ^ 54 := by omega
    have hB1 : 0 < B := by omega
    have g1 := s_gcdc (N := N) (M := M) 54 A B 0 N hBB (by omega) (by omega) (by decide) (by omega)
    have g2 := s_gcdm (N := N) (M := MW b M2 r) 54 A B N hBB (by omega) (by omega) (by omega)
    have hg0 : 0 < Nat.gcd A B := Nat.gcd_pos_of_pos_right A hB1
    have hgB : Nat.gcd A B ≤ B := Nat.le_of_dvd hB1 (Nat.gcd_dvd_right A B)
    have g1' : f_X11_commonDivisor N (lN A) (lN B) M = some (lN (Nat.gcd A B), M) := g1
    have g2' : f_X12_common N (lN A) (lN B) (MW b M2 r) = some (lN (Nat.gcd A B), MW b M2 r) := g2
    have hne : ¬ lN (Nat.gcd A B) = 0 := fun e => by have := (lN0 _ (by omega)).mp e; omega
    have hpos : ¬ lg_cmp (lN (Nat.gcd A B)) 0 ≤ 0 := fun e => by
      have h := (lg_cmp_le _ _).mp e
      have := (pk_lLE (a := Nat.gcd A B) (b := 0) (by omega) (by decide)).mp h
      omega
    refine AGREE_same hc hm hi (if p = 0 then lN A / lN (Nat.gcd A B) else lN B / lN (Nat.gcd A B)) ?_ ?_
    · rw [d1', g1', bnd_one]
      unfold j_X11_nobody_155 j_X11_nobody_168 ldv
      rw [if_neg hpos, if_neg hpos, if_neg hne, if_neg hne]
      split <;> rfl
    · rw [d2', g2', bnd_one]
      unfold ldv
      rw [if_neg hne, if_neg hne]
      split <;> rfl
  · rw [if_neg h8, if_neg h8]
    exact AGREE_same hc hm hi (-4000000000000000003) rfl rfl
end NOBODY
