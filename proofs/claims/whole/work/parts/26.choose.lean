/-! What the class' rules tell. -/
def oI (o : Option Nat) : Int32 := match o with
  | none => -1
  | some t => nI t
theorem le_pred {s m : Nat} (hs : s < 2 ^ 30) (hm : m < 2 ^ 30) : nI s ≤ nI m - 1 ↔ s < m := by
  have e : (nI m - 1).toInt = (m : Int) - 1 := by
    have := pk_sub_toInt (a := m) (b := 1) hm (by decide)
    exact this
  rw [Int32.le_iff_toInt_le, e, nI_toInt (by omega)]
  omega
theorem irm_of {ρ : Type} {x y : Int32} {κ : Int32 → Option ρ} (h : ¬ y = 0) : irm x y κ = κ (x - x / y * y) := if_neg h
theorem idv_of {ρ : Type} {x y : Int32} {κ : Int32 → Option ρ} (h : ¬ y = 0) : idv x y κ = κ (x / y) := if_neg h
theorem lrm_of {ρ : Type} {x y : Int64} {κ : Int64 → Option ρ} (h : ¬ y = 0) : lrm x y κ = κ (x - x / y * y) := if_neg h
theorem ldv_of {ρ : Type} {x y : Int64} {κ : Int64 → Option ρ} (h : ¬ y = 0) : ldv x y κ = κ (x / y) := if_neg h
section CHOOSE
variable {b : Nat} {M : Mm} {w : Nat} {N : Nat} {S : SP} {r : WR} {ρ : Type}
theorem q_gF (h : LAY b M) (hw : w < 7) {q kd fg : Nat} (hq : isRl M q kd fg) {κ : Int32 → Option ρ} : gF (SW b M w r) q κ = κ (nI fg) := by
  have h1 := rule_SW (r := r) h hw hq
  have h2 : isRule ((SW b M w r).1 q).1 = true := by
    rw [h1.1]
    have : ∀ k, k < 7 → isRule (rtag k) = true := by decide
    exact this kd hq.2.2.1
  simp only [gF, h2, if_true, h1.2.1]
theorem q_rule (h : LAY b M) (hw : w < 7) {q kd fg : Nat} (hq : isRl M q kd fg) {κ : Option ρ} : rq (isRule ((SW b M w r).1 q).1 = true) κ = κ := by
  have h1 := rule_SW (r := r) h hw hq
  have h2 : isRule ((SW b M w r).1 q).1 = true := by
    rw [h1.1]
    have : ∀ k, k < 7 → isRule (rtag k) = true := by decide
    exact this kd hq.2.2.1
  simp only [rq, h2, if_true]
theorem c_first (h : LAY b M) (hw : w < 7) (hr : WRel M S r) (wf : WF S) {x q : Nat} (hx : x < sn S 4) : f_X6_choose N q (wA b w 0) (wA b w (lb x)) (SW b M w r) = some (oI (firstTo S x), SW b M w r) := by
  have h2 := wf.1.2.2.2.2.1.2
  have hl := lb_cases (Nat.lt_of_lt_of_le hx h2)
  have hl1 : lb x + 1 ∈ oks := by rcases hl with e | e <;> rw [e] <;> decide
  have hk1 : kW (lb x + 1) = (1, 6) := by rcases hl with e | e <;> rw [e] <;> rfl
  obtain ⟨w1, w2, w3, w4, w5, w6, w7⟩ := wf.2.1 x hx
  obtain ⟨b1, b2, b3, b4, b5⟩ := hr.2.2.2.2.1 x hx
  have h6 := wf.1.2.2.1
  unfold f_X6_choose firstTo
  rw [q_bgI h hw hl, b3]
  cases hab : (sB S x).2.2 with
  | nil =>
    rw [if_pos (show nI ([] : List Nat).length ≤ 0 by decide)]
    rfl
  | cons t rest =>
    rw [hab] at w3 w4 b4
    simp only [List.length_cons] at w3
    rw [if_neg (fun q => by have := (nI_le0 (by simp; omega)).mp q; simp at this), q_bseat h hw hl, show (0 : Int32) = nI 0 from rfl, k_at h hw (n := 6) hl1 hk1 (by decide), bnd_one, b4 0 t rfl, q_ck h hw, s_ofSort h hw hr.2.2.2.1 wf.1.2.1 (v := 1) 1 (w4 t List.mem_cons_self) (by decide) rfl, bnd_one]
    rfl
theorem c_head9 (h : LAY b M) (hw : w < 7) (hr : WRel M S r) (wf : WF S) {x q : Nat} (hx : x < sn S 4) : f_X9_heading N q (wA b w 0) (wA b w (lb x)) (SW b M w r) = some (nI (if (sB S x).1 + 1 < sn S 0 then (sB S x).1 + 1 else 0), SW b M w r) := by
  have hl := lb_cases (Nat.lt_of_lt_of_le hx wf.1.2.2.2.2.1.2)
  have hL := wf.1.1
  have w1 := (wf.2.1 x hx).1
  obtain ⟨b1, b2, b3, b4, b5⟩ := hr.2.2.2.2.1 x hx
  unfold f_X9_heading
  rw [q_bgI h hw hl, q_gI h hw, b1, hr.1.1, nI_1]
  by_cases hc : (sB S x).1 + 1 < sn S 0
  · rw [if_neg (nI_ge hc (by omega)), q_bgI h hw hl, b1, nI_1, if_pos hc]
  · rw [if_pos (nI_le (by omega) (by omega)), if_neg hc]; rfl
theorem c_head8 (h : LAY b M) (hw : w < 7) (hr : WRel M S r) (wf : WF S) {q kd fg p : Nat} (hq : isRl M q kd fg) : f_X8_heading N q (wA b w 0) p (SW b M w r) = some (nI (fg % sn S 0), SW b M w r) := by
  have hL := wf.1.1
  have hfg := hq.2.2.2
  unfold f_X8_heading
  rw [q_gI h hw, hr.1.1, if_neg (fun q => by have := (nI_le0 (by omega)).mp q; omega), q_gF h hw hq, q_gI h hw, hr.1.1]
  rw [irm_of (fun q => by have := (nI_z (by omega)).mp q; omega), pk_rem (by omega) (by omega) (by omega)]
theorem c_turn (h : LAY b M) (hw : w < 7) (hr : WRel M S r) (wf : WF S) {x q kd fg : Nat} (hx : x < sn S 4) (hq : isRl M q kd fg) (hk : kd = 1 ∨ kd = 6) : f_X9_choose N q (wA b w 0) (wA b w (lb x)) (SW b M w r) = some (oI (if sn S 3 % (fg + 1) = 0 then some (if kd = 1 then (if (sB S x).1 + 1 < sn S 0 then (sB S x).1 + 1 else 0) else fg % sn S 0) else none), SW b M w r) := by
  have hfg := hq.2.2.2
  have hmn := wf.1.2.2.2.1
  have h1 := rule_SW (r := r) h hw hq
  unfold f_X9_choose
  rw [q_gF h hw hq, nI_1, if_neg (fun q => by have := (nI_le0 (by omega)).mp q; omega), q_gI h hw, hr.1.2.2.2.1]
  rw [irm_of (fun q => by have := (nI_z (by omega)).mp q; omega), pk_rem (by omega) (by omega) (by omega)]
  by_cases hc : sn S 3 % (fg + 1) = 0
  · rw [if_pos ((nI_z (by omega)).mpr hc), if_pos hc]
    unfold d_Turn_heading
    rcases hk with rfl | rfl
    · rw [if_pos (by rw [h1.1]; rfl), c_head9 h hw hr wf hx]; rfl
    · rw [if_neg (by rw [h1.1]; decide), if_pos (by rw [h1.1]; rfl), c_head8 h hw hr wf hq]; rfl
  · rw [if_neg (fun q => hc ((nI_z (by have := Nat.mod_lt (sn S 3) (show 0 < fg + 1 by omega); omega)).mp q)), if_neg hc]; rfl
theorem s_busy (h : LAY b M) (hw : w < 7) (hr : WRel M S r) (wf : WF S) {x : Nat} (hx : x < sn S 4) :
    ∀ (k l m : Nat) (best : Option Nat) (fu : Nat), k + l = sn S 0 → k + 1 ≤ fu → m < 1000 → l_X2_calling_11 N fu (wA b w 0) (wA b w (lb x)) (oI best) (nI m - 1) (nI l) (SW b M w r) = some (oI (argm (fun l => some (sQ S l).length) (sB S x).1 k l m best), SW b M w r) := by
  have hl := lb_cases (Nat.lt_of_lt_of_le hx wf.1.2.2.2.2.1.2)
  have hL := wf.1.1
  have w1 := (wf.2.1 x hx).1
  obtain ⟨b1, b2, b3, b4, b5⟩ := hr.2.2.2.2.1 x hx
  intro k
  induction k with
  | zero =>
    intro l m best fu hk hf hm
    obtain ⟨fu, rfl, -⟩ := fuel_s hf
    show b_X2_calling_11 N (l_X2_calling_11 N fu) _ _ _ _ _ _ = _
    unfold b_X2_calling_11
    rw [q_gI h hw, hr.1.1, if_pos (nI_le (by omega) (by omega))]
    rfl
  | succ k ih =>
    intro l m best fu hk hf hm
    obtain ⟨fu, rfl, hf2⟩ := fuel_s hf
    show b_X2_calling_11 N (l_X2_calling_11 N fu) _ _ _ _ _ _ = _
    unfold b_X2_calling_11
    have hq := WF_q12 wf l
    rw [q_gI h hw, hr.1.1, if_neg (nI_ge (by omega) (by omega)), q_bgI h hw hl, b1]
    unfold argm
    by_cases hp : l = (sB S x).1
    · rw [if_pos (by rw [hp]), if_pos hp, nI_1]
      exact ih (l + 1) m best fu (by omega) (by omega) hm
    · rw [if_neg (fun q => hp ((nI_eq (by omega) (by omega)).mp q)), if_neg hp, q_ck h hw, k_standingAt h hw hr (by omega), bnd_one]
      by_cases hc : m ≤ (sQ S l).length
      · rw [if_neg (fun q => by have := (le_pred (by omega) (by omega)).mp q; omega), q_ck h hw, k_standingAt h hw hr (by omega), bnd_one, nI_1]
        have := ih (l + 1) ((sQ S l).length + 1) (some l) fu (by omega) (by omega) (by omega)
        rw [nI_pred] at this
        simp only [if_pos hc]
        exact this
      · rw [if_pos ((le_pred (by omega) (by omega)).mpr (by omega)), nI_1]
        simp only [if_neg hc]
        exact ih (l + 1) m best fu (by omega) (by omega) hm
theorem c_busy (h : LAY b M) (hw : w < 7) (hr : WRel M S r) (wf : WF S) {x q kd : Nat} (hx : x < sn S 4) (hq : isRl M q kd (sK S x).2) (hN : 10 ≤ N) : f_X2_calling N q (wA b w 0) (wA b w (lb x)) (SW b M w r) = some (oI (busyS S x), SW b M w r) := by
  have hfg := hq.2.2.2
  unfold f_X2_calling busyS
  rw [q_gF h hw hq]
  have := s_busy (N := N) h hw hr wf hx (sn S 0) 0 ((sK S x).2 + 1) none N (by omega) (by have := wf.1.1; omega) (by omega)
  rw [nI_pred] at this
  exact this
theorem since_at (hr : WRel M S r) (wf : WF S) {l : Nat} {p : Nat × Nat} {j : Nat} (hl : l < 4) (hj : (sQ S l)[j]? = some p) : r.1 0 6 + rd 25 (r.1 2) (rd 48 (r.1 10) (nI l * 12 + nI j) * 5 + 3) - rd 48 (r.1 11) (nI l * 12 + nI j) = nI (since S p) := by
  have hq := WF_q12 wf l
  have hjl := gE hj
  obtain ⟨f1, f2⟩ := (hr.2.2.2.2.2 l hl).2 j p hj
  obtain ⟨g1, g2, g3, g4⟩ := (wf.2.2 l).2.2.1 p (List.mem_of_getElem? hj)
  have hmn := wf.1.2.2.2.1
  have h5 := wf.1.2.1
  rw [nIm12, nI_add, rd_nI (by omega) (by decide), rd_nI (by omega) (by decide), f1, f2, nIm5, show (3 : Int32) = nI 3 from rfl, nI_add, rd_nI (by omega) (by decide), hr.2.2.2.1 _ 3 g1 (by decide), hr.1.2.2.2.1, nI_add, pk_sub (by omega)]
  unfold since
  congr 1
  omega
theorem s_long (h : LAY b M) (hw : w < 7) (hr : WRel M S r) (wf : WF S) {x : Nat} (hx : x < sn S 4) :
    ∀ (k l m : Nat) (best : Option Nat) (fu : Nat), k + l = sn S 0 → k + 1 ≤ fu → m < 10000 → l_X4_calling_13 N fu (wA b w 0) (wA b w (lb x)) (oI best) (nI m - 1) (nI l) (SW b M w r) = some (oI (argm (fun l => (sQ S l).head?.map (since S)) (sB S x).1 k l m best), SW b M w r) := by
  have hl := lb_cases (Nat.lt_of_lt_of_le hx wf.1.2.2.2.2.1.2)
  have hL := wf.1.1
  have hmn := wf.1.2.2.2.1
  have w1 := (wf.2.1 x hx).1
  obtain ⟨b1, b2, b3, b4, b5⟩ := hr.2.2.2.2.1 x hx
  intro k
  induction k with
  | zero =>
    intro l m best fu hk hf hm
    obtain ⟨fu, rfl, -⟩ := fuel_s hf
    show b_X4_calling_13 N (l_X4_calling_13 N fu) _ _ _ _ _ _ = _
    unfold b_X4_calling_13
    rw [q_gI h hw, hr.1.1, if_pos (nI_le (by omega) (by omega))]
    rfl
  | succ k ih =>
    intro l m best fu hk hf hm
    obtain ⟨fu, rfl, hf2⟩ := fuel_s hf
    show b_X4_calling_13 N (l_X4_calling_13 N fu) _ _ _ _ _ _ = _
    unfold b_X4_calling_13
    have hq := WF_q12 wf l
    rw [q_gI h hw, hr.1.1, if_neg (nI_ge (by omega) (by omega)), q_bgI h hw hl, b1]
    unfold argm
    by_cases hp : l = (sB S x).1
    · rw [if_pos (by rw [hp]), if_pos hp, nI_1]
      exact ih (l + 1) m best fu (by omega) (by omega) hm
    · rw [if_neg (fun q => hp ((nI_eq (by omega) (by omega)).mp q)), if_neg hp, q_ck h hw, k_standingAt h hw hr (by omega), bnd_one]
      cases hQ : sQ S l with
      | nil =>
        rw [if_pos (show nI ([] : List (Nat × Nat)).length ≤ 0 by decide), nI_1]
        exact ih (l + 1) m best fu (by omega) (by omega) hm
      | cons p rest =>
        have hp0 : (sQ S l)[0]? = some p := by rw [hQ]; rfl
        have hsl := since_at hr wf (l := l) (j := 0) (by omega) hp0
        have hsl2 : since S p < 10000 := by unfold since; omega
        rw [show nI 0 = 0 from rfl] at hsl
        rw [hQ] at hq
        rw [if_neg (fun q => by have := (nI_le0 (by omega)).mp q; simp at this), q_ck h hw, e_sinceStands h hw, hsl, bnd_one]
        show _ = some (oI (if m ≤ since S p then _ else _), _)
        by_cases hc : m ≤ since S p
        · rw [if_neg (fun q => by have := (le_pred (by omega) (by omega)).mp q; omega), q_ck h hw, e_sinceStands h hw, hsl, bnd_one, nI_1]
          simp only [if_pos hc]
          rcases Nat.lt_or_ge (since S p + 1) 10000 with hlt | hge
          · have := ih (l + 1) (since S p + 1) (some l) fu (by omega) (by omega) hlt
            rw [nI_pred] at this
            exact this
          · exfalso; unfold since at hge; omega
        · rw [if_pos ((le_pred (by omega) (by omega)).mpr (by omega)), nI_1]
          simp only [if_neg hc]
          exact ih (l + 1) m best fu (by omega) (by omega) hm
theorem c_long (h : LAY b M) (hw : w < 7) (hr : WRel M S r) (wf : WF S) {x q kd : Nat} (hx : x < sn S 4) (hq : isRl M q kd (sK S x).2) (hN : 10 ≤ N) : f_X4_calling N q (wA b w 0) (wA b w (lb x)) (SW b M w r) = some (oI (longS S x), SW b M w r) := by
  have hfg := hq.2.2.2
  unfold f_X4_calling longS
  rw [q_gF h hw hq]
  exact s_long (N := N) h hw hr wf hx (sn S 0) 0 (sK S x).2 none N (by omega) (by have := wf.1.1; omega) (by omega)
theorem s_bound (h : LAY b M) (hw : w < 7) (hr : WRel M S r) (wf : WF S) {x l : Nat} (hx : x < sn S 4) (hl4 : l < 4) :
    ∀ (rest : List Nat) (i n : Nat) (fu : Nat), i + rest.length = (sB S x).2.2.length → (∀ j t, rest[j]? = some t → (sB S x).2.2[i + j]? = some t) → rest.length + 1 ≤ fu → l_X0_boundFor_5 N fu (wA b w 0) (wA b w (lb x)) (nI l) (nI n) (nI i) (SW b M w r) = some (nI (n + (rest.filter (fun t => decide (sf S t 1 = l))).length), SW b M w r) := by
  have h2 := wf.1.2.2.2.2.1.2
  have hl := lb_cases (Nat.lt_of_lt_of_le hx h2)
  have hl1 : lb x + 1 ∈ oks := by rcases hl with e | e <;> rw [e] <;> decide
  have hk1 : kW (lb x + 1) = (1, 6) := by rcases hl with e | e <;> rw [e] <;> rfl
  obtain ⟨w1, w2, w3, w4, w5, w6, w7⟩ := wf.2.1 x hx
  obtain ⟨b1, b2, b3, b4, b5⟩ := hr.2.2.2.2.1 x hx
  have h6 := wf.1.2.2.1
  have hL := wf.1.1
  intro rest
  induction rest with
  | nil =>
    intro i n fu hi hr2 hf
    obtain ⟨fu, rfl, -⟩ := fuel_s hf
    show b_X0_boundFor_5 N (l_X0_boundFor_5 N fu) _ _ _ _ _ _ = _
    unfold b_X0_boundFor_5
    simp at hi
    rw [q_bgI h hw hl, b3, if_pos (nI_le (by omega) (by omega))]
    rfl
  | cons t rest ih =>
    intro i n fu hi hr2 hf
    simp only [List.length_cons] at hi hf
    obtain ⟨fu, rfl, hf2⟩ := fuel_s hf
    show b_X0_boundFor_5 N (l_X0_boundFor_5 N fu) _ _ _ _ _ _ = _
    unfold b_X0_boundFor_5
    have ht := hr2 0 t rfl
    rw [Nat.add_zero] at ht
    have htn := w4 t (List.mem_of_getElem? ht)
    have hto := (wf.1.2.2.2.2.2.1 t htn).2.1
    rw [q_bgI h hw hl, b3, if_neg (nI_ge (by omega) (by omega)), q_bseat h hw hl, k_at h hw (n := 6) hl1 hk1 (by omega), bnd_one, b4 i t ht, q_ck h hw, s_ofSort h hw hr.2.2.2.1 wf.1.2.1 (v := 1) 1 htn (by decide) rfl, bnd_one, nI_1, nI_1]
    have hnext : ∀ j t', rest[j]? = some t' → (sB S x).2.2[i + 1 + j]? = some t' := fun j t' hj => by have := hr2 (j + 1) t' hj; rwa [show i + (j + 1) = i + 1 + j by omega] at this
    by_cases hc : sf S t 1 = l
    · rw [if_pos (by rw [hc]), ih (i + 1) (n + 1) fu (by omega) hnext (by omega)]
      simp [hc]
      congr 1
      omega
    · rw [if_neg (fun q => hc ((nI_eq (by omega) (by omega)).mp q)), ih (i + 1) n fu (by omega) hnext (by omega)]
      simp [hc]
theorem c_bound (h : LAY b M) (hw : w < 7) (hr : WRel M S r) (wf : WF S) {x l : Nat} (hx : x < sn S 4) (hl4 : l < 4) (hN : 10 ≤ N) : f_X0_boundFor N (wA b w 0) (wA b w (lb x)) (nI l) (SW b M w r) = some (nI (bound S x l), SW b M w r) := by
  have h6 := wf.1.2.2.1
  have w3 := (wf.2.1 x hx).2.2.1
  unfold f_X0_boundFor bound
  have := s_bound (N := N) h hw hr wf hx hl4 (sB S x).2.2 0 0 N (by omega) (fun j t hj => by rw [Nat.zero_add]; exact hj) (by omega)
  rw [Nat.zero_add] at this
  exact this
theorem s_most (h : LAY b M) (hw : w < 7) (hr : WRel M S r) (wf : WF S) {x : Nat} (hx : x < sn S 4) (hN : 10 ≤ N) :
    ∀ (k l m : Nat) (best : Option Nat) (fu : Nat), k + l = sn S 0 → k + 1 ≤ fu → m < 1000 → l_X0_choose_22 N fu (wA b w 0) (wA b w (lb x)) (oI best) (nI m - 1) (nI l) (SW b M w r) = some (oI (argm (fun l => some (bound S x l)) 9 k l m best), SW b M w r) := by
  have hL := wf.1.1
  have h6 := wf.1.2.2.1
  have w3 := (wf.2.1 x hx).2.2.1
  intro k
  induction k with
  | zero =>
    intro l m best fu hk hf hm
    obtain ⟨fu, rfl, -⟩ := fuel_s hf
    show b_X0_choose_22 N (l_X0_choose_22 N fu) _ _ _ _ _ _ = _
    unfold b_X0_choose_22
    rw [q_gI h hw, hr.1.1, if_pos (nI_le (by omega) (by omega))]
    rfl
  | succ k ih =>
    intro l m best fu hk hf hm
    obtain ⟨fu, rfl, hf2⟩ := fuel_s hf
    show b_X0_choose_22 N (l_X0_choose_22 N fu) _ _ _ _ _ _ = _
    unfold b_X0_choose_22
    have hbd : bound S x l ≤ 6 := by
      have : bound S x l ≤ (sB S x).2.2.length := List.length_filter_le _ _
      omega
    rw [q_gI h hw, hr.1.1, if_neg (nI_ge (by omega) (by omega)), c_bound h hw hr wf hx (by omega) hN, bnd_one]
    unfold argm
    rw [if_neg (show ¬ l = 9 by omega)]
    by_cases hc : m ≤ bound S x l
    · rw [if_neg (fun q => by have := (le_pred (by omega) (by omega)).mp q; omega), nI_1]
      have := ih (l + 1) (bound S x l + 1) (some l) fu (by omega) (by omega) (by omega)
      rw [nI_pred] at this
      simp only [if_pos hc]
      exact this
    · rw [if_pos ((le_pred (by omega) (by omega)).mpr (by omega)), nI_1]
      simp only [if_neg hc]
      exact ih (l + 1) m best fu (by omega) (by omega) hm
theorem s_canCome (h : LAY b M) (hw : w < 7) (hr : WRel M S r) (wf : WF S) {l : Nat} (hl4 : l < 4) :
    ∀ (k t : Nat) (fu : Nat), k + t = sn S 1 → k + 1 ≤ fu → l_X10_canComeTo_2 N fu (wA b w 0) (nI l) (nI t) (SW b M w r) = some (b32 (canN S l k t = true), SW b M w r) := by
  have h5 := wf.1.2.1
  intro k
  induction k with
  | zero =>
    intro t fu hk hf
    obtain ⟨fu, rfl, -⟩ := fuel_s hf
    show b_X10_canComeTo_2 N (l_X10_canComeTo_2 N fu) _ _ _ _ = _
    unfold b_X10_canComeTo_2
    rw [q_gI h hw, hr.1.2.1, if_pos (nI_le (by omega) (by omega))]
    rfl
  | succ k ih =>
    intro t fu hk hf
    obtain ⟨fu, rfl, hf2⟩ := fuel_s hf
    have ht : t < sn S 1 := by omega
    have hft := wf.1.2.2.2.2.2.1 t ht
    have hL := wf.1.1
    show b_X10_canComeTo_2 N (l_X10_canComeTo_2 N fu) _ _ _ _ = _
    unfold b_X10_canComeTo_2
    rw [q_gI h hw, hr.1.2.1, if_neg (nI_ge (by omega) (by omega)), q_ck h hw, s_ofSort h hw hr.2.2.2.1 h5 (v := 0) 0 ht (by decide) rfl, bnd_one, nI_1]
    by_cases hc : sf S t 0 = l
    · rw [if_pos (by rw [hc]), q_ck h hw, s_ofSort h hw hr.2.2.2.1 h5 (v := 2) 2 ht (by decide) rfl, bnd_one]
      by_cases hd : 0 < sf S t 2
      · rw [if_neg (fun q => by have := (nI_le0 (by omega)).mp q; omega)]
        simp [canN, hc, hd, b32]
      · rw [if_pos ((nI_le0 (by omega)).mpr (by omega)), ih (t + 1) fu (by omega) (by omega)]
        simp [canN, hd, b32]
    · rw [if_neg (fun q => hc ((nI_eq (by omega) (by omega)).mp q)), ih (t + 1) fu (by omega) (by omega)]
      simp [canN, hc, b32]
theorem c_canCome (h : LAY b M) (hw : w < 7) (hr : WRel M S r) (wf : WF S) {l : Nat} (hl4 : l < 4) (hN : 10 ≤ N) : f_X10_canComeTo N (wA b w 0) (nI l) (SW b M w r) = some (b32 (canCome S l = true), SW b M w r) := by
  unfold f_X10_canComeTo canCome
  exact s_canCome (N := N) h hw hr wf hl4 (sn S 1) 0 N (by omega) (by have := wf.1.2.1; omega)
theorem c_full (h : LAY b M) (hw : w < 7) (hr : WRel M S r) (wf : WF S) {x q kd : Nat} (hx : x < sn S 4) (hq : isRl M q kd (sK S x).2) (hN : 10 ≤ N) : f_X3_choose N q (wA b w 0) (wA b w (lb x)) (SW b M w r) = some (oI (if (sK S x).2 < (sB S x).2.2.length ∨ sn S 2 ≤ (sB S x).2.2.length ∨ canCome S (sB S x).1 = false then firstTo S x else none), SW b M w r) := by
  have h2 := wf.1.2.2.2.2.1.2
  have hl := lb_cases (Nat.lt_of_lt_of_le hx h2)
  obtain ⟨w1, w2, w3, w4, w5, w6, w7⟩ := wf.2.1 x hx
  obtain ⟨b1, b2, b3, b4, b5⟩ := hr.2.2.2.2.1 x hx
  have h6 := wf.1.2.2.1
  have hL := wf.1.1
  have hgo : j_X3_choose_33 N q (wA b w 0) (wA b w (lb x)) (SW b M w r) = some (oI (firstTo S x), SW b M w r) := by
    unfold j_X3_choose_33 j_X3_choose_38
    rw [if_neg (by decide), q_rule h hw hq, c_first h hw hr wf hx]; rfl
  have hno : j_X3_choose_38 N q (wA b w 0) (wA b w (lb x)) (0 : Int32) (SW b M w r) = some (oI none, SW b M w r) := by
    unfold j_X3_choose_38
    rw [if_pos rfl]; rfl
  unfold f_X3_choose
  rw [q_bgI h hw hl, q_gF h hw hq, b3]
  by_cases c1 : (sK S x).2 < (sB S x).2.2.length
  · rw [if_pos ((nI_ltI (by omega) (by omega)).mpr c1), hgo, if_pos (Or.inl c1)]
  · rw [if_neg (fun q => c1 ((nI_ltI (by omega) (by omega)).mp q)), q_bgI h hw hl, q_gI h hw, b3, hr.1.2.2.1]
    by_cases c2 : sn S 2 ≤ (sB S x).2.2.length
    · rw [if_pos (nI_le c2 (by omega)), hgo, if_pos (Or.inr (Or.inl c2))]
    · rw [if_neg (nI_ge (by omega) (by omega)), q_bgI h hw hl, b1, q_ck h hw, c_canCome h hw hr wf (by omega) hN, bnd_one, b32_if]
      by_cases c3 : canCome S (sB S x).1 = true
      · rw [if_pos c3, hno, if_neg]
        rintro (e | e | e)
        · exact c1 e
        · exact c2 e
        · rw [c3] at e; cases e
      · rw [if_neg c3, hgo, if_pos (Or.inr (Or.inr (by simpa using c3)))]
/-- what a rule tells: the class' rules and the plain words -/
theorem c_choose (h : LAY b M) (hw : w < 7) (hr : WRel M S r) (wf : WF S) {x q : Nat} (hx : x < sn S 4) (hq : isRl M q (sK S x).1 (sK S x).2) (hN : 10 ≤ N) : d_Rule_choose N q (wA b w 0) (wA b w (lb x)) (SW b M w r) = some (oI (chooseS S x), SW b M w r) := by
  have h2 := wf.1.2.2.2.2.1.2
  have hl := lb_cases (Nat.lt_of_lt_of_le hx h2)
  obtain ⟨w1, w2, w3, w4, w5, w6, w7⟩ := wf.2.1 x hx
  obtain ⟨b1, b2, b3, b4, b5⟩ := hr.2.2.2.2.1 x hx
  have h6 := wf.1.2.2.1
  have h1 := rule_SW (r := r) h hw hq
  have hlen : (sB S x).2.2.length < 2 ^ 31 := by omega
  have hlie : ∀ (kd : Nat) (best : Option Nat), isRl M q kd (sK S x).2 → (kd = 2 ∨ kd = 3) → f_X4_choose N q (wA b w 0) (wA b w (lb x)) (SW b M w r) = some (oI (if (sB S x).2.2 = [] then (if kd = 2 then longS S x else busyS S x) else firstTo S x), SW b M w r) := by
    intro kd best hq hk
    have h1 := rule_SW (r := r) h hw hq
    unfold f_X4_choose
    rw [q_bgI h hw hl, b3]
    by_cases hab : (sB S x).2.2 = []
    · rw [if_pos (by rw [hab]; exact nI_le (by simp) (by decide)), if_pos hab]
      unfold d_Lie_calling
      rcases hk with rfl | rfl
      · rw [if_pos (by rw [h1.1]; rfl), c_long h hw hr wf hx hq hN]; rfl
      · rw [if_neg (by rw [h1.1]; decide), if_neg (by rw [h1.1]; decide), if_pos (by rw [h1.1]; rfl), c_busy h hw hr wf hx hq hN]; rfl
    · rw [if_neg (fun q => hab (List.length_eq_zero_iff.mp ((nI_le0 hlen).mp q))), if_neg hab, q_rule h hw hq, c_first h hw hr wf hx]; rfl
  generalize hkd : (sK S x).1 = kd at hq w6 h1
  unfold d_Rule_choose chooseS
  rw [hkd]
  match kd, w6 with
  | 0, _ =>
    rw [if_pos (by rw [h1.1]; rfl), c_first h hw hr wf hx]
    rfl
  | 1, _ =>
    rw [if_neg (by rw [h1.1]; decide), if_neg (by rw [h1.1]; decide), if_neg (by rw [h1.1]; decide), if_neg (by rw [h1.1]; decide), if_neg (by rw [h1.1]; decide), if_neg (by rw [h1.1]; decide), if_pos (by rw [h1.1]; rfl), c_turn h hw hr wf hx hq (Or.inl rfl)]
    simp only [isT, decide_eq_true_eq, if_true]
  | 2, _ =>
    rw [if_neg (by rw [h1.1]; decide), if_neg (by rw [h1.1]; decide), if_neg (by rw [h1.1]; decide), if_neg (by rw [h1.1]; decide), if_pos (by rw [h1.1]; rfl), hlie 2 none hq (Or.inl rfl)]
    rfl
  | 3, _ =>
    rw [if_neg (by rw [h1.1]; decide), if_neg (by rw [h1.1]; decide), if_pos (by rw [h1.1]; rfl), hlie 3 none hq (Or.inr rfl)]
    rfl
  | 4, _ =>
    rw [if_neg (by rw [h1.1]; decide), if_neg (by rw [h1.1]; decide), if_neg (by rw [h1.1]; decide), if_pos (by rw [h1.1]; rfl), c_full h hw hr wf hx hq hN]
    rfl
  | 5, _ =>
    rw [if_neg (by rw [h1.1]; decide), if_pos (by rw [h1.1]; rfl)]
    unfold f_X0_choose
    rw [q_bgI h hw hl, b3]
    by_cases hab : (sB S x).2.2 = []
    · rw [if_pos (by rw [hab]; rfl)]
      unfold d_Best_calling
      rw [if_pos (by rw [h1.1]; rfl), c_busy h hw hr wf hx hq hN, bnd_one]
      simp only [if_pos hab]
    · rw [if_neg (fun q => hab (List.length_eq_zero_iff.mp ((nI_z hlen).mp q)))]
      have := s_most (N := N) h hw hr wf hx hN (sn S 0) 0 1 none N (by omega) (by have := wf.1.1; omega) (by decide)
      rw [show nI 1 - 1 = 0 from rfl] at this
      show l_X0_choose_22 N N _ _ (-1) 0 0 _ = _
      simp only [if_neg hab]
      exact this
  | 6, _ =>
    rw [if_neg (by rw [h1.1]; decide), if_neg (by rw [h1.1]; decide), if_neg (by rw [h1.1]; decide), if_neg (by rw [h1.1]; decide), if_neg (by rw [h1.1]; decide), if_pos (by rw [h1.1]; rfl), c_turn h hw hr wf hx hq (Or.inr rfl)]
    simp only [isT, decide_eq_true_eq]
    rfl
end CHOOSE
