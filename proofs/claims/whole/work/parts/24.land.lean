/-! Landing and boarding: the class' boats. -/
theorem fuel_s {m n : Nat} (h : n + 1 ≤ m) : ∃ k, m = k + 1 ∧ n ≤ k := ⟨m - 1, by omega, by omega⟩
section LAND
variable {b : Nat} {M : Mm} {w : Nat} {N : Nat} {S : SP}
/-- the sorts' rows of a record -/
def SRel (S : SP) (r : WR) : Prop := ∀ t k, t < sn S 1 → k < 5 → r.1 2 (t * 5 + k) = nI (sf S t k)
theorem s_ofSort {r : WR} (h : LAY b M) (hw : w < 7) (hs : SRel S r) (h5 : sn S 1 ≤ 5) {t : Nat} (k : Nat) {v : Int32} (ht : t < sn S 1) (hk : k < 5) (hv : v = nI k) : f_X10_ofSort N (wA b w 0) (nI t) v (SW b M w r) = some (nI (sf S t k), SW b M w r) := by
  subst hv
  rw [e_ofSort h hw, nIm5, nI_add, rd_nI (by omega) (by decide), hs t k ht hk]
theorem s_sail (h : LAY b M) (hw : w < 7) (h5 : sn S 1 ≤ 5) (hto : ∀ t, t < sn S 1 → sf S t 1 < 4) {l p : Nat} (hl : l = 3 ∨ l = 6) (hp : p < 4) :
    ∀ (rest kp : List Nat) (i m : Nat) (r : WR), rest.length + 1 ≤ m → i + rest.length ≤ 6 → kp.length ≤ i → (∀ t ∈ rest, t < sn S 1) → SRel S r → r.1 l 0 = nI p → r.1 l 2 = nI (i + rest.length) → (∀ j t, kp[j]? = some t → r.1 (l + 1) j = nI t) → (∀ j t, rest[j]? = some t → r.1 (l + 1) (i + j) = nI t) →
    ∃ r', l_X10_sail_30 N m (wA b w 0) (wA b w l) (nI kp.length) (nI i) (SW b M w r) = some ((), SW b M w r') ∧ (∀ q, q ≠ 0 → q ≠ l → q ≠ l + 1 → r'.1 q = r.1 q) ∧ (∀ k, k ≠ 15 → k ≠ 16 → r'.1 0 k = r.1 0 k) ∧ (∀ k, k ≠ 2 → r'.1 l k = r.1 l k) ∧ r'.2 = r.2 ∧
      r'.1 0 15 = (paid S p rest (r.1 0 15, r.1 0 16)).1 ∧ r'.1 0 16 = (paid S p rest (r.1 0 15, r.1 0 16)).2 ∧ r'.1 l 2 = nI (kp ++ rest.filter (fun t => decide (sf S t 1 ≠ p))).length ∧ ∀ j t, (kp ++ rest.filter (fun t => decide (sf S t 1 ≠ p)))[j]? = some t → r'.1 (l + 1) j = nI t := by
  have hl1 : l + 1 ∈ oks := by rcases hl with rfl | rfl <;> decide
  have hk1 : kW (l + 1) = (1, 6) := by rcases hl with rfl | rfl <;> rfl
  have hl0 : l ≠ 0 := by rcases hl with rfl | rfl <;> decide
  have hl2 : l ≠ 2 ∧ l + 1 ≠ 2 := by rcases hl with rfl | rfl <;> decide
  intro rest
  induction rest with
  | nil =>
    intro kp i m r hm hi hkp hts hs h0 h2 hkpa hra
    obtain ⟨m, rfl, -⟩ := fuel_s hm
    show ∃ r', b_X10_sail_30 N (l_X10_sail_30 N m) _ _ _ _ _ = _ ∧ _
    unfold b_X10_sail_30
    rw [q_bgI h hw hl, h2, if_pos (nI_le (by simp) (by simp at hi ⊢; omega)), q_bpI h hw hl]
    refine ⟨_, rfl, fun q q0 q1 q2 => by funext j; simp [up2, q1], fun k k1 k2 => by simp [up2, Ne.symm hl0], fun k hk => by simp [up2, hk], rfl, by simp [up2, Ne.symm hl0, paid], by simp [up2, Ne.symm hl0, paid], by simp [up2], fun j t hj => ?_⟩
    simp at hj
    simp [up2]
    exact hkpa j t hj
  | cons t rest ih =>
    intro kp i m r hm hi hkp hts hs h0 h2 hkpa hra
    simp only [List.length_cons] at hm hi h2
    obtain ⟨m, rfl, hm2⟩ := fuel_s hm
    have ht := hts t List.mem_cons_self
    have ht4 := hto t ht
    show ∃ r', b_X10_sail_30 N (l_X10_sail_30 N m) _ _ _ _ _ = _ ∧ _
    unfold b_X10_sail_30
    rw [q_bgI h hw hl, h2, if_neg (nI_ge (by omega) (by omega)), q_bseat h hw hl, k_at h hw (n := 6) hl1 hk1 (by omega), bnd_one, show r.1 (l + 1) i = nI t from hra 0 t rfl, q_ck h hw, s_ofSort h hw hs h5 1 ht (by decide) (show (1 : Int32) = nI 1 from rfl), bnd_one, q_bgI h hw hl, h0]
    by_cases hto1 : sf S t 1 = p
    · rw [if_pos (by rw [hto1]), q_gI h hw, q_ck h hw, s_ofSort h hw hs h5 4 ht (by decide) (show (4 : Int32) = nI 4 from rfl), bnd_one, q_pI h hw, q_gI h hw, q_pI h hw, nI_1]
      obtain ⟨r', e1, e2, e3, e4, e5, e6, e7, e8, e9⟩ := ih kp (i + 1) m (up2 (up2 r.1 0 15 (r.1 0 15 + nI (sf S t 4))) 0 16 (up2 r.1 0 15 (r.1 0 15 + nI (sf S t 4)) 0 16 + 1), r.2) (by omega) (by omega) (by omega) (fun t' h' => hts t' (List.mem_cons_of_mem _ h')) (fun t' k h1 h2 => by simp [up2]; exact hs t' k h1 h2) (by simp [up2, hl0, h0]) (by simp [up2, hl0, h2]; congr 1; omega) (fun j t' hj => by simp [up2]; exact hkpa j t' hj) (fun j t' hj => by simp [up2]; have := hra (j + 1) t' hj; rwa [show i + (j + 1) = i + 1 + j by omega] at this)
      refine ⟨r', e1, fun q q0 q1 q2 => by rw [e2 q q0 q1 q2]; funext j; simp [up2, q0], fun k k1 k2 => by rw [e3 k k1 k2]; simp [up2, k1, k2], fun k hk => by rw [e4 k hk]; simp [up2, hl0], e5, ?_, ?_, ?_, ?_⟩
      · rw [e6]; simp [up2, paid, hto1]
      · rw [e7]; simp [up2, paid, hto1]
      · rw [e8]; simp [hto1]
      · intro j t' hj; apply e9; simpa [hto1] using hj
    · have hne : ¬ nI (sf S t 1) = nI p := fun e => hto1 ((nI_eq (by omega) (by omega)).mp e)
      rw [if_neg hne, q_bseat h hw hl, k_change h hw (n := 6) hl1 hk1 (by omega), bnd_one, nI_1, nI_1]
      have hlen : (kp ++ [t]).length = kp.length + 1 := by simp
      obtain ⟨r', e1, e2, e3, e4, e5, e6, e7, e8, e9⟩ := ih (kp ++ [t]) (i + 1) m (up2 r.1 (l + 1) kp.length (nI t), r.2) (by omega) (by omega) (by omega) (fun t' h' => hts t' (List.mem_cons_of_mem _ h')) (fun t' k h1 h2 => by simp [up2, Ne.symm hl2.2]; exact hs t' k h1 h2) (by simp [up2, h0]) (by simp [up2, h2]; congr 1; omega) (fun j t' hj => by
          rcases gpush hj with ⟨h1, h3⟩ | ⟨rfl, rfl⟩
          · have : ¬ j = kp.length := by omega
            simp [up2, this]; exact hkpa j t' h3
          · simp [up2]) (fun j t' hj => by
          have : ¬ i + 1 + j = kp.length := by omega
          simp [up2, this]
          have := hra (j + 1) t' hj
          rwa [show i + (j + 1) = i + 1 + j by omega] at this)
      rw [hlen] at e1
      refine ⟨r', e1, fun q q0 q1 q2 => by rw [e2 q q0 q1 q2]; funext j; simp [up2, q2], fun k k1 k2 => by rw [e3 k k1 k2]; simp [up2], fun k hk => by rw [e4 k hk]; simp [up2], e5, ?_, ?_, ?_, ?_⟩
      · rw [e6]; simp [up2, paid, hto1]
      · rw [e7]; simp [up2, paid, hto1]
      · rw [e8]; simp [hto1]
      · intro j t' hj; apply e9; simpa [hto1] using hj
/-- a world's record told by S, but for its sorts' rows: what doesn't change in a minute's step -/
theorem WRel_B {r r' : WR} {x : Nat} {v : Nat × Nat × List Nat} (hr : WRel M S r) (h2 : sn S 4 ≤ 2) (hx : x < sn S 4) (h0 : ∀ q, q ≠ 0 → q ≠ lb x → q ≠ lb x + 1 → r'.1 q = r.1 q) (h1 : ∀ k, k ≠ 15 → k ≠ 16 → r'.1 0 k = r.1 0 k) (hq : r'.2 = r.2) (hb : r'.1 (lb x) 0 = nI v.1 ∧ r'.1 (lb x) 1 = nI v.2.1 ∧ r'.1 (lb x) 2 = nI v.2.2.length ∧ ∀ j t, v.2.2[j]? = some t → r'.1 (lb x + 1) j = nI t) : WRel M (ssc (ssc (ssB S x v) 3 (r'.1 0 15)) 4 (r'.1 0 16)) r' := by
  have hl := lb_cases (Nat.lt_of_lt_of_le hx h2)
  obtain ⟨a1, a2, a3, a4, a5, a6⟩ := hr
  have e1 : r'.1 1 = r.1 1 := h0 1 (by decide) (by rcases hl with e | e <;> rw [e] <;> decide) (by rcases hl with e | e <;> rw [e] <;> decide)
  have e2 : r'.1 2 = r.1 2 := h0 2 (by decide) (by rcases hl with e | e <;> rw [e] <;> decide) (by rcases hl with e | e <;> rw [e] <;> decide)
  have e9 : r'.1 9 = r.1 9 := h0 9 (by decide) (by rcases hl with e | e <;> rw [e] <;> decide) (by rcases hl with e | e <;> rw [e] <;> decide)
  have e10 : r'.1 10 = r.1 10 := h0 10 (by decide) (by rcases hl with e | e <;> rw [e] <;> decide) (by rcases hl with e | e <;> rw [e] <;> decide)
  have e11 : r'.1 11 = r.1 11 := h0 11 (by decide) (by rcases hl with e | e <;> rw [e] <;> decide) (by rcases hl with e | e <;> rw [e] <;> decide)
  refine ⟨?_, ?_, ?_, ?_, ?_, ?_⟩
  · simp only [h1 0 (by decide) (by decide), h1 2 (by decide) (by decide), h1 4 (by decide) (by decide), h1 6 (by decide) (by decide), h1 9 (by decide) (by decide)]
    exact a1
  · simp only [h1 5 (by decide) (by decide), h1 13 (by decide) (by decide), h1 14 (by decide) (by decide)]
    exact ⟨a2.1, a2.2.1, a2.2.2.1, rfl, rfl⟩
  · rw [e1]; exact a3
  · rw [e2]; exact a4
  · intro y hy
    by_cases hxy : y = x
    · subst hxy
      have hB : sB (ssc (ssc (ssB S y v) 3 (r'.1 0 15)) 4 (r'.1 0 16)) y = v := upN_s _ _ _
      rw [hB]
      obtain ⟨-, -, -, -, q, hq1, hq2⟩ := a5 y hy
      exact ⟨hb.1, hb.2.1, hb.2.2.1, hb.2.2.2, q, by rw [hq]; exact hq1, hq2⟩
    · have hB : sB (ssc (ssc (ssB S x v) 3 (r'.1 0 15)) 4 (r'.1 0 16)) y = sB S y := upN_n _ _ hxy
      rw [hB]
      have hy2 : y < 2 := Nat.lt_of_lt_of_le hy h2
      have hne : lb y ≠ lb x ∧ lb y ≠ lb x + 1 ∧ lb y + 1 ≠ lb x ∧ lb y + 1 ≠ lb x + 1 ∧ lb y ≠ 0 ∧ lb y + 1 ≠ 0 := by unfold lb; omega
      exact BRel_of (a5 y hy) (h0 _ hne.2.2.2.2.1 hne.1 hne.2.1) (h0 _ hne.2.2.2.2.2 hne.2.2.1 hne.2.2.2.1) (by rw [hq])
  · intro l hl4
    obtain ⟨q1, q2⟩ := a6 l hl4
    refine ⟨by rw [e9]; exact q1, fun j p hp => ?_⟩
    rw [e10, e11]
    exact q2 j p hp
theorem k_sail {r : WR} (h : LAY b M) (hw : w < 7) (hr : WRel M S r) (wf : WF S) {x : Nat} (hx : x < sn S 4) (hN : 10 ≤ N) : ∃ r', f_X10_sail N (wA b w 0) (wA b w (lb x)) (SW b M w r) = some ((), SW b M w r') ∧ WRel M (landB S x) r' := by
  have h2 := wf.1.2.2.2.2.1.2
  have hl := lb_cases (Nat.lt_of_lt_of_le hx h2)
  have hL := wf.1.1
  obtain ⟨w1, w2, w3, w4, w5, w6, w7⟩ := wf.2.1 x hx
  obtain ⟨b1, b2, b3, b4, b5⟩ := hr.2.2.2.2.1 x hx
  have h6 := wf.1.2.2.1.2
  have hl0 : lb x ≠ 0 := by unfold lb; omega
  unfold f_X10_sail landB
  rw [q_bgI h hw hl, b2]
  by_cases hz : (sB S x).2.1 = 0
  · rw [if_pos ((nI_z (by omega)).mpr hz), if_pos hz]
    exact ⟨r, rfl, hr⟩
  · rw [if_neg (fun q => hz ((nI_z (by omega)).mp q)), if_neg hz, q_bgI h hw hl, q_bpI h hw hl, q_bgI h hw hl, b2, show (1 : Int32) = nI 1 from rfl, pk_sub (by omega)]
    rw [show ((up2 r.1 (lb x) 1 (nI ((sB S x).2.1 - 1)), r.2) : WR).1 (lb x) 1 = nI ((sB S x).2.1 - 1) by simp [up2]]
    by_cases h1 : (sB S x).2.1 = 1
    · rw [if_pos ((nI_le0 (by omega)).mpr (by omega)), if_neg (by simp [h1])]
      obtain ⟨r', e1, e2, e3, e4, e5, e6, e7, e8, e9⟩ := s_sail (N := N) h hw wf.1.2.1 (S := S) (fun t ht => by have := (wf.1.2.2.2.2.2.1 t ht).2.1; omega) hl (p := (sB S x).1) (by omega) (sB S x).2.2 [] 0 N (up2 r.1 (lb x) 1 (nI ((sB S x).2.1 - 1)), r.2) (by omega) (by omega) (by simp) w4 (fun t k ht hk => by
          have hn : lb x ≠ 2 := by unfold lb; omega
          simp [up2, Ne.symm hn]; exact hr.2.2.2.1 t k ht hk) (by simp [up2, b1]) (by simp [up2, b3]) (fun j t hj => by simp at hj) (fun j t hj => by simp [up2]; exact b4 j t hj)
      refine ⟨r', e1, ?_⟩
      have hk15 : up2 r.1 (lb x) 1 (nI ((sB S x).2.1 - 1)) 0 15 = sc S 3 := by simp [up2, Ne.symm hl0, hr.2.1]
      have hk16 : up2 r.1 (lb x) 1 (nI ((sB S x).2.1 - 1)) 0 16 = sc S 4 := by simp [up2, Ne.symm hl0, hr.2.1]
      dsimp only at e6 e7
      rw [hk15, hk16] at e6 e7
      rw [← e6, ← e7]
      refine WRel_B hr h2 hx (fun q q0 q1 q2 => by rw [e2 q q0 q1 q2]; funext j; simp [up2, q1]) (fun k k1 k2 => by rw [e3 k k1 k2]; simp [up2, Ne.symm hl0]) e5 ⟨?_, ?_, ?_, ?_⟩
      · rw [e4 0 (by decide)]; simp [up2, b1]
      · rw [e4 1 (by decide)]; simp [up2, h1]
      · simpa using e8
      · intro j t hj; exact e9 j t (by simpa using hj)
    · rw [if_neg (fun q => h1 (by have := (nI_le0 (by omega)).mp q; omega)), if_pos h1]
      refine ⟨_, rfl, ?_⟩
      have hW := WRel_B (v := ((sB S x).1, (sB S x).2.1 - 1, (sB S x).2.2)) (r' := (up2 r.1 (lb x) 1 (nI ((sB S x).2.1 - 1)), r.2)) hr h2 hx (fun q q0 q1 q2 => by funext j; simp [up2, q1]) (fun k k1 k2 => by simp [up2, Ne.symm hl0]) rfl ⟨by simp [up2, b1], by simp [up2], by simp [up2, b3], fun j t hj => by simp [up2]; exact b4 j t hj⟩
      have e15 : (up2 r.1 (lb x) 1 (nI ((sB S x).2.1 - 1))) 0 15 = sc S 3 := by simp [up2, Ne.symm hl0, hr.2.1]
      have e16 : (up2 r.1 (lb x) 1 (nI ((sB S x).2.1 - 1))) 0 16 = sc S 4 := by simp [up2, Ne.symm hl0, hr.2.1]
      dsimp only at hW
      rw [e15, e16] at hW
      have hid : ssc (ssc (ssB S x ((sB S x).1, (sB S x).2.1 - 1, (sB S x).2.2)) 3 (sc S 3)) 4 (sc S 4) = ssB S x ((sB S x).1, (sB S x).2.1 - 1, (sB S x).2.2) := by
        unfold ssc ssB
        congr 1
        congr 1
        funext j
        simp only [upN]
        split
        · subst_vars; rfl
        · split
          · subst_vars; rfl
          · rfl
      rw [hid] at hW
      exact hW
end LAND
