/-! What holds of a river's state goes on holding. -/
section WFP
variable {S : SP}
theorem WF_ssc (h : WF S) (k : Nat) (v : Int32) : WF (ssc S k v) := h
theorem WF_ssQ (h : WF S) {l : Nat} {v : List (Nat × Nat)} (h1 : v.length ≤ 12) (h2 : sn S 0 ≤ l → v = []) (h3 : ∀ p ∈ v, p.1 < sn S 1 ∧ sf S p.1 0 = l ∧ p.2 ≤ sn S 3 ∧ sn S 3 < p.2 + sf S p.1 3) (h4 : v.Pairwise (fun p q => p.2 ≤ q.2)) : WF (ssQ S l v) := by
  refine ⟨h.1, h.2.1, fun l' => ?_⟩
  by_cases hl : l' = l
  · subst hl
    have hQ : sQ (ssQ S l' v) l' = v := upN_s _ _ _
    unfold WFQ
    rw [hQ]
    exact ⟨h1, h2, h3, h4⟩
  · have hQ : sQ (ssQ S l v) l' = sQ S l' := upN_n _ _ hl
    unfold WFQ
    rw [hQ]
    exact h.2.2 l'
theorem WF_ssB (h : WF S) {x : Nat} {v : Nat × Nat × List Nat} (h1 : v.1 < sn S 0) (h2 : v.2.1 ≤ 9) (h3 : v.2.2.length ≤ sn S 2) (h4 : ∀ t ∈ v.2.2, t < sn S 1) (h5 : v.2.1 = 0 → ∀ t ∈ v.2.2, sf S t 1 ≠ v.1) : WF (ssB S x v) := by
  refine ⟨h.1, fun y hy => ?_, h.2.2⟩
  obtain ⟨a1, a2, a3, a4, a5, a6, a7⟩ := h.2.1 y hy
  by_cases hxy : y = x
  · subst hxy
    have hB : sB (ssB S y v) y = v := upN_s _ _ _
    unfold WFB
    rw [hB]
    exact ⟨h1, h2, h3, h4, h5, a6, a7⟩
  · have hB : sB (ssB S x v) y = sB S y := upN_n _ _ hxy
    unfold WFB
    rw [hB]
    exact ⟨a1, a2, a3, a4, a5, a6, a7⟩
theorem WF_comeQ (h : WF S) {t : Nat} (ht : t < sn S 1) : WF (comeQ S t) := by
  unfold comeQ
  split
  · rename_i hlt
    obtain ⟨s1, s2, s3, s4, s5, s6⟩ := h.1.2.2.2.2.2.1 t ht
    obtain ⟨q1, q2, q3, q4⟩ := h.2.2 (sf S t 0)
    refine WF_ssQ h (by simp; omega) (fun hh => by omega) (fun p hp => ?_) ?_
    · rcases List.mem_append.mp hp with hp | hp
      · exact q3 p hp
      · rw [List.mem_singleton.mp hp]
        exact ⟨ht, rfl, Nat.le_refl _, by show sn S 3 < sn S 3 + sf S t 3; omega⟩
    · rw [List.pairwise_append]
      refine ⟨q4, List.pairwise_singleton _ _, fun p hp q hq => ?_⟩
      rw [List.mem_singleton.mp hq]
      exact (q3 p hp).2.2.1
  · exact WF_ssc h _ _
theorem WF_come1 (h : WF S) {t : Nat} (ht : t < sn S 1) : WF (come1 S t) := by
  unfold come1
  split
  · exact WF_ssc h _ _
  · exact WF_comeQ (WF_ssc h _ _) ht
theorem sn_come1 (t : Nat) : (come1 S t).1 = S.1 := by
  unfold come1 comeQ
  split
  · rfl
  · split <;> rfl
theorem WF_landB (h : WF S) {x : Nat} (hx : x < sn S 4) : WF (landB S x) := by
  obtain ⟨a1, a2, a3, a4, a5, a6, a7⟩ := h.2.1 x hx
  unfold landB
  split
  · exact h
  · split
    · exact WF_ssB h a1 (by show (sB S x).2.1 - 1 ≤ 9; omega) a3 a4 (fun e => by exfalso; dsimp only at e; omega)
    · have hB := WF_ssB (x := x) (v := ((sB S x).1, 0, (sB S x).2.2.filter (fun t => decide (sf S t 1 ≠ (sB S x).1)))) h a1 (show 0 ≤ 9 by decide) (Nat.le_trans (List.length_filter_le _ _) a3) (fun t ht => a4 t (List.mem_filter.mp ht).1) (fun _ t ht => by
        have := (List.mem_filter.mp ht).2
        simpa using this)
      exact WF_ssc (WF_ssc hB _ _) _ _
theorem sn_landB (x : Nat) : (landB S x).1 = S.1 := by
  unfold landB
  split
  · rfl
  · split <;> rfl
theorem WF_boardB (h : WF S) {x : Nat} (hx : x < sn S 4) : WF (boardB S x) := by
  obtain ⟨a1, a2, a3, a4, a5, a6, a7⟩ := h.2.1 x hx
  obtain ⟨q1, q2, q3, q4⟩ := h.2.2 (sB S x).1
  unfold boardB
  split
  · exact h
  · rename_i hz
    have hz : (sB S x).2.1 = 0 := by omega
    have htk : ∀ t ∈ ((sQ S (sB S x).1).take (nbd S x)).map Prod.fst, t < sn S 1 ∧ sf S t 0 = (sB S x).1 := by
      intro t ht
      obtain ⟨p, hp, rfl⟩ := List.mem_map.mp ht
      have := q3 p (List.mem_of_mem_take hp)
      exact ⟨this.1, this.2.1⟩
    refine WF_ssQ (S := ssB S x ((sB S x).1, 0, (sB S x).2.2 ++ ((sQ S (sB S x).1).take (nbd S x)).map Prod.fst)) (WF_ssB h a1 (show 0 ≤ 9 by decide) ?_ ?_ ?_) ?_ ?_ ?_ ?_
    · simp only [List.length_append, List.length_map, List.length_take]
      unfold nbd
      omega
    · intro t ht
      rcases List.mem_append.mp ht with ht | ht
      · exact a4 t ht
      · exact (htk t ht).1
    · intro _ t ht
      rcases List.mem_append.mp ht with ht | ht
      · exact a5 hz t ht
      · obtain ⟨t1, t2⟩ := htk t ht
        have := (h.1.2.2.2.2.2.1 t t1).2.2.1
        rw [t2] at this
        exact Ne.symm this
    · simp only [List.length_drop]; omega
    · intro hh
      exact absurd a1 (by have : sn S 0 ≤ (sB S x).1 := hh; omega)
    · intro p hp
      exact q3 p (List.mem_of_mem_drop hp)
    · exact List.Pairwise.sublist (List.drop_sublist _ _) q4
theorem sn_boardB (x : Nat) : (boardB S x).1 = S.1 := by
  unfold boardB
  split <;> rfl
theorem WF_sendB (h : WF S) {x : Nat} (hx : x < sn S 4) (to : Option Nat) : WF (sendB S x to) := by
  obtain ⟨a1, a2, a3, a4, a5, a6, a7⟩ := h.2.1 x hx
  unfold sendB
  split
  · exact h
  · rename_i t
    split
    · rename_i hc
      have hL := h.1.1
      have hy := h.1.2.2.2.2.2.2 ((sB S x).1 * 4 + t) (by omega)
      exact WF_ssB h hc.1 hy.2 a3 a4 (fun e => by exfalso; dsimp only at e; omega)
    · exact h
theorem sn_sendB (x : Nat) (to : Option Nat) : (sendB S x to).1 = S.1 := by
  unfold sendB
  split
  · rfl
  · split <;> rfl
theorem WF_askB (h : WF S) {x : Nat} (hx : x < sn S 4) : WF (askB S x) := by
  unfold askB
  split
  · exact WF_sendB h hx _
  · exact h
theorem sn_askB (x : Nat) : (askB S x).1 = S.1 := by
  unfold askB
  split
  · exact sn_sendB _ _
  · rfl
theorem WF_waitL (h : WF S) (l : Nat) : WF (waitL S l) := by
  obtain ⟨q1, q2, q3, q4⟩ := h.2.2 l
  unfold waitL
  refine WF_ssc (WF_ssc (WF_ssQ h (Nat.le_trans (List.length_filter_le _ _) q1) (fun hh => by rw [q2 hh]; rfl) (fun p hp => q3 p (List.mem_filter.mp hp).1) (List.Pairwise.sublist List.filter_sublist q4)) _ _) _ _
theorem sn_waitL (l : Nat) : (waitL S l).1 = S.1 := rfl
def waitK (S : SP) : Nat → Nat → SP
  | 0, _ => S
  | k + 1, l => waitK (waitL S l) k (l + 1)
theorem closeS_K : closeS S = ssn (waitK S 4 0) 3 (sn S 3 + 1) := rfl
theorem sQ_waitK : ∀ (k l : Nat) (S : SP), (waitK S k l).1 = S.1 ∧ (waitK S k l).2.2.2.1 = S.2.2.2.1 ∧ ∀ j, sQ (waitK S k l) j = if l ≤ j ∧ j < l + k then (sQ S j).filter (stays S) else sQ S j := by
  intro k
  induction k with
  | zero => intro l S; exact ⟨rfl, rfl, fun j => by rw [if_neg (by omega)]; rfl⟩
  | succ k ih =>
    intro l S
    obtain ⟨e1, e2, e3⟩ := ih (l + 1) (waitL S l)
    refine ⟨e1, e2, fun j => ?_⟩
    show sQ (waitK (waitL S l) k (l + 1)) j = _
    rw [e3 j]
    have hst : stays (waitL S l) = stays S := rfl
    rw [hst]
    by_cases hj : j = l
    · subst hj
      rw [if_neg (by omega), if_pos (by omega)]
      exact upN_s _ _ _
    · have hQ : sQ (waitL S l) j = sQ S j := upN_n _ _ hj
      rw [hQ]
      by_cases hc : l + 1 ≤ j ∧ j < l + 1 + k
      · rw [if_pos hc, if_pos (by omega)]
      · rw [if_neg hc, if_neg (by omega)]
theorem WF_waitK : ∀ (k l : Nat) {S : SP}, WF S → WF (waitK S k l) := by
  intro k
  induction k with
  | zero => intro l S h; exact h
  | succ k ih => intro l S h; exact ih (l + 1) (WF_waitL h l)
theorem WF_closeS (h : WF S) (h9 : sn S 3 < 5000) : WF (closeS S) := by
  have hK := WF_waitK 4 0 h
  obtain ⟨e1, e2, e3⟩ := sQ_waitK 4 0 S
  rw [closeS_K]
  have hne : ∀ k, k ≠ 3 → sn (ssn (waitK S 4 0) 3 (sn S 3 + 1)) k = sn (waitK S 4 0) k := fun k hk => upN_n _ _ hk
  have h3 : sn (ssn (waitK S 4 0) 3 (sn S 3 + 1)) 3 = sn S 3 + 1 := upN_s (waitK S 4 0).1 3 (sn S 3 + 1)
  obtain ⟨⟨s1, s2, s3, s4, s5, s6, s7⟩, hb, hq⟩ := hK
  refine ⟨⟨?_, ?_, ?_, ?_, ?_, ?_, ?_⟩, ?_, ?_⟩
  · rw [hne 0 (by decide)]; exact s1
  · rw [hne 1 (by decide)]; exact s2
  · rw [hne 2 (by decide)]; exact s3
  · rw [h3]; omega
  · rw [hne 4 (by decide)]; exact s5
  · rw [hne 0 (by decide), hne 1 (by decide)]; exact s6
  · exact s7
  · intro x hx
    rw [hne 4 (by decide)] at hx
    have := hb x hx
    unfold WFB at this ⊢
    rw [hne 0 (by decide), hne 1 (by decide), hne 2 (by decide)]
    exact this
  · intro l
    obtain ⟨q1, q2, q3, q4⟩ := hq l
    unfold WFQ
    rw [hne 0 (by decide), hne 1 (by decide), h3]
    refine ⟨q1, q2, fun p hp => ?_, q4⟩
    obtain ⟨p1, p2, p3, p4⟩ := q3 p hp
    refine ⟨p1, p2, ?_, ?_⟩
    · have : sn (waitK S 4 0) 3 = sn S 3 := by show (waitK S 4 0).1 3 = _; rw [e1]
      omega
    · by_cases hl : l < 4
      · have hp2 : p ∈ sQ (waitK S 4 0) l := hp
        rw [e3 l, if_pos (by omega)] at hp2
        have := (List.mem_filter.mp hp2).2
        have h5 : sn S 3 + 1 < p.2 + sf S p.1 3 := by simpa [stays] using this
        show sn S 3 + 1 < p.2 + (waitK S 4 0).2.2.2.1 p.1 3
        rw [e2]; exact h5
      · have hp2 : p ∈ sQ (waitK S 4 0) l := hp
        rw [q2 (by omega)] at hp2
        cases hp2
theorem sn_closeS (k : Nat) : sn (closeS S) k = if k = 3 then sn S 3 + 1 else sn S k := by
  rw [closeS_K]
  show upN (waitK S 4 0).1 3 (sn S 3 + 1) k = _
  rw [(sQ_waitK 4 0 S).1]
  rfl
end WFP
