/-! Coming: the class' world. -/
theorem up2_e {α : Type} (f : Nat → Nat → α) (a k b j : Nat) (v : α) : up2 f a k v b j = if b = a then (if j = k then v else f b j) else f b j := rfl
theorem WF_q12 {S : SP} (h : WF S) (l : Nat) : (sQ S l).length ≤ 12 := (h.2.2 l).1
theorem gE {α : Type} {l : List α} {j : Nat} {v : α} (h : l[j]? = some v) : j < l.length := (List.getElem?_eq_some_iff.mp h).1
theorem gpush {α : Type} {l : List α} {x v : α} {j : Nat} (h : (l ++ [x])[j]? = some v) : (j < l.length ∧ l[j]? = some v) ∨ (j = l.length ∧ v = x) := by
  rcases Nat.lt_or_ge j l.length with q | q
  · rw [List.getElem?_append_left q] at h
    exact Or.inl ⟨q, h⟩
  · rw [List.getElem?_append_right q] at h
    have hz : j - l.length < 1 := (List.getElem?_eq_some_iff.mp h).1
    have : j = l.length := by omega
    subst this
    rw [Nat.sub_self] at h
    exact Or.inr ⟨rfl, (Option.some.inj h).symm⟩
section COME
variable {b : Nat} {M : Mm} {w : Nat} {r : WR} {N : Nat} {S : SP}
/-- a boat's record stays where its labels' ints stay -/
theorem BRel_of {r' : WR} {v : Nat × Nat × List Nat} {R : Nat × Nat} {l : Nat} (h : BRel M v R l r) (h0 : r'.1 l = r.1 l) (h1 : r'.1 (l + 1) = r.1 (l + 1)) (h2 : r'.2 l = r.2 l) : BRel M v R l r' := by
  unfold BRel at h ⊢
  rw [h0, h1, h2]
  exact h
theorem lb_cases {x : Nat} (h : x < 2) : lb x = 3 ∨ lb x = 6 := by
  rcases (by omega : x = 0 ∨ x = 1) with rfl | rfl
  · exact Or.inl rfl
  · exact Or.inr rfl
theorem sort_at (hr : WRel M S r) (wf : WF S) {t k : Nat} (ht : t < sn S 1) (hk : k < 5) : rd 25 (r.1 2) (nI t * 5 + nI k) = nI (sf S t k) := by
  have h5 := wf.1.2.1
  rw [nIm5, nI_add, rd_nI (by omega) (by decide)]
  exact hr.2.2.2.1 t k ht hk
theorem k_ofSort (h : LAY b M) (hw : w < 7) (hr : WRel M S r) (wf : WF S) {t k : Nat} (ht : t < sn S 1) (hk : k < 5) : f_X10_ofSort N (wA b w 0) (nI t) (nI k) (SW b M w r) = some (nI (sf S t k), SW b M w r) := by
  rw [e_ofSort h hw, sort_at hr wf ht hk]
theorem k_standingAt (h : LAY b M) (hw : w < 7) (hr : WRel M S r) {l : Nat} (hl : l < 4) : f_X10_standingAt N (wA b w 0) (nI l) (SW b M w r) = some (nI (sQ S l).length, SW b M w r) := by
  rw [e_standingAt h hw, rd_nI hl (by decide), (hr.2.2.2.2.2 l hl).1]
theorem k_come (h : LAY b M) (hw : w < 7) (hr : WRel M S r) (wf : WF S) {t : Nat} (ht : t < sn S 1) : ∃ r', f_X10_come N (wA b w 0) (nI t) (nI (sf S t 0)) (SW b M w r) = some ((), SW b M w r') ∧ WRel M (comeQ S t) r' := by
  have hL := wf.1.1
  have hsf := wf.1.2.2.2.2.2.1 t ht
  have hl4 : sf S t 0 < 4 := by omega
  have hq := WF_q12 wf (sf S t 0)
  obtain ⟨a1, a2, a3, a4, a5, a6⟩ := id hr
  unfold f_X10_come comeQ
  rw [q_ck h hw, k_standingAt h hw hr hl4, bnd_one]
  rw [show ((12 : Int32)) = nI 12 from rfl]
  by_cases hlt : (sQ S (sf S t 0)).length < 12
  · rw [if_pos ((nI_ltI (by omega) (by decide)).mpr hlt), if_pos hlt]
    rw [q_gR h hw (l := 10) (by decide), pk_mul, nI_add, k_change h hw (n := 48) (by decide) rfl (by omega), bnd_one, q_gR h hw (l := 11) (by decide), q_gI h hw, q_ck h hw, e_ofSort h hw]
    have h3 : rd 25 ((up2 r.1 10 (sf S t 0 * 12 + (sQ S (sf S t 0)).length) (nI t)) 2) (nI t * 5 + 3) = nI (sf S t 3) := by
      have := sort_at hr wf ht (k := 3) (by decide)
      have e : (up2 r.1 10 (sf S t 0 * 12 + (sQ S (sf S t 0)).length) (nI t)) 2 = r.1 2 := by funext j; simp [up2]
      rw [e]; exact this
    rw [h3, bnd_one, k_change h hw (n := 48) (by decide) rfl (by omega), bnd_one, q_gR h hw (l := 9) (by decide), k_change h hw (n := 4) (by decide) rfl hl4, bnd_one]
    refine ⟨_, rfl, ?_⟩
    have e6 : up2 r.1 10 (sf S t 0 * 12 + (sQ S (sf S t 0)).length) (nI t) 0 6 = nI (sn S 3) := by simp [up2, a1.2.2.2.1]
    refine ⟨⟨?_, ?_, ?_, ?_, ?_⟩, ⟨?_, ?_, ?_, ?_, ?_⟩, ?_, ?_, ?_, ?_⟩
    · simp [up2, a1, ssQ]
    · simp [up2, a1, ssQ]
    · simp [up2, a1, ssQ]
    · simp [up2, a1, ssQ]
    · simp [up2, a1, ssQ]
    · simp [up2, a2, ssQ]
    · simp [up2, a2, ssQ]
    · simp [up2, a2, ssQ]
    · simp [up2, a2, ssQ]
    · simp [up2, a2, ssQ]
    · intro i hi; simp [up2, a3 i hi, ssQ]
    · intro t' k ht' hk; simp [up2, ssQ]; exact a4 t' k ht' hk
    · intro x hx
      have hx2 : x < 2 := Nat.lt_of_lt_of_le hx wf.1.2.2.2.2.1.2
      rcases lb_cases hx2 with e | e
      all_goals (
        have hb := a5 x hx
        rw [e] at hb ⊢
        exact BRel_of hb (by funext j; simp [up2]) (by funext j; simp [up2]) rfl)
    · intro l hl
      unfold QRel
      by_cases hll : l = sf S t 0
      · subst hll
        have hQ : sQ (ssQ S (sf S t 0) (sQ S (sf S t 0) ++ [(t, sn S 3)])) (sf S t 0) = sQ S (sf S t 0) ++ [(t, sn S 3)] := upN_s _ _ _
        rw [hQ]
        refine ⟨by simp [up2, nI_1], fun j p hp => ?_⟩
        rcases gpush hp with ⟨hj, hp⟩ | ⟨hj, rfl⟩
        · have := (a6 _ hl).2 j p hp
          have n1 : ¬ j = (sQ S (sf S t 0)).length := by omega
          simp [up2, n1]
          exact this
        · subst hj
          simp [up2, e6]
          rw [a1.2.2.2.1, nI_add]
          rfl
      · have hQ : sQ (ssQ S (sf S t 0) (sQ S (sf S t 0) ++ [(t, sn S 3)])) l = sQ S l := upN_n _ _ hll
        rw [hQ]
        obtain ⟨q1, q2⟩ := a6 l hl
        refine ⟨by simp [up2, hll, q1], fun j p hp => ?_⟩
        have hj := gE hp
        have := q2 j p hp
        have hql := WF_q12 wf l
        have n1 : ¬ l * 12 + j = sf S t 0 * 12 + (sQ S (sf S t 0)).length := by omega
        simp [up2, n1]
        exact this
  · rw [if_neg (fun q => hlt ((nI_ltI (by omega) (by decide)).mp q)), if_neg hlt]
    rw [q_gI h hw, q_pI h hw]
    refine ⟨_, rfl, ?_⟩
    refine ⟨⟨?_, ?_, ?_, ?_, ?_⟩, ⟨?_, ?_, ?_, ?_, ?_⟩, ?_, ?_, ?_, ?_⟩
    · simp [up2, a1, ssc]
    · simp [up2, a1, ssc]
    · simp [up2, a1, ssc]
    · simp [up2, a1, ssc]
    · simp [up2, a1, ssc]
    · simp [up2, a2, ssc, upN, sc]
    · simp [up2, a2, ssc, upN, sc]
    · simp [up2, a2, ssc, upN, sc]
    · simp [up2, a2, ssc, upN, sc]
    · simp [up2, a2, ssc, upN, sc]
    · intro i hi; simp [up2, a3 i hi, ssc]
    · intro t' k ht' hk; simp [up2, ssc]; exact a4 t' k ht' hk
    · intro x hx
      have hx2 : x < 2 := Nat.lt_of_lt_of_le hx wf.1.2.2.2.2.1.2
      rcases lb_cases hx2 with e | e
      all_goals (
        have hb := a5 x hx
        rw [e] at hb ⊢
        exact BRel_of hb (by funext j; simp [up2]) (by funext j; simp [up2]) rfl)
    · intro l hl
      obtain ⟨q1, q2⟩ := a6 l hl
      exact ⟨by simp [up2, q1, ssc], fun j p hp => by simp [up2]; exact q2 j p hp⟩
end COME
