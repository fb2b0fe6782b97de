/-! Small changes of a state, on both sides; the counters' bounds. -/
def ssf (S : SP) (t k v : Nat) : SP := (S.1, S.2.1, S.2.2.1, (fun t' k' => if t' = t ∧ k' = k then v else S.2.2.2.1 t' k'), S.2.2.2.2)
def ssK (S : SP) (x : Nat) (v : Nat × Nat) : SP := (S.1, S.2.1, S.2.2.1, S.2.2.2.1, S.2.2.2.2.1, S.2.2.2.2.2.1, upN S.2.2.2.2.2.2 x v)
theorem sf_ssf (S : SP) (t k v t' k' : Nat) : sf (ssf S t k v) t' k' = if t' = t ∧ k' = k then v else sf S t' k' := rfl
section CHG
variable {S : SP} {M : Mm} {r : WR} {D : Nat → Nat} {g : Nat → Int32}
theorem WF_ssf (wf : WF S) {t k v : Nat} (hk : k = 2 ∧ v ≤ 100 ∨ k = 3 ∧ (1 ≤ v ∧ v ≤ 20) ∧ (∀ l, sQ S l = []) ∨ k = 4 ∧ v ≤ 99) : WF (ssf S t k v) := by
  obtain ⟨⟨s1, s2, s3, s4, s5, s6, s7⟩, wb, wq⟩ := wf
  refine ⟨⟨s1, s2, s3, s4, s5, fun t' ht' => ?_, s7⟩, fun x hx => ?_, fun l => ?_⟩
  · obtain ⟨f1, f2, f3, f4, f5, f6⟩ := s6 t' ht'
    simp only [sf_ssf]
    have h0 : ¬ (t' = t ∧ 0 = k) := by omega
    have h1 : ¬ (t' = t ∧ 1 = k) := by omega
    rw [if_neg h0, if_neg h1]
    refine ⟨f1, f2, f3, ?_, ?_, ?_⟩
    · split
      · rcases hk with ⟨-, hv⟩ | ⟨rfl, -⟩ | ⟨rfl, -⟩
        · exact hv
        · omega
        · omega
      · exact f4
    · split
      · rcases hk with ⟨rfl, -⟩ | ⟨-, hv, -⟩ | ⟨rfl, -⟩
        · omega
        · exact hv
        · omega
      · exact f5
    · split
      · rcases hk with ⟨rfl, -⟩ | ⟨rfl, -⟩ | ⟨-, hv⟩
        · omega
        · omega
        · exact hv
      · exact f6
  · obtain ⟨a1, a2, a3, a4, a5, a6, a7⟩ := wb x hx
    refine ⟨a1, a2, a3, a4, fun hz t' ht' => ?_, a6, a7⟩
    rw [sf_ssf, if_neg (by omega)]
    exact a5 hz t' ht'
  · obtain ⟨q1, q2, q3, q4⟩ := wq l
    refine ⟨q1, q2, fun p hp => ?_, q4⟩
    obtain ⟨c1, c2, c3, c4⟩ := q3 p hp
    refine ⟨c1, ?_, c3, ?_⟩
    · rw [sf_ssf, if_neg (by omega)]; exact c2
    · rw [sf_ssf]
      split
      · rename_i hh
        rcases hk with ⟨rfl, -⟩ | ⟨-, -, he⟩ | ⟨rfl, -⟩
        · omega
        · have hp' : p ∈ sQ S l := hp
          rw [he l] at hp'
          exact absurd hp' List.not_mem_nil
        · omega
      · exact c4
theorem WRel_ssf (hr : WRel M S r) (wf : WF S) {t k v : Nat} (ht : t < sn S 1) (hk5 : k < 5) (hk3 : k = 3 → ∀ l, sQ S l = []) : WRel M (ssf S t k v) (up2 r.1 2 (t * 5 + k) (nI v), r.2) := by
  have h2 := wf.1.2.2.2.2.1.2
  obtain ⟨a1, a2, a3, a4, a5, a6⟩ := hr
  refine ⟨?_, ?_, fun i hi => ?_, fun t' k' ht' hk' => ?_, fun x hx => ?_, fun l hl => ⟨?_, fun j p hj => ?_⟩⟩
  · simp only [up2]; exact a1
  · simp only [up2]; exact a2
  · simp only [up2]; exact a3 i hi
  · rw [sf_ssf]
    simp only [up2, if_true]
    by_cases he : t' = t ∧ k' = k
    · rw [if_pos he, if_pos (by rw [he.1, he.2])]
    · rw [if_neg he, if_neg (by omega)]; exact a4 t' k' ht' hk'
  · have hx2 : x < 2 := Nat.lt_of_lt_of_le hx h2
    have n1 : lb x ≠ 2 := by unfold lb; omega
    have n2 : lb x + 1 ≠ 2 := by unfold lb; omega
    exact BRel_of (a5 x hx) (by funext j; simp [up2, n1]) (by funext j; simp [up2, n2]) rfl
  · simp only [up2]; exact (a6 l hl).1
  · obtain ⟨c1, c2⟩ := (a6 l hl).2 j p hj
    simp only [up2]
    refine ⟨c1, ?_⟩
    rw [sf_ssf]
    by_cases he : p.1 = t ∧ 3 = k
    · have hj' : (sQ S l)[j]? = some p := hj
      rw [hk3 he.2.symm l] at hj'
      simp at hj'
    · rw [if_neg he]; exact c2
theorem KRel_ssf (hk : KRel D S g) (wf : WF S) {t k v : Nat} (ht : t < sn S 1) (hk5 : k < 5) : KRel D (ssf S t k v) (upN g (25 + 5 * t + k) (nI v)) := by
  have h2 := wf.1.2.2.2.2.1.2
  have h5 := wf.1.2.1
  obtain ⟨a1, a2, a3, a4, a5, a6⟩ := hk
  have e : ∀ j, (j < 25 ∨ 50 ≤ j) → upN g (25 + 5 * t + k) (nI v) j = g j := fun j hj => upN_n _ _ (by omega)
  refine ⟨?_, ?_, fun i hi => ?_, fun t' k' ht' hk' => ?_, fun y hy => ?_, fun l hl => ?_⟩
  · rw [e 0 (by decide), e 1 (by decide), e 2 (by decide), e 3 (by decide)]; exact a1
  · rw [e 4 (by decide), e 5 (by decide), e 6 (by decide), e 7 (by decide), e 8 (by decide)]; exact a2
  · rw [e _ (by omega)]; exact a3 i hi
  · rw [sf_ssf]
    by_cases he : t' = t ∧ k' = k
    · rw [if_pos he, he.1, he.2, upN_s]
    · rw [if_neg he, upN_n _ _ (by omega)]; exact a4 t' k' ht' hk'
  · exact KB_of (a5 y hy) (B6 wf hy) (fun j h1 h2 => e j (by omega))
  · exact KQ_of (a6 l hl) (WF_q12 wf l) (fun j h1 h2 => e j (by omega))
-- seats
theorem WF_seats (wf : WF S) {v : Nat} (h1 : 1 ≤ v ∧ v ≤ 6) (h2 : ∀ x, x < sn S 4 → (sB S x).2.2.length ≤ v) : WF (ssn S 2 v) := by
  obtain ⟨⟨s1, s2, s3, s4, s5, s6, s7⟩, wb, wq⟩ := wf
  have hn : ∀ k, k ≠ 2 → sn (ssn S 2 v) k = sn S k := fun k hk => upN_n _ _ hk
  have h22 : sn (ssn S 2 v) 2 = v := upN_s S.1 2 v
  refine ⟨⟨?_, ?_, ?_, ?_, ?_, ?_, s7⟩, fun x hx => ?_, fun l => ?_⟩
  · rw [hn 0 (by decide)]; exact s1
  · rw [hn 1 (by decide)]; exact s2
  · rw [h22]; exact h1
  · rw [hn 3 (by decide)]; exact s4
  · rw [hn 4 (by decide)]; exact s5
  · rw [hn 1 (by decide), hn 0 (by decide)]; exact s6
  · rw [hn 4 (by decide)] at hx
    obtain ⟨a1, a2, a3, a4, a5, a6, a7⟩ := wb x hx
    refine ⟨by rw [hn 0 (by decide)]; exact a1, a2, by rw [h22]; exact h2 x hx, by rw [hn 1 (by decide)]; exact a4, a5, a6, a7⟩
  · obtain ⟨q1, q2, q3, q4⟩ := wq l
    exact ⟨q1, by rw [hn 0 (by decide)]; exact q2, by rw [hn 1 (by decide), hn 3 (by decide)]; exact q3, q4⟩
theorem WRel_seats (hr : WRel M S r) (wf : WF S) {v : Nat} : WRel M (ssn S 2 v) (up2 r.1 0 4 (nI v), r.2) := by
  have h2 := wf.1.2.2.2.2.1.2
  have hn : ∀ k, k ≠ 2 → sn (ssn S 2 v) k = sn S k := fun k hk => upN_n _ _ hk
  have h22 : sn (ssn S 2 v) 2 = v := upN_s S.1 2 v
  obtain ⟨a1, a2, a3, a4, a5, a6⟩ := hr
  refine ⟨?_, ?_, fun i hi => ?_, fun t' k' ht' hk' => ?_, fun x hx => ?_, fun l hl => ⟨?_, fun j p hj => ?_⟩⟩
  · rw [hn 0 (by decide), hn 1 (by decide), hn 3 (by decide), hn 4 (by decide), h22]
    simp only [up2]
    exact ⟨a1.1, a1.2.1, rfl, a1.2.2.2⟩
  · simp only [up2]; exact a2
  · simp only [up2]; exact a3 i hi
  · rw [hn 1 (by decide)] at ht'
    simp only [up2]; exact a4 t' k' ht' hk'
  · rw [hn 4 (by decide)] at hx
    have hx2 : x < 2 := Nat.lt_of_lt_of_le hx h2
    have n1 : lb x ≠ 0 := by unfold lb; omega
    exact BRel_of (a5 x hx) (by funext j; simp [up2, n1]) (by funext j; simp [up2]) rfl
  · simp only [up2]; exact (a6 l hl).1
  · simp only [up2]; exact (a6 l hl).2 j p hj
theorem KRel_seats (hk : KRel D S g) (wf : WF S) {v : Nat} : KRel D (ssn S 2 v) (upN g 2 (nI v)) := by
  have h2 := wf.1.2.2.2.2.1.2
  have h5 := wf.1.2.1
  have hn : ∀ k, k ≠ 2 → sn (ssn S 2 v) k = sn S k := fun k hk => upN_n _ _ hk
  have h22 : sn (ssn S 2 v) 2 = v := upN_s S.1 2 v
  obtain ⟨a1, a2, a3, a4, a5, a6⟩ := hk
  have e : ∀ j, j ≠ 2 → upN g 2 (nI v) j = g j := fun j hj => upN_n _ _ hj
  refine ⟨?_, ?_, fun i hi => ?_, fun t' k' ht' hk' => ?_, fun y hy => ?_, fun l hl => ?_⟩
  · rw [e 0 (by decide), e 1 (by decide), upN_s, e 3 (by decide), hn 0 (by decide), hn 1 (by decide), hn 3 (by decide), h22]
    exact ⟨a1.1, a1.2.1, rfl, a1.2.2.2⟩
  · rw [e 4 (by decide), e 5 (by decide), e 6 (by decide), e 7 (by decide), e 8 (by decide)]; exact a2
  · rw [e _ (by omega)]; exact a3 i hi
  · rw [hn 1 (by decide)] at ht'
    rw [e _ (by omega)]; exact a4 t' k' ht' hk'
  · rw [hn 4 (by decide)] at hy
    exact KB_of (a5 y hy) (B6 wf hy) (fun j h1 h2 => e j (by omega))
  · rw [hn 3 (by decide)]
    exact KQ_of (a6 l hl) (WF_q12 wf l) (fun j h1 h2 => e j (by omega))
-- z, on the class' side
theorem WRel_z (hr : WRel M S r) (wf : WF S) {v : Int32} : WRel M (ssc S 0 v) (up2 r.1 0 5 v, r.2) := by
  obtain ⟨a1, a2, a3, a4, a5, a6⟩ := hr
  have h2 := wf.1.2.2.2.2.1.2
  refine ⟨?_, ⟨?_, ?_, ?_, ?_, ?_⟩, ?_, ?_, ?_, ?_⟩
  · simp [up2, a1, ssc]
  · simp [up2]; rfl
  · simp [up2, a2]; rfl
  · simp [up2, a2]; rfl
  · simp [up2, a2]; rfl
  · simp [up2, a2]; rfl
  · intro i hi; simp [up2]; exact a3 i hi
  · intro t k ht hk; simp [up2]; exact a4 t k ht hk
  · intro x hx
    have hx2 : x < 2 := Nat.lt_of_lt_of_le hx h2
    have hlb : lb x ≠ 0 := by unfold lb; omega
    exact BRel_of (a5 x hx) (by funext j; simp [up2, hlb]) (by funext j; simp [up2]) rfl
  · intro l hl
    obtain ⟨q1, q2⟩ := a6 l hl
    exact ⟨by simp [up2]; exact q1, fun j p hj => by simp [up2]; exact q2 j p hj⟩
-- the rule of the first boat
theorem WF_ssK (wf : WF S) {x : Nat} {v : Nat × Nat} (h1 : v.1 < 7) (h2 : v.2 < 10) : WF (ssK S x v) := by
  obtain ⟨ws, wb, wq⟩ := wf
  refine ⟨ws, fun y hy => ?_, wq⟩
  obtain ⟨a1, a2, a3, a4, a5, a6, a7⟩ := wb y hy
  by_cases hxy : y = x
  · subst hxy
    have e : sK (ssK S y v) y = v := upN_s S.2.2.2.2.2.2 y v
    exact ⟨a1, a2, a3, a4, a5, by rw [e]; exact h1, by rw [e]; exact h2⟩
  · have e : sK (ssK S x v) y = sK S y := upN_n _ _ hxy
    exact ⟨a1, a2, a3, a4, a5, by rw [e]; exact a6, by rw [e]; exact a7⟩
theorem WRel_ssK (hr : WRel M S r) (h4 : sn S 4 = 1) {q kd fg : Nat} (hq : isRl M q kd fg) : WRel M (ssK S 0 (kd, fg)) (r.1, upq r.2 3 (some q)) := by
  obtain ⟨a1, a2, a3, a4, a5, a6⟩ := hr
  refine ⟨a1, a2, a3, a4, fun x hx => ?_, a6⟩
  have hx' : x < sn S 4 := hx
  have hx0 : x = 0 := by omega
  subst hx0
  obtain ⟨b1, b2, b3, b4, -⟩ := a5 0 hx'
  have e : sK (ssK S 0 (kd, fg)) 0 = (kd, fg) := upN_s S.2.2.2.2.2.2 0 (kd, fg)
  rw [e]
  exact ⟨b1, b2, b3, b4, q, by simp [upq, lb], hq⟩
theorem KRel_ssK (hk : KRel D S g) (wf : WF S) (h4 : sn S 4 = 1) {kd fg : Nat} : KRel D (ssK S 0 (kd, fg)) (upN (upN g 54 (nI kd)) 55 (nI fg)) := by
  have h5 := wf.1.2.1
  obtain ⟨a1, a2, a3, a4, a5, a6⟩ := hk
  have e : ∀ j, j ≠ 54 → j ≠ 55 → upN (upN g 54 (nI kd)) 55 (nI fg) j = g j := fun j h1 h2 => by rw [upN_n _ _ h2, upN_n _ _ h1]
  refine ⟨?_, ?_, fun i hi => ?_, fun t k ht hk => ?_, fun y hy => ?_, fun l hl => ?_⟩
  · rw [e 0 (by decide) (by decide), e 1 (by decide) (by decide), e 2 (by decide) (by decide), e 3 (by decide) (by decide)]; exact a1
  · rw [e 4 (by decide) (by decide), e 5 (by decide) (by decide), e 6 (by decide) (by decide), e 7 (by decide) (by decide), e 8 (by decide) (by decide)]; exact a2
  · rw [e _ (by omega) (by omega)]; exact a3 i hi
  · have ht' : t < sn S 1 := ht
    rw [e _ (by omega) (by omega)]; exact a4 t k ht hk
  · have hy' : y < sn S 4 := hy
    have hy0 : y = 0 := by omega
    subst hy0
    obtain ⟨b1, b2, b3, b4, b5, b6, b7⟩ := a5 0 hy'
    have hK : sK (ssK S 0 (kd, fg)) 0 = (kd, fg) := upN_s S.2.2.2.2.2.2 0 (kd, fg)
    rw [hK]
    refine ⟨by rw [e _ (by decide) (by decide)]; exact b1, by rw [e _ (by decide) (by decide)]; exact b2, by rw [e _ (by decide) (by decide)]; exact b3, by rw [e _ (by decide) (by decide)]; exact b4, ?_, ?_, fun j t hj => ?_⟩
    · rw [upN_n _ _ (by decide)]; exact upN_s _ _ _
    · exact upN_s _ _ _
    · rw [e _ (by omega) (by omega)]; exact b7 j t hj
  · exact KQ_of (a6 l hl) (WF_q12 wf l) (fun j h1 h2 => e j (by omega) (by omega))
-- the counters
theorem paid_le (wf : WF S) (p : Nat) : ∀ (l : List Nat) (c : Int32 × Int32) (e : Nat), (∀ t ∈ l, t < sn S 1) → c.1 = nI e → ∃ e', (paid S p l c).1 = nI e' ∧ e' ≤ e + 99 * l.length := by
  intro l
  induction l with
  | nil => intro c e _ hc; exact ⟨e, hc, by simp⟩
  | cons t l ih =>
    intro c e hl hc
    have ht := hl t List.mem_cons_self
    have hp := (wf.1.2.2.2.2.2.1 t ht).2.2.2.2.2
    unfold paid
    by_cases h : sf S t 1 = p
    · rw [if_pos h]
      obtain ⟨e', h1, h2⟩ := ih (c.1 + nI (sf S t 4), c.2 + 1) (e + sf S t 4) (fun t' h' => hl t' (List.mem_cons_of_mem _ h')) (by rw [hc, nI_add])
      exact ⟨e', h1, by simp only [List.length_cons]; omega⟩
    · rw [if_neg h]
      obtain ⟨e', h1, h2⟩ := ih c e (fun t' h' => hl t' (List.mem_cons_of_mem _ h')) hc
      exact ⟨e', h1, by simp only [List.length_cons]; omega⟩
def C13 (S : SP) (w e : Nat) : Prop := sc S 1 = nI w ∧ sc S 3 = nI e
theorem C13_comeN {w e : Nat} : ∀ (k t : Nat) (S : SP), C13 S w e → C13 (comeN S k t) w e := by
  intro k
  induction k with
  | zero => intro t S h; exact h
  | succ k ih =>
    intro t S h
    refine ih (t + 1) _ ?_
    unfold come1 comeQ
    split
    · exact h
    · split
      · exact h
      · exact h
theorem C13_landB (wf : WF S) {x w e : Nat} (hx : x < sn S 4) (h : C13 S w e) : ∃ e', e' ≤ e + 600 ∧ C13 (landB S x) w e' := by
  unfold landB
  split
  · exact ⟨e, by omega, h⟩
  · split
    · exact ⟨e, by omega, h⟩
    · obtain ⟨e', h1, h2⟩ := paid_le wf (sB S x).1 (sB S x).2.2 (sc S 3, sc S 4) e (wf.2.1 x hx).2.2.2.1 h.2
      have := B6 wf hx
      refine ⟨e', by omega, h.1, ?_⟩
      rw [← h1]; rfl
theorem C13_boardB {x w e : Nat} (h : C13 S w e) : C13 (boardB S x) w e := by
  unfold boardB
  split
  · exact h
  · exact h
theorem C13_askB {x w e : Nat} (h : C13 S w e) : C13 (askB S x) w e := by
  unfold askB sendB
  split
  · split
    · exact h
    · split
      · exact h
      · exact h
  · exact h
theorem C13_waitK {e : Nat} : ∀ (k l : Nat) (S : SP) (w : Nat), WF S → C13 S w e → ∃ w', w' ≤ w + 12 * k ∧ C13 (waitK S k l) w' e := by
  intro k
  induction k with
  | zero => intro l S w _ h; exact ⟨w, by omega, h⟩
  | succ k ih =>
    intro l S w wf h
    have hq := WF_q12 wf l
    obtain ⟨w', h1, h2⟩ := ih (l + 1) (waitL S l) (w + (sQ S l).length) (WF_waitL wf l) ⟨by
      show sc S 1 + nI (sQ S l).length = _
      rw [h.1, nI_add], h.2⟩
    exact ⟨w', by omega, h2⟩
theorem C13_rest (wf : WF S) (h4 : sn S 4 = 1) {w e : Nat} (h : C13 S w e) : ∃ e', e' ≤ e + 600 ∧ C13 (bringS S) w e' := by
  rw [bringS_eq]
  unfold restS
  rw [if_pos (by rw [sne (sn_comeS S) 4]; exact h4)]
  obtain ⟨e', h1, h2⟩ := C13_landB (WF_comeS wf) (x := 0) (by rw [sne (sn_comeS S) 4]; omega) (C13_comeN (sn S 1) 0 S h)
  exact ⟨e', h1, C13_boardB h2⟩
theorem C13_closeS (wf : WF S) {w e : Nat} (h : C13 S w e) : ∃ w', w' ≤ w + 48 ∧ C13 (closeS S) w' e := by
  rw [closeS_K]
  obtain ⟨w', h1, h2⟩ := C13_waitK 4 0 S w wf h
  exact ⟨w', h1, h2⟩
theorem C13_minS (wf : WF S) (h4 : sn S 4 = 1) {w e : Nat} (h : C13 S w e) : ∃ w' e', w' ≤ w + 48 ∧ e' ≤ e + 600 ∧ C13 (minS S) w' e' := by
  rw [minS_eq]
  obtain ⟨e', h1, h2⟩ := C13_rest wf h4 h
  unfold asksS
  rw [if_pos (by rw [sne (sn_bringS S) 4]; exact h4)]
  obtain ⟨w', h3, h5⟩ := C13_closeS (WF_askB (WF_bringS wf) (x := 0) (by rw [sne (sn_bringS S) 4]; omega)) (C13_askB (x := 0) h2)
  exact ⟨w', e', h3, h1, h5⟩
theorem sn_passS : ∀ (n : Nat) (S : SP) (k : Nat), sn (passS S n) k = if k = 3 then sn S 3 + n else sn S k := by
  intro n
  induction n with
  | zero => intro S k; show sn S k = _; split <;> simp [*]
  | succ n ih =>
    intro S k
    show sn (passS (minS S) n) k = _
    have h3 : sn (minS S) 3 = sn S 3 + 1 := by show (minS S).1 3 = _; rw [sn_minS]; exact upN_s _ _ _
    rw [ih, h3]
    split
    · omega
    · rename_i hk
      show (minS S).1 k = _
      rw [sn_minS]
      exact upN_n _ _ hk
theorem C13_passS : ∀ (n : Nat) (S : SP) (w e : Nat), WF S → sn S 4 = 1 → sn S 3 + n ≤ 5000 → C13 S w e → ∃ w' e', w' ≤ w + 48 * n ∧ e' ≤ e + 600 * n ∧ C13 (passS S n) w' e' := by
  intro n
  induction n with
  | zero => intro S w e _ _ _ h; exact ⟨w, e, by omega, by omega, h⟩
  | succ n ih =>
    intro S w e wf h4 hm h
    obtain ⟨w1, e1, h1, h2, h3⟩ := C13_minS wf h4 h
    have hs4 : sn (minS S) 4 = sn S 4 := by
      show (minS S).1 4 = _
      rw [sn_minS]
      exact upN_n _ _ (by decide)
    have hs3 : sn (minS S) 3 = sn S 3 + 1 := by
      show (minS S).1 3 = _
      rw [sn_minS]
      exact upN_s _ _ _
    obtain ⟨w2, e2, h4', h5, h6⟩ := ih (minS S) w1 e1 (WF_minS wf (by omega)) (by omega) (by omega) h3
    exact ⟨w2, e2, by omega, by omega, h6⟩
theorem CNT_passS (wf : WF S) (h4 : sn S 4 = 1) {n : Nat} (hn : sn S 3 + n ≤ 999) (h : CNT S) : CNT (passS S n) := by
  obtain ⟨h1, w, e, hw, hw2, he, he2⟩ := h
  obtain ⟨w', e', c1, c2, c3⟩ := C13_passS n S w e wf h4 (by omega) ⟨hw, he⟩
  have h3 : sn (passS S n) 3 = sn S 3 + n := by rw [sn_passS, if_pos rfl]
  refine ⟨by omega, w', e', c3.1, ?_, c3.2, ?_⟩
  · rw [h3]; omega
  · rw [h3]; omega
end CHG
