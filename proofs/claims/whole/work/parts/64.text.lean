/-! Rivers: how a text is read; the class' side. -/
abbrev dgP (e : Nat → Int32) (n p : Nat) : Prop := p < n ∧ 48 ≤ e p ∧ e p ≤ 57
def dv (e : Nat → Int32) (p : Nat) : Nat := (e p).toNatClampNeg - 48
def numK (e : Nat → Int32) (n : Nat) : Nat → Nat → Nat → Nat × Nat
  | 0, p, v => (p, v)
  | k + 1, p, v => if v = 0 then (p, v) else if dgP e n p then numK e n k (p + 1) (v * 10 + dv e p) else (p, v)
/-- reading by a list of wants: 0 a digit, 1 a number, 2 a sign -/
def runA (e : Nat → Int32) (n : Nat) : List (Nat × Int32) → Nat → List Nat → Bool × Nat × List Nat
  | [], p, vs => (true, p, vs)
  | (0, _) :: l, p, vs => if dgP e n p then runA e n l (p + 1) (vs ++ [dv e p]) else (false, p, vs)
  | (1, _) :: l, p, vs => if dgP e n p then runA e n l (numK e n 2 (p + 1) (dv e p)).1 (vs ++ [(numK e n 2 (p + 1) (dv e p)).2]) else (false, p, vs)
  | (_ + 2, c) :: l, p, vs => if p < n ∧ e p = c then runA e n l (p + 1) vs else (false, p, vs)
def aN : List (Nat × Int32) := [(0, 0), (2, 59)]
def aM : List (Nat × Int32) := [(0, 0), (0, 1), (2, 32), (0, 2), (2, 59)]
def aS : List (Nat × Int32) := [(0, 0), (0, 1), (2, 32), (1, 2), (2, 32), (1, 3), (2, 32), (1, 4), (2, 59)]
def stmt (e : Nat → Int32) (n p : Nat) : Bool × Nat × List Nat :=
  if p < n then (if e p = 98 then runA e n aN (p + 1) [] else if e p = 109 then runA e n aM (p + 1) [] else if e p = 110 then runA e n aN (p + 1) [] else if e p = 115 then runA e n aS (p + 1) [] else (false, p, [])) else (false, p, [])
theorem dv_le {e : Nat → Int32} {n p : Nat} (h : dgP e n p) : dv e p ≤ 9 ∧ ∃ k, e p = nI k ∧ k = dv e p + 48 := by
  obtain ⟨-, h1, h2⟩ := h
  obtain ⟨k, hk, e1⟩ := in_nat2 (n := 57) (Int32.le_trans (by decide) h1) h2 rfl (by decide)
  have h48 : 48 ≤ k := by rw [e1] at h1; exact (nI_leI (a := 48) (by decide) (by omega)).mp h1
  unfold dv
  rw [e1, nIc (by omega)]
  exact ⟨by omega, k, rfl, by omega⟩
theorem dval {e : Nat → Int32} {n p : Nat} (h : dgP e n p) (a : Nat) : nI a + e p - 48 = nI (a + dv e p) := by
  obtain ⟨h1, k, h2, h3⟩ := dv_le h
  rw [h2, nI_add, show (48 : Int32) = nI 48 from rfl, pk_sub (by omega)]
  congr 1
  omega
theorem dval0 {e : Nat → Int32} {n p : Nat} (h : dgP e n p) : e p - 48 = nI (dv e p) := by
  obtain ⟨h1, k, h2, h3⟩ := dv_le h
  rw [h2, show (48 : Int32) = nI 48 from rfl, pk_sub (by omega)]
  congr 1
  omega
theorem numK_1 (e : Nat → Int32) (n : Nat) : ∀ (k p v : Nat), p ≤ (numK e n k p v).1 ∧ (p ≤ n → (numK e n k p v).1 ≤ n) := by
  intro k
  induction k with
  | zero => intro p v; exact ⟨Nat.le_refl _, id⟩
  | succ k ih =>
    intro p v
    unfold numK
    split
    · exact ⟨Nat.le_refl _, id⟩
    · split
      · rename_i h
        obtain ⟨h1, h2⟩ := ih (p + 1) (v * 10 + dv e p)
        exact ⟨by omega, fun _ => h2 h.1⟩
      · exact ⟨Nat.le_refl _, id⟩
theorem numK_2 (e : Nat → Int32) (n : Nat) : ∀ (k p v B : Nat), v + 1 ≤ B → (numK e n k p v).2 + 1 ≤ B * 10 ^ k := by
  intro k
  induction k with
  | zero => intro p v B h; rw [Nat.pow_zero, Nat.mul_one]; exact h
  | succ k ih =>
    intro p v B h
    have h10 : B ≤ B * 10 ^ (k + 1) := Nat.le_mul_of_pos_right B (Nat.pow_pos (by decide))
    unfold numK
    split
    · exact Nat.le_trans h h10
    · split
      · rename_i hd
        have := ih (p + 1) (v * 10 + dv e p) (B * 10) (by have := (dv_le hd).1; omega)
        rwa [Nat.mul_assoc, ← Nat.pow_succ'] at this
      · exact Nat.le_trans h h10
theorem runA_p (e : Nat → Int32) (n : Nat) : ∀ (l : List (Nat × Int32)) (p : Nat) (vs : List Nat), p ≤ n → p ≤ (runA e n l p vs).2.1 ∧ (runA e n l p vs).2.1 ≤ n := by
  intro l
  induction l with
  | nil => intro p vs h; exact ⟨Nat.le_refl _, h⟩
  | cons a l ih =>
    intro p vs h
    obtain ⟨x, c⟩ := a
    match x with
    | 0 =>
      unfold runA
      split
      · rename_i hd
        obtain ⟨h1, h2⟩ := ih (p + 1) (vs ++ [dv e p]) hd.1
        exact ⟨by omega, h2⟩
      · exact ⟨Nat.le_refl _, h⟩
    | 1 =>
      unfold runA
      split
      · rename_i hd
        obtain ⟨q1, q2⟩ := numK_1 e n 2 (p + 1) (dv e p)
        obtain ⟨h1, h2⟩ := ih (numK e n 2 (p + 1) (dv e p)).1 (vs ++ [(numK e n 2 (p + 1) (dv e p)).2]) (q2 hd.1)
        exact ⟨by omega, h2⟩
      · exact ⟨Nat.le_refl _, h⟩
    | x + 2 =>
      unfold runA
      split
      · rename_i hd
        obtain ⟨h1, h2⟩ := ih (p + 1) vs hd.1
        exact ⟨by omega, h2⟩
      · exact ⟨Nat.le_refl _, h⟩
theorem stmt_p (e : Nat → Int32) (n p : Nat) (h : p ≤ n) : p ≤ (stmt e n p).2.1 ∧ (stmt e n p).2.1 ≤ n ∧ ((stmt e n p).1 = true → p < (stmt e n p).2.1) := by
  unfold stmt
  split
  · rename_i hp
    have hr : ∀ l, p ≤ (runA e n l (p + 1) []).2.1 ∧ (runA e n l (p + 1) []).2.1 ≤ n ∧ ((runA e n l (p + 1) []).1 = true → p < (runA e n l (p + 1) []).2.1) := fun l => by
      obtain ⟨h1, h2⟩ := runA_p e n l (p + 1) [] hp
      exact ⟨by omega, h2, fun _ => by omega⟩
    repeat (first | exact hr _ | exact ⟨Nat.le_refl _, h, fun q => by cases q⟩ | split)
  · exact ⟨Nat.le_refl _, h, fun q => by cases q⟩
/-- memory as it was but for the text's own cells -/
def TXD (b : Nat) (X X' : Mm) : Prop := X'.1 = X.1 ∧ X'.2.2.1 = X.2.2.1 ∧ nx X' = nx X ∧ (∀ a, a ≠ b + 85 → a ≠ b + 86 → X'.2.1 a = X.2.1 a) ∧ ∀ a k, (a ≠ b + 85 ∨ k ≠ 0) → X'.2.2.2.1 a k = X.2.2.2.1 a k
def TX (b d n : Nat) (e : Nat → Int32) (X : Mm) (p : Nat) : Prop := CXL b X ∧ X.2.2.2.1 (b + 85) 0 = some (b + 89 + 2 * d) ∧ X.2.1 (b + 85) 1 = nI n ∧ X.2.1 (b + 85) 2 = nI p ∧ ∀ i, i < 100 → X.2.1 (b + 89 + 2 * d) i = e i
def T34 (b : Nat) (X X' : Mm) : Prop := X'.2.1 (b + 85) 3 = X.2.1 (b + 85) 3 ∧ X'.2.1 (b + 85) 4 = X.2.1 (b + 85) 4
def pkC (e : Nat → Int32) (n p : Nat) : Int32 := if p < n then e p else -1
section TEXT
variable {b d n p : Nat} {X X' X'' : Mm} {e : Nat → Int32} {N : Nat} {ρ : Type} {S : SP} {pic : Option SP} {sh : Nat → SV}
theorem TXD_refl : TXD b X X := ⟨rfl, rfl, rfl, fun _ _ _ => rfl, fun _ _ _ => rfl⟩
theorem TXD_trans (h1 : TXD b X X') (h2 : TXD b X' X'') : TXD b X X'' := ⟨h2.1.trans h1.1, h2.2.1.trans h1.2.1, h2.2.2.1.trans h1.2.2.1, fun a h3 h4 => (h2.2.2.2.1 a h3 h4).trans (h1.2.2.2.1 a h3 h4), fun a k h => (h2.2.2.2.2 a k h).trans (h1.2.2.2.2 a k h)⟩
theorem TXD_i {a k : Nat} {v : Int32} (h : a = b + 85 ∨ a = b + 86) : TXD b X (sI X a k v) := ⟨rfl, rfl, rfl, fun a' h1 h2 => sI_oo (by omega), fun _ _ _ => rfl⟩
theorem T34_refl : T34 b X X := ⟨rfl, rfl⟩
theorem T34_trans (h1 : T34 b X X') (h2 : T34 b X' X'') : T34 b X X'' := ⟨h2.1.trans h1.1, h2.2.trans h1.2⟩
theorem FR_TXD (h : TXD b X X') : FR b X X' := ⟨Nat.le_of_eq h.2.2.1.symm, fun a _ hb => ⟨by rw [h.1], h.2.2.2.1 a (by omega) (by omega), by rw [h.2.1], by funext k; exact h.2.2.2.2 a k (Or.inl (by omega))⟩, fun a _ => by rw [h.1]⟩
theorem RM_TXD (hX : CXL b X) (h : TXD b X X') : RM X X' := by
  intro q kd fg hq
  have n1 : q ≠ b + 85 := by
    rintro rfl
    have h1 := hq.1
    rw [hX.2.2.1.1.1] at h1
    have : ∀ k, k < 7 → (9 : Nat) ≠ rtag k := by decide
    exact this kd hq.2.2.1 h1
  have n2 : q ≠ b + 86 := by
    rintro rfl
    have h1 := hq.1
    rw [hX.2.2.1.2.1] at h1
    have : ∀ k, k < 7 → (1 : Nat) ≠ rtag k := by decide
    exact this kd hq.2.2.1 h1
  exact ⟨by rw [h.1]; exact hq.1, by rw [h.2.2.2.1 q n1 n2]; exact hq.2.1, hq.2.2⟩
theorem KEW_TXD (hX : CXL b X) (h : TXD b X X') : KEW b 7 X X' := by
  refine ⟨RM_TXD hX h, fun w hw P wf hr => ?_⟩
  have hi : ∀ l ∈ oks, X'.2.1 (wA b w l) = X.2.1 (wA b w l) := fun l hl => by
    have := wA_rng (b := b) hw hl
    exact h.2.2.2.1 _ (by omega) (by omega)
  have hq : ∀ l ∈ oks, ∀ k, X'.2.2.2.1 (wA b w l) k = X.2.2.2.1 (wA b w l) k := fun l hl k => by
    have := wA_rng (b := b) hw hl
    exact h.2.2.2.2 _ _ (Or.inl (by omega))
  refine WRel_BC (WRel_M (RM_TXD hX h) hr) wf ⟨fun k _ => ?_, fun l hl j _ => ?_, fun l hl => ⟨fun k _ => ?_, ?_⟩⟩
  · show X'.2.1 _ k = X.2.1 _ k
    rw [hi 0 (by decide)]
  · show X'.2.1 _ j = X.2.1 _ j
    rw [hi l (oks7 l hl)]
  · show X'.2.1 _ k = X.2.1 _ k
    rw [hi l (by rcases hl with rfl | rfl <;> decide)]
  · exact hq l (by rcases hl with rfl | rfl <;> decide) 4
theorem CLS_TXD (hc : CLS b S pic sh X) (h : TXD b X X') : CLS b S pic sh X' := by
  obtain ⟨⟨hL, hX, hNB⟩, h0, hp, hf, hsh⟩ := hc
  have hk := KEW_TXD hX h
  have hR := hk.1
  have hq : ∀ w, w < 7 → ∀ l ∈ oks, ∀ k, X'.2.2.2.1 (wA b w l) k = X.2.2.2.1 (wA b w l) k := fun w hw l hl k => by
    have := wA_rng (b := b) hw hl
    exact h.2.2.2.2 _ _ (Or.inl (by omega))
  have hW : ∀ w P, w < 7 → WR1 b X w P → WR1 b X' w P := fun w P hw hh => ⟨hk.2 w hw P hh.2.1 hh.1, hh.2.1, hh.2.2⟩
  refine ⟨⟨?_, ?_, ?_⟩, hW 0 S (by decide) h0, fun P hP => hW 1 P (by decide) (hp P hP), ?_, fun d' hd' => ?_⟩
  · exact LAY_of hL h.1 (fun w hw => ⟨fun k _ => ⟨hq w hw 3 (by decide) k, hq w hw 6 (by decide) k⟩, fun k => hq w hw 0 (by decide) k⟩)
  · obtain ⟨x1, x2, x3, x4⟩ := hX
    refine ⟨by rw [h.1]; exact x1, ?_, by rw [h.1, h.2.2.2.2 (b + 85) 5 (Or.inr (by decide))]; exact x3, fun d' hd' => ?_⟩
    · rw [h.2.2.2.2 b 0 (Or.inl (by omega)), h.2.2.2.2 b 1 (Or.inl (by omega)), h.2.2.2.2 b 3 (Or.inl (by omega)), h.2.2.2.2 b 4 (Or.inl (by omega)), h.2.2.2.2 b 5 (Or.inl (by omega))]
      exact x2
    · rw [h.1, h.2.2.2.2 (b + 87) _ (Or.inl (by omega)), h.2.2.2.2 _ 3 (Or.inr (by decide))]
      exact x4 d' hd'
  · intro w hw l hl
    rw [hq w hw l (by rcases hl with rfl | rfl <;> decide)]
    exact hNB w hw l hl
  · rw [h.2.2.2.1 b (by omega) (by omega)]; exact hf
  · have hs := hsh d' hd'
    unfold SHc at hs ⊢
    rw [h.2.2.2.1 _ (by omega) (by omega), h.2.2.2.1 _ (by omega) (by omega), h.2.2.2.2 _ _ (Or.inl (by omega))]
    rcases hs with hs | ⟨g0, ⟨q, g1, g2⟩, g3⟩ | hs
    · exact Or.inl hs
    · exact Or.inr (Or.inl ⟨g0, ⟨q, g1, hR _ _ _ g2⟩, g3⟩)
    · exact Or.inr (Or.inr hs)
theorem t_gI (h : CXL b X) {k : Nat} {κ : Int32 → Option ρ} : gI 5 X (b + 85) k κ = κ (X.2.1 (b + 85) k) := if_pos h.2.2.1.1.1
theorem t_pI (h : CXL b X) {k : Nat} {v : Int32} {κ : Mm → Option ρ} : pI 5 X (b + 85) k v κ = κ (sI X (b + 85) k v) := if_pos h.2.2.1.1.1
theorem t_ck (h : CXL b X) {κ : Option ρ} : ck 5 X (b + 85) κ = κ := if_pos h.2.2.1.1.1
theorem t_gR5 (h : CXL b X) {κ : Nat → Option ρ} : gR 5 X (b + 85) 5 κ = κ (b + 86) := by
  unfold gR
  rw [if_pos h.2.2.1.1.1, h.2.2.1.1.2]; rfl
theorem t_gN0 (h : TX b d n e X p) {κ0 : Option ρ} {κ : Nat → Option ρ} : gN 5 X (b + 85) 0 κ0 κ = κ (b + 89 + 2 * d) := by
  unfold gN
  rw [if_pos h.1.2.2.1.1.1, h.2.1]; rfl
theorem t_change (h : CXL b X) {j : Nat} (hj : j < 5) {v : Int32} : f_X11_change N (b + 86) (nI j) v X = some ((), sI X (b + 86) j v) := by
  have h6 := h.2.2.1.2.1
  have e1 : ∀ κ : Int32 → Option (Unit × Mm), alen X (b + 86) κ = κ (nI 5) := fun κ => by unfold alen; rw [if_pos (Or.inl (by rw [h6])), h6]
  have e2 : ∀ κ : Mm → Option (Unit × Mm), ast X (b + 86) (nI j) v κ = κ (sI X (b + 86) j v) := fun κ => by
    unfold ast
    rw [if_pos ⟨by rw [h6], by rw [h6]; exact inA_nI hj (by decide)⟩, nIc (by omega)]
  unfold f_X11_change
  rw [if_neg (nI_neg (by omega)), e1, if_neg (nI_ge hj (by decide)), e2]
theorem t_peek (h : TX b d n e X p) (hd : d < 8) (hn : n ≤ 100) (hp : p ≤ n) : f_X5_peek N (b + 85) X = some (pkC e n p, X) := by
  obtain ⟨hX, h0, h1, h2, h3⟩ := id h
  obtain ⟨x1, x2, x3, x4⟩ := hX.2.2.2 d hd
  unfold f_X5_peek pkC
  rw [t_gN0 h, t_gI hX, h2, if_neg (nI_neg (by omega)), t_gI hX, h2, t_gI hX, h1]
  by_cases hpn : p < n
  · have e1 : ∀ κ : Int32 → Option (Int32 × Mm), alen X (b + 89 + 2 * d) κ = κ (nI 100) := fun κ => by unfold alen; rw [if_pos (Or.inl (by rw [x4])), x4]
    have e2 : ∀ κ : Int32 → Option (Int32 × Mm), ald X (b + 89 + 2 * d) (nI p) κ = κ (e p) := fun κ => by
      unfold ald
      rw [if_pos ⟨by rw [x4], by rw [x4]; exact inA_nI (by omega) (by decide)⟩, nIc (by omega), h3 p (by omega)]
    rw [if_neg (nI_ge hpn (by omega)), if_pos hpn, t_gI hX, h2, t_gN0 h, e1, if_neg (nI_ge (by omega) (by decide)), t_gN0 h, t_gI hX, h2, e2]
  · rw [if_pos (nI_le (by omega) (by omega)), if_neg hpn]
theorem t_atDigit (h : TX b d n e X p) (hd : d < 8) (hn : n ≤ 100) (hp : p ≤ n) : f_X5_atDigit N (b + 85) X = some (b32 (dgP e n p), X) := by
  unfold f_X5_atDigit b32
  rw [t_ck h.1, t_peek h hd hn hp, bnd_one, t_ck h.1, t_peek h hd hn hp, bnd_one]
  unfold pkC
  by_cases hpn : p < n
  · rw [if_pos hpn]
    by_cases h1 : e p < 48
    · rw [if_pos h1, if_neg (fun q => absurd h1 (Int32.not_lt.mpr q.2.1))]
    · rw [if_neg h1]
      by_cases h2 : 57 < e p
      · rw [if_pos h2, if_neg (fun q => absurd h2 (Int32.not_lt.mpr q.2.2))]
      · rw [if_neg h2, if_pos ⟨hpn, Int32.not_lt.mp h1, Int32.not_lt.mp h2⟩]
  · rw [if_neg hpn, if_pos (by decide), if_neg (fun q => hpn q.1)]
theorem TX_pl (h : TX b d n e X p) (q : Nat) : TX b d n e (sI X (b + 85) 2 (nI q)) q := by
  obtain ⟨hX, h0, h1, h2, h3⟩ := h
  exact ⟨hX, h0, by simp [sI, up2]; exact h1, by simp [sI, up2], fun i hi => by rw [sI_oo (by omega)]; exact h3 i hi⟩
theorem TX_val (h : TX b d n e X p) {j : Nat} {v : Int32} : TX b d n e (sI X (b + 86) j v) p := by
  obtain ⟨hX, h0, h1, h2, h3⟩ := h
  have hne : b + 85 ≠ b + 86 := by omega
  exact ⟨hX, h0, by rw [sI_oo hne]; exact h1, by rw [sI_oo hne]; exact h2, fun i hi => by rw [sI_oo (by omega)]; exact h3 i hi⟩
theorem T34_pl {q : Int32} : T34 b X (sI X (b + 85) 2 q) := ⟨by simp [sI, up2], by simp [sI, up2]⟩
theorem T34_val {j : Nat} {v : Int32} : T34 b X (sI X (b + 86) j v) := ⟨by rw [sI_oo (by omega)], by rw [sI_oo (by omega)]⟩
theorem t_readDigit (h : TX b d n e X p) (hd : d < 8) (hn : n ≤ 100) (hp : p ≤ n) {j : Nat} (hj : j < 5) : ∃ X', f_X5_readDigit N (b + 85) (nI j) X = some (b32 (dgP e n p), X') ∧ TX b d n e X' (if dgP e n p then p + 1 else p) ∧ TXD b X X' ∧ T34 b X X' ∧ (∀ i, i ≠ j → X'.2.1 (b + 86) i = X.2.1 (b + 86) i) ∧ (dgP e n p → X'.2.1 (b + 86) j = nI (dv e p)) := by
  have hX := h.1
  unfold f_X5_readDigit
  rw [t_ck hX, t_atDigit h hd hn hp, bnd_one, b32_if]
  by_cases hg : dgP e n p
  · have e5 : pkC e n p = e p := if_pos hg.1
    have h2 : (sI X (b + 86) j (nI (dv e p))).2.1 (b + 85) 2 = nI p := by rw [sI_oo (by omega)]; exact h.2.2.2.1
    have hX2 : CXL b (sI X (b + 86) j (nI (dv e p))) := hX
    rw [if_pos hg, if_pos hg, t_gR5 hX, t_ck hX, t_peek h hd hn hp, bnd_one, e5, dval0 hg, t_change hX hj, bnd_one, t_gI hX2, h2, t_pI hX2, nI_1, show b32 (dgP e n p) = 1 from if_pos hg]
    refine ⟨_, rfl, TX_pl (TX_val h) (p + 1), TXD_trans (TXD_i (Or.inr rfl)) (TXD_i (Or.inl rfl)), T34_trans T34_val T34_pl, fun i hi => ?_, fun _ => ?_⟩
    · rw [sI_oo (by omega)]; simp [sI, up2, hi]
    · rw [sI_oo (by omega)]; simp [sI, up2]
  · rw [if_neg hg, if_neg hg, show b32 (dgP e n p) = 0 from if_neg hg]
    exact ⟨X, rfl, h, TXD_refl, T34_refl, fun _ _ => rfl, fun q => absurd q hg⟩
theorem t_readSign (h : TX b d n e X p) (hd : d < 8) (hn : n ≤ 100) (hp : p ≤ n) {c : Int32} (hc : ¬ (-1 : Int32) = c) : ∃ X', f_X5_readSign N (b + 85) c X = some (b32 (p < n ∧ e p = c), X') ∧ TX b d n e X' (if p < n ∧ e p = c then p + 1 else p) ∧ TXD b X X' ∧ T34 b X X' ∧ (∀ i, X'.2.1 (b + 86) i = X.2.1 (b + 86) i) := by
  have hX := h.1
  unfold f_X5_readSign
  rw [t_ck hX, t_peek h hd hn hp, bnd_one]
  have hiff : pkC e n p = c ↔ (p < n ∧ e p = c) := by
    unfold pkC
    by_cases hpn : p < n
    · rw [if_pos hpn]; exact ⟨fun q => ⟨hpn, q⟩, fun q => q.2⟩
    · rw [if_neg hpn]; exact ⟨fun q => absurd q hc, fun q => absurd q.1 hpn⟩
  by_cases hg : p < n ∧ e p = c
  · rw [if_pos (hiff.mpr hg), if_pos hg, t_gI hX, h.2.2.2.1, t_pI hX, nI_1, show b32 (p < n ∧ e p = c) = 1 from if_pos hg]
    exact ⟨_, rfl, TX_pl h (p + 1), TXD_i (Or.inl rfl), T34_pl, fun i => by rw [sI_oo (by omega)]⟩
  · rw [if_neg (fun q => hg (hiff.mp q)), if_neg hg, show b32 (p < n ∧ e p = c) = 0 from if_neg hg]
    exact ⟨X, rfl, h, TXD_refl, T34_refl, fun _ => rfl⟩
theorem sI_sI {a k : Nat} {v v' : Int32} : sI (sI X a k v) a k v' = sI X a k v' := by
  simp only [sI, Prod.mk.injEq, true_and, and_true]
  funext x y
  simp only [up2]
  split
  · split <;> rfl
  · rfl
theorem s_tnum (h : TX b d n e X p) (hd : d < 8) (hn : n ≤ 100) {j : Nat} : ∀ (k c fu p v : Nat), c + k = 3 → 1 ≤ c → k + 1 ≤ fu → p ≤ n → v < 10 ^ c → ∃ c', 1 ≤ c' ∧ c' ≤ 3 ∧ l_X5_readNumber_4 N fu (b + 85) (nI j) (nI v) (nI c) (sI X (b + 85) 2 (nI p)) = j_X5_readNumber_53 N (b + 85) (nI j) (nI (numK e n k p v).2) (nI c') (sI X (b + 85) 2 (nI (numK e n k p v).1)) := by
  intro k
  induction k with
  | zero =>
    intro c fu p v hc hc1 hf hp hv
    obtain ⟨fu, rfl, -⟩ := fuel_s hf
    refine ⟨c, hc1, by omega, ?_⟩
    show b_X5_readNumber_4 N (l_X5_readNumber_4 N fu) _ _ _ _ _ = _
    unfold b_X5_readNumber_4
    rw [if_pos (show (3 : Int32) ≤ nI c from nI_le (a := 3) (by omega) (by omega))]
    rfl
  | succ k ih =>
    intro c fu p v hc hc1 hf hp hv
    obtain ⟨fu, rfl, hf2⟩ := fuel_s hf
    have hv3 : 10 ^ c ≤ 10 ^ 3 := Nat.pow_le_pow_right (by decide) (by omega)
    have hY := TX_pl h p
    have hYX : CXL b (sI X (b + 85) 2 (nI p)) := hY.1
    show ∃ c', _ ∧ _ ∧ b_X5_readNumber_4 N (l_X5_readNumber_4 N fu) _ _ _ _ _ = _
    unfold b_X5_readNumber_4
    rw [if_neg (show ¬ (3 : Int32) ≤ nI c from nI_ge (b := 3) (by omega) (by decide)), t_ck hYX, t_atDigit hY hd hn hp, bnd_one, b32_if, if_neg (nI_ne0 (by omega) (by omega))]
    unfold numK
    by_cases hg : dgP e n p
    · rw [if_pos hg, if_pos hg]
      by_cases hv0 : v = 0
      · rw [if_pos ((nI_le0 (by omega)).mpr hv0), if_pos hv0]
        exact ⟨c, hc1, by omega, rfl⟩
      · rw [if_neg (fun q => hv0 ((nI_le0 (by omega)).mp q)), if_neg hv0]
        unfold j_X5_readNumber_24
        have e2 : (sI X (b + 85) 2 (nI p)).2.1 (b + 85) 2 = nI p := hY.2.2.2.1
        rw [t_ck hYX, t_peek hY hd hn hp, bnd_one, show pkC e n p = e p from if_pos hg.1, t_gI hYX, e2, t_pI hYX, sI_sI, nI_1, nI_1, show nI v * 10 = nI (v * 10) from pk_mul v 10, dval hg]
        have h9 := (dv_le hg).1
        exact ih (c + 1) fu (p + 1) (v * 10 + dv e p) (by omega) (by omega) (by omega) hg.1 (by rw [Nat.pow_succ]; omega)
    · rw [if_neg hg, if_neg hg]
      refine ⟨c, hc1, by omega, ?_⟩
      split <;> rfl
theorem t_readNumber (h : TX b d n e X p) (hd : d < 8) (hn : n ≤ 100) (hp : p ≤ n) (hN : 20 ≤ N) {j : Nat} (hj : j < 5) : ∃ X', f_X5_readNumber N (b + 85) (nI j) X = some (b32 (dgP e n p), X') ∧ TX b d n e X' (if dgP e n p then (numK e n 2 (p + 1) (dv e p)).1 else p) ∧ TXD b X X' ∧ T34 b X X' ∧ (∀ i, i ≠ j → X'.2.1 (b + 86) i = X.2.1 (b + 86) i) ∧ (dgP e n p → X'.2.1 (b + 86) j = nI (numK e n 2 (p + 1) (dv e p)).2) := by
  have hX := h.1
  have h53 : ∀ (Y : Mm) (v : Nat) (c : Nat), CXL b Y → c < 10 → j_X5_readNumber_53 N (b + 85) (nI j) (nI v) (nI c) Y = some (if c = 0 then 0 else 1, sI Y (b + 86) j (nI v)) := fun Y v c hY hc => by
    unfold j_X5_readNumber_53
    rw [t_gR5 hY, t_change hY hj, bnd_one]
    by_cases h0 : c = 0
    · rw [if_pos ((nI_le0 (by omega)).mpr h0), if_pos h0]
    · rw [if_neg (fun q => h0 ((nI_le0 (by omega)).mp q)), if_neg h0]
  unfold f_X5_readNumber
  obtain ⟨N1, hN1, -⟩ := fuel_s (show 19 + 1 ≤ N from hN)
  have u : ∀ x1 x2 x3 X, l_X5_readNumber_4 N N (b + 85) x1 x2 x3 X = b_X5_readNumber_4 N (l_X5_readNumber_4 N N1) (b + 85) x1 x2 x3 X := fun x1 x2 x3 X => by
    conv => lhs; rw [show l_X5_readNumber_4 N N = l_X5_readNumber_4 N (N1 + 1) by rw [← hN1]]
    rfl
  rw [u]
  unfold b_X5_readNumber_4
  rw [if_neg (by decide), t_ck hX, t_atDigit h hd hn hp, bnd_one, b32_if]
  by_cases hg : dgP e n p
  · have h9 := (dv_le hg).1
    obtain ⟨c', c1, c3, e1⟩ := s_tnum (N := N) h hd hn (j := j) 2 1 N1 (p + 1) (dv e p) rfl (by decide) (by omega) hg.1 (by omega)
    have e1' : l_X5_readNumber_4 N N1 (b + 85) (nI j) (nI (dv e p)) (0 + 1) (sI X (b + 85) 2 (nI (p + 1))) = _ := e1
    rw [if_pos hg, if_pos hg, if_pos rfl]
    unfold j_X5_readNumber_24
    have hz : (0 : Int32) * 10 + e p - 48 = nI (dv e p) := by
      rw [show (0 : Int32) * 10 = nI 0 from rfl, dval hg, Nat.zero_add]
    rw [t_ck hX, t_peek h hd hn hp, bnd_one, show pkC e n p = e p from if_pos hg.1, t_gI hX, h.2.2.2.1, t_pI hX, nI_1, hz, e1', h53 (sI X (b + 85) 2 (nI (numK e n 2 (p + 1) (dv e p)).1)) _ _ hX (by omega), if_neg (by omega), show b32 (dgP e n p) = 1 from if_pos hg]
    refine ⟨_, rfl, TX_val (TX_pl h _), TXD_trans (TXD_i (Or.inl rfl)) (TXD_i (Or.inr rfl)), T34_trans T34_pl T34_val, fun i hi => ?_, fun _ => by simp [sI, up2]⟩
    have : (sI (sI X (b + 85) 2 (nI (numK e n 2 (p + 1) (dv e p)).1)) (b + 86) j (nI (numK e n 2 (p + 1) (dv e p)).2)).2.1 (b + 86) i = (sI X (b + 85) 2 (nI (numK e n 2 (p + 1) (dv e p)).1)).2.1 (b + 86) i := by simp [sI, up2, hi]
    rw [this, sI_oo (by omega)]
  · have e0 := h53 X 0 0 hX (by decide)
    have e0' : j_X5_readNumber_53 N (b + 85) (nI j) 0 0 X = some (0, sI X (b + 86) j (nI 0)) := e0
    rw [if_neg hg, if_neg hg, e0', show b32 (dgP e n p) = 0 from if_neg hg]
    exact ⟨_, rfl, TX_val h, TXD_i (Or.inr rfl), T34_val, fun i hi => by simp [sI, up2, hi], fun q => absurd q hg⟩
-- a list of wants, read one by one
def chC (N T : Nat) : List (Nat × Int32) → Mm → Option (Int32 × Mm)
  | [], M => some ((1 : Int32), M)
  | (0, i) :: l, M => ck 5 M T (bnd (f_X5_readDigit N T i M) (fun v M' => (if v = 0 then some ((0 : Int32), M') else chC N T l M')))
  | (1, i) :: l, M => ck 5 M T (bnd (f_X5_readNumber N T i M) (fun v M' => (if v = 0 then some ((0 : Int32), M') else chC N T l M')))
  | (_ + 2, c) :: l, M => ck 5 M T (bnd (f_X5_readSign N T c M) (fun v M' => (if v = 0 then some ((0 : Int32), M') else chC N T l M')))
/-- each digit or number goes to the next place -/
def okA : List (Nat × Int32) → Nat → Prop
  | [], _ => True
  | (0, i) :: l, k => i = nI k ∧ k < 5 ∧ okA l (k + 1)
  | (1, i) :: l, k => i = nI k ∧ k < 5 ∧ okA l (k + 1)
  | (_ + 2, c) :: l, k => (¬ (-1 : Int32) = c ∧ ¬ (-1000 : Int32) = c) ∧ okA l k
theorem VS_app {X X' : Mm} {vs : List Nat} {v : Nat} (h : ∀ i t, vs[i]? = some t → X.2.1 (b + 86) i = nI t) (h1 : ∀ i, i ≠ vs.length → X'.2.1 (b + 86) i = X.2.1 (b + 86) i) (h2 : X'.2.1 (b + 86) vs.length = nI v) : ∀ i t, (vs ++ [v])[i]? = some t → X'.2.1 (b + 86) i = nI t := by
  intro i t hi
  by_cases hl : i = vs.length
  · subst hl
    rw [List.getElem?_concat_length] at hi
    cases hi
    exact h2
  · rw [h1 i hl]
    refine h i t ?_
    rcases Nat.lt_or_ge i vs.length with q | q
    · rwa [List.getElem?_append_left q] at hi
    · rw [List.getElem?_append_right q, List.getElem?_eq_none (by simp; omega)] at hi
      cases hi
theorem t_run (hd : d < 8) (hn : n ≤ 100) (hN : 20 ≤ N) : ∀ (l : List (Nat × Int32)) (p : Nat) (vs : List Nat) (X : Mm), TX b d n e X p → p ≤ n → okA l vs.length → (∀ i t, vs[i]? = some t → X.2.1 (b + 86) i = nI t) → ∃ X', chC N (b + 85) l X = some (if (runA e n l p vs).1 = true then 1 else 0, X') ∧ TX b d n e X' (runA e n l p vs).2.1 ∧ TXD b X X' ∧ T34 b X X' ∧ ((runA e n l p vs).1 = true → ∀ i t, (runA e n l p vs).2.2[i]? = some t → X'.2.1 (b + 86) i = nI t) := by
  intro l
  induction l with
  | nil => intro p vs X h hp _ hv; exact ⟨X, rfl, h, TXD_refl, T34_refl, fun _ => hv⟩
  | cons a l ih =>
    intro p vs X h hp ho hv
    obtain ⟨x, c⟩ := a
    match x, ho with
    | 0, ho =>
      obtain ⟨rfl, h5, ho⟩ := ho
      obtain ⟨X1, a1, a2, a3, a4, a5, a6⟩ := t_readDigit (N := N) h hd hn hp h5
      unfold chC runA
      rw [t_ck h.1, a1, bnd_one, b32_if]
      by_cases hg : dgP e n p
      · rw [if_pos hg] at a2
        rw [if_pos hg, if_pos hg]
        obtain ⟨X', b1, b2, b3, b4, b5⟩ := ih (p + 1) (vs ++ [dv e p]) X1 a2 hg.1 (by rw [List.length_append]; exact ho) (VS_app hv a5 (a6 hg))
        exact ⟨X', b1, b2, TXD_trans a3 b3, T34_trans a4 b4, b5⟩
      · rw [if_neg hg] at a2
        rw [if_neg hg, if_neg hg]
        exact ⟨X1, rfl, a2, a3, a4, fun q => by cases q⟩
    | 1, ho =>
      obtain ⟨rfl, h5, ho⟩ := ho
      obtain ⟨X1, a1, a2, a3, a4, a5, a6⟩ := t_readNumber (N := N) h hd hn hp hN h5
      unfold chC runA
      rw [t_ck h.1, a1, bnd_one, b32_if]
      by_cases hg : dgP e n p
      · rw [if_pos hg] at a2
        rw [if_pos hg, if_pos hg]
        obtain ⟨X', b1, b2, b3, b4, b5⟩ := ih _ (vs ++ [(numK e n 2 (p + 1) (dv e p)).2]) X1 a2 ((numK_1 e n 2 (p + 1) (dv e p)).2 hg.1) (by rw [List.length_append]; exact ho) (VS_app hv a5 (a6 hg))
        exact ⟨X', b1, b2, TXD_trans a3 b3, T34_trans a4 b4, b5⟩
      · rw [if_neg hg] at a2
        rw [if_neg hg, if_neg hg]
        exact ⟨X1, rfl, a2, a3, a4, fun q => by cases q⟩
    | x + 2, ho =>
      obtain ⟨⟨hc, -⟩, ho⟩ := ho
      obtain ⟨X1, a1, a2, a3, a4, a5⟩ := t_readSign (N := N) h hd hn hp hc
      unfold chC runA
      rw [t_ck h.1, a1, bnd_one, b32_if]
      by_cases hg : p < n ∧ e p = c
      · rw [if_pos hg] at a2
        rw [if_pos hg, if_pos hg]
        obtain ⟨X', b1, b2, b3, b4, b5⟩ := ih (p + 1) vs X1 a2 hg.1 ho (fun i t hi => by rw [a5]; exact hv i t hi)
        exact ⟨X', b1, b2, TXD_trans a3 b3, T34_trans a4 b4, b5⟩
      · rw [if_neg hg] at a2
        rw [if_neg hg, if_neg hg]
        exact ⟨X1, rfl, a2, a3, a4, fun q => by cases q⟩
theorem okA_N : okA aN 0 := ⟨rfl, by decide, ⟨by decide, by decide⟩, trivial⟩
theorem okA_M : okA aM 0 := ⟨rfl, by decide, rfl, by decide, ⟨by decide, by decide⟩, rfl, by decide, ⟨by decide, by decide⟩, trivial⟩
theorem okA_S : okA aS 0 := ⟨rfl, by decide, rfl, by decide, ⟨by decide, by decide⟩, rfl, by decide, ⟨by decide, by decide⟩, rfl, by decide, ⟨by decide, by decide⟩, rfl, by decide, ⟨by decide, by decide⟩, trivial⟩
theorem next_eq (N T : Nat) (X : Mm) : f_X5_next N T X = gI 5 X T 2 (fun v1 => pI 5 X T 3 v1 (fun M2 => ck 5 M2 T (bnd (f_X5_peek N T M2) (fun v3 M4 => pI 5 M4 T 4 v3 (fun M6 => gI 5 M6 T 4 (fun v7 => (if v7 = (98 : Int32) then gI 5 M6 T 2 (fun v8 => pI 5 M6 T 2 (v8 + (1 : Int32)) (fun M9 => chC N T aN M9)) else (if v7 = (109 : Int32) then gI 5 M6 T 2 (fun v8 => pI 5 M6 T 2 (v8 + (1 : Int32)) (fun M9 => chC N T aM M9)) else (if v7 = (110 : Int32) then gI 5 M6 T 2 (fun v8 => pI 5 M6 T 2 (v8 + (1 : Int32)) (fun M9 => chC N T aN M9)) else (if v7 = (115 : Int32) then gI 5 M6 T 2 (fun v8 => pI 5 M6 T 2 (v8 + (1 : Int32)) (fun M9 => chC N T aS M9)) else some ((0 : Int32), M6))))))))))) := rfl
/-- the class reads a statement -/
theorem t_next (h : TX b d n e X p) (hd : d < 8) (hn : n ≤ 100) (hp : p ≤ n) (hN : 20 ≤ N) : ∃ X', f_X5_next N (b + 85) X = some (if (stmt e n p).1 = true then 1 else 0, X') ∧ TX b d n e X' (stmt e n p).2.1 ∧ TXD b X X' ∧ X'.2.1 (b + 85) 3 = nI p ∧ ((stmt e n p).1 = true → X'.2.1 (b + 85) 4 = e p ∧ ∀ i t, (stmt e n p).2.2[i]? = some t → X'.2.1 (b + 86) i = nI t) := by
  have hX := h.1
  have h2 : TX b d n e (sI X (b + 85) 3 (nI p)) p := ⟨hX, h.2.1, by simp [sI, up2]; exact h.2.2.1, by simp [sI, up2]; exact h.2.2.2.1, fun i hi => by rw [sI_oo (by omega)]; exact h.2.2.2.2 i hi⟩
  have h3 : TX b d n e (sI (sI X (b + 85) 3 (nI p)) (b + 85) 4 (pkC e n p)) p := ⟨hX, h.2.1, by simp [sI, up2]; exact h.2.2.1, by simp [sI, up2]; exact h.2.2.2.1, fun i hi => by rw [sI_oo (by omega), sI_oo (by omega)]; exact h.2.2.2.2 i hi⟩
  have d3 : TXD b X (sI (sI X (b + 85) 3 (nI p)) (b + 85) 4 (pkC e n p)) := TXD_trans (TXD_i (Or.inl rfl)) (TXD_i (Or.inl rfl))
  have e3 : (sI (sI X (b + 85) 3 (nI p)) (b + 85) 4 (pkC e n p)).2.1 (b + 85) 3 = nI p := by simp [sI, up2]
  have e4 : (sI (sI X (b + 85) 3 (nI p)) (b + 85) 4 (pkC e n p)).2.1 (b + 85) 4 = pkC e n p := by simp [sI, up2]
  rw [next_eq, t_gI hX, h.2.2.2.1, t_pI hX, t_ck h2.1, t_peek h2 hd hn hp, bnd_one, t_pI h2.1, t_gI h3.1, e4]
  have hgo : ∀ l, okA l 0 → p < n → ∃ X', gI 5 (sI (sI X (b + 85) 3 (nI p)) (b + 85) 4 (pkC e n p)) (b + 85) 2 (fun v8 => pI 5 (sI (sI X (b + 85) 3 (nI p)) (b + 85) 4 (pkC e n p)) (b + 85) 2 (v8 + (1 : Int32)) (fun M9 => chC N (b + 85) l M9)) = some (if (runA e n l (p + 1) []).1 = true then 1 else 0, X') ∧ TX b d n e X' (runA e n l (p + 1) []).2.1 ∧ TXD b X X' ∧ X'.2.1 (b + 85) 3 = nI p ∧ ((runA e n l (p + 1) []).1 = true → X'.2.1 (b + 85) 4 = e p ∧ ∀ i t, (runA e n l (p + 1) []).2.2[i]? = some t → X'.2.1 (b + 86) i = nI t) := by
    intro l hl hpn
    obtain ⟨X', a1, a2, a3, a4, a5⟩ := t_run (N := N) hd hn hN l (p + 1) [] _ (TX_pl h3 (p + 1)) hpn hl (fun i t hi => by simp at hi)
    refine ⟨X', by rw [t_gI h3.1, h3.2.2.2.1, t_pI h3.1, nI_1, a1], a2, TXD_trans d3 (TXD_trans (TXD_i (Or.inl rfl)) a3), ?_, fun q => ⟨?_, a5 q⟩⟩
    · rw [a4.1, T34_pl.1, e3]
    · rw [a4.2, T34_pl.2, e4]
      exact if_pos hpn
  unfold stmt
  by_cases hpn : p < n
  · rw [show pkC e n p = e p from if_pos hpn] at hgo e3 e4 h3 d3 ⊢
    rw [if_pos hpn]
    by_cases c1 : e p = 98
    · rw [if_pos c1, if_pos c1]; exact hgo aN okA_N hpn
    rw [if_neg c1, if_neg c1]
    by_cases c2 : e p = 109
    · rw [if_pos c2, if_pos c2]; exact hgo aM okA_M hpn
    rw [if_neg c2, if_neg c2]
    by_cases c3 : e p = 110
    · rw [if_pos c3, if_pos c3]; exact hgo aN okA_N hpn
    rw [if_neg c3, if_neg c3]
    by_cases c4 : e p = 115
    · rw [if_pos c4, if_pos c4]; exact hgo aS okA_S hpn
    rw [if_neg c4, if_neg c4]
    exact ⟨_, rfl, h3, d3, e3, fun q => by cases q⟩
  · have hm : pkC e n p = -1 := if_neg hpn
    rw [hm] at e3 e4 h3 d3 ⊢
    rw [if_neg (by decide), if_neg (by decide), if_neg (by decide), if_neg (by decide), if_neg hpn]
    exact ⟨_, rfl, h3, d3, e3, fun q => by cases q⟩
end TEXT
