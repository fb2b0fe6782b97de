/-! The class made. -/
section CTOR3
variable {M : Mm} {N a b : Nat}
theorem WN_keep {M' : Mm} {n : Nat} {o : Option Nat} (h : ∀ q, q = a ∨ (n ≤ q ∧ q ≤ n + 10) → SQ M M' q) (hw : WN M a n o) : WN M' a n o := by
  have ha := h a (Or.inl rfl)
  have hn : ∀ k, k ≤ 10 → SQ M M' (n + k) := fun k hk => h (n + k) (Or.inr ⟨by omega, by omega⟩)
  have h0 : SQ M M' n := hn 0 (by decide)
  unfold WN at hw ⊢
  rw [h0.1, (hn 1 (by decide)).1, (hn 2 (by decide)).1, (hn 3 (by decide)).1, (hn 4 (by decide)).1, (hn 5 (by decide)).1, (hn 6 (by decide)).1, (hn 7 (by decide)).1, (hn 8 (by decide)).1, (hn 9 (by decide)).1, (hn 10 (by decide)).1, ha.2.2, ha.2.1, (hn 2 (by decide)).2.2, (hn 5 (by decide)).2.2, h0.2.1, (hn 2 (by decide)).2.1, (hn 4 (by decide)).2.1, (hn 7 (by decide)).2.1, (hn 8 (by decide)).2.1]
  exact hw
def oN (b w : Nat) : Option Nat := if 2 ≤ w ∧ w < 6 then some (b + oW (w + 1)) else none
def CM (b : Nat) (M : Mm) : Prop := nx M = b + 104 ∧ (∀ w, w < 7 → M.1 (b + oW w) = (14, 0) ∧ WN M (b + oW w) (b + pW w) (oN b w)) ∧ ((M.1 b).1 = 15 ∧ (M.2.2.2.1 b 0 = some (b + 1) ∧ M.2.2.2.1 b 1 = some (b + 13) ∧ M.2.2.2.1 b 3 = some (b + 25) ∧ M.2.2.2.1 b 4 = some (b + 85) ∧ M.2.2.2.1 b 5 = some (b + 87)) ∧ M.2.1 b 2 = 0) ∧ ((M.1 (b + 85)).1 = 9 ∧ M.2.2.2.1 (b + 85) 5 = some (b + 86) ∧ M.1 (b + 86) = (1, 5) ∧ M.1 (b + 87) = (3, 8)) ∧ ∀ d, d < 8 → SFm M b d
def W7 (M : Mm) (b : Nat) : Prop := ∀ w, w < 7 → M.1 (b + oW w) = (14, 0) ∧ WN M (b + oW w) (b + pW w) (oN b w)
theorem oW_r : ∀ w, w < 7 → (1 ≤ oW w ∧ oW w < 85) ∧ 2 ≤ pW w ∧ pW w + 10 < 85 := by decide
theorem W7_keep {M' : Mm} (h : ∀ q, b < q → q < b + 85 → SQ M M' q) (hw : W7 M b) : W7 M' b := fun w hw7 => by
  obtain ⟨⟨h1, h2⟩, h3, h4⟩ := oW_r w hw7
  obtain ⟨g1, g2⟩ := hw w hw7
  exact ⟨by rw [(h _ (by omega) (by omega)).1]; exact g1, WN_keep (fun q hq => h q (by rcases hq with rfl | hq <;> omega) (by rcases hq with rfl | hq <;> omega)) g2⟩
/-- a world made at b + i, its cells from b + m on -/
def WA (b : Nat) (M : Mm) (i m : Nat) (o : Option Nat) : Prop := M.1 (b + i) = (14, 0) ∧ WN M (b + i) (b + m) o
theorem WA_keep {M' : Mm} {i m j k : Nat} {o : Option Nat} (h : ∀ q, q < b + k → q ≠ b + j → SQ M M' q) (hc : i ≠ j ∧ i < k ∧ m + 10 < k ∧ (j < m ∨ m + 10 < j)) (hw : WA b M i m o) : WA b M' i m o := by
  obtain ⟨c1, c2, c3, c4⟩ := hc
  exact ⟨by rw [(h _ (by omega) (by omega)).1]; exact hw.1, WN_keep (fun q hq => h q (by rcases hq with rfl | hq <;> omega) (by rcases hq with rfl | hq <;> omega)) hw.2⟩
theorem KA_keep {M' : Mm} {i j k : Nat} (h : ∀ q, q < b + k → q ≠ b + j → SQ M M' q) (hc : i ≠ j ∧ i < k) (hw : M.1 (b + i) = (14, 0)) : M'.1 (b + i) = (14, 0) := by
  obtain ⟨c1, c2⟩ := hc
  rw [(h _ (by omega) (by omega)).1]
  exact hw
theorem SA_keep {M' : Mm} {j k : Nat} (h : ∀ q, q < b + k → q ≠ b + j → SQ M M' q) (hc : 25 ≤ k ∧ 25 ≤ j) : ∀ q, q < b + 25 → SQ M M' q := fun q hq => by
  obtain ⟨c1, c2⟩ := hc
  exact h q (by omega) (by omega)
theorem TA_keep {M' : Mm} {k : Nat} (h : ∀ q, b + k ≤ q → M'.1 q = M.1 q) (hc : k ≤ 85) : ∀ q, b + 85 ≤ q → M'.1 q = M.1 q := fun q hq => h q (by omega)
theorem z_new {n : Nat} (hN : 20 ≤ N) (hx : nx M = n) : ∃ M', f_X10_initn N n (nw M 14 0) = some ((), M') ∧ nx M' = n + 12 ∧ (∀ q, q < n → SQ M M' q) ∧ (M'.1 n = (14, 0) ∧ WN M' n (n + 1) none) ∧ ∀ q, n + 12 ≤ q → M'.1 q = M.1 q := by
  obtain ⟨u1, u2, u3, u4⟩ := nw_f (M := M) (t := 14) (k := 0)
  rw [hx] at u1 u2 u3 u4
  obtain ⟨M4, e4, ⟨x4, k4, s4, t4⟩, w0⟩ := z_wn (N := N) (M := nw M 14 0) (a := n) hN (by rw [u3]) (by rw [u1]; omega)
  rw [u1] at x4 k4 t4 w0
  exact ⟨M4, e4, x4, fun q hq => SQ_tr (u2 q (by omega)) (k4 q (by omega) (by omega)), ⟨by rw [s4]; exact u3, w0⟩, fun q hq => by rw [t4 q (by omega), u4 q (by omega)]⟩
def nw5 (M : Mm) : Mm := nw (nw (nw (nw (nw M 14 0) 14 0) 14 0) 14 0) 14 0
theorem z_five {n : Nat} (hx : nx M = n) : nx (nw5 M) = n + 5 ∧ (∀ q, q < n → SQ M (nw5 M) q) ∧ ((nw5 M).1 n = (14, 0) ∧ (nw5 M).1 (n + 1) = (14, 0) ∧ (nw5 M).1 (n + 2) = (14, 0) ∧ (nw5 M).1 (n + 3) = (14, 0) ∧ (nw5 M).1 (n + 4) = (14, 0)) ∧ ∀ q, n + 5 ≤ q → (nw5 M).1 q = M.1 q := by
  unfold nw5
  obtain ⟨a1, a2, a3, a4⟩ := nw_f (M := M) (t := 14) (k := 0)
  rw [hx] at a1 a2 a3 a4
  generalize nw M 14 0 = A at *
  obtain ⟨b1, b2, b3, b4⟩ := nw_f (M := A) (t := 14) (k := 0)
  rw [a1] at b1 b2 b3 b4
  generalize nw A 14 0 = B at *
  obtain ⟨c1, c2, c3, c4⟩ := nw_f (M := B) (t := 14) (k := 0)
  rw [b1] at c1 c2 c3 c4
  generalize nw B 14 0 = C at *
  obtain ⟨d1, d2, d3, d4⟩ := nw_f (M := C) (t := 14) (k := 0)
  rw [c1] at d1 d2 d3 d4
  generalize nw C 14 0 = D at *
  obtain ⟨e1, e2, e3, e4⟩ := nw_f (M := D) (t := 14) (k := 0)
  rw [d1] at e1 e2 e3 e4
  generalize nw D 14 0 = E at *
  have f4 : ∀ q, q < n + 4 → E.1 q = D.1 q := fun q hq => (e2 q hq).1
  have f3 : ∀ q, q < n + 3 → E.1 q = C.1 q := fun q hq => (f4 q (by omega)).trans (d2 q hq).1
  have f2 : ∀ q, q < n + 2 → E.1 q = B.1 q := fun q hq => (f3 q (by omega)).trans (c2 q hq).1
  have f1 : ∀ q, q < n + 1 → E.1 q = A.1 q := fun q hq => (f2 q (by omega)).trans (b2 q hq).1
  refine ⟨e1, fun q hq => ?_, ⟨?_, ?_, ?_, ?_, ?_⟩, fun q hq => ?_⟩
  · exact SQ_tr (a2 q hq) (SQ_tr (b2 q (by omega)) (SQ_tr (c2 q (by omega)) (SQ_tr (d2 q (by omega)) (e2 q (by omega)))))
  · exact (f1 n (by omega)).trans a3
  · exact (f2 (n + 1) (by omega)).trans b3
  · exact (f3 (n + 2) (by omega)).trans c3
  · exact (f4 (n + 3) (by omega)).trans d3
  · exact e3
  · exact (e4 q (by omega)).trans ((d4 q (by omega)).trans ((c4 q (by omega)).trans ((b4 q (by omega)).trans (a4 q (by omega)))))
theorem z_step {j k x1 : Nat} (hN : 20 ≤ N) (hx : nx M = b + k) (hk : M.1 (b + j) = (14, 0)) (hj : j < k) : ∃ M', f_X10_init N (b + j) x1 M = some ((), M') ∧ nx M' = b + (k + 11) ∧ (∀ q, q < b + k → q ≠ b + j → SQ M M' q) ∧ WA b M' j k (some x1) ∧ ∀ q, b + (k + 11) ≤ q → M'.1 q = M.1 q := by
  obtain ⟨M', e, ⟨p1, p2, p3, p4⟩, w⟩ := z_w (N := N) (M := M) (a := b + j) x1 hN (by rw [hk]) (by omega)
  rw [hx] at p1 p2 p4 w
  exact ⟨M', e, p1, p2, ⟨p3.trans hk, w⟩, p4⟩
theorem z_stepn {j k : Nat} (hN : 20 ≤ N) (hx : nx M = b + k) (hk : M.1 (b + j) = (14, 0)) (hj : j < k) : ∃ M', f_X10_initn N (b + j) M = some ((), M') ∧ nx M' = b + (k + 11) ∧ (∀ q, q < b + k → q ≠ b + j → SQ M M' q) ∧ WA b M' j k none ∧ ∀ q, b + (k + 11) ≤ q → M'.1 q = M.1 q := by
  obtain ⟨M', e, ⟨p1, p2, p3, p4⟩, w⟩ := z_wn (N := N) (M := M) (a := b + j) hN (by rw [hk]) (by omega)
  rw [hx] at p1 p2 p4 w
  exact ⟨M', e, p1, p2, ⟨p3.trans hk, w⟩, p4⟩
theorem z_minds (hN : 20 ≤ N) (hx : nx M = b + 30) (h25 : M.1 (b + 25) = (14, 0)) (h26 : M.1 (b + 26) = (14, 0)) (h27 : M.1 (b + 27) = (14, 0)) (h28 : M.1 (b + 28) = (14, 0)) (h29 : M.1 (b + 29) = (14, 0)) : ∃ M25 M28 M31 M34 M37, (f_X10_initn N (b + 29) M = some ((), M25) ∧ f_X10_init N (b + 28) (b + 29) M25 = some ((), M28) ∧ f_X10_init N (b + 27) (b + 28) M28 = some ((), M31) ∧ f_X10_init N (b + 26) (b + 27) M31 = some ((), M34) ∧ f_X10_init N (b + 25) (b + 26) M34 = some ((), M37)) ∧ nx M37 = b + 85 ∧ (∀ q, q < b + 25 → SQ M M37 q) ∧ (WA b M37 25 74 (some (b + 26)) ∧ WA b M37 26 63 (some (b + 27)) ∧ WA b M37 27 52 (some (b + 28)) ∧ WA b M37 28 41 (some (b + 29)) ∧ WA b M37 29 30 none) ∧ ∀ q, b + 85 ≤ q → M37.1 q = M.1 q := by
  obtain ⟨M25, e25, (x25 : nx M25 = b + 41), k25, w6, (t25 : ∀ q, b + 41 ≤ q → M25.1 q = M.1 q)⟩ := z_stepn (N := N) (M := M) (b := b) (j := 29) (k := 30) hN hx h29 (by decide)
  obtain ⟨M28, e28, (x28 : nx M28 = b + 52), k28, w5, (t28 : ∀ q, b + 52 ≤ q → M28.1 q = M25.1 q)⟩ := z_step (N := N) (M := M25) (b := b) (j := 28) (k := 41) (x1 := b + 29) hN x25 (KA_keep k25 (by decide) h28) (by decide)
  obtain ⟨M31, e31, (x31 : nx M31 = b + 63), k31, w4, (t31 : ∀ q, b + 63 ≤ q → M31.1 q = M28.1 q)⟩ := z_step (N := N) (M := M28) (b := b) (j := 27) (k := 52) (x1 := b + 28) hN x28 (KA_keep k28 (by decide) (KA_keep k25 (by decide) h27)) (by decide)
  obtain ⟨M34, e34, (x34 : nx M34 = b + 74), k34, w3, (t34 : ∀ q, b + 74 ≤ q → M34.1 q = M31.1 q)⟩ := z_step (N := N) (M := M31) (b := b) (j := 26) (k := 63) (x1 := b + 27) hN x31 (KA_keep k31 (by decide) (KA_keep k28 (by decide) (KA_keep k25 (by decide) h26))) (by decide)
  obtain ⟨M37, e37, (x37 : nx M37 = b + 85), k37, w2, (t37 : ∀ q, b + 85 ≤ q → M37.1 q = M34.1 q)⟩ := z_step (N := N) (M := M34) (b := b) (j := 25) (k := 74) (x1 := b + 26) hN x34 (KA_keep k34 (by decide) (KA_keep k31 (by decide) (KA_keep k28 (by decide) (KA_keep k25 (by decide) h25)))) (by decide)
  refine ⟨M25, M28, M31, M34, M37, ⟨e25, e28, e31, e34, e37⟩, x37, fun q hq => ?_, ⟨w2, ?_, ?_, ?_, ?_⟩, fun q hq => ?_⟩
  · exact SQ_tr (SA_keep k25 (by decide) q hq) (SQ_tr (SA_keep k28 (by decide) q hq) (SQ_tr (SA_keep k31 (by decide) q hq) (SQ_tr (SA_keep k34 (by decide) q hq) (SA_keep k37 (by decide) q hq))))
  · exact WA_keep k37 (by decide) w3
  · exact WA_keep k37 (by decide) (WA_keep k34 (by decide) w4)
  · exact WA_keep k37 (by decide) (WA_keep k34 (by decide) (WA_keep k31 (by decide) w5))
  · exact WA_keep k37 (by decide) (WA_keep k34 (by decide) (WA_keep k31 (by decide) (WA_keep k28 (by decide) w6)))
  · exact (t37 q hq).trans ((TA_keep t34 (by decide) q hq).trans ((TA_keep t31 (by decide) q hq).trans ((TA_keep t28 (by decide) q hq).trans (TA_keep t25 (by decide) q hq))))
theorem z_txt (hx : nx M = b + 85) : ∃ M43, f_X5_init N (b + 85) (nw (sR M b 3 (some (b + 25))) 9 0) = some ((), M43) ∧ nx M43 = b + 87 ∧ (∀ q, q < b + 85 → q ≠ b → SQ M M43 q) ∧ SQ (sR M b 3 (some (b + 25))) M43 b ∧ ((M43.1 (b + 85)).1 = 9 ∧ M43.2.2.2.1 (b + 85) 5 = some (b + 86) ∧ M43.1 (b + 86) = (1, 5)) ∧ ∀ q, b + 87 ≤ q → M43.1 q = M.1 q := by
  obtain ⟨g1, g2, g3, g4⟩ := nw_f (M := sR M b 3 (some (b + 25))) (t := 9) (k := 0)
  rw [show nx (sR M b 3 (some (b + 25))) = b + 85 from hx] at g1 g2 g3 g4
  obtain ⟨M43, e43, ⟨x43, k43, s43, t43⟩, w43, w43'⟩ := z_text (N := N) (M := nw (sR M b 3 (some (b + 25))) 9 0) (a := b + 85) (by rw [g3]) (by rw [g1]; omega)
  rw [g1] at x43 k43 t43 w43 w43'
  refine ⟨M43, e43, x43, fun q h1 h2 => SQ_tr (sR_f h2) (SQ_tr (g2 q h1) (k43 q (by omega) (by omega))), SQ_tr (g2 b (by omega)) (k43 b (by omega) (by omega)), ⟨by rw [s43, g3], w43', w43⟩, fun q hq => (t43 q (by omega)).trans (g4 q (by omega))⟩
def c50 (M : Mm) (b : Nat) : Mm := sI (sI (sR (nw (sR M b 4 (some (b + 85))) 3 8) b 5 (some (b + 87))) b 6 0) b 7 0
theorem c50_f (hx : nx M = b + 87) : nx (c50 M b) = b + 88 ∧ (∀ q, q < b + 87 → q ≠ b → SQ M (c50 M b) q) ∧ (c50 M b).1 b = M.1 b ∧ (c50 M b).2.1 b 2 = M.2.1 b 2 ∧ ((c50 M b).2.2.2.1 b 4 = some (b + 85) ∧ (c50 M b).2.2.2.1 b 5 = some (b + 87) ∧ ∀ k, k < 4 → (c50 M b).2.2.2.1 b k = M.2.2.2.1 b k) ∧ (c50 M b).1 (b + 87) = (3, 8) ∧ ∀ q, b + 88 ≤ q → (c50 M b).1 q = M.1 q := by
  obtain ⟨j1, j2, j3, j4⟩ := nw_f (M := sR M b 4 (some (b + 85))) (t := 3) (k := 8)
  rw [show nx (sR M b 4 (some (b + 85))) = b + 87 from hx] at j1 j2 j3 j4
  have jb := j2 b (by omega)
  unfold c50
  generalize nw (sR M b 4 (some (b + 85))) 3 8 = Z at *
  refine ⟨j1, fun q h1 h2 => SQ_tr (sR_f h2) (SQ_tr (j2 q h1) (SQ_tr (sR_f h2) (SQ_tr (sI_f h2) (sI_f h2)))), jb.1, ?_, ⟨?_, ?_, fun k hk => ?_⟩, j3, j4⟩
  · have : (sI (sI (sR Z b 5 (some (b + 87))) b 6 0) b 7 0).2.1 b 2 = Z.2.1 b 2 := by simp [sI, sR, up2]
    rw [this, jb.2.1]; rfl
  · have : (sI (sI (sR Z b 5 (some (b + 87))) b 6 0) b 7 0).2.2.2.1 b 4 = Z.2.2.2.1 b 4 := by simp [sI, sR, up2]
    rw [this, jb.2.2]; simp [sR, up2]
  · simp [sI, sR, up2]
  · have h5 : ¬ k = 5 := by omega
    have h4 : ¬ k = 4 := by omega
    have : (sI (sI (sR Z b 5 (some (b + 87))) b 6 0) b 7 0).2.2.2.1 b k = Z.2.2.2.1 b k := by simp [sI, sR, up2, h5]
    rw [this, jb.2.2]; simp [sR, up2, h4]
theorem z_fill (hN : 20 ≤ N) (hx : nx M = b + 87) (hk : (M.1 b).1 = 15) : ∃ Mf, l_X11_init_105 N N b (0 : Int32) 87 1300 (c50 M b) = some ((), Mf) ∧ nx Mf = b + 104 ∧ (∀ q, q < b + 87 → q ≠ b → SQ M Mf q) ∧ (Mf.1 b).1 = 15 ∧ (Mf.2.2.2.1 b 4 = some (b + 85) ∧ Mf.2.2.2.1 b 5 = some (b + 87) ∧ ∀ k, k < 4 → Mf.2.2.2.1 b k = M.2.2.2.1 b k) ∧ Mf.2.1 b 2 = M.2.1 b 2 ∧ Mf.1 (b + 87) = (3, 8) ∧ (∀ d, d < 8 → SFm Mf b d) ∧ ∀ q, b + 104 ≤ q → Mf.1 q = M.1 q := by
  obtain ⟨c1, c2, c3, c4, ⟨c5, c6, c7⟩, c8, c9⟩ := c50_f (M := M) (b := b) hx
  generalize c50 M b = Z at *
  obtain ⟨Mf, ef, xf, kf, hf, -, sf, tf⟩ := z_shelves (N := N) (b := b) 8 0 N Z rfl (by omega) (by rw [c3]; exact hk) c6 c8 c1
  have bf : SQ Z Mf b := kf b (by omega) (by omega)
  rw [show nI 0 = (0 : Int32) from rfl] at ef
  exact ⟨Mf, ef, xf, fun q h1 h2 => SQ_tr (c2 q h1 h2) (kf q (by omega) (by omega)), by rw [bf.1, c3]; exact hk, ⟨by rw [bf.2.2]; exact c5, by rw [bf.2.2]; exact c6, fun k h => by rw [bf.2.2]; exact c7 k h⟩, by rw [bf.2.1]; exact c4, by rw [hf]; exact c8, fun d hd => sf d (Nat.zero_le _) hd, fun q hq => (tf q hq).trans (c9 q (by omega))⟩
variable {ρ : Type} {R : Option ρ}
theorem e_nwo {t n k : Nat} {κ : Nat → Mm → Option ρ} (h : nx M = k) (h2 : κ k (nw M t n) = R) : nwo t n M κ = R := by
  rw [← h] at h2
  exact h2
theorem e_bnd {α : Type} {x : Option (α × Mm)} {v : α} {M' : Mm} {κ : α → Mm → Option ρ} (h : x = some (v, M')) (h2 : κ v M' = R) : bnd x κ = R := by
  rw [h]
  exact h2
theorem e_pR {c k : Nat} {v : Option Nat} {κ : Mm → Option ρ} (h : (M.1 a).1 = c + 4) (h2 : κ (sR M a k v) = R) : pR c M a k v κ = R := (i_pR h).trans h2
theorem e_pI {c k : Nat} {v : Int32} {κ : Mm → Option ρ} (h : (M.1 a).1 = c + 4) (h2 : κ (sI M a k v) = R) : pI c M a k v κ = R := (i_pI h).trans h2
theorem e_pZ {c k : Nat} {κ : Mm → Option ρ} (h : (M.1 a).1 = c + 4) (h2 : κ (sI M a k 0) = R) : pZ c M a k 0 κ = R := (i_pZ h).trans h2
theorem nx_nw {t k n : Nat} (h : nx M = n) : nx (nw M t k) = n + 1 := by rw [nw_f.1, h]
def c13 (M : Mm) (b : Nat) : Mm := sI (sR M b 1 (some (b + 13))) b 2 0
theorem z_run {M4 M10 M25 M28 M31 M34 M37 M43 Mf : Mm} (hx : nx M = b + 1) (e4 : f_X10_initn N (b + 1) (nw M 14 0) = some ((), M4)) (k4 : (M4.1 b).1 = 15) (x4 : nx M4 = b + 13) (e10 : f_X10_initn N (b + 13) (nw (sR M4 b 0 (some (b + 1))) 14 0) = some ((), M10)) (k10 : (M10.1 b).1 = 15) (x10 : nx M10 = b + 25) (e25 : f_X10_initn N (b + 29) (nw5 (c13 M10 b)) = some ((), M25)) (e28 : f_X10_init N (b + 28) (b + 29) M25 = some ((), M28)) (e31 : f_X10_init N (b + 27) (b + 28) M28 = some ((), M31)) (e34 : f_X10_init N (b + 26) (b + 27) M31 = some ((), M34)) (e37 : f_X10_init N (b + 25) (b + 26) M34 = some ((), M37)) (k37 : (M37.1 b).1 = 15) (x37 : nx M37 = b + 85) (e43 : f_X5_init N (b + 85) (nw (sR M37 b 3 (some (b + 25))) 9 0) = some ((), M43)) (k43 : (M43.1 b).1 = 15) (x43 : nx M43 = b + 87) (k46 : ((nw (sR M43 b 4 (some (b + 85))) 3 8).1 b).1 = 15) (ef : l_X11_init_105 N N b (0 : Int32) 87 1300 (c50 M43 b) = some ((), Mf)) : f_X11_init N b M = some ((), Mf) := by
  have y0 : nx (c13 M10 b) = b + 25 := x10
  have y1 : nx (nw (c13 M10 b) 14 0) = b + 26 := nx_nw y0
  have y2 : nx (nw (nw (c13 M10 b) 14 0) 14 0) = b + 27 := nx_nw y1
  have y3 : nx (nw (nw (nw (c13 M10 b) 14 0) 14 0) 14 0) = b + 28 := nx_nw y2
  have y4 : nx (nw (nw (nw (nw (c13 M10 b) 14 0) 14 0) 14 0) 14 0) = b + 29 := nx_nw y3
  unfold nw5 at e25
  unfold c50 at ef
  unfold c13 at y0 y1 y2 y3 y4 e25
  unfold f_X11_init
  refine e_nwo hx ?_
  refine e_bnd e4 ?_
  refine e_pR k4 ?_
  refine e_nwo (show nx (sR M4 b 0 (some (b + 1))) = b + 13 from x4) ?_
  refine e_bnd e10 ?_
  refine e_pR k10 ?_
  refine e_pZ (show ((sR M10 b 1 (some (b + 13))).1 b).1 = 11 + 4 from k10) ?_
  refine e_nwo y0 ?_
  refine e_nwo y1 ?_
  refine e_nwo y2 ?_
  refine e_nwo y3 ?_
  refine e_nwo y4 ?_
  refine e_bnd e25 ?_
  refine e_bnd e28 ?_
  refine e_bnd e31 ?_
  refine e_bnd e34 ?_
  refine e_bnd e37 ?_
  refine e_pR k37 ?_
  refine e_nwo (show nx (sR M37 b 3 (some (b + 25))) = b + 85 from x37) ?_
  refine e_bnd e43 ?_
  refine e_pR k43 ?_
  refine e_nwo (show nx (sR M43 b 4 (some (b + 85))) = b + 87 from x43) ?_
  refine e_pR k46 ?_
  refine e_pI (show ((sR (nw (sR M43 b 4 (some (b + 85))) 3 8) b 5 (some (b + 87))).1 b).1 = 11 + 4 from k46) ?_
  refine e_pI (show ((sI (sR (nw (sR M43 b 4 (some (b + 85))) 3 8) b 5 (some (b + 87))) b 6 0).1 b).1 = 11 + 4 from k46) ?_
  exact ef
theorem z_class (hN : 20 ≤ N) (hk : M.1 b = (15, 0)) (hx : nx M = b + 1) : ∃ M', f_X11_init N b M = some ((), M') ∧ CM b M' ∧ (∀ q, q < b → SQ M M' q) ∧ ∀ q, b + 104 ≤ q → M'.1 q = M.1 q := by
  obtain ⟨M4, e4, (x4 : nx M4 = b + 13), k4, w0, (t4 : ∀ q, b + 13 ≤ q → M4.1 q = M.1 q)⟩ := z_new (N := N) (M := M) (n := b + 1) hN hx
  have b4 : (M4.1 b).1 = 15 := by rw [(k4 b (by omega)).1, hk]
  obtain ⟨M10, e10, (x10 : nx M10 = b + 25), k10, w1, (t10 : ∀ q, b + 25 ≤ q → M10.1 q = M4.1 q)⟩ := z_new (N := N) (M := sR M4 b 0 (some (b + 1))) (n := b + 13) hN x4
  have bq10 := k10 b (by omega)
  have b10 : (M10.1 b).1 = 15 := by rw [bq10.1]; exact b4
  have r10 : M10.2.2.2.1 b 0 = some (b + 1) := by rw [bq10.2.2]; simp [sR, up2]
  have W0 : WA b M10 1 2 none := WA_keep (M := M4) (b := b) (i := 1) (m := 2) (j := 0) (k := 13) (fun q h1 h2 => SQ_tr (sR_f h2) (k10 q h1)) (by decide) w0
  obtain ⟨f1, f2, ⟨f3, f4, f5, f6, f7⟩, f8⟩ := z_five (M := c13 M10 b) (n := b + 25) x10
  obtain ⟨M25, M28, M31, M34, M37, ⟨e25, e28, e31, e34, e37⟩, x37, k37, ⟨w2, w3, w4, w5, w6⟩, t37⟩ := z_minds (N := N) (M := nw5 (c13 M10 b)) (b := b) hN f1 f3 f4 f5 f6 f7
  have q37 : ∀ q, q < b + 25 → SQ (c13 M10 b) M37 q := fun q hq => SQ_tr (f2 q hq) (k37 q hq)
  have bq37 := q37 b (by omega)
  have b37 : (M37.1 b).1 = 15 := by rw [bq37.1]; exact b10
  have r37 : M37.2.2.2.1 b 0 = some (b + 1) := by rw [bq37.2.2, ← r10]; simp [c13, sI, sR, up2]
  have s37 : M37.2.2.2.1 b 1 = some (b + 13) := by rw [bq37.2.2]; simp [c13, sI, sR, up2]
  have i37 : M37.2.1 b 2 = 0 := by rw [bq37.2.1]; simp [c13, sI, up2]
  have hb37 : ∀ q, q < b + 25 → q ≠ b + 0 → SQ M10 M37 q := fun q h1 h2 => SQ_tr (SQ_tr (sR_f h2) (sI_f h2)) (q37 q h1)
  have V0 : WA b M37 1 2 none := WA_keep hb37 (by decide) W0
  have V1 : WA b M37 13 14 none := WA_keep hb37 (by decide) w1
  have V : W7 M37 b := fun w hw => by
    match w, hw with
    | 0, _ => exact V0
    | 1, _ => exact V1
    | 2, _ => exact w2
    | 3, _ => exact w3
    | 4, _ => exact w4
    | 5, _ => exact w5
    | 6, _ => exact w6
  obtain ⟨M43, e43, x43, k43, s43, ⟨v1, v2, v3⟩, t43⟩ := z_txt (N := N) (M := M37) (b := b) x37
  have b43 : (M43.1 b).1 = 15 := by rw [s43.1]; exact b37
  obtain ⟨Mf, ef, xf, kf, bf, ⟨r4, r5, rk⟩, i2, l87, sf, tf⟩ := z_fill (N := N) (M := M43) (b := b) hN x43 b43
  have b46 : ((nw (sR M43 b 4 (some (b + 85))) 3 8).1 b).1 = 15 := by
    rw [((nw_f (M := sR M43 b 4 (some (b + 85))) (t := 3) (k := 8)).2.1 b (by show b < nx M43; omega)).1]; exact b43
  have low : ∀ q, q < b → SQ M Mf q := fun q hq => SQ_tr (k4 q (by omega)) (SQ_tr (sR_f (Nat.ne_of_lt hq)) (SQ_tr (k10 q (by omega)) (SQ_tr (hb37 q (by omega) (Nat.ne_of_lt hq)) (SQ_tr (k43 q (by omega) (Nat.ne_of_lt hq)) (kf q (by omega) (Nat.ne_of_lt hq))))))
  have up : ∀ q, b + 104 ≤ q → Mf.1 q = M.1 q := fun q hq => (tf q hq).trans ((t43 q (by omega)).trans ((t37 q (by omega)).trans ((f8 q (by omega)).trans ((show (c13 M10 b).1 q = M10.1 q from rfl).trans ((t10 q (by omega)).trans (t4 q (by omega)))))))
  have r43 : ∀ k, k < 3 → M43.2.2.2.1 b k = M37.2.2.2.1 b k := fun k h => by
    have h3 : ¬ k = 3 := by omega
    rw [s43.2.2]; simp [sR, up2, h3]
  have r433 : M43.2.2.2.1 b 3 = some (b + 25) := by rw [s43.2.2]; simp [sR, up2]
  have i43 : M43.2.1 b 2 = 0 := by rw [s43.2.1]; exact i37
  have V' : W7 Mf b := W7_keep (fun q h1 h2 => SQ_tr (k43 q h2 (by omega)) (kf q (by omega) (by omega))) V
  exact ⟨Mf, z_run hx e4 b4 x4 e10 b10 x10 e25 e28 e31 e34 e37 b37 x37 e43 b43 x43 b46 ef, ⟨xf, V', ⟨bf, ⟨by rw [rk 0 (by decide), r43 0 (by decide)]; exact r37, by rw [rk 1 (by decide), r43 1 (by decide)]; exact s37, by rw [rk 3 (by decide)]; exact r433, r4, r5⟩, by rw [i2]; exact i43⟩, ⟨by rw [(kf (b + 85) (by omega) (by omega)).1]; exact v1, by rw [(kf (b + 85) (by omega) (by omega)).2.2]; exact v2, by rw [(kf (b + 86) (by omega) (by omega)).1]; exact v3, l87⟩, sf⟩, low, up⟩
end CTOR3
