/-! The class made. -/
section CTOR3
variable {M : Mm} {N a b : Nat}
theorem WN_keep {M' : Mm} {n : Nat} {o : Option Nat} (h : ∀ q, q = a ∨ (n ≤ q ∧ q ≤ n + 10) → SQ M M' q) (hw : WN M a n o) : WN M' a n o := by
  have ha := h a (Or.inl rfl)
  have hn : ∀ k, k ≤ 10 → SQ M M' (n + k) := fun k hk => h (n + k) (Or.inr ⟨by omega, by omega⟩)
  have h0 : SQ M M' n := hn 0 (by decide)
  unfold WN at hw ⊢
  rw [h0.1, (hn 1 (by decide)).1, (hn 2 (by decide)).1, (hn 3 (by decide)).1, (hn 4 (by decide)).1, (hn 5 (by decide)).1, (hn 6 (by decide)).1, (hn 7 (by decide)).1, (hn 8 (by decide)).1, (hn 9 (by decide)).1, (hn 10 (by decide)).1, ha.2.2, ha.2.1, (hn 2 (by decide)).2.2, (hn 5 (by decide)).2.2, h0.2.1, (hn 2 (by decide)).2.1, (hn 4 (by decide)).2.1, (hn 7 (by decide)).2.1, (hn 8 (by decide)).2.1]
  exact hw
def oN (b w : Nat) : Option Nat := if 2 ≤ w ∧ w < 6 then some (b + oW (w + 1)) else none
def CM (b : Nat) (M : Mm) : Prop := nx M = b + 104 ∧ (∀ w, w < 7 → M.1 (b + oW w) = (14, 0) ∧ WN M (b + oW w) (b + pW w) (oN b w)) ∧ ((M.1 b).1 = 15 ∧ (M.2.2.2.1 b 0 = some (b + 1) ∧ M.2.2.2.1 b 1 = some (b + 13) ∧ M.2.2.2.1 b 3 = some (b + 25) ∧ M.2.2.2.1 b 4 = some (b + 85) ∧ M.2.2.2.1 b 5 = some (b + 87)) ∧ M.2.1 b 2 = 0) ∧ ((M.1 (b + 85)).1 = 9 ∧ M.2.2.2.1 (b + 85) 5 = some (b + 86) ∧ M.1 (b + 86) = (1, 5) ∧ M.1 (b + 87) = (3, 8)) ∧ ∀ d, d < 8 → SFm M b d
set_option maxHeartbeats 16000000 in
theorem z_class (hN : 20 ≤ N) (hk : M.1 b = (15, 0)) (hx : nx M = b + 1) : ∃ M', f_X11_init N b M = some ((), M') ∧ CM b M' ∧ (∀ q, q < b → SQ M M' q) ∧ ∀ q, b + 104 ≤ q → M'.1 q = M.1 q := by
  obtain ⟨u1, u2, u3, u4⟩ := nw_f (M := M) (t := 14) (k := 0)
  rw [hx] at u1 u2 u3 u4
  obtain ⟨M4, e4, ⟨x4, k4, s4, t4⟩, w0⟩ := z_wn (N := N) (M := nw M 14 0) (a := b + 1) hN (by rw [u3]) (by rw [u1]; omega)
  rw [u1] at x4 k4 t4 w0
  have c4 : SQ M M4 b := SQ_tr (u2 _ (by omega)) (k4 _ (by omega) (by omega))
  obtain ⟨v1, v2, v3, v4⟩ := nw_f (M := sR M4 b 0 (some (b + 1))) (t := 14) (k := 0)
  rw [show nx (sR M4 b 0 (some (b + 1))) = b + 13 from x4] at v1 v2 v3 v4
  obtain ⟨M10, e10, ⟨x10, k10, s10, t10⟩, w1⟩ := z_wn (N := N) (M := nw (sR M4 b 0 (some (b + 1))) 14 0) (a := b + 13) hN (by rw [v3]) (by rw [v1]; omega)
  rw [v1] at x10 k10 t10 w1
  -- the five in mind
  obtain ⟨y1, y2, y3, y4⟩ := nw_f (M := sI (sR M10 b 1 (some (b + 13))) b 2 0) (t := 14) (k := 0)
  rw [show nx (sI (sR M10 b 1 (some (b + 13))) b 2 0) = b + 25 from x10] at y1 y2 y3 y4
  obtain ⟨z1, z2, z3, z4⟩ := nw_f (M := nw (sI (sR M10 b 1 (some (b + 13))) b 2 0) 14 0) (t := 14) (k := 0)
  rw [y1] at z1 z2 z3 z4
  obtain ⟨M18, hM18⟩ : ∃ Z, Z = nw (nw (sI (sR M10 b 1 (some (b + 13))) b 2 0) 14 0) 14 0 := ⟨_, rfl⟩
  rw [← hM18] at z1 z2 z3 z4
  obtain ⟨q1, q2, q3, q4⟩ := nw_f (M := M18) (t := 14) (k := 0)
  rw [z1] at q1 q2 q3 q4
  obtain ⟨r1, r2, r3, r4⟩ := nw_f (M := nw M18 14 0) (t := 14) (k := 0)
  rw [q1] at r1 r2 r3 r4
  obtain ⟨m1, m2, m3, m4⟩ := nw_f (M := nw (nw M18 14 0) 14 0) (t := 14) (k := 0)
  rw [r1] at m1 m2 m3 m4
  obtain ⟨M22, hM22⟩ : ∃ Z, Z = nw (nw (nw M18 14 0) 14 0) 14 0 := ⟨_, rfl⟩
  rw [← hM22] at m1 m2 m3 m4
  have p10 : ∀ q, q < b + 25 → q ≠ b → SQ M10 M22 q := fun q h1 h2 => SQ_tr (SQ_tr (sR_f h2) (sI_f h2)) (SQ_tr (SQ_tr (y2 q h1) (z2 q (by omega))) (SQ_tr (q2 q (by omega)) (SQ_tr (r2 q (by omega)) (m2 q (by omega)))))
  have h25 : M22.1 (b + 25) = (14, 0) := by rw [(SQ_tr (z2 (b + 25) (by omega)) (SQ_tr (q2 _ (by omega)) (SQ_tr (r2 _ (by omega)) (m2 _ (by omega))))).1]; exact y3
  have h26 : M22.1 (b + 26) = (14, 0) := by rw [(SQ_tr (q2 (b + 26) (by omega)) (SQ_tr (r2 _ (by omega)) (m2 _ (by omega)))).1]; exact z3
  have h27 : M22.1 (b + 27) = (14, 0) := by rw [(SQ_tr (r2 (b + 27) (by omega)) (m2 _ (by omega))).1]; exact q3
  have h28 : M22.1 (b + 28) = (14, 0) := by rw [(m2 (b + 28) (by omega)).1]; exact r3
  have h29 : M22.1 (b + 29) = (14, 0) := m3
  obtain ⟨M25, e25, ⟨x25, k25, s25, t25⟩, w6⟩ := z_wn (N := N) (M := M22) (a := b + 29) hN (by rw [h29]) (by omega)
  rw [m1] at x25 k25 t25 w6
  have kk28 : M25.1 (b + 28) = (14, 0) := by rw [(k25 _ (by omega) (by omega)).1, h28]
  obtain ⟨M28, e28, ⟨x28, k28, s28, t28⟩, w5⟩ := z_w (N := N) (M := M25) (a := b + 28) (b + 29) hN (by rw [(k25 _ (by omega) (by omega)).1, h28]) (by omega)
  rw [x25] at x28 k28 t28 w5
  have kk27 : M28.1 (b + 27) = (14, 0) := by rw [(k28 _ (by omega) (by omega)).1, (k25 _ (by omega) (by omega)).1, h27]
  obtain ⟨M31, e31, ⟨x31, k31, s31, t31⟩, w4⟩ := z_w (N := N) (M := M28) (a := b + 27) (b + 28) hN (by rw [kk27]) (by omega)
  rw [x28] at x31 k31 t31 w4
  have kk26 : M31.1 (b + 26) = (14, 0) := by rw [(k31 _ (by omega) (by omega)).1, (k28 _ (by omega) (by omega)).1, (k25 _ (by omega) (by omega)).1, h26]
  obtain ⟨M34, e34, ⟨x34, k34, s34, t34⟩, w3⟩ := z_w (N := N) (M := M31) (a := b + 26) (b + 27) hN (by rw [kk26]) (by omega)
  rw [x31] at x34 k34 t34 w3
  have kk25 : M34.1 (b + 25) = (14, 0) := by rw [(k34 _ (by omega) (by omega)).1, (k31 _ (by omega) (by omega)).1, (k28 _ (by omega) (by omega)).1, (k25 _ (by omega) (by omega)).1, h25]
  obtain ⟨M37, e37, ⟨x37, k37, s37, t37⟩, w2⟩ := z_w (N := N) (M := M34) (a := b + 25) (b + 26) hN (by rw [kk25]) (by omega)
  rw [x34] at x37 k37 t37 w2
  have x37' : nx M37 = b + 85 := by omega
  -- text and shelves
  obtain ⟨g1, g2, g3, g4⟩ := nw_f (M := sR M37 b 3 (some (b + 25))) (t := 9) (k := 0)
  rw [show nx (sR M37 b 3 (some (b + 25))) = b + 85 from x37'] at g1 g2 g3 g4
  obtain ⟨M43, e43, ⟨x43, k43, s43, t43⟩, w43, w43'⟩ := z_text (N := N) (M := nw (sR M37 b 3 (some (b + 25))) 9 0) (a := b + 85) (by rw [g3]) (by rw [g1]; omega)
  rw [g1] at x43 k43 t43 w43 w43'
  obtain ⟨j1, j2, j3, j4⟩ := nw_f (M := sR M43 b 4 (some (b + 85))) (t := 3) (k := 8)
  rw [show nx (sR M43 b 4 (some (b + 85))) = b + 87 from x43] at j1 j2 j3 j4
  obtain ⟨M46, hM46⟩ : ∃ Z, Z = nw (sR M43 b 4 (some (b + 85))) 3 8 := ⟨_, rfl⟩
  rw [← hM46] at j1 j2 j3 j4
  have p4 : SQ M4 M10 b → True := fun _ => trivial
  -- b's own cell
  have bk4 : (M4.1 b).1 = 15 := by rw [c4.1, hk]
  have b10 : SQ (sR M4 b 0 (some (b + 1))) M10 b := SQ_tr (v2 _ (by omega)) (k10 _ (by omega) (by omega))
  have bk10 : (M10.1 b).1 = 15 := by rw [b10.1]; exact bk4
  have b22 : SQ (sI (sR M10 b 1 (some (b + 13))) b 2 0) M22 b := SQ_tr (SQ_tr (y2 _ (by omega)) (z2 _ (by omega))) (SQ_tr (q2 _ (by omega)) (SQ_tr (r2 _ (by omega)) (m2 _ (by omega))))
  have b37 : SQ M22 M37 b := SQ_tr (k25 _ (by omega) (by omega)) (SQ_tr (k28 _ (by omega) (by omega)) (SQ_tr (k31 _ (by omega) (by omega)) (SQ_tr (k34 _ (by omega) (by omega)) (k37 _ (by omega) (by omega)))))
  have bk37 : (M37.1 b).1 = 15 := by rw [b37.1, b22.1]; exact bk10
  have b43 : SQ (sR M37 b 3 (some (b + 25))) M43 b := SQ_tr (g2 _ (by omega)) (k43 _ (by omega) (by omega))
  have bk43 : (M43.1 b).1 = 15 := by rw [b43.1]; exact bk37
  have b46 : SQ (sR M43 b 4 (some (b + 85))) M46 b := j2 _ (by omega)
  have bk46 : (M46.1 b).1 = 15 := by rw [b46.1]; exact bk43
  obtain ⟨M50, hM50⟩ : ∃ Z, Z = sI (sI (sR M46 b 5 (some (b + 87))) b 6 0) b 7 0 := ⟨_, rfl⟩
  have x50 : nx M50 = b + 88 := by rw [hM50]; exact j1
  have s50 : ∀ q, q ≠ b → SQ M46 M50 q := fun q h => by rw [hM50]; exact SQ_tr (sR_f h) (SQ_tr (sI_f h) (sI_f h))
  have r50 : ∀ k, k ≠ 5 → M50.2.2.2.1 b k = M46.2.2.2.1 b k := fun k h => by rw [hM50]; simp [sI, sR, up2, h]
  obtain ⟨Mf, ef, xf, kf, hf, -, sf, tf⟩ := z_shelves (N := N) (b := b) 8 0 N M50 rfl (by omega) (by rw [hM50]; exact bk46) (by rw [hM50]; simp [sI, sR, up2]) (by rw [(s50 _ (by omega)).1]; exact j3) (by rw [x50])
  have P46 : ∀ q, q < b + 87 → q ≠ b → SQ M46 Mf q := fun q h1 h2 => SQ_tr (s50 q h2) (kf q (by omega) (by omega))
  have P43 : ∀ q, q < b + 87 → q ≠ b → SQ M43 Mf q := fun q h1 h2 => SQ_tr (sR_f h2) (SQ_tr (j2 q h1) (P46 q h1 h2))
  have P37 : ∀ q, q < b + 85 → q ≠ b → SQ M37 Mf q := fun q h1 h2 => SQ_tr (sR_f h2) (SQ_tr (g2 q h1) (SQ_tr (k43 q (by omega) (by omega)) (P43 q (by omega) h2)))
  have P34 : ∀ q, q < b + 74 → q ≠ b → q ≠ b + 25 → SQ M34 Mf q := fun q h1 h2 h3 => SQ_tr (k37 q (by omega) h3) (P37 q (by omega) h2)
  have P31 : ∀ q, q < b + 63 → q ≠ b → q ≠ b + 25 → q ≠ b + 26 → SQ M31 Mf q := fun q h1 h2 h3 h4 => SQ_tr (k34 q (by omega) h4) (P34 q (by omega) h2 h3)
  have P28 : ∀ q, q < b + 52 → q ≠ b → q ≠ b + 25 → q ≠ b + 26 → q ≠ b + 27 → SQ M28 Mf q := fun q h1 h2 h3 h4 h5 => SQ_tr (k31 q (by omega) h5) (P31 q (by omega) h2 h3 h4)
  have P25 : ∀ q, q < b + 41 → q ≠ b → q ≠ b + 25 → q ≠ b + 26 → q ≠ b + 27 → q ≠ b + 28 → SQ M25 Mf q := fun q h1 h2 h3 h4 h5 h6 => SQ_tr (k28 q (by omega) h6) (P28 q (by omega) h2 h3 h4 h5)
  have P22 : ∀ q, q < b + 25 → q ≠ b → SQ M22 Mf q := fun q h1 h2 => SQ_tr (k25 q (by omega) (by omega)) (P25 q (by omega) h2 (by omega) (by omega) (by omega) (by omega))
  have P10 : ∀ q, q < b + 25 → q ≠ b → SQ M10 Mf q := fun q h1 h2 => SQ_tr (p10 q h1 h2) (P22 q h1 h2)
  have P4 : ∀ q, q < b + 13 → q ≠ b → SQ M4 Mf q := fun q h1 h2 => SQ_tr (sR_f h2) (SQ_tr (v2 q h1) (SQ_tr (k10 q (by omega) (by omega)) (P10 q (by omega) h2)))
  have bf : SQ M50 Mf b := kf b (by omega) (by omega)
  refine ⟨Mf, ?_, ⟨xf, fun w hw => ?_, ⟨?_, ⟨?_, ?_, ?_, ?_, ?_⟩, ?_⟩, ⟨?_, ?_, ?_, ?_⟩, fun d hd => sf d (Nat.zero_le _) hd⟩, fun q hq => ?_, fun q hq => ?_⟩
  · unfold f_X11_init
    rw [i_nw, hx, e4, bnd_one, i_pR (show (M4.1 b).1 = 11 + 4 from bk4), i_nw, show nx (sR M4 b 0 (some (b + 1))) = b + 13 from x4, e10, bnd_one, i_pR (show (M10.1 b).1 = 11 + 4 from bk10), i_pZ (show ((sR M10 b 1 (some (b + 13))).1 b).1 = 11 + 4 from bk10), i_nw, show nx (sI (sR M10 b 1 (some (b + 13))) b 2 0) = b + 25 from x10, i_nw, y1, ← hM18, i_nw, z1, i_nw, q1, i_nw, r1, ← hM22]
    rw [show b + 25 + 1 + 1 + 1 + 1 = b + 29 from rfl, e25, bnd_one, show b + 25 + 1 + 1 + 1 = b + 28 from rfl, e28, bnd_one, show b + 25 + 1 + 1 = b + 27 from rfl, e31, bnd_one, show b + 25 + 1 = b + 26 from rfl, e34, bnd_one, e37, bnd_one, i_pR (show (M37.1 b).1 = 11 + 4 from bk37), i_nw, show nx (sR M37 b 3 (some (b + 25))) = b + 85 from x37', e43, bnd_one, i_pR (show (M43.1 b).1 = 11 + 4 from bk43), i_nw, show nx (sR M43 b 4 (some (b + 85))) = b + 87 from x43, ← hM46, i_pR (show (M46.1 b).1 = 11 + 4 from bk46), i_pI (show ((sR M46 b 5 (some (b + 87))).1 b).1 = 11 + 4 from bk46), i_pI (show ((sI (sR M46 b 5 (some (b + 87))) b 6 0).1 b).1 = 11 + 4 from bk46), ← hM50]
    exact ef
  · match w, hw with
    | 0, _ => exact ⟨by rw [(P4 _ (by show b + 1 < _; omega) (by show b + 1 ≠ _; omega)).1]; rw [show b + oW 0 = b + 1 from rfl, s4]; exact u3, WN_keep (fun q h => P4 q (by rcases h with rfl | h; show b + 1 < _; omega; have h2 : q ≤ b + 2 + 10 := h.2; omega) (by rcases h with rfl | h; show b + 1 ≠ _; omega; have h2 : b + 2 ≤ q := h.1; omega)) w0⟩
    | 1, _ => exact ⟨by rw [(P10 _ (by show b + 13 < _; omega) (by show b + 13 ≠ _; omega)).1]; rw [show b + oW 1 = b + 13 from rfl, s10]; exact v3, WN_keep (fun q h => P10 q (by rcases h with rfl | h; show b + 13 < _; omega; have h2 : q ≤ b + 14 + 10 := h.2; omega) (by rcases h with rfl | h; show b + 13 ≠ _; omega; have h2 : b + 14 ≤ q := h.1; omega)) w1⟩
    | 2, _ => exact ⟨by rw [(P37 (b + oW 2) (by show b + 25 < _; omega) (by show b + 25 ≠ _; omega)).1]; rw [show b + oW 2 = b + 25 from rfl, s37]; exact kk25, WN_keep (fun q h => P37 q (by rcases h with rfl | h; show b + 25 < _; omega; have h2 : q ≤ b + 74 + 10 := h.2; omega) (by rcases h with rfl | h; show b + 25 ≠ _; omega; have h2 : b + 74 ≤ q := h.1; omega)) w2⟩
    | 3, _ => exact ⟨by rw [(P34 (b + oW 3) (by show b + 26 < _; omega) (by show b + 26 ≠ _; omega) (by show b + 26 ≠ _; omega)).1]; rw [show b + oW 3 = b + 26 from rfl, s34]; exact kk26, WN_keep (fun q h => P34 q (by rcases h with rfl | h; show b + 26 < _; omega; have h2 : q ≤ b + 63 + 10 := h.2; omega) (by rcases h with rfl | h; show b + 26 ≠ _; omega; have h2 : b + 63 ≤ q := h.1; omega) (by rcases h with rfl | h; show b + 26 ≠ _; omega; have h2 : b + 63 ≤ q := h.1; omega)) w3⟩
    | 4, _ => exact ⟨by rw [(P31 (b + oW 4) (by show b + 27 < _; omega) (by show b + 27 ≠ _; omega) (by show b + 27 ≠ _; omega) (by show b + 27 ≠ _; omega)).1]; rw [show b + oW 4 = b + 27 from rfl, s31]; exact kk27, WN_keep (fun q h => P31 q (by rcases h with rfl | h; show b + 27 < _; omega; have h2 : q ≤ b + 52 + 10 := h.2; omega) (by rcases h with rfl | h; show b + 27 ≠ _; omega; have h2 : b + 52 ≤ q := h.1; omega) (by rcases h with rfl | h; show b + 27 ≠ _; omega; have h2 : b + 52 ≤ q := h.1; omega) (by rcases h with rfl | h; show b + 27 ≠ _; omega; have h2 : b + 52 ≤ q := h.1; omega)) w4⟩
    | 5, _ => exact ⟨by rw [(P28 (b + oW 5) (by show b + 28 < _; omega) (by show b + 28 ≠ _; omega) (by show b + 28 ≠ _; omega) (by show b + 28 ≠ _; omega) (by show b + 28 ≠ _; omega)).1]; rw [show b + oW 5 = b + 28 from rfl, s28]; exact kk28, WN_keep (fun q h => P28 q (by rcases h with rfl | h; show b + 28 < _; omega; have h2 : q ≤ b + 41 + 10 := h.2; omega) (by rcases h with rfl | h; show b + 28 ≠ _; omega; have h2 : b + 41 ≤ q := h.1; omega) (by rcases h with rfl | h; show b + 28 ≠ _; omega; have h2 : b + 41 ≤ q := h.1; omega) (by rcases h with rfl | h; show b + 28 ≠ _; omega; have h2 : b + 41 ≤ q := h.1; omega) (by rcases h with rfl | h; show b + 28 ≠ _; omega; have h2 : b + 41 ≤ q := h.1; omega)) w5⟩
    | 6, _ => exact ⟨by rw [(P25 (b + oW 6) (by show b + 29 < _; omega) (by show b + 29 ≠ _; omega) (by show b + 29 ≠ _; omega) (by show b + 29 ≠ _; omega) (by show b + 29 ≠ _; omega) (by show b + 29 ≠ _; omega)).1]; rw [show b + oW 6 = b + 29 from rfl, s25]; exact h29, WN_keep (fun q h => P25 q (by rcases h with rfl | h; show b + 29 < _; omega; have h2 : q ≤ b + 30 + 10 := h.2; omega) (by rcases h with rfl | h; show b + 29 ≠ _; omega; have h2 : b + 30 ≤ q := h.1; omega) (by rcases h with rfl | h; show b + 29 ≠ _; omega; have h2 : b + 30 ≤ q := h.1; omega) (by rcases h with rfl | h; show b + 29 ≠ _; omega; have h2 : b + 30 ≤ q := h.1; omega) (by rcases h with rfl | h; show b + 29 ≠ _; omega; have h2 : b + 30 ≤ q := h.1; omega) (by rcases h with rfl | h; show b + 29 ≠ _; omega; have h2 : b + 30 ≤ q := h.1; omega)) w6⟩
  · rw [bf.1, hM50]; exact bk46
  · rw [bf.2.2, r50 0 (by decide), b46.2.2]
    have e1 : (sR M43 b 4 (some (b + 85))).2.2.2.1 b 0 = M43.2.2.2.1 b 0 := by simp [sR, up2]
    have e2 : (sR M37 b 3 (some (b + 25))).2.2.2.1 b 0 = M37.2.2.2.1 b 0 := by simp [sR, up2]
    have e3 : (sI (sR M10 b 1 (some (b + 13))) b 2 0).2.2.2.1 b 0 = M10.2.2.2.1 b 0 := by simp [sI, sR, up2]
    rw [e1, b43.2.2, e2, b37.2.2, b22.2.2, e3, b10.2.2]
    simp [sR, up2]
  · rw [bf.2.2, r50 1 (by decide), b46.2.2]
    have e1 : (sR M43 b 4 (some (b + 85))).2.2.2.1 b 1 = M43.2.2.2.1 b 1 := by simp [sR, up2]
    have e2 : (sR M37 b 3 (some (b + 25))).2.2.2.1 b 1 = M37.2.2.2.1 b 1 := by simp [sR, up2]
    rw [e1, b43.2.2, e2, b37.2.2, b22.2.2]
    simp [sI, sR, up2]
  · rw [bf.2.2, r50 3 (by decide), b46.2.2]
    have e1 : (sR M43 b 4 (some (b + 85))).2.2.2.1 b 3 = M43.2.2.2.1 b 3 := by simp [sR, up2]
    rw [e1, b43.2.2]
    simp [sR, up2]
  · rw [bf.2.2, r50 4 (by decide), b46.2.2]
    simp [sR, up2]
  · rw [bf.2.2, hM50]
    simp [sI, sR, up2]
  · have e1 : M50.2.1 b 2 = M46.2.1 b 2 := by rw [hM50]; simp [sI, sR, up2]
    rw [bf.2.1, e1, b46.2.1]
    show M43.2.1 b 2 = 0
    rw [b43.2.1]
    show M37.2.1 b 2 = 0
    rw [b37.2.1, b22.2.1]
    simp [sI, up2]
  · rw [(P43 (b + 85) (by omega) (by omega)).1, s43, g3]
  · rw [(P43 (b + 85) (by omega) (by omega)).2.2]; exact w43'
  · rw [(P43 (b + 86) (by omega) (by omega)).1]; exact w43
  · rw [hf, (s50 _ (by omega)).1]; exact j3
  · exact SQ_tr (SQ_tr (u2 q (by omega)) (k4 q (by omega) (by omega))) (P4 q (by omega) (by omega))
  · rw [tf q hq, hM50]
    show M46.1 q = _
    rw [j4 q (by omega)]
    show M43.1 q = _
    rw [t43 q (by omega), g4 q (by omega)]
    show M37.1 q = _
    rw [t37 q (by omega), t34 q (by omega), t31 q (by omega), t28 q (by omega), t25 q (by omega), m4 q (by omega), r4 q (by omega), q4 q (by omega), z4 q (by omega), y4 q (by omega)]
    show M10.1 q = _
    rw [t10 q (by omega), v4 q (by omega)]
    show M4.1 q = _
    rw [t4 q (by omega), u4 q (by omega)]
end CTOR3
