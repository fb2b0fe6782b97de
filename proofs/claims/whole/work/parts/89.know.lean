/-! The classes known at the start, what the throws stand on. -/
section KNOW
variable {s : State} {args : Array Value}
theorem i_X0 : ∀ w ∈ u_ws RX0 TX0 1, w ∈ lw_tbl := by decide +kernel
theorem i_X1 : ∀ w ∈ u_ws RX1 TX1 5, w ∈ lw_tbl := by decide +kernel
theorem i_X2 : ∀ w ∈ u_ws RX2 TX2 1, w ∈ lw_tbl := by decide +kernel
theorem i_X3 : ∀ w ∈ u_ws RX3 TX3 1, w ∈ lw_tbl := by decide +kernel
theorem i_X4 : ∀ w ∈ u_ws RX4 TX4 1, w ∈ lw_tbl := by decide +kernel
theorem i_X5 : ∀ w ∈ u_ws RX5 TX5 6, w ∈ lw_tbl := by decide +kernel
theorem i_X6 : ∀ w ∈ u_ws RX6 TX6 1, w ∈ lw_tbl := by decide +kernel
theorem i_X7 : ∀ w ∈ u_ws RX7 TX7 4, w ∈ lw_tbl := by decide +kernel
theorem i_X8 : ∀ w ∈ u_ws RX8 TX8 1, w ∈ lw_tbl := by decide +kernel
theorem i_X9 : ∀ w ∈ u_ws RX9 TX9 1, w ∈ lw_tbl := by decide +kernel
theorem i_X10 : ∀ w ∈ u_ws RX10 TX10 18, w ∈ lw_tbl := by decide +kernel
theorem i_X11 : ∀ w ∈ u_ws RX11 TX11 8, w ∈ lw_tbl := by decide +kernel
theorem i_X12 : ∀ w ∈ u_ws RX12 TX12 19, w ∈ lw_tbl := by decide +kernel
theorem i_nest : ∀ q ∈ nestL, Cond.methodLinkNest q.1 q.2.1 q.2.2.1 q.2.2.2 ∈ lw_tbl := by decide +kernel
theorem i_str : ∀ q ∈ strL, Cond.stringRef q.1 q.2.1 q.2.2 ∈ lw_tbl := by decide +kernel
theorem i_decl : ∀ q ∈ ixL, Cond.declares q ∈ lw_tbl := by decide +kernel
theorem i_cast : ∀ q ∈ csL, Cond.castable q q ∈ lw_tbl := by decide +kernel
theorem KN_start (hts : ∀ w ∈ lw_tbl, w.before args s = true) : ∃ D : va_G, ∀ (k : Nat) (q : vw_C), vwCl[k]? = some q → u_Kn s q.1 q.2.1 q.2.2 (D.1 k) (D.2 k) := by
  obtain ⟨c0, j0, h0⟩ := u_known hts i_X0 (hts (.instantiable RX0 1) (by decide +kernel))
  obtain ⟨c1, j1, h1⟩ := u_known hts i_X1 (hts (.instantiable RX1 5) (by decide +kernel))
  obtain ⟨c2, j2, h2⟩ := u_known hts i_X2 (hts (.instantiable RX2 1) (by decide +kernel))
  obtain ⟨c3, j3, h3⟩ := u_known hts i_X3 (hts (.instantiable RX3 1) (by decide +kernel))
  obtain ⟨c4, j4, h4⟩ := u_known hts i_X4 (hts (.instantiable RX4 1) (by decide +kernel))
  obtain ⟨c5, j5, h5⟩ := u_known hts i_X5 (hts (.instantiable RX5 6) (by decide +kernel))
  obtain ⟨c6, j6, h6⟩ := u_known hts i_X6 (hts (.instantiable RX6 1) (by decide +kernel))
  obtain ⟨c7, j7, h7⟩ := u_known hts i_X7 (hts (.instantiable RX7 4) (by decide +kernel))
  obtain ⟨c8, j8, h8⟩ := u_known hts i_X8 (hts (.instantiable RX8 1) (by decide +kernel))
  obtain ⟨c9, j9, h9⟩ := u_known hts i_X9 (hts (.instantiable RX9 1) (by decide +kernel))
  obtain ⟨c10, j10, h10⟩ := u_known hts i_X10 (hts (.instantiable RX10 18) (by decide +kernel))
  obtain ⟨c11, j11, h11⟩ := u_known hts i_X11 (hts (.instantiable RX11 8) (by decide +kernel))
  obtain ⟨c12, j12, h12⟩ := u_known hts i_X12 (hts (.instantiable RX12 19) (by decide +kernel))
  refine ⟨(fun k => match k with | 0 => c0 | 1 => c1 | 2 => c2 | 3 => c3 | 4 => c4 | 5 => c5 | 6 => c6 | 7 => c7 | 8 => c8 | 9 => c9 | 10 => c10 | 11 => c11 | _ => c12, fun k => match k with | 0 => j0 | 1 => j1 | 2 => j2 | 3 => j3 | 4 => j4 | 5 => j5 | 6 => j6 | 7 => j7 | 8 => j8 | 9 => j9 | 10 => j10 | 11 => j11 | _ => j12), ?_⟩
  intro k q hq
  match k, hq with
  | 0, hq => cases hq; exact h0
  | 1, hq => cases hq; exact h1
  | 2, hq => cases hq; exact h2
  | 3, hq => cases hq; exact h3
  | 4, hq => cases hq; exact h4
  | 5, hq => cases hq; exact h5
  | 6, hq => cases hq; exact h6
  | 7, hq => cases hq; exact h7
  | 8, hq => cases hq; exact h8
  | 9, hq => cases hq; exact h9
  | 10, hq => cases hq; exact h10
  | 11, hq => cases hq; exact h11
  | 12, hq => cases hq; exact h12
  | k + 13, hq => simp [vwCl] at hq
theorem NN_start (hts : ∀ w ∈ lw_tbl, w.before args s = true) : NN s := fun q hq => va_Nw.of rfl (hts _ (i_nest q hq))
end KNOW
