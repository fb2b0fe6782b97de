/-! Exceptions: memory after a throw, what the throws stand on, calls that return or throw. -/
def adv (M : Mm) (k : Nat) : Mm := (M.1, M.2.1, M.2.2.1, M.2.2.2.1, M.2.2.2.2 + k)
theorem RP_adv {G : Gl} {M : Mm} {H H' : Heap} (h : RP G M H) (hz : H.size ≤ H'.size) (hk : ∀ q : Nat, q < H.size → H'[q]? = H[q]?) : RP G (adv M (H'.size - H.size)) H' := by
  refine ⟨?_, ?_, fun a => ?_⟩
  · show H'.size = nx M + (H'.size - H.size)
    have := h.1
    omega
  · exact Nat.le_trans h.2.1 (Nat.le_add_right _ _)
  · by_cases h0 : (M.1 a).1 = 0
    · unfold Cel
      rw [show (adv M (H'.size - H.size)).1 a = M.1 a from rfl, h0]
      trivial
    · exact Cel_kept (h.2.2 a) rfl rfl rfl rfl (hk a (Cel_lt (h.2.2 a) h0))
def xIAE : String := "java/lang/IllegalArgumentException"
def xISE : String := "java/lang/IllegalStateException"
def xUOE : String := "java/lang/UnsupportedOperationException"
def nmx : List String := ["java/lang/RuntimeException", "java/lang/Exception"]
def strL : List (String × Nat × String) := [("FerryBells", 300, "no such shelf"), ("FerryBells", 310, "no row, or no such place"), ("FerryBells$Busy", 35, "a busy one's failure"), ("FerryBells$Told", 26, "a told one's failure"), ("FerryBells$Rule", 36, "a rule's failure")]
def ncL : List (String × String) := [(xISE, xUOE), (xIAE, xUOE), (xISE, xIAE)]
def ixL : List MethodName := [⟨"java/lang/RuntimeException", "<init>", "(Ljava/lang/String;)V"⟩, ⟨"java/lang/Exception", "<init>", "(Ljava/lang/String;)V"⟩, ⟨"java/lang/Throwable", "<init>", "(Ljava/lang/String;)V"⟩]
def csL : List String := [xIAE, xISE, xUOE]
def XK (G : Gl) (U : State) (H : Heap) : Prop := vx_Zq Bundle.tN "UNASSIGNED_STACK" Bundle.steD (fun q => G.1 ≤ q) U H ∧ vx_Zq Bundle.tN "SUPPRESSED_SENTINEL" Bundle.listD (fun q => G.1 ≤ q) U H ∧ (∀ q ∈ strL, ∃ sa, vk_R q.1 q.2.1 q.2.2 sa U) ∧ (∀ q ∈ ncL, va_Nc q.1 q.2 U) ∧ (∀ x ∈ ixL, va_Nw (.declares x) U) ∧ ∀ n ∈ csL, va_Nw (.castable n n) U
theorem XK_warm {G : Gl} {s U : State} {H : Heap} (hW : s.WarmedH U.vm) (h : XK G s H) : XK G U H :=
  ⟨vx_Zq.moved hW.alike h.1, vx_Zq.moved hW.alike h.2.1, fun q hq => (h.2.2.1 q hq).imp fun _ k => vk_R.warm hW k, fun q hq => va_Nc.moved hW.alike (h.2.2.2.1 q hq), fun x hx => va_Nw.warmD hW (h.2.2.2.2.1 x hx), fun n hn => va_Nw.warmC hW (h.2.2.2.2.2 n hn)⟩
theorem XK_vm {G : Gl} {s U : State} {H : Heap} (e : s.vm = U.vm) (h : XK G s H) : XK G U H := by
  have hA : s.vm.Alike U.vm := by rw [e]; exact Vm.Alike.refl _
  exact ⟨vx_Zq.moved hA h.1, vx_Zq.moved hA h.2.1, fun q hq => (h.2.2.1 q hq).imp fun _ k => vk_R.same e.symm k, fun q hq => va_Nc.moved hA (h.2.2.2.1 q hq), fun x hx => va_Nw.same rfl e (h.2.2.2.2.1 x hx), fun n hn => va_Nw.same rfl e (h.2.2.2.2.2 n hn)⟩
theorem XK_kept {G : Gl} {U : State} {H H' : Heap} (h : XK G U H) (hk : ∀ q : Nat, q < H.size → ¬ G.1 ≤ q → H'[q]? = H[q]?) : XK G U H' := ⟨vx_Zq.kept h.1 hk, vx_Zq.kept h.2.1 hk, h.2.2⟩
def PX (G : Gl) (avs : List Value) (M : Mm) : Array Value → State → Prop := va_Pc avs (fun U => RP G M U.heap ∧ KK G U ∧ XK G U U.heap)
theorem PX_blind {G : Gl} {avs : List Value} {M : Mm} : FrameBlind (PX G avs M) := fun a U g mk h => ⟨h.1, h.2.1, KK_vm (s := U) (U := U.calling g mk a) rfl h.2.2.1, XK_vm (s := U) (U := U.calling g mk a) rfl h.2.2.2⟩
/-- how a method ends: it returns this, or throws one of this class -/
abbrev Oc : Type := Option Value ⊕ String
def QV (G : Gl) (o : Oc) (M' : Mm) : Array Value → State → Outcome → State → Prop := fun _ st oc t => (∃ v, o = .inl v ∧ oc = .returned v) ∧ (∃ k, RP G (adv M' k) t.heap) ∧ va_F (fun q => G.1 ≤ q) st t
def XV (G : Gl) (o : Oc) (M' : Mm) : String → State → State → Prop := fun E st t => o = .inr E ∧ (∃ k, RP G (adv M' k) t.heap) ∧ va_F (fun q => G.1 ≤ q) st t
def MO (l : Launch) (G : Gl) (y : MethodName) (w : Cond) (rm : Room) (avs : List Value) (M : Mm) (o : Oc) (M' : Mm) : Prop :=
  vx_Met l y (w :: TS) rm (PX G avs M) (QV G o M') (XV G o M') rm.cells rm.slots (fun q => G.1 ≤ q)
def RQX (X : Cx) (G : Gl) (o : Oc) (M' : Mm) (rm : Room) : State → Prop := match X with
  | (_, _, _, _, s, _, args, below, _, _) => vx_MQ below (QV G o M') (XV G o M') args s rm.cells rm.slots (fun q => G.1 ≤ q)
def XX (X : Cx) (G : Gl) : Prop := match X with
  | (_, _, _, _, s, _, _, _, _, _) => XK G s s.heap
def XT (X : Cx) (hh : List (Nat × Nat × Nat × Nat)) : Prop := match X with
  | (_, _, _, _, _, _, _, _, _, c) => c.exceptionTable.toList = tableOf hh
/-- q is thrown over the frame -/
def TWX (X : Cx) (G : Gl) (nL : Nat) (Q : State → Prop) (cs ss : Nat) (M : Mm) (E : String) (pc : Nat) (lv : List (Nat × Value)) (st : List Value) : Prop := match X with
  | (p, l, e, R, s, m, args, below, meth, c) => ∀ (H : Heap) (locs : List Loc) (ls : Array Slot) (q : Addr) (ce : Cell), RP G M H → va_S (fun q => G.1 ≤ q) s.heap H locs → lv_has ls nL lv → H[q]? = some ce → ce.vm = .none → s.vm.findClass E = some ce.cls → vx_W p l e R s m args below meth c H locs cs ss Q (F0 m pc ls st) q
theorem zx_start {l : Launch} (hfl : l.flags = flags0) {G : Gl} {y : MethodName} {cc : ByteArray} {nL : Nat} {ret : Option FieldType} {rm : Room} {avs : List Value} {M M' : Mm} {o : Oc} {lv : List (Nat × Value)} (hy : plainName y.cls = true) (hlen : (lg_sl avs).length ≤ nL) (hlv : lv_args 0 avs = lv)
    (kk : ∀ X : Cx, CX X G y cc nL ret rm → XX X G → XT X [] → TW X G nL (RQX X G o M' rm) 0 0 M 0 lv []) : l.stackTraces = false → MO l G y (Cond.code y cc nL ret) rm avs M o M' := by
  intro hst
  refine vx_ofW (cc := cc) (maxL := nL) (ret := ret) hy rfl ?_
  intro p e s m args below meth c s₁ B hml ht hv
  obtain ⟨rfl, hRP, hKK, hXK⟩ := hv
  have hts := atoms_spec (ws := Cond.code y cc nL ret :: TS) B.pre
  have hown : s.vm.findClass y.cls = some m.cls := findClass_of_methodNamed B.named
  have hx := kk (p, l, e, rm, s, m, avs.toArray, below, meth, c) ⟨⟨B.exec, B.bytes, hml, hown, fun w hw => hts w (List.mem_cons_of_mem _ hw)⟩, hKK, rfl, B.returns, B.notSynchronized, by rw [hRP.1]; exact hRP.2.1, (name_of_methodNamed B.named B.method).1, hfl⟩ hXK (List.eq_nil_iff_forall_not_mem.mpr fun x hx => ht x hx)
  have hl := lv_entry avs (n := nL) hlen
  rw [hlv] at hl
  rw [lg_entry_eq]
  exact hx s.heap [] _ hRP va_S.rf hl
theorem zx_startW {l : Launch} (hfl : l.flags = flags0) {G : Gl} {y : MethodName} {cc : ByteArray} {nL : Nat} {ret : Option FieldType} {hh : List (Nat × Nat × Nat × Nat)} {rm : Room} {avs : List Value} {M M' : Mm} {o : Oc} {lv : List (Nat × Value)} (hy : plainName y.cls = true) (hlen : (lg_sl avs).length ≤ nL) (hlv : lv_args 0 avs = lv)
    (kk : ∀ X : Cx, CX X G y cc nL ret rm → XX X G → XT X hh → TW X G nL (RQX X G o M' rm) 0 0 M 0 lv []) : MO l G y (Cond.codeWith y cc nL ret hh) rm avs M o M' := by
  refine vx_ofWH (cc := cc) (maxL := nL) (ret := ret) (hh := hh) hy rfl ?_
  intro p e s m args below meth c s₁ B hml hv
  obtain ⟨rfl, hRP, hKK, hXK⟩ := hv
  have hts := atoms_spec (ws := Cond.codeWith y cc nL ret hh :: TS) B.pre
  have hown : s.vm.findClass y.cls = some m.cls := findClass_of_methodNamed B.named
  have hx := kk (p, l, e, rm, s, m, avs.toArray, below, meth, c) ⟨⟨B.exec, B.bytes, hml, hown, fun w hw => hts w (List.mem_cons_of_mem _ hw)⟩, hKK, rfl, B.returns, B.notSynchronized, by rw [hRP.1]; exact hRP.2.1, (name_of_methodNamed B.named B.method).1, hfl⟩ hXK (vx_table (x := y) B (hts _ List.mem_cons_self))
  have hl := lv_entry avs (n := nL) hlen
  rw [hlv] at hl
  rw [lg_entry_eq]
  exact hx s.heap [] _ hRP va_S.rf hl
section XROWS
variable {X : Cx} {G : Gl} {y : MethodName} {cc : ByteArray} {nL : Nat} {ret : Option FieldType} {rm : Room} {Q : State → Prop} {cs ss : Nat} {M : Mm} {pc : Nat} {lv : List (Nat × Value)} {st : List Value}
theorem st_of {l : Launch} (h : l.flags = flags0) : l.stackTraces = false := by
  unfold Launch.stackTraces
  rw [h]
  decide
theorem zx_words {own cls : String} {ic : Nat} {ps : List Nat} {args : Array Value} {s : State} {G : Gl} {H : Heap} (hts : ∀ w ∈ TS, w.before args s = true) (hX : XK G s H) (hp : (vx_atS own ic cls nmx).filter goodWord = ps.filterMap (fun i => tables_1[i]?)) (hq : (vx_atS own ic cls nmx).filter (fun w => !goodWord w) = ixL.map Cond.declares ++ [.castable cls cls]) (hc : cls ∈ csL) : ∀ w ∈ vx_atS own ic cls nmx, w.before args s = true := by
  intro w hw
  cases hg : goodWord w with
  | true =>
    have h1 : w ∈ (vx_atS own ic cls nmx).filter goodWord := List.mem_filter.mpr ⟨hw, hg⟩
    rw [hp] at h1
    obtain ⟨i, -, hi⟩ := List.mem_filterMap.mp h1
    exact hts w (TS_in (List.mem_of_getElem? hi) hg)
  | false =>
    have h1 : w ∈ (vx_atS own ic cls nmx).filter (fun w => !goodWord w) := List.mem_filter.mpr ⟨hw, by rw [hg]; rfl⟩
    rw [hq] at h1
    rcases List.mem_append.mp h1 with h | h
    · obtain ⟨x, hx, rfl⟩ := List.mem_map.mp h
      exact va_Nw.use rfl (hX.2.2.2.2.1 x hx)
    · rw [List.mem_singleton.mp h]
      exact va_Nw.use rfl (hX.2.2.2.2.2 cls hc)
theorem zx_hx {s : State} {H : Heap} {locs : List Loc} {E : String} (hP : RP G M H) (hS : va_S (fun q => G.1 ≤ q) s.heap H locs) (t : State) (hz : H.size ≤ t.heap.size) (hk : ∀ q : Nat, q < H.size → t.heap[q]? = H[q]?) : XV G (.inr E) M E s t :=
  ⟨rfl, ⟨_, RP_adv hP hz hk⟩, Nat.le_trans hS.1 hz, fun q h1 h2 => by rw [hk q (Nat.lt_of_lt_of_le h1 hS.1)]; exact hS.2.1 q h1 h2⟩
/-- new E(text) is thrown -/
theorem zx_throwS (hC : CX X G y cc nL ret rm) (hX : XX X G) (hT : XT X []) {cls text : String} {ik is ic : Nat} {ps : List Nat} (hs : (y.cls, is, text) ∈ strL) (hc : cls ∈ csL) (hfit : Bundle.fit cls = true) (hk : Cond.classLink y.cls ik cls ∈ TS) (hini : Cond.initialized cls ∈ TS) (hp : (vx_atS y.cls ic cls nmx).filter goodWord = ps.filterMap (fun i => tables_1[i]?)) (hq : (vx_atS y.cls ic cls nmx).filter (fun w => !goodWord w) = ixL.map Cond.declares ++ [.castable cls cls])
    (hgood : (Cond.classLink y.cls ik cls :: Cond.initialized cls :: vx_atS y.cls ic cls nmx).all vx_ot = true) (d0 : decode cc pc = .ok (.new ik, 3)) (d3 : decode cc (pc + 3) = .ok (.dup, 1)) (d4 : decode cc (pc + 4) = .ok (.ldc is, 2)) (d6 : decode cc (pc + 6) = .ok (.invokespecial ic, 3)) (d9 : decode cc (pc + 9) = .ok (.athrow, 1)) (hst : st = [])
    (hf : 6 ≤ rm.frames ∧ 82 ≤ rm.locals ∧ cs + 1 ≤ rm.cells ∧ ss + 6 ≤ rm.slots) : TW X G nL (RQX X G (.inr cls) M rm) cs ss M pc lv st := by
  subst hst
  obtain ⟨p, l, e, R, s, m, args, below, meth, c⟩ := X
  intro H locs ls hP hS hl
  obtain ⟨⟨hx, hb, hml, hown, hts⟩, hK, rfl, hret, hlk, hbs, hnm, hfl⟩ := hC
  obtain ⟨sa, hsa⟩ := hX.2.2.1 _ hs
  have hT' : c.exceptionTable.toList = [] := hT
  exact vx_throwS (A := fun q => G.1 ≤ q) (names := nmx) hx hb (st_of hfl) hown hfit (by decide) (hts _ hk) (hts _ hini) hsa (zx_words hts hX hp hq hc) (fun w hw => List.all_eq_true.mp hgood w hw) hX.1 hX.2.1 hS (hl.1.trans hml.symm) d0 d3 d4 d6 d9 (fun x h => by rw [hT'] at h; cases h)
    (show 5 < R.frames from hf.1) (show 0 + 82 ≤ R.locals by have := hf.2.1; omega) hf.2.2.1 hf.2.2.2 hlk (fun t _ hz hq => zx_hx hP hS t hz hq) hS.2.2 hf.2.2.1 hf.2.2.2
theorem zx_throwSW (hC : CX X G y cc nL ret rm) (hX : XX X G) (hT : XT X []) {cls text : String} {ik is ic : Nat} {ps : List Nat} (hs : (y.cls, is, text) ∈ strL) (hc : cls ∈ csL) (hfit : Bundle.fit cls = true) (hk : Cond.classLink y.cls ik cls ∈ TS) (hini : Cond.initialized cls ∈ TS) (hp : (vx_atS y.cls ic cls nmx).filter goodWord = ps.filterMap (fun i => tables_1[i]?)) (hq : (vx_atS y.cls ic cls nmx).filter (fun w => !goodWord w) = ixL.map Cond.declares ++ [.castable cls cls])
    (hgood : (Cond.classLink y.cls ik cls :: Cond.initialized cls :: vx_atS y.cls ic cls nmx).all vx_ot = true) (d0 : decode cc pc = .ok (.new ik, 3)) (d3 : decode cc (pc + 3) = .ok (.dup, 1)) (d4 : decode cc (pc + 4) = .ok (.ldc_w is, 3)) (d7 : decode cc (pc + 7) = .ok (.invokespecial ic, 3)) (d10 : decode cc (pc + 10) = .ok (.athrow, 1)) (hst : st = [])
    (hf : 6 ≤ rm.frames ∧ 82 ≤ rm.locals ∧ cs + 1 ≤ rm.cells ∧ ss + 6 ≤ rm.slots) : TW X G nL (RQX X G (.inr cls) M rm) cs ss M pc lv st := by
  subst hst
  obtain ⟨p, l, e, R, s, m, args, below, meth, c⟩ := X
  intro H locs ls hP hS hl
  obtain ⟨⟨hx, hb, hml, hown, hts⟩, hK, rfl, hret, hlk, hbs, hnm, hfl⟩ := hC
  obtain ⟨sa, hsa⟩ := hX.2.2.1 _ hs
  have hT' : c.exceptionTable.toList = [] := hT
  exact vx_throwSW (A := fun q => G.1 ≤ q) (names := nmx) hx hb (st_of hfl) hown hfit (by decide) (hts _ hk) (hts _ hini) hsa (zx_words hts hX hp hq hc) (fun w hw => List.all_eq_true.mp hgood w hw) hX.1 hX.2.1 hS (hl.1.trans hml.symm) d0 d3 d4 d7 d10 (fun x h => by rw [hT'] at h; cases h)
    (show 5 < R.frames from hf.1) (show 0 + 82 ≤ R.locals by have := hf.2.1; omega) hf.2.2.1 hf.2.2.2 hlk (fun t _ hz hq => zx_hx hP hS t hz hq) hS.2.2 hf.2.2.1 hf.2.2.2
/-- a call comes back or throws -/
theorem zx_run {p : Program} {l : Launch} {e : Env} {R : Room} {s : State} {m : MethodId} {args : Array Value} {below : List Frame} {meth : Method} {c : Code} {H : Heap} {locs : List Loc} {ls : Array Slot} {rest st0 : List Value} {a : Array Value} {mc ms : Nat} {o : Oc} {M' : Mm}
    (hr : vx_Run p l e R s m args below meth c H locs cs ss mc ms (F0 m pc ls st0) rest (QV G o M' a) (XV G o M') (fun q => G.1 ≤ q)) (hS : va_S (fun q => G.1 ≤ q) s.heap H locs) (hl : lv_has ls nL lv)
    (kx : ∀ E k, o = .inr E → TWX (p, l, e, R, s, m, args, below, meth, c) G nL Q (cs + mc) (ss + ms) (adv M' k) E pc lv rest)
    (kk : ∀ v k, o = .inl v → TW (p, l, e, R, s, m, args, below, meth, c) G nL Q (cs + mc) (ss + ms) (adv M' k) (pc + 3) lv (v.toList ++ rest)) : W p l e R s m args below meth c H locs cs ss Q (F0 m pc ls st0) := by
  intro T hT X
  rcases hr T hT X with ⟨v, st₀, t, T', L, h0, X', hL, e1, e2, ⟨⟨v', ho, hv⟩, ⟨k, hRP⟩, hz, hk⟩, stp⟩ | ⟨q, st₀, t, T', L, E, ce, h0, X', hL, e1, e2, ⟨ho, ⟨k, hRP⟩, hz, hk⟩, hce, hcv, hcl, stp⟩
  · cases hv
    rw [h0] at hz hk
    obtain ⟨t2, a1, b1⟩ := kk v k ho T'.heap (locs ++ L) ls (by rw [e1]; exact hRP)
      ⟨Nat.le_trans hS.1 (by rw [e1]; exact hz), fun q h1 h2 => by rw [e1, hk q (Nat.lt_of_lt_of_le h1 hS.1) h2]; exact hS.2.1 q h1 h2, fun q hq => by
        rcases List.mem_append.mp hq with h | h
        · exact hS.2.2 q h
        · exact hL q h⟩ hl T' rfl X'
    exact ⟨t2, stp t2 a1, b1⟩
  · rw [h0] at hz hk
    obtain ⟨t2, a1, b1⟩ := kx E k ho T'.heap (locs ++ L) ls q ce (by rw [e1]; exact hRP)
      ⟨Nat.le_trans hS.1 (by rw [e1]; exact hz), fun q h1 h2 => by rw [e1, hk q (Nat.lt_of_lt_of_le h1 hS.1) h2]; exact hS.2.1 q h1 h2, fun q hq => by
        rcases List.mem_append.mp hq with h | h
        · exact hS.2.2 q h
        · exact hL q h⟩ hl (by rw [e1]; exact hce) hcv hcl T' rfl X'
    exact ⟨t2, stp.trans a1, b1⟩
theorem zx_iret (hC : CX X G y cc nL ret rm) {v : Int32} {M' : Mm} {k : Nat} (hr : ret = some .int) (hM : M = adv M' k) (h1 : cs ≤ rm.cells) (h2 : ss ≤ rm.slots) (hdg : decode cc pc = .ok (.ireturn, 1)) : TW X G nL (RQX X G (.inl (some (.int v))) M' rm) cs ss M pc lv [.int v] := by
  subst hM
  obtain ⟨p, l, e, R, s, m, args, below, meth, c⟩ := X
  intro H locs ls hP hS hl
  refine vx_ret (W.widen h1 h2 ?_)
  exact W.iret (v := v) hC.1.1 hC.1.2.1 (by rw [← hr]; exact hC.2.2.2.1) (fun t ht hW => ⟨⟨_, rfl, rfl⟩, ⟨k, by rw [ht]; exact hP⟩, hS.F ht⟩) hS.2.2 hdg hC.2.2.2.2.1
theorem zx_lret (hC : CX X G y cc nL ret rm) {v : Int64} {M' : Mm} {k : Nat} (hr : ret = some .long) (hM : M = adv M' k) (h1 : cs ≤ rm.cells) (h2 : ss ≤ rm.slots) (hdg : decode cc pc = .ok (.lreturn, 1)) : TW X G nL (RQX X G (.inl (some (.long v))) M' rm) cs ss M pc lv [.long v] := by
  subst hM
  obtain ⟨p, l, e, R, s, m, args, below, meth, c⟩ := X
  intro H locs ls hP hS hl
  refine vx_ret (W.widen h1 h2 ?_)
  exact W.lret (v := v) hC.1.1 hC.1.2.1 (by rw [← hr]; exact hC.2.2.2.1) (fun t ht hW => ⟨⟨_, rfl, rfl⟩, ⟨k, by rw [ht]; exact hP⟩, hS.F ht⟩) hS.2.2 hdg hC.2.2.2.2.1
theorem zx_catch (hC : CX X G y cc nL ret rm) (hX : XX X G) {hh : List (Nat × Nat × Nat × Nat)} (hT : XT X hh) {E : String} {rest : List Value} (pre : List (Nat × Nat × Nat × Nat)) (x : Nat × Nat × Nat × Nat) (suf : List (Nat × Nat × Nat × Nat)) (hs : hh = pre ++ x :: suf) (hpass : ∀ z ∈ pre, z.2.2.2 ≠ 0 ∧ ∃ nm, Cond.classLink y.cls z.2.2.2 nm ∈ TS ∧ (E, nm) ∈ ncL) (hx : x.1 ≤ pc ∧ pc < x.2.1) (h0 : x.2.2.2 ≠ 0) (hlink : Cond.classLink y.cls x.2.2.2 E ∈ TS) (hc : E ∈ csL)
    (kk : ∀ q : Nat, TW X G nL Q cs ss M x.2.2.1 lv [.ref q]) : TWX X G nL Q cs ss M E pc lv rest := by
  obtain ⟨p, l, e, R, s, m, args, below, meth, c⟩ := X
  intro H locs ls q ce hP hS hl hcell hv hcl
  obtain ⟨⟨hx0, hb, hml, hown, hts⟩, hK, rfl, hret, hlk, hbs, hnm, hfl⟩ := hC
  have hT' : c.exceptionTable.toList = tableOf hh := hT
  let f : Nat × Nat × Nat × Nat → ExceptionTableEntry := fun q => { startPc := q.1, endPc := q.2.1, handlerPc := q.2.2.1, catchType := q.2.2.2 }
  refine vx_catch (own := y.cls) (name := E) (ce := ce) hown (pre.map f) (f x) (suf.map f) (by rw [hT', hs]; simp [tableOf, f]) (fun z hz => ?_) ?_ h0 (hts _ hlink) (va_Nw.use rfl (hX.2.2.2.2.2 E hc)) hcell hv hcl (kk q H locs ls hP hS hl)
  · obtain ⟨z0, hz0, rfl⟩ := List.mem_map.mp hz
    obtain ⟨g1, nm, g2, g3⟩ := hpass z0 hz0
    exact Or.inr ⟨g1, nm, hts _ g2, hX.2.2.2.1 _ g3⟩
  · show (decide (x.1 ≤ pc) && decide (pc < x.2.1)) = true
    simp [hx]
section XCALLS
variable {z : MethodName} {zc : ByteArray} {znL : Nat} {zret : Option FieldType} {zrm : Room} {As rest st0 : List Value} {idx : Nat} {o : Oc} {M' : Mm} {hh : List (Nat × Nat × Nat × Nat)}
theorem zx_callV (hC : CX X G y cc nL ret rm) (hX : XX X G) (n : Nat) {b ci : Nat} {C : String} {T : u_T} {N : Nat} (ht : (M.1 b).1 = ci + 4) (hc : vwCl[ci]? = some (C, T, N)) (hM : ∀ l : Launch, l.flags = flags0 → MO l G z (Cond.code z zc znL zret) zrm (.ref b :: As) M o M') (hcls : z.cls = C) (hcode : Cond.code z zc znL zret ∈ TS) (hlink : Cond.methodLink y.cls idx z ∈ TS) (hinst : Cond.instanceMethod z ∈ TS) (hsel : Cond.selects C z z ∈ TS) (hini : Cond.initialized z.cls ∈ TS) (hd : z.cls ≠ "java/lang/invoke/MethodHandle" ∧ z.cls ≠ "java/lang/invoke/VarHandle" ∧ (parseMethodDescriptor z.desc).map (fun d => d.parameters.length) = some n) (hn : As.length = n) (hf : fit zrm rm znL cs ss) (hst : st0 = As.reverse ++ .ref b :: rest) (hcat : (rest.map fun v => v.category).sum ≤ 8) (hdg : decode cc pc = .ok (.invokevirtual idx, 3))
    (kx : ∀ E k, o = .inr E → TWX X G nL Q (cs + zrm.cells) (ss + zrm.slots) (adv M' k) E pc lv rest)
    (kk : ∀ v k, o = .inl v → TW X G nL Q (cs + zrm.cells) (ss + zrm.slots) (adv M' k) (pc + 3) lv (v.toList ++ rest)) : TW X G nL Q cs ss M pc lv st0 := by
  obtain ⟨p, l, e, R, s, m, args, below, meth, c⟩ := X
  intro H locs ls hP hS hl
  have hrc := zrecv_of hC hP ht hc
  obtain ⟨⟨hx, hb, hml, hown, hts⟩, hK, rfl, hret, hlk, hbs, hnm, hfl⟩ := hC
  refine zx_run (vx_runV (As := As) (rest := rest) ⟨hx, hb, hml, hown, hts⟩ (hM l hfl) (cwV (C := C) n hts (TS_sub fun w hw => ?_) rfl rfl rfl ⟨hcls, hd⟩ hf.1) ⟨PX_blind, hrc, fun U hU hW => ⟨rfl, by rw [hU]; exact hP, KK_warm hW hK, by rw [hU]; exact XK_kept (XK_warm hW hX) hS.2.1⟩⟩ rfl hn hl.1 hst (lv_room hcat) hdg hf.2) hS hl kx kk
  rcases List.mem_append.mp hw with h | h
  · rcases List.mem_cons.mp h with rfl | h
    · exact hlink
    · rcases List.mem_cons.mp h with rfl | h
      · exact hinst
      · rcases List.mem_cons.mp h with rfl | h
        · exact hsel
        · rcases List.mem_cons.mp h with rfl | h
          · rw [← hcls]; exact hini
          · cases h
  · exact TS_cons hcode w h
theorem zx_callVW (hC : CX X G y cc nL ret rm) (hX : XX X G) (n : Nat) {b ci : Nat} {C : String} {T : u_T} {N : Nat} (ht : (M.1 b).1 = ci + 4) (hc : vwCl[ci]? = some (C, T, N)) (hM : ∀ l : Launch, l.flags = flags0 → MO l G z (Cond.codeWith z zc znL zret hh) zrm (.ref b :: As) M o M') (hcls : z.cls = C) (hcode : Cond.codeWith z zc znL zret hh ∈ TS) (hlink : Cond.methodLink y.cls idx z ∈ TS) (hinst : Cond.instanceMethod z ∈ TS) (hsel : Cond.selects C z z ∈ TS) (hini : Cond.initialized z.cls ∈ TS) (hd : z.cls ≠ "java/lang/invoke/MethodHandle" ∧ z.cls ≠ "java/lang/invoke/VarHandle" ∧ (parseMethodDescriptor z.desc).map (fun d => d.parameters.length) = some n) (hn : As.length = n) (hf : fit zrm rm znL cs ss) (hst : st0 = As.reverse ++ .ref b :: rest) (hcat : (rest.map fun v => v.category).sum ≤ 8) (hdg : decode cc pc = .ok (.invokevirtual idx, 3))
    (kx : ∀ E k, o = .inr E → TWX X G nL Q (cs + zrm.cells) (ss + zrm.slots) (adv M' k) E pc lv rest)
    (kk : ∀ v k, o = .inl v → TW X G nL Q (cs + zrm.cells) (ss + zrm.slots) (adv M' k) (pc + 3) lv (v.toList ++ rest)) : TW X G nL Q cs ss M pc lv st0 := by
  obtain ⟨p, l, e, R, s, m, args, below, meth, c⟩ := X
  intro H locs ls hP hS hl
  have hrc := zrecv_of hC hP ht hc
  obtain ⟨⟨hx, hb, hml, hown, hts⟩, hK, rfl, hret, hlk, hbs, hnm, hfl⟩ := hC
  refine zx_run (vx_runVX (hh := hh) (As := As) (rest := rest) ⟨hx, hb, hml, hown, hts⟩ (hM l hfl) (vx_cwVW (C := C) n hts (TS_sub fun w hw => ?_) rfl rfl rfl ⟨hcls, hd⟩ hf.1) ⟨PX_blind, hrc, fun U hU hW => ⟨rfl, by rw [hU]; exact hP, KK_warm hW hK, by rw [hU]; exact XK_kept (XK_warm hW hX) hS.2.1⟩⟩ rfl hn hl.1 hst (lv_room hcat) hdg hf.2) hS hl kx kk
  rcases List.mem_append.mp hw with h | h
  · rcases List.mem_cons.mp h with rfl | h
    · exact hlink
    · rcases List.mem_cons.mp h with rfl | h
      · exact hinst
      · rcases List.mem_cons.mp h with rfl | h
        · exact hsel
        · rcases List.mem_cons.mp h with rfl | h
          · rw [← hcls]; exact hini
          · cases h
  · exact TS_cons hcode w h
theorem zx_callSW (hC : CX X G y cc nL ret rm) (hX : XX X G) (n : Nat) (hM : ∀ l : Launch, l.flags = flags0 → MO l G z (Cond.codeWith z zc znL zret hh) zrm As M o M') (hcls : z.cls = y.cls) (hcode : Cond.codeWith z zc znL zret hh ∈ TS) (hlink : Cond.methodLink y.cls idx z ∈ TS) (hstat : Cond.static z ∈ TS) (hini : Cond.initialized z.cls ∈ TS) (hd : z.cls ≠ "java/lang/invoke/MethodHandle" ∧ z.cls ≠ "java/lang/invoke/VarHandle" ∧ (parseMethodDescriptor z.desc).map (fun d => d.parameters.length) = some n) (hn : As.length = n) (hf : fit zrm rm znL cs ss) (hst : st0 = As.reverse ++ rest) (hcat : (rest.map fun v => v.category).sum ≤ 8) (hdg : decode cc pc = .ok (.invokestatic idx, 3))
    (kx : ∀ E k, o = .inr E → TWX X G nL Q (cs + zrm.cells) (ss + zrm.slots) (adv M' k) E pc lv rest)
    (kk : ∀ v k, o = .inl v → TW X G nL Q (cs + zrm.cells) (ss + zrm.slots) (adv M' k) (pc + 3) lv (v.toList ++ rest)) : TW X G nL Q cs ss M pc lv st0 := by
  obtain ⟨p, l, e, R, s, m, args, below, meth, c⟩ := X
  intro H locs ls hP hS hl
  obtain ⟨⟨hx, hb, hml, hown, hts⟩, hK, rfl, hret, hlk, hbs, hnm, hfl⟩ := hC
  refine zx_run (vx_runSX (hh := hh) (As := As) (rest := rest) ⟨hx, hb, hml, hown, hts⟩ (hM l hfl) (vx_cwSW n hts (TS_sub fun w hw => ?_) rfl rfl rfl hd hf.1) ⟨PX_blind, fun U hU hW => ⟨rfl, by rw [hU]; exact hP, KK_warm hW hK, by rw [hU]; exact XK_kept (XK_warm hW hX) hS.2.1⟩⟩ rfl hn hl.1 hst (lv_room hcat) hdg hf.2) hS hl kx kk
  rcases List.mem_append.mp hw with h | h
  · rcases List.mem_cons.mp h with rfl | h
    · exact hlink
    · rcases List.mem_cons.mp h with rfl | h
      · exact hstat
      · rcases List.mem_cons.mp h with rfl | h
        · exact hini
        · cases h
  · exact TS_cons hcode w h
theorem zx_callO (hC : CX X G y cc nL ret rm) (hX : XX X G) (n : Nat) {b ci : Nat} {C : String} {T : u_T} {N : Nat} {x : MethodName} {owner : String} (ht : (M.1 b).1 = ci + 4) (hc : vwCl[ci]? = some (C, T, N)) (hM : ∀ l : Launch, l.flags = flags0 → MO l G z (Cond.code z zc znL zret) zrm (.ref b :: As) M o M') (hcode : Cond.code z zc znL zret ∈ TS) (hlink : Cond.methodLink y.cls idx x ∈ TS) (hsm : Cond.sameMethod x.cls owner x.name x.desc ∈ TS) (hio : Cond.instanceMethod ⟨owner, x.name, x.desc⟩ ∈ TS) {b0 : ByteArray} {m0 : Nat} {r0 : Option FieldType} (h0 : Cond.code ⟨owner, x.name, x.desc⟩ b0 m0 r0 ∈ TS) (hsel : Cond.selects C x z ∈ TS) (hinst : Cond.instanceMethod z ∈ TS) (hini : Cond.initialized z.cls ∈ TS) (hd : owner ≠ "java/lang/invoke/MethodHandle" ∧ owner ≠ "java/lang/invoke/VarHandle" ∧ (parseMethodDescriptor x.desc).map (fun d => d.parameters.length) = some n) (hn : As.length = n) (hf : fit zrm rm znL cs ss) (hst : st0 = As.reverse ++ .ref b :: rest) (hcat : (rest.map fun v => v.category).sum ≤ 8) (hdg : decode cc pc = .ok (.invokevirtual idx, 3))
    (kx : ∀ E k, o = .inr E → TWX X G nL Q (cs + zrm.cells) (ss + zrm.slots) (adv M' k) E pc lv rest)
    (kk : ∀ v k, o = .inl v → TW X G nL Q (cs + zrm.cells) (ss + zrm.slots) (adv M' k) (pc + 3) lv (v.toList ++ rest)) : TW X G nL Q cs ss M pc lv st0 := by
  obtain ⟨p, l, e, R, s, m, args, below, meth, c⟩ := X
  intro H locs ls hP hS hl
  have hrc := zrecv_of hC hP ht hc
  obtain ⟨⟨hx, hb, hml, hown, hts⟩, hK, rfl, hret, hlk, hbs, hnm, hfl⟩ := hC
  refine zx_run (vx_runU (As := As) (rest := rest) (C := C) ⟨hx, hb, hml, hown, hts⟩ (hM l hfl) (va_cwO (C := C) (owner := owner) (x := x) n hts (TS_sub fun w hw => ?_) rfl rfl rfl h0 hd hf.1) ⟨PX_blind, hrc, fun U hU hW => ⟨rfl, by rw [hU]; exact hP, KK_warm hW hK, by rw [hU]; exact XK_kept (XK_warm hW hX) hS.2.1⟩⟩ rfl hn hl.1 hst (lv_room hcat) hdg hf.2) hS hl kx kk
  rcases List.mem_append.mp hw with h | h
  · rcases List.mem_cons.mp h with rfl | h
    · exact hlink
    · rcases List.mem_cons.mp h with rfl | h
      · exact hsm
      · rcases List.mem_cons.mp h with rfl | h
        · exact hio
        · rcases List.mem_cons.mp h with rfl | h
          · exact hsel
          · rcases List.mem_cons.mp h with rfl | h
            · exact hinst
            · rcases List.mem_cons.mp h with rfl | h
              · exact hini
              · cases h
  · exact TS_cons hcode w h
end XCALLS
end XROWS
