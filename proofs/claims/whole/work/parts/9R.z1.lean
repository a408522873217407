/-! the law over the machine -/
def R_law : String := "NibLettersLaw"
def lw_P (b : Addr) (xs : List Int32) (args : Array Value) (s : State) : Prop := args = #[.ref b] ∧ s.IntsAt b xs ∧ xs.length ≤ 2048 ∧ (Jvm.Cond.and given_1 narrow_1).before args s = true
def lw_Q (_ : Array Value) (s : State) (o : Outcome) (t : State) : Prop := o = .returned (some (.int 1)) ∧ Framed s o t [] 600000 7302250
def lw_Z (below : List Frame) (a : Array Value) (s : State) : State → Prop := fun t => ∃ o, t.status = .running ∧ Ended t below o ∧ lw_Q a s o t
/-- the law's own end, with 1 on the stack, nothing written that was there before, its room as the claim has it -/
theorem lw_ret {p : Program} {l : Launch} {e : Env} {s : State} {m : MethodId} {below : List Frame} {meth : Method} {c : Code} {b : Nat} (hx : p.tables.exec = Jvm.exec) (hb : c.code = code) (hr : meth.sig.returnType = ret) (hlocks : meth.locks = false) {pc : Nat} {H : Heap} {ls : Array Slot} (hdg : decode code pc = .ok (.ireturn, 1)) : W p l e room_1 s m #[Value.ref b] below meth c H [] 600000 7302250 (lw_Z below #[Value.ref b] s) (F0 m pc ls [.int 1]) := by
  intro T hT X
  obtain ⟨fs, hret, hrun, hended, hW, hframe⟩ := X.leave (v := some (.int 1)) (hlocks := hlocks) (fun h => by rw [hr] at h; cases h)
  have hmeth' : T.vm.method? m = some meth := X.method'
  refine ⟨T.setFrames fs, ?_, .returned (some (.int 1)), hrun, hended, rfl, ⟨_, rfl⟩, hW, hframe⟩
  jvm_step X.here [X.here.top, hx, hb, hdg, hmeth', hr, ret, narrow_b1]
  (try refine ⟨rfl, ?_⟩); (try refine ⟨rfl, ?_⟩)
  first | (intro acts; rw [hret _ acts rfl rfl rfl]) | rw [hret _ _ rfl rfl rfl]
  exact Steps.refl _
/-- what holds at the law's entry: the machine, the code, the tables' words (any of lw_tbl by 'hts w (by decide +kernel)'), the script of L ints xs at the cell b, what the Statement gives of the start (any of its parts by flat_of_before) -/
def lw_At (p : Program) (s : State) (m : MethodId) (meth : Method) (c : Code) (b L : Nat) (xs : Nat → Int32) : Prop :=
  p.tables.exec = Jvm.exec ∧ c.code = code ∧ meth.sig.returnType = ret ∧ c.maxLocals = 4 ∧ s.vm.findClass R_law = some m.cls ∧ (∀ w ∈ lw_tbl, w.before #[Value.ref b] s = true) ∧ va_X b L xs s s.heap ∧ b < s.heap.size ∧ meth.locks = false ∧ (Jvm.Cond.and given_1 narrow_1).before #[Value.ref b] s = true ∧ meth.name = yL_law.name
/-- what was written lies in what is new -/
theorem same_fresh {s s' : State} {L : List Loc} {k n k' n' : Nat} (h : s.sameButNew s' L k n) (hL : ∀ x ∈ L, s.heap.size ≤ x.base) (hk : k ≤ k') (hn : n ≤ n') : s.sameButNew s' [] k' n' := by
  obtain ⟨h1, h2, h3, h4, h5, h6⟩ := h
  refine ⟨h1, h2, by omega, h4, by omega, fun a c hc => ?_⟩
  obtain ⟨c1, e1, e2, e3, e4⟩ := h6 a c hc
  refine ⟨c1, e1, e2, e3, fun i _ => e4 i (fun hm => ?_)⟩
  have q1 : s.heap.size ≤ a := hL _ hm
  exact absurd (Array.getElem?_eq_some_iff.mp hc).1 (Nat.not_lt.mpr q1)
/-- classes, slots and array classes as the tables have them -/
theorem kn_start {s : State} {b : Nat} {scr : Cell} (hts : ∀ w ∈ lw_tbl, w.before #[Value.ref b] s = true) (hof : s.isArrayOf scr .int) : ∃ (D : va_G) (cA : Nat → ClassId), KN (b, s.heap.size, scr, D, cA) s := by
  have hG : ∀ w ∈ GT, w.before #[Value.ref b] s = true := fun w hw => hts w (List.mem_filter.mp hw).1
  obtain ⟨c0, i0, k0⟩ := u_known hG inX0 (hG _ wg_124)
  obtain ⟨c1, i1, k1⟩ := u_known hG inX1 (hG _ wg_94)
  obtain ⟨c2, i2, k2⟩ := u_known hG inX2 (hG _ wg_79)
  obtain ⟨c3, i3, k3⟩ := u_known hG inX3 (hG _ wg_110)
  obtain ⟨c4, i4, k4⟩ := u_known hG inX4 (hG _ wg_143)
  obtain ⟨c5, i5, k5⟩ := u_known hG inX5 (hG _ wg_25)
  obtain ⟨c6, i6, k6⟩ := u_known hG inX6 (hG _ wg_46)
  obtain ⟨c7, i7, k7⟩ := u_known hG inX7 (hG _ wg_63)
  obtain ⟨c8, i8, k8⟩ := u_known hG inX8 (hG _ wg_237)
  obtain ⟨c9, i9, k9⟩ := u_known hG inX9 (hG _ wg_17)
  obtain ⟨c10, i10, k10⟩ := u_known hG inX10 (hG _ wg_680)
  obtain ⟨a0, x0, y0, p0, q0, r0⟩ := Cond.arrayClass_spec (hG _ wg_44)
  obtain ⟨a1, x1, y1, p1, q1, r1⟩ := Cond.arrayClass_spec (hG _ wg_758)
  obtain ⟨m3, a3, x3, p3, -, q3, r3, t3⟩ := Cond.arrayOver_spec (hts _ (List.mem_filter.mp wn_52).1)
  obtain ⟨m4, a4, x4, p4, -, q4, r4, t4⟩ := Cond.arrayOver_spec (hts _ (List.mem_filter.mp wn_69).1)
  refine ⟨(fun c => [c0, c1, c2, c3, c4, c5, c6, c7, c8, c9, c10].getD c 0, fun c => [i0, i1, i2, i3, i4, i5, i6, i7, i8, i9, i10].getD c (fun _ => 0)), fun t => [a0, a1, 0, a3, a4].getD t 0, ⟨⟨fun c q hq => ?_, fun k q hq => ?_⟩, hof, fun w hw => ?_⟩⟩
  · have hc : c < 11 := (List.getElem?_eq_some_iff.mp hq).1
    rcases (show c = 0 ∨ c = 1 ∨ c = 2 ∨ c = 3 ∨ c = 4 ∨ c = 5 ∨ c = 6 ∨ c = 7 ∨ c = 8 ∨ c = 9 ∨ c = 10 by omega) with rfl | rfl | rfl | rfl | rfl | rfl | rfl | rfl | rfl | rfl | rfl
    · cases hq; exact k0
    · cases hq; exact k1
    · cases hq; exact k2
    · cases hq; exact k3
    · cases hq; exact k4
    · cases hq; exact k5
    · cases hq; exact k6
    · cases hq; exact k7
    · cases hq; exact k8
    · cases hq; exact k9
    · cases hq; exact k10
  · have hc : k < 4 := (List.getElem?_eq_some_iff.mp hq).1
    rcases (show k = 0 ∨ k = 1 ∨ k = 2 ∨ k = 3 by omega) with rfl | rfl | rfl | rfl
    · cases hq; exact ⟨fun n z => ⟨fun k h => (by cases h), x0, q0, y0, r0⟩, p0⟩
    · cases hq; exact ⟨fun n z => ⟨fun k h => (by cases h), x1, q1, y1, r1⟩, p1⟩
    · cases hq; exact ⟨fun n z => ⟨fun k h => (by cases h), x3, q3, m3, r3⟩, x3, m3, q3, r3, p3, t3⟩
    · cases hq; exact ⟨fun n z => ⟨fun k h => (by cases h), x4, q4, m4, r4⟩, x4, m4, q4, r4, p4, t4⟩
  · have h1 := hts w (List.mem_filter.mp hw).1
    have hx : xnest w = true := (List.mem_filter.mp hw).2
    cases w <;> simp only [xnest, Bool.false_eq_true] at hx
    case fieldLinkNest => exact va_Nw.of rfl h1
    case methodLinkNest => exact va_Nw.of rfl h1
    case castable => exact va_Nw.of rfl h1
    case arrayOver t =>
      cases t <;> simp only [xnest, Bool.false_eq_true] at hx
      exact va_AO.of h1
/-- from the entry, for every script of at most 2048 ints, the law comes to its end with true -/
theorem whole_start {p : Program} {e : Env} {s : State} {m : MethodId} {below : List Frame} {meth : Method} {c : Code} (l : Launch) (hflags : l.flags = flags0) {b L : Nat} {xs : Nat → Int32} (hL : L ≤ 2048) (C0 : lw_At p s m meth c b L xs) : W p l e room_1 s m #[Value.ref b] below meth c s.heap [] 0 0 (lw_Z below #[Value.ref b] s) (entryFrame m ([Value.ref b] : List Value).toArray 4) := by
  obtain ⟨hx, hcode, hret, hml, hown, hts, ⟨scr, hcb, hof, hkn, hsz, hval⟩, hbl, hlocks, hgv, hnm⟩ := C0
  obtain ⟨D, cA, kn⟩ := kn_start (b := b) hts hof
  have hG : ∀ w ∈ GT, w.before #[Value.ref b] s = true := fun w hw => hts w (List.mem_filter.mp hw).1
  have X : Cx (b, s.heap.size, scr, D, cA) 196 p room_1 s m #[Value.ref b] meth c := ⟨hx, hcode, hml, hret, hlocks, hown, hG, kn, hnm, by decide, by decide⟩
  obtain ⟨n, r, h', ex, hr, hc1, hc2⟩ := lw_all (Q := fun r h' => r = some (.int 1) ∧ h'.1 ≤ 2100 ∧ h'.2.1 ≤ 0 + 40000) hL (s := 0) (f := va_up (fun _ => none) 0 (some (ia 2 L xs))) rfl (fun c hc => vD_ne _ _ (by omega)) (fun h' a b => ⟨rfl, a, b⟩)
  subst hr
  have HR0 : HR (b, s.heap.size, scr, D, cA) (1, 0, va_up (fun _ => none) 0 (some (ia 2 L xs))) s.heap := by
    refine ⟨rfl, Nat.le_refl _, fun k e he => ?_⟩
    have he' : va_up (fun _ => none) 0 (some (ia 2 L xs)) k = some e := he
    by_cases hk : k = 0
    · subst hk
      rw [vD_eq] at he'
      cases he'
      exact Or.inl ⟨rfl, rfl, hcb, hsz, hval⟩
    · rw [vD_ne _ _ hk] at he'; cases he'
  have gr := xe_grow KT_ok _ _ _ _ _ _ _ _ ex
  have g1 : 1 ≤ h'.1 := gr.1
  have sd := sound KT_ok (G := (b, s.heap.size, scr, D, cA)) ⟨hbl, hkn⟩ l n 196 0 (initLo (nl 196) [.ref 0]) [] (1, 0, va_up (fun _ => none) 0 (some (ia 2 L xs))) (some (.int 1)) h' ex p e room_1 s m #[Value.ref b] below meth c X s.heap [] 0 0 _ (LR.entry (G := (b, s.heap.size, scr, D, cA)) (as := [.ref 0]) (n := 4) (by intro v hv; simp at hv; rw [hv]; rfl) (by decide)) HR0 (fun q hq => by cases hq) (h'.1 - 1) h'.2.1 (by show 0 + h'.1 = h'.1 - 1 + 1; omega) (by show 0 + h'.2.1 = h'.2.1 + 0; omega) (by show h'.1 - 1 ≤ 600000; omega) (by show h'.2.1 ≤ 7302250; omega)
  rw [lg_entry_eq]
  intro T hT XX
  obtain ⟨t, a1, o, b1, b2, b3, Lo, fe, fl⟩ := sd T hT XX
  refine ⟨t, a1, o, b1, b2, b3.1, fe.1, fe.2.1, ?_⟩
  exact same_fresh fe.2.2 fl (by omega) (by omega)
