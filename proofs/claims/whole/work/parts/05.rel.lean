/-! HOW THE INTERPRETER'S STATE STANDS FOR THE MACHINE'S. GG: the script's address, the size of the heap at the start, the script's cell, classes and slots, array classes -/
abbrev GG : Type := Nat × Nat × Cell × va_G × (Nat → ClassId)
def ad (G : GG) : Nat → Nat
  | 0 => G.1
  | k + 1 => G.2.1 + k
def cv (G : GG) : Value → Value
  | .ref k => .ref (ad G k)
  | v => v
theorem cv_cat (G : GG) (v : Value) : (cv G v).category = v.category := by cases v <;> rfl
def xtys (G : GG) : List (ClassId × FieldType) := [(G.2.2.2.2 0, .int), (G.2.2.2.2 1, .boolean), (G.2.2.2.2 3, .object RX8), (G.2.2.2.2 4, .object RX6)]
/-- what the tables say, and go on saying -/
def KN (G : GG) (U : State) : Prop := va_K G.2.2.2.1 vwCl (xtys G) U ∧ U.isArrayOf G.2.2.1 .int ∧ ∀ w ∈ NT, va_Nw w U
def G0 (G : GG) : Prop := G.1 < G.2.1 ∧ G.2.2.1.vm ≠ .unknown
def CR (G : GG) (k : Nat) (e : AE) (H : Heap) : Prop := match e with
  | .inl (ci, fs) => k ≠ 0 ∧ ∃ r : vw_C, vwCl[ci]? = some r ∧ fs.length = r.2.2 ∧ t_OB (ad G k) (G.2.2.2.1.1 ci) r.2.2 (G.2.2.2.1.2 ci) H (vp_V (fs.map (cv G)))
  | .inr (.inl (t, n, f)) => (t = 2 ∧ k = 0 ∧ H[G.1]? = some G.2.2.1 ∧ G.2.2.1.slots.size = n ∧ ∀ j, j < n → G.2.2.1.slots[j]? = some (.int (f j))) ∨ ((t = 0 ∨ t = 1) ∧ k ≠ 0 ∧ H[ad G k]? = some (arrV (G.2.2.2.2 t) n (fun j => .int (f j))))
  | .inr (.inr (t, n, f)) => (t = 3 ∨ t = 4) ∧ k ≠ 0 ∧ H[ad G k]? = some (arrV (G.2.2.2.2 t) n (fun j => va_rf ((f j).map (ad G))))
def HR (G : GG) (h : Hp) (H : Heap) : Prop := H.size + 1 = G.2.1 + h.1 ∧ 1 ≤ h.1 ∧ ∀ (k : Nat) (e : AE), h.2.2 k = some e → CR G k e H
def LR (G : GG) (lo : Lo) (nL : Nat) (ls : Array Slot) : Prop := ls.size = nL ∧ lo.length = nL ∧ lv_wf ls ∧ ∀ (i : Nat) (v : Value), lo[i]? = some (some v) → v.category = 1 ∧ ls[i]? = some (.val (cv G v))
def LK (G : GG) (locs : List Loc) : Prop := ∀ q ∈ locs, G.2.1 ≤ q.base
theorem ad_succ (G : GG) (k : Nat) : ad G (k + 1) = G.2.1 + k := rfl
theorem ad_inj {G : GG} (h0 : G0 G) {i j : Nat} (h : ad G i = ad G j) : i = j := by
  have hb := h0.1
  cases i with
  | zero => cases j with
    | zero => rfl
    | succ j => simp only [ad] at h; omega
  | succ i => cases j with
    | zero => simp only [ad] at h; omega
    | succ j => simp only [ad] at h; omega
theorem ad_ge {G : GG} {k : Nat} (h : k ≠ 0) : G.2.1 ≤ ad G k := by
  cases k with
  | zero => exact absurd rfl h
  | succ k => simp only [ad]; omega
theorem CR.kept {G : GG} {k : Nat} {e : AE} {H H1 : Heap} (h : CR G k e H) (hq : H1[ad G k]? = H[ad G k]?) : CR G k e H1 := by
  rcases e with ⟨ci, fs⟩ | ⟨t, n, f⟩ | ⟨t, n, f⟩
  · obtain ⟨h0, r, h1, h2, h3⟩ := h
    exact ⟨h0, r, h1, h2, h3.kept hq⟩
  · rcases h with ⟨h1, h2, h3, h4⟩ | ⟨h1, h2, h3⟩
    · subst h2
      exact Or.inl ⟨h1, rfl, hq.trans h3, h4⟩
    · exact Or.inr ⟨h1, h2, hq.trans h3⟩
  · obtain ⟨h1, h2, h3⟩ := h
    exact ⟨h1, h2, hq.trans h3⟩
theorem CR.lt {G : GG} {k : Nat} {e : AE} {H : Heap} (h : CR G k e H) : ad G k < H.size := by
  rcases e with ⟨ci, fs⟩ | ⟨t, n, f⟩ | ⟨t, n, f⟩
  · obtain ⟨h0, r, h1, h2, cell, h3, -⟩ := h
    exact (Array.getElem?_eq_some_iff.mp h3).1
  · rcases h with ⟨h1, h2, h3, h4⟩ | ⟨h1, h2, h3⟩
    · subst h2
      exact (Array.getElem?_eq_some_iff.mp h3).1
    · exact (Array.getElem?_eq_some_iff.mp h3).1
  · exact (Array.getElem?_eq_some_iff.mp h.2.2).1
theorem HR.set {G : GG} (h0 : G0 G) {h : Hp} {H H1 : Heap} (hr : HR G h H) {k : Nat} {e : AE} (hz : H1.size = H.size) (oq : ∀ q : Nat, q ≠ ad G k → H1[q]? = H[q]?) (hc : CR G k e H1) : HR G (hset h k e) H1 := by
  refine ⟨by rw [hz]; exact hr.1, hr.2.1, fun j x hx => ?_⟩
  simp only [hset] at hx
  by_cases hj : j = k
  · subst hj
    rw [if_pos rfl] at hx
    cases hx
    exact hc
  · rw [if_neg hj] at hx
    exact (hr.2.2 j x hx).kept (oq _ (fun q => hj (ad_inj h0 q)))
theorem HR.ad {G : GG} {h : Hp} {H : Heap} (hr : HR G h H) : ad G h.1 = H.size := by
  obtain ⟨h1, h2, -⟩ := hr
  cases hk : h.1 with
  | zero => omega
  | succ k => rw [hk] at h1; rw [ad_succ]; omega
theorem HR.new {G : GG} {h : Hp} {H H1 : Heap} (hr : HR G h H) {n : Nat} {e : AE} (hz : H1.size = H.size + 1) (oq : ∀ q : Nat, q < H.size → H1[q]? = H[q]?) (hc : CR G h.1 e H1) : HR G (hnew h n e) H1 := by
  refine ⟨by rw [hz]; simp only [hnew]; have := hr.1; omega, by simp only [hnew]; omega, fun j x hx => ?_⟩
  simp only [hnew] at hx
  by_cases hj : j = h.1
  · subst hj
    rw [if_pos rfl] at hx
    cases hx
    exact hc
  · rw [if_neg hj] at hx
    have hc := hr.2.2 j x hx
    exact hc.kept (oq _ hc.lt)
/-! locals -/
def asc (G : GG) (lo : Lo) : List (Nat × Value) := lo.zipIdx.filterMap fun q => q.1.map fun v => (q.2, cv G v)
theorem asc_mem {G : GG} {lo : Lo} {q : Nat × Value} : q ∈ asc G lo ↔ ∃ v, lo[q.1]? = some (some v) ∧ q.2 = cv G v := by
  unfold asc
  rw [List.mem_filterMap]
  constructor
  · rintro ⟨⟨o, i⟩, hm, he⟩
    have hi := List.mem_zipIdx_iff_getElem?.mp hm
    cases o with
    | none => cases he
    | some v => cases he; exact ⟨v, hi, rfl⟩
  · rintro ⟨v, h1, h2⟩
    refine ⟨(some v, q.1), List.mem_zipIdx_iff_getElem?.mpr h1, ?_⟩
    obtain ⟨a, b⟩ := q
    cases h2
    rfl
theorem LR.has {G : GG} {lo : Lo} {nL : Nat} {ls : Array Slot} (h : LR G lo nL ls) : lv_has ls nL (asc G lo) := by
  refine ⟨h.1, h.2.2.1, fun q hq => ?_⟩
  obtain ⟨v, h1, h2⟩ := asc_mem.mp hq
  rw [h2]
  exact (h.2.2.2 _ _ h1).2
theorem LR.store {G : GG} {lo : Lo} {nL : Nat} {ls ls' : Array Slot} (h : LR G lo nL ls) {i : Nat} {x : Value} (hx : x.category = 1) (hi : i < lo.length)
    (h' : lv_has ls' nL ((i, cv G x) :: (asc G lo).filter (fun q => !(q.1 == i) && !(q.1 + 1 == i && q.2.category == 2)))) : LR G (lo.set i (some x)) nL ls' := by
  refine ⟨h'.1, by rw [List.length_set]; exact h.2.1, h'.2.1, fun j v hj => ?_⟩
  by_cases hji : j = i
  · subst hji
    rw [List.getElem?_set_self hi] at hj
    cases hj
    exact ⟨hx, h'.2.2 _ List.mem_cons_self⟩
  · rw [List.getElem?_set_ne (Ne.symm hji)] at hj
    refine ⟨(h.2.2.2 j v hj).1, h'.2.2 (j, cv G v) (List.mem_cons_of_mem _ (List.mem_filter.mpr ⟨asc_mem.mpr ⟨v, hj, rfl⟩, ?_⟩))⟩
    have hc := (h.2.2.2 j v hj).1
    simp [hji, cv_cat, hc]
theorem lv_args_mem : ∀ (vs : List Value) (i : Nat), (∀ v ∈ vs, v.category = 1) → ∀ (j : Nat) (v : Value), vs[j]? = some v → (i + j, v) ∈ lv_args i vs
  | [], _, _, j, v, h => by simp at h
  | a :: vs, i, hc, j, v, h => by
    have ha : a.category = 1 := hc a List.mem_cons_self
    cases j with
    | zero =>
      simp at h
      subst h
      exact List.mem_cons_self
    | succ j =>
      have h2 : vs[j]? = some v := by simpa using h
      have := lv_args_mem vs (i + 1) (fun v hv => hc v (List.mem_cons_of_mem _ hv)) j v h2
      rw [show i + (j + 1) = i + 1 + j by omega]
      unfold lv_args
      rw [if_neg (by rw [ha]; decide)]
      exact List.mem_cons_of_mem _ this
theorem lg_sl_len : ∀ (vs : List Value), (∀ v ∈ vs, v.category = 1) → (lg_sl vs).length = vs.length
  | [], _ => rfl
  | a :: vs, hc => by
    have ha : a.category = 1 := hc a List.mem_cons_self
    have := lg_sl_len vs (fun v hv => hc v (List.mem_cons_of_mem _ hv))
    unfold lg_sl at this ⊢
    simp [ha, this]
theorem LR.entry {G : GG} {as : List Value} {n : Nat} (hc : ∀ v ∈ as, v.category = 1) (hn : as.length ≤ n) : LR G (initLo n as) n ((lg_sl (as.map (cv G)) ++ List.replicate (n - (lg_sl (as.map (cv G))).length) Slot.unset).toArray) := by
  have hc' : ∀ v ∈ as.map (cv G), v.category = 1 := by
    intro v hv
    obtain ⟨w, h1, rfl⟩ := List.mem_map.mp hv
    rw [cv_cat]; exact hc w h1
  have hl := lg_sl_len _ hc'
  have h := lv_entry (as.map (cv G)) (n := n) (by rw [hl, List.length_map]; exact hn)
  refine ⟨h.1, ?_, h.2.1, fun i v hi => ?_⟩
  · simp [initLo]; omega
  · unfold initLo at hi
    by_cases hlt : i < as.length
    · rw [List.getElem?_append_left (by simpa using hlt)] at hi
      rw [List.getElem?_map] at hi
      cases ha : as[i]? with
      | none => rw [ha] at hi; cases hi
      | some w =>
        rw [ha] at hi
        cases hi
        refine ⟨hc v (List.mem_of_getElem? ha), ?_⟩
        have hm := lv_args_mem (as.map (cv G)) 0 hc' i (cv G v) (by rw [List.getElem?_map, ha]; rfl)
        rw [Nat.zero_add] at hm
        exact h.2.2 _ hm
    · rw [List.getElem?_append_right (by simpa using hlt)] at hi
      have hm := List.mem_of_getElem? hi
      have := List.eq_of_mem_replicate hm
      cases this
/-! the tables' words go on -/
theorem KN.warm {G : GG} {s U : State} (hW : s.WarmedH U.vm) (h : KN G s) : KN G U := by
  refine ⟨va_K.moved hW.alike h.1, State.isArrayOf_alike hW.alike h.2.1, fun w hw => ?_⟩
  have h1 := h.2.2 w hw
  have hx : xnest w = true := (List.mem_filter.mp hw).2
  cases w <;> simp only [xnest, Bool.false_eq_true] at hx
  case fieldLinkNest => exact va_Nw.warmF hW h1
  case methodLinkNest => exact va_Nw.warmM hW h1
  case castable => exact va_Nw.warmC hW h1
  case arrayOver t =>
    cases t <;> simp only [xnest, Bool.false_eq_true] at hx
    exact va_AO.moved hW.alike h1
theorem KN.calling {G : GG} {U : State} (g : JFrame) (mk : MethodId) (a : Array Value) (h : KN G U) : KN G (U.calling g mk a) := by
  refine ⟨va_K.moved (u := U) (U := U.calling g mk a) (Vm.Alike.refl U.vm) h.1, State.isArrayOf_alike (Vm.Alike.refl U.vm) h.2.1, fun w hw => ?_⟩
  have h1 := h.2.2 w hw
  have hx : xnest w = true := (List.mem_filter.mp hw).2
  cases w <;> simp only [xnest, Bool.false_eq_true] at hx
  case fieldLinkNest => exact va_Nw.same (u := U) rfl rfl h1
  case methodLinkNest => exact va_Nw.same (u := U) rfl rfl h1
  case castable => exact va_Nw.same (u := U) rfl rfl h1
  case arrayOver t =>
    cases t <;> simp only [xnest, Bool.false_eq_true] at hx
    exact va_AO.moved (u := U) (Vm.Alike.refl U.vm) h1
/-! a method's start and end, and what holds inside of it -/
def PC (G : GG) (as : List Value) (h : Hp) : Array Value → State → Prop := fun a U => a = (as.map (cv G)).toArray ∧ HR G h U.heap ∧ KN G U
def QC (G : GG) (r : Option Value) (h : Hp) : Array Value → State → Outcome → State → Prop := fun _ _ o t => o = .returned (r.map (cv G)) ∧ HR G h t.heap ∧ KN G t
def Cx (G : GG) (mi : Nat) (p : Program) (R : Room) (s : State) (m : MethodId) (args : Array Value) (meth : Method) (c : Code) : Prop :=
  p.tables.exec = Jvm.exec ∧ c.code = (MT mi).2.1 ∧ c.maxLocals = (MT mi).2.2.1 ∧ meth.sig.returnType = (MT mi).2.2.2.1 ∧ meth.locks = false ∧ s.vm.findClass (MT mi).1.cls = some m.cls ∧ (∀ w ∈ GT, w.before args s = true) ∧ KN G s ∧ meth.name = (MT mi).1.name ∧ (MT mi).2.2.2.2.1 ≤ R.frames ∧ (MT mi).2.2.2.2.2 ≤ R.locals
def fr (G : GG) : Addr → Prop := fun q => G.2.1 ≤ q
/-- a step of a closure is a step of the machine -/
def SOK (mi pc : Nat) (f : Op1) : Prop := ∀ (G : GG) (_ : G0 G) (l : Launch) (p : Program) (e : Env) (R : Room) (s : State) (m : MethodId) (args : Array Value) (below : List Frame) (meth : Method) (c : Code) (_ : Cx G mi p R s m args meth c)
  (H : Heap) (locs : List Loc) (cells slots : Nat) (ls : Array Slot) (lo : Lo) (st : List Value) (h : Hp) (_ : LR G lo (MT mi).2.2.1 ls) (_ : HR G h H) (_ : LK G locs),
  (∀ (pc' : Nat) (lo' : Lo) (st' : List Value) (h' : Hp), f lo st h = some (.inl (pc', lo', st', h')) → (h.1 ≤ h'.1 ∧ h.2.1 ≤ h'.2.1) ∧
    ∀ Q : State → Prop, cells + h'.1 ≤ R.cells + h.1 → slots + h'.2.1 ≤ R.slots + h.2.1 →
      (∀ (H' : Heap) (locs' : List Loc) (ls' : Array Slot) (cells' slots' : Nat), LR G lo' (MT mi).2.2.1 ls' → HR G h' H' → LK G locs' → cells' + h.1 = cells + h'.1 → slots' + h.2.1 = slots + h'.2.1 → W p l e R s m args below meth c H' locs' cells' slots' Q (F0 m pc' ls' (st'.map (cv G)))) →
      W p l e R s m args below meth c H locs cells slots Q (F0 m pc ls (st.map (cv G)))) ∧
  (∀ (r : Option Value) (h' : Hp), f lo st h = some (.inr (r, h')) → h' = h ∧ W p l e R s m args below meth c H locs cells slots (MQ below (QC G r h) args s cells slots (fr G)) (F0 m pc ls (st.map (cv G))))
