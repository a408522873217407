/-! clone of an int array -/
section CLN
variable {mi pc : Nat}
theorem xs_clone {idx : Nat} (hl : Cond.methodLink (MT mi).1.cls idx ⟨"[I", "clone", "()Ljava/lang/Object;"⟩ ∈ GT) (hsm : Cond.sameMethod "[I" "java/lang/Object" "clone" "()Ljava/lang/Object;" ∈ GT) (hnt : Cond.native ⟨"java/lang/Object", "clone", "()Ljava/lang/Object;"⟩ ∈ GT) (hin : Cond.instanceMethod ⟨"java/lang/Object", "clone", "()Ljava/lang/Object;"⟩ ∈ GT) (hsl : Cond.selects "[I" ⟨"[I", "clone", "()Ljava/lang/Object;"⟩ ⟨"java/lang/Object", "clone", "()Ljava/lang/Object;"⟩ ∈ GT) (hcl : Cond.castable "[I" "java/lang/Cloneable" ∈ NT)
    (hf : 1 ≤ (MT mi).2.2.2.2.1) (hlo : 22 ≤ (MT mi).2.2.2.2.2) (d : decode (MT mi).2.1 pc = .ok (.invokevirtual idx, 3)) : SOK mi pc (xo_clone (pc + 3)) := by
  intro G g0 l p e R s m args below meth c X H locs cells slots ls lo st h hL hR hK
  refine ⟨fun pc' lo' st' h' he => ?_, fun r h' he => ?_⟩
  · unfold xo_clone at he
    split at he
    · rename_i a r
      split at he
      · rename_i t n f hh
        split at he
        · rename_i hcc
          obtain ⟨ht, hsum⟩ := hcc
          have e2 : ((r.map (cv G)).map fun v => v.category) = r.map Value.category := by
            rw [List.map_map]; exact List.map_congr_left fun v _ => cv_cat G v
          have hsum2 : ((r.map (cv G)).map fun v => v.category).sum ≤ 8 := by rw [e2]; exact hsum
          have hx1 := X.2.2.2.2.2.2.2.2.2.1
          have hx2 := X.2.2.2.2.2.2.2.2.2.2
          have hne : h.1 ≠ 0 := by have := hR.2.1; omega
          subst ht
          injection he with he; injection he with he; injection he with e3 he; injection he with e4 he; injection he with e5 e6
          subst e3; subst e4; subst e5; subst e6
          refine ⟨⟨Nat.le_succ _, Nat.le_add_right _ _⟩, fun Q hc1 hc2 kk => ?_⟩
          simp only [hnew] at hc1 hc2
          rcases hR.2.2 _ _ hh with ⟨h1, h2, h3, h4, h5⟩ | ⟨h1, h2, h3⟩
          · omega
          have hts := X.2.2.2.2.2.2.1
          obtain ⟨c0, t0', f1, f2, f3⟩ := Cond.castable_spec (va_Nw.use (A := args) rfl (X.2.2.2.2.2.2.2.1.2.2 _ hcl))
          have hnm : s.vm.findClass "[I" = some (G.2.2.2.2 0) := va_nm_int (X.2.2.2.2.2.2.2.1.1.2 0 _ rfl).2
          cases hnm.symm.trans f1
          intro T hT XX
          have hcellT : T.heap[ad G a]? = some (arrV (G.2.2.2.2 0) n (fun j => .int (f j))) := by rw [hT]; exact h3
          have hAr := (X.2.2.2.2.2.2.2.1.1.2 0 _ rfl).1
          obtain ⟨-, kA, hkA, comp, hkind⟩ := State.isArrayOf_alike XX.warmed.alike (hAr 0 (fun _ => .null))
          obtain ⟨-, kS, hkS, compS, hkindS⟩ := hAr 0 (fun _ => .null)
          obtain ⟨vm', X', st⟩ := XX.cloneArray X.1 X.2.2.2.2.2.1 (hts _ hl) (hts _ hsm) (hts _ hnt) (hts _ hin) (hts _ hsl) (a := ad G a) (cell := arrV (G.2.2.2.2 0) n (fun j => .int (f j))) hcellT (fun k h => by cases h) (fun h => by cases h) hnm f2 f3
            (fun i v hv => by
              have hk' : T.vm.classes[G.2.2.2.2 0]? = some kA := hkA
              have hfit : fits .int v = true := va_fit (cA := G.2.2.2.2 0) (n := n) (F := fun j => .int (f j)) (ty := .int) (fun i _ => rfl) i v hv
              have e3 : (arrV (G.2.2.2.2 0) n (fun j => Value.int (f j))).cls = G.2.2.2.2 0 := rfl
              simpa [State.fitsSlot, State.slotType?, e3, hk', hkind] using hfit)
            (g := F0 m pc ls ((Value.ref a :: r).map (cv G))) (rest := r.map (cv G)) rfl (hL.1.trans X.2.2.1.symm) rfl (by rw [X.2.1]; exact d) (by omega) (by show 2 * 0 + _ + 14 ≤ _; omega) (by omega) (by rw [arrV_size]; omega) (hloader := Vm.clonesLoader_of_array hkS hkindS)
          have hcellE : ({ cls := (arrV (G.2.2.2.2 0) n (fun j => Value.int (f j))).cls, slots := (arrV (G.2.2.2.2 0) n (fun j => Value.int (f j))).slots } : Cell) = arrV (G.2.2.2.2 0) n (fun j => .int (f j)) := rfl
          rw [hcellE, arrV_size] at X'
          rw [hcellE] at st
          have hk2 := kk (H.push (arrV (G.2.2.2.2 0) n (fun j => .int (f j)))) locs ls (cells + 1) (slots + n) hL (hR.new (by rw [Array.size_push]) (fun q hq => by rw [Array.getElem?_push, if_neg (Nat.ne_of_lt hq)]) (Or.inr ⟨Or.inl rfl, hne, by rw [hR.ad, Array.getElem?_push_size]⟩)) hK (by simp only [hnew]; omega) (by simp only [hnew]; omega)
          obtain ⟨t, b1, b2⟩ := hk2 ((T.setVm vm').pushCell (arrV (G.2.2.2.2 0) n (fun j => .int (f j)))) (by rw [← hT]; rfl) X'
          refine ⟨t, st t ?_, b2⟩
          rw [hT, ← hR.ad]
          exact b1
        · cases he
      · cases he
    · cases he
  · unfold xo_clone at he
    split at he
    · split at he
      · split at he <;> cases he
      · cases he
    · cases he
end CLN
/-! calls -/
def xws (mi : Nat) : List Cond := Cond.code (MT mi).1 (MT mi).2.1 (MT mi).2.2.1 (MT mi).2.2.2.1 :: GT
def xrm (mi mc ms : Nat) : Room := { frames := (MT mi).2.2.2.2.1, cells := mc, slots := ms, locals := (MT mi).2.2.2.2.2 }
theorem xws_good {mi : Nat} (h : Cond.code (MT mi).1 (MT mi).2.1 (MT mi).2.2.1 (MT mi).2.2.2.1 ∈ GT) : GoodIn GT (xws mi) := by
  intro w hw
  have h1 : w ∈ GT := by
    rcases List.mem_cons.mp hw with rfl | q
    · exact h
    · exact q
  exact ⟨h1, good_of_word (List.mem_filter.mp h1).2⟩
def COK (mi pc mi' na : Nat) (kd : Option Nat) (pc' : Nat) : Prop := pc' = pc + 3 ∧ plainName (MT mi').1.cls = true ∧ na ≤ (MT mi').2.2.1 ∧
  ∀ (G : GG) (_ : G0 G) (l : Launch) (p : Program) (e : Env) (R : Room) (s : State) (m : MethodId) (args : Array Value) (below : List Frame) (meth : Method) (c : Code) (_ : Cx G mi p R s m args meth c)
  (H : Heap) (locs : List Loc) (cells slots : Nat) (ls : Array Slot) (lo : Lo) (st : List Value) (h : Hp) (_ : LR G lo (MT mi).2.2.1 ls) (_ : HR G h H), callOk na kd st h = true →
  ∀ (r : Option Value) (h1 : Hp) (mc ms : Nat), Met l (MT mi').1 (xws mi') (xrm mi' mc ms) (PC G (st.take na).reverse h) (QC G r h1) mc ms (fr G) → cells + mc ≤ R.cells → slots + ms ≤ R.slots →
  va_Run p l e R s m args below meth c H locs cells slots mc ms (F0 m pc ls (st.map (cv G))) ((st.drop na).map (cv G)) (QC G r h1 #[]) (fr G)
theorem callOk_spec {na : Nat} {kd : Option Nat} {st : List Value} {h : Hp} (hc : callOk na kd st h = true) : na ≤ st.length ∧ (∀ v ∈ st.take na, v.category = 1) ∧ ((st.drop na).map Value.category).sum ≤ 8 ∧ ∀ ci, kd = some ci → ∃ (ys : List Value) (k : Nat) (fs : List Value), st.take na = ys ++ [.ref k] ∧ h.2.2 k = some (.inl (ci, fs)) := by
  unfold callOk at hc
  simp only [Bool.and_eq_true, decide_eq_true_eq] at hc
  obtain ⟨h1, h2, h3, h4⟩ := hc
  refine ⟨h1, fun v hv => by simpa using List.all_eq_true.mp h2 v hv, h3, fun ci hk => ?_⟩
  subst hk
  dsimp only at h4
  unfold xrecv at h4
  split at h4
  · rename_i k hk
    split at h4
    · rename_i q hq
      obtain ⟨c, fs⟩ := q
      have hcc : c = ci := by simpa using h4
      subst hcc
      obtain ⟨ys, hys⟩ := List.getLast?_eq_some_iff.mp hk
      exact ⟨ys, k, fs, hys, hq⟩
    · cases h4
  · cases h4
theorem PC.blind {G : GG} {as : List Value} {h : Hp} : FrameBlind (PC G as h) := fun a U g mk q => ⟨q.1, q.2.1, q.2.2.calling g mk a⟩
theorem xcats (G : GG) (r : List Value) : ((r.map (cv G)).map fun v => v.category) = r.map Value.category := by
  rw [List.map_map]; exact List.map_congr_left fun v _ => cv_cat G v
theorem xstk (G : GG) (na : Nat) (st : List Value) : st.map (cv G) = (((st.take na).reverse).map (cv G)).reverse ++ (st.drop na).map (cv G) := by
  rw [← List.map_reverse, List.reverse_reverse, ← List.map_append, List.take_append_drop]
section CALLS
variable {mi pc mi' na idx : Nat}
theorem xk_S (d : decode (MT mi).2.1 pc = .ok (.invokestatic idx, 3)) (hlink : Cond.methodLink (MT mi).1.cls idx (MT mi').1 ∈ GT) (hst : Cond.static (MT mi').1 ∈ GT) (hini : Cond.initialized (MT mi').1.cls ∈ GT) (hcode : Cond.code (MT mi').1 (MT mi').2.1 (MT mi').2.2.1 (MT mi').2.2.2.1 ∈ GT)
    (hy : (MT mi').1.cls ≠ "java/lang/invoke/MethodHandle" ∧ (MT mi').1.cls ≠ "java/lang/invoke/VarHandle" ∧ (parseMethodDescriptor (MT mi').1.desc).map (fun d => d.parameters.length) = some na) (hpl : plainName (MT mi').1.cls = true) (hna : na ≤ (MT mi').2.2.1)
    (hrm : (MT mi').2.2.2.2.1 + 1 ≤ (MT mi).2.2.2.2.1 ∧ 8 + ((MT mi').2.2.1 + 11) + (MT mi').2.2.2.2.2 ≤ (MT mi).2.2.2.2.2) : COK mi pc mi' na none (pc + 3) := by
  refine ⟨rfl, hpl, hna, fun G g0 l p e R s m args below meth c X H locs cells slots ls lo st h hL hR hc r h1 mc ms hM hc1 hc2 => ?_⟩
  obtain ⟨c1, c2, c3, -⟩ := callOk_spec hc
  have hts := X.2.2.2.2.2.2.1
  refine va_runS (As := ((st.take na).reverse).map (cv G)) (bytes := (MT mi').2.1) (maxL := (MT mi').2.2.1) (ret := (MT mi').2.2.2.1) ⟨X.1, X.2.1, X.2.2.1, X.2.2.2.2.2.1, hts⟩ hM ⟨callB_of na hts (xws_good hcode) rfl rfl rfl (hts _ hini) (hts _ hlink) hy ⟨Nat.le_trans hrm.1 X.2.2.2.2.2.2.2.2.2.1, Nat.le_trans hrm.2 X.2.2.2.2.2.2.2.2.2.2⟩, hts _ hst⟩ ⟨PC.blind, fun U hU hW => ⟨rfl, by rw [hU]; exact hR, X.2.2.2.2.2.2.2.1.warm hW⟩⟩ rfl (by simp; omega) hL.1 (xstk G na st) (lv_room (by rw [xcats]; exact c3)) d ⟨hc1, hc2⟩
theorem xk_SN {host : String} (d : decode (MT mi).2.1 pc = .ok (.invokestatic idx, 3)) (hlink : Cond.methodLinkNest (MT mi).1.cls idx (MT mi').1 host ∈ NT) (hst : Cond.static (MT mi').1 ∈ GT) (hini : Cond.initialized (MT mi').1.cls ∈ GT) (hcode : Cond.code (MT mi').1 (MT mi').2.1 (MT mi').2.2.1 (MT mi').2.2.2.1 ∈ GT)
    (hy : (MT mi').1.cls ≠ "java/lang/invoke/MethodHandle" ∧ (MT mi').1.cls ≠ "java/lang/invoke/VarHandle" ∧ (parseMethodDescriptor (MT mi').1.desc).map (fun d => d.parameters.length) = some na) (hpl : plainName (MT mi').1.cls = true) (hna : na ≤ (MT mi').2.2.1)
    (hrm : (MT mi').2.2.2.2.1 + 1 ≤ (MT mi).2.2.2.2.1 ∧ 8 + ((MT mi').2.2.1 + 11) + (MT mi').2.2.2.2.2 ≤ (MT mi).2.2.2.2.2) : COK mi pc mi' na none (pc + 3) := by
  refine ⟨rfl, hpl, hna, fun G g0 l p e R s m args below meth c X H locs cells slots ls lo st h hL hR hc r h1 mc ms hM hc1 hc2 => ?_⟩
  obtain ⟨c1, c2, c3, -⟩ := callOk_spec hc
  have hts := X.2.2.2.2.2.2.1
  refine va_runSN (As := ((st.take na).reverse).map (cv G)) (bytes := (MT mi').2.1) (maxL := (MT mi').2.2.1) (ret := (MT mi').2.2.2.1) ⟨X.1, X.2.1, X.2.2.1, X.2.2.2.2.2.1, hts⟩ hM ⟨va_cnB na hts (xws_good hcode) rfl rfl rfl (X.2.2.2.2.2.2.2.1.2.2 _ hlink) (hts _ hini) hy ⟨Nat.le_trans hrm.1 X.2.2.2.2.2.2.2.2.2.1, Nat.le_trans hrm.2 X.2.2.2.2.2.2.2.2.2.2⟩, hts _ hst, trivial⟩ ⟨PC.blind, fun U hU hW => ⟨rfl, by rw [hU]; exact hR, X.2.2.2.2.2.2.2.1.warm hW⟩⟩ rfl (by simp; omega) hL.1 (xstk G na st) (lv_room (by rw [xcats]; exact c3)) d ⟨hc1, hc2⟩
theorem xk_V {C : String} {T : u_T} {N ci n0 : Nat} (d : decode (MT mi).2.1 pc = .ok (.invokevirtual idx, 3)) (hC : vwCl[ci]? = some (C, T, N)) (hlink : Cond.methodLink (MT mi).1.cls idx (MT mi').1 ∈ GT) (hins : Cond.instanceMethod (MT mi').1 ∈ GT) (hsel : Cond.selects C (MT mi').1 (MT mi').1 ∈ GT) (hini : Cond.initialized (MT mi').1.cls ∈ GT) (hcode : Cond.code (MT mi').1 (MT mi').2.1 (MT mi').2.2.1 (MT mi').2.2.2.1 ∈ GT)
    (hy : (MT mi').1.cls ≠ "java/lang/invoke/MethodHandle" ∧ (MT mi').1.cls ≠ "java/lang/invoke/VarHandle" ∧ (parseMethodDescriptor (MT mi').1.desc).map (fun d => d.parameters.length) = some n0) (hn0 : na = n0 + 1) (hpl : plainName (MT mi').1.cls = true) (hna : na ≤ (MT mi').2.2.1)
    (hrm : (MT mi').2.2.2.2.1 + 1 ≤ (MT mi).2.2.2.2.1 ∧ 8 + ((MT mi').2.2.1 + 11) + (MT mi').2.2.2.2.2 ≤ (MT mi).2.2.2.2.2) : COK mi pc mi' na (some ci) (pc + 3) := by
  refine ⟨rfl, hpl, hna, fun G g0 l p e R s m args below meth c X H locs cells slots ls lo st h hL hR hc r h1 mc ms hM hc1 hc2 => ?_⟩
  obtain ⟨c1, c2, c3, c4⟩ := callOk_spec hc
  obtain ⟨ys, k, fs, hys, hk⟩ := c4 ci rfl
  have hts := X.2.2.2.2.2.2.1
  have hlen : ys.length = n0 := by
    have := congrArg List.length hys
    simp at this
    omega
  have hrev : (st.take na).reverse = .ref k :: ys.reverse := by rw [hys]; simp
  have hstk := xstk G na st
  rw [hrev] at hM hstk
  have hrv : ∃ cellB : Cell, H[ad G k]? = some cellB ∧ cellB.vm.isStatics = false ∧ s.vm.findClass C = some cellB.cls := by
    obtain ⟨-, r', g1, g2, cell, q1, q2, q3, -⟩ := hR.2.2 _ _ hk
    have : r' = (C, T, N) := Option.some.inj (g1.symm.trans hC)
    subst this
    exact ⟨cell, q1, by rw [q3]; rfl, by rw [q2]; exact (X.2.2.2.2.2.2.2.1.1.1 ci _ hC).2.1⟩
  refine va_runV (C := C) (b := ad G k) (As := ys.reverse.map (cv G)) (bytes := (MT mi').2.1) (maxL := (MT mi').2.2.1) (ret := (MT mi').2.2.2.1) ⟨X.1, X.2.1, X.2.2.1, X.2.2.2.2.2.1, hts⟩ hM ⟨callB_of n0 hts (xws_good hcode) rfl rfl rfl (hts _ hini) (hts _ hlink) hy ⟨Nat.le_trans hrm.1 X.2.2.2.2.2.2.2.2.2.1, Nat.le_trans hrm.2 X.2.2.2.2.2.2.2.2.2.2⟩, hts _ hins, hts _ hsel⟩ ⟨PC.blind, hrv, fun U hU hW => ⟨rfl, by rw [hU]; exact hR, X.2.2.2.2.2.2.2.1.warm hW⟩⟩ rfl (by simp; omega) hL.1 (by rw [hstk]; simp [cv]) (lv_room (by rw [xcats]; exact c3)) d ⟨hc1, hc2⟩
theorem xk_I {ci n0 : Nat} (d : decode (MT mi).2.1 pc = .ok (.invokespecial idx, 3)) (hlink : Cond.methodLink (MT mi).1.cls idx (MT mi').1 ∈ GT) (hins : Cond.instanceMethod (MT mi').1 ∈ GT) (hnm : (MT mi').1.name = "<init>") (hret : (MT mi').2.2.2.1 = none) (hini : Cond.initialized (MT mi').1.cls ∈ GT) (hcode : Cond.code (MT mi').1 (MT mi').2.1 (MT mi').2.2.1 (MT mi').2.2.2.1 ∈ GT)
    (hy : (MT mi').1.cls ≠ "java/lang/invoke/MethodHandle" ∧ (MT mi').1.cls ≠ "java/lang/invoke/VarHandle" ∧ (parseMethodDescriptor (MT mi').1.desc).map (fun d => d.parameters.length) = some n0) (hn0 : na = n0 + 1) (hpl : plainName (MT mi').1.cls = true) (hna : na ≤ (MT mi').2.2.1)
    (hrm : (MT mi').2.2.2.2.1 + 1 ≤ (MT mi).2.2.2.2.1 ∧ 8 + ((MT mi').2.2.1 + 11) + (MT mi').2.2.2.2.2 ≤ (MT mi).2.2.2.2.2) : COK mi pc mi' na (some ci) (pc + 3) := by
  refine ⟨rfl, hpl, hna, fun G g0 l p e R s m args below meth c X H locs cells slots ls lo st h hL hR hc r h1 mc ms hM hc1 hc2 => ?_⟩
  obtain ⟨c1, c2, c3, c4⟩ := callOk_spec hc
  obtain ⟨ys, k, fs, hys, hk⟩ := c4 ci rfl
  have hts := X.2.2.2.2.2.2.1
  have hlen : ys.length = n0 := by
    have := congrArg List.length hys
    simp at this
    omega
  have hrev : (st.take na).reverse = .ref k :: ys.reverse := by rw [hys]; simp
  have hstk := xstk G na st
  rw [hrev] at hM hstk
  have hcb : CallB R s args (MT mi).1.cls idx (MT mi').1 (MT mi').2.1 (MT mi').2.2.1 (MT mi').2.2.2.1 (xws mi') (xrm mi' mc ms) mc ms n0 := callB_of n0 hts (xws_good hcode) rfl rfl rfl (hts _ hini) (hts _ hlink) hy ⟨Nat.le_trans hrm.1 X.2.2.2.2.2.2.2.2.2.1, Nat.le_trans hrm.2 X.2.2.2.2.2.2.2.2.2.2⟩
  rw [hret] at hcb
  exact va_runI (b := ad G k) (As := ys.reverse.map (cv G)) (bytes := (MT mi').2.1) (maxL := (MT mi').2.2.1) ⟨X.1, X.2.1, X.2.2.1, X.2.2.2.2.2.1, hts⟩ hM ⟨hcb, hnm, hts _ hins⟩ ⟨PC.blind, fun U hU hW => ⟨rfl, by rw [hU]; exact hR, X.2.2.2.2.2.2.2.1.warm hW⟩⟩ rfl (by simp; omega) hL.1 (by rw [hstk]; simp [cv]) (lv_room (by rw [xcats]; exact c3)) d ⟨hc1, hc2⟩
theorem xk_IN {ci n0 : Nat} {host : String} (d : decode (MT mi).2.1 pc = .ok (.invokespecial idx, 3)) (hlink : Cond.methodLinkNest (MT mi).1.cls idx (MT mi').1 host ∈ NT) (hins : Cond.instanceMethod (MT mi').1 ∈ GT) (hnm : (MT mi').1.name = "<init>") (hret : (MT mi').2.2.2.1 = none) (hini : Cond.initialized (MT mi').1.cls ∈ GT) (hcode : Cond.code (MT mi').1 (MT mi').2.1 (MT mi').2.2.1 (MT mi').2.2.2.1 ∈ GT)
    (hy : (MT mi').1.cls ≠ "java/lang/invoke/MethodHandle" ∧ (MT mi').1.cls ≠ "java/lang/invoke/VarHandle" ∧ (parseMethodDescriptor (MT mi').1.desc).map (fun d => d.parameters.length) = some n0) (hn0 : na = n0 + 1) (hpl : plainName (MT mi').1.cls = true) (hna : na ≤ (MT mi').2.2.1)
    (hrm : (MT mi').2.2.2.2.1 + 1 ≤ (MT mi).2.2.2.2.1 ∧ 8 + ((MT mi').2.2.1 + 11) + (MT mi').2.2.2.2.2 ≤ (MT mi).2.2.2.2.2) : COK mi pc mi' na (some ci) (pc + 3) := by
  refine ⟨rfl, hpl, hna, fun G g0 l p e R s m args below meth c X H locs cells slots ls lo st h hL hR hc r h1 mc ms hM hc1 hc2 => ?_⟩
  obtain ⟨c1, c2, c3, c4⟩ := callOk_spec hc
  obtain ⟨ys, k, fs, hys, hk⟩ := c4 ci rfl
  have hts := X.2.2.2.2.2.2.1
  have hlen : ys.length = n0 := by
    have := congrArg List.length hys
    simp at this
    omega
  have hrev : (st.take na).reverse = .ref k :: ys.reverse := by rw [hys]; simp
  have hstk := xstk G na st
  rw [hrev] at hM hstk
  have hcb : va_CN R s args (MT mi).1.cls idx (MT mi').1 host (MT mi').2.1 (MT mi').2.2.1 (MT mi').2.2.2.1 (xws mi') (xrm mi' mc ms) mc ms n0 := va_cnB n0 hts (xws_good hcode) rfl rfl rfl (X.2.2.2.2.2.2.2.1.2.2 _ hlink) (hts _ hini) hy ⟨Nat.le_trans hrm.1 X.2.2.2.2.2.2.2.2.2.1, Nat.le_trans hrm.2 X.2.2.2.2.2.2.2.2.2.2⟩
  rw [hret] at hcb
  exact va_runIN (b := ad G k) (As := ys.reverse.map (cv G)) (bytes := (MT mi').2.1) (maxL := (MT mi').2.2.1) ⟨X.1, X.2.1, X.2.2.1, X.2.2.2.2.2.1, hts⟩ hM ⟨hcb, hnm, hts _ hins⟩ ⟨PC.blind, fun U hU hW => ⟨rfl, by rw [hU]; exact hR, X.2.2.2.2.2.2.2.1.warm hW⟩⟩ rfl (by simp; omega) hL.1 (by rw [hstk]; simp [cv]) (lv_room (by rw [xcats]; exact c3)) d ⟨hc1, hc2⟩
end CALLS
