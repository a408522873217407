/-! THE INTERPRETER IS SOUND -/
abbrev nl (mi : Nat) : Nat := (MT mi).2.2.1
def KTok (KT : Nat → Nat → Option En) : Prop := ∀ mi pc, (∀ f, KT mi pc = some (.inl f) → SOK mi pc f ∧ MON f) ∧ ∀ mi' na kd pc', KT mi pc = some (.inr (mi', na, kd, pc')) → COK mi pc mi' na kd pc'
theorem xe_grow {KT : Nat → Nat → Option En} (hT : KTok KT) : ∀ (n : Nat) (mi pc : Nat) (lo : Lo) (st : List Value) (h : Hp) (r : Option Value) (hf : Hp), xe KT nl n mi pc lo st h = some (r, hf) → h.1 ≤ hf.1 ∧ h.2.1 ≤ hf.2.1 := by
  intro n
  induction n with
  | zero => intro mi pc lo st h r hf e; simp [xe] at e
  | succ n ih =>
    intro mi pc lo st h r hf e
    rw [xe] at e
    cases hK : KT mi pc with
    | none => rw [hK] at e; simp at e
    | some en =>
      rw [hK] at e
      cases en with
      | inl f =>
        dsimp only at e
        obtain ⟨m1, m2⟩ := ((hT mi pc).1 f hK).2 lo st h
        cases hf' : f lo st h with
        | none => rw [hf'] at e; simp at e
        | some x =>
          rw [hf'] at e
          cases x with
          | inl q =>
            obtain ⟨pc', lo', st', h'⟩ := q
            have q1 := m1 _ _ _ _ hf'
            have q2 := ih _ _ _ _ _ _ _ e
            exact ⟨Nat.le_trans q1.1 q2.1, Nat.le_trans q1.2 q2.2⟩
          | inr q =>
            obtain ⟨r', h'⟩ := q
            have q1 := m2 _ _ hf'
            cases e
            exact q1
      | inr q =>
        obtain ⟨mi', na, kd, pc'⟩ := q
        dsimp only at e
        cases hc : callOk na kd st h with
        | false => rw [hc] at e; simp at e
        | true =>
          rw [hc] at e
          dsimp only at e
          cases hx : xe KT nl n mi' 0 (initLo (nl mi') (st.take na).reverse) [] h with
          | none => rw [hx] at e; simp at e
          | some y =>
            rw [hx] at e
            obtain ⟨r1, h1⟩ := y
            have q1 := ih _ _ _ _ _ _ _ hx
            have q2 := ih _ _ _ _ _ _ _ e
            exact ⟨Nat.le_trans q1.1 q2.1, Nat.le_trans q1.2 q2.2⟩
set_option maxHeartbeats 1000000 in
theorem sound {KT : Nat → Nat → Option En} (hT : KTok KT) {G : GG} (g0 : G0 G) (l : Launch) : ∀ (n : Nat) (mi pc : Nat) (lo : Lo) (st : List Value) (h : Hp) (r : Option Value) (hf : Hp), xe KT nl n mi pc lo st h = some (r, hf) →
    ∀ (p : Program) (e : Env) (R : Room) (s : State) (m : MethodId) (args : Array Value) (below : List Frame) (meth : Method) (c : Code) (_ : Cx G mi p R s m args meth c) (H : Heap) (locs : List Loc) (cells slots : Nat) (ls : Array Slot) (_ : LR G lo (MT mi).2.2.1 ls) (_ : HR G h H) (_ : LK G locs) (mc ms : Nat),
      cells + hf.1 = mc + h.1 → slots + hf.2.1 = ms + h.2.1 → mc ≤ R.cells → ms ≤ R.slots → W p l e R s m args below meth c H locs cells slots (MQ below (QC G r hf) args s mc ms (fr G)) (F0 m pc ls (st.map (cv G))) := by
  intro n
  induction n with
  | zero => intro mi pc lo st h r hf e; simp [xe] at e
  | succ n ih =>
    intro mi pc lo st h r hf ex p e R s m args below meth c X H locs cells slots ls hL hR hK mc ms hc1 hc2 hc3 hc4
    rw [xe] at ex
    cases hKT : KT mi pc with
    | none => rw [hKT] at ex; simp at ex
    | some en =>
      rw [hKT] at ex
      cases en with
      | inl f =>
        dsimp only at ex
        obtain ⟨s1, s2⟩ := ((hT mi pc).1 f hKT).1 G g0 l p e R s m args below meth c X H locs cells slots ls lo st h hL hR hK
        cases hf' : f lo st h with
        | none => rw [hf'] at ex; simp at ex
        | some x =>
          rw [hf'] at ex
          cases x with
          | inl q =>
            obtain ⟨pc', lo', st', h'⟩ := q
            dsimp only at ex
            have q2 := xe_grow hT _ _ _ _ _ _ _ _ ex
            obtain ⟨q1, k⟩ := s1 _ _ _ _ hf'
            exact k _ (by omega) (by omega) fun H' locs' ls' cells' slots' hL' hR' hK' e1 e2 => ih _ _ _ _ _ _ _ ex p e R s m args below meth c X H' locs' cells' slots' ls' hL' hR' hK' mc ms (by omega) (by omega) hc3 hc4
          | inr q =>
            obtain ⟨r', h'⟩ := q
            obtain ⟨k1, k2⟩ := s2 _ _ hf'
            cases ex
            subst k1
            have e1 : cells = mc := by omega
            have e2 : slots = ms := by omega
            subst e1
            subst e2
            exact k2
      | inr q =>
        obtain ⟨mi', na, kd, pc'⟩ := q
        dsimp only at ex
        cases hc : callOk na kd st h with
        | false => rw [hc] at ex; simp at ex
        | true =>
          rw [hc] at ex
          dsimp only at ex
          cases hx : xe KT nl n mi' 0 (initLo (nl mi') (st.take na).reverse) [] h with
          | none => rw [hx] at ex; simp at ex
          | some y =>
            rw [hx] at ex
            obtain ⟨r1, h1⟩ := y
            dsimp only at ex
            have q1 := xe_grow hT _ _ _ _ _ _ _ _ hx
            have q2 := xe_grow hT _ _ _ _ _ _ _ _ ex
            obtain ⟨hpc, hpl, hna, hco⟩ := (hT mi pc).2 _ _ _ _ hKT
            subst hpc
            obtain ⟨c1, c2, c3, -⟩ := callOk_spec hc
            have hM : Met l (MT mi').1 (xws mi') (xrm mi' (h1.1 - h.1) (h1.2.1 - h.2.1)) (PC G (st.take na).reverse h) (QC G r1 h1) (h1.1 - h.1) (h1.2.1 - h.2.1) (fr G) := by
              refine Met.ofW (cc := (MT mi').2.1) (maxL := (MT mi').2.2.1) (ret := (MT mi').2.2.2.1) hpl rfl ?_
              intro p e s m args below meth c s₁ B hml hv
              obtain ⟨rfl, hRs, hKs⟩ := hv
              have hts := atoms_spec (ws := xws mi') B.pre
              have X' : Cx G mi' p (headSpec (xws mi') (xrm mi' (h1.1 - h.1) (h1.2.1 - h.2.1))).room s m (((st.take na).reverse.map (cv G)).toArray) meth c :=
                ⟨B.exec, B.bytes, hml, B.returns, B.notSynchronized, findClass_of_methodNamed B.named, fun w hw => hts w (List.mem_cons_of_mem _ hw), hKs, (name_of_methodNamed B.named B.method).1, Nat.le_refl _, Nat.le_refl _⟩
              rw [lg_entry_eq]
              exact ih _ _ _ _ _ _ _ hx p e _ s m _ below meth c X' s.heap [] 0 0 _ (LR.entry (fun v hv => c2 v (List.mem_reverse.mp hv)) (Nat.le_trans (by rw [List.length_reverse, List.length_take]; omega) hna)) hRs (fun q hq => by cases hq) _ _ (by omega) (by omega) (Nat.le_refl _) (Nat.le_refl _)
            have hrun := hco G g0 l p e R s m args below meth c X H locs cells slots ls lo st h hL hR hc r1 h1 (h1.1 - h.1) (h1.2.1 - h.2.1) hM (by omega) (by omega)
            intro T hTH XX
            obtain ⟨v, st₀, t, T', L, h0, X', hL2, e1, e2, ⟨hv, hR1, hK1⟩, stp⟩ := hrun T hTH XX
            have hv : v = r1.map (cv G) := Outcome.returned.inj hv
            subst hv
            obtain ⟨t2, a1, b1⟩ := ih _ _ _ _ _ _ _ ex p e R s m args below meth c X T'.heap (locs ++ L) (cells + (h1.1 - h.1)) (slots + (h1.2.1 - h.2.1)) ls hL (by rw [e1]; exact hR1) (fun q hq => by
              rcases List.mem_append.mp hq with hq | hq
              · exact hK q hq
              · exact hL2 q hq) mc ms (by omega) (by omega) hc3 hc4 T' rfl X'
            refine ⟨t2, stp t2 ?_, b1⟩
            have e3 : (r1.toList ++ st.drop na).map (cv G) = (r1.map (cv G)).toList ++ (st.drop na).map (cv G) := by cases r1 <;> simp
            rw [e3] at a1
            exact a1
