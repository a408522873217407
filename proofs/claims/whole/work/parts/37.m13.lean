/-! the reference: new kinds, lessons -/
theorem anyB_congr {p q : Nat → Bool} : ∀ {m i : Nat}, (∀ j, i ≤ j → j < i + m → p j = q j) → anyB p i m = anyB q i m
  | 0, _, _ => rfl
  | m + 1, i, h => by
    show (p i || anyB p (i + 1) m) = (q i || anyB q (i + 1) m)
    rw [h i (Nat.le_refl _) (by omega), anyB_congr (fun j h1 h2 => h j (by omega) (by omega))]
/-- two stores of kinds that say the same -/
def KE (s t : KS) : Prop := s.2 = t.2 ∧ ∀ j, j < s.2 → s.1 j = t.1 j
theorem KE.add1 {s t : KS} (h : KE s t) (z : Int32) : KE (addK1 s z) (addK1 t z) := by
  have e : hasB s z = hasB t z := by
    unfold hasB
    rw [← h.1]
    exact anyB_congr (fun j _ h2 => by rw [h.2 j (by omega)])
  unfold addK1
  rw [← e]
  split
  · exact h
  · refine ⟨by show s.2 + 1 = t.2 + 1; rw [h.1], fun j hj => ?_⟩
    show upd s.1 s.2 z j = upd t.1 t.2 z j
    have hj : j < s.2 + 1 := hj
    by_cases hq : j = s.2
    · subst hq
      rw [upd_self, ← h.1, upd_self]
    · rw [upd_ne _ _ hq, upd_ne _ _ (by rw [← h.1]; exact hq)]
      exact h.2 j (by omega)
theorem KE.adds {s t : KS} (h : KE s t) (ks : Nat → Int32) : ∀ k, KE (addKs ks s k) (addKs ks t k)
  | 0 => h
  | k + 1 => (KE.adds h ks k).add1 (ks k)
theorem addK1_keep (s : KS) (z : Int32) : s.2 ≤ (addK1 s z).2 ∧ ∀ j, j < s.2 → (addK1 s z).1 j = s.1 j := by
  unfold addK1
  split
  · exact ⟨Nat.le_refl _, fun _ _ => rfl⟩
  · exact ⟨Nat.le_succ _, fun j hj => upd_ne _ _ (by omega)⟩
theorem addKs_keep (ks : Nat → Int32) (s : KS) : ∀ k, s.2 ≤ (addKs ks s k).2 ∧ ∀ j, j < s.2 → (addKs ks s k).1 j = s.1 j
  | 0 => ⟨Nat.le_refl _, fun _ _ => rfl⟩
  | k + 1 => by
    have h1 := addKs_keep ks s k
    have h2 := addK1_keep (addKs ks s k) (ks k)
    exact ⟨Nat.le_trans h1.1 h2.1, fun j hj => (h2.2 j (by omega)).trans (h1.2 j hj)⟩
/-- the kinds of a group put in -/
def addG (A : Nat → Nat → Int32) (lim : Int32) (g : Nat) (st : KS) : KS := addKs (fun k => kindA A lim (6 * g + k)) st (cA A g)
/-- how many kinds of a group are new -/
def nkV (A : Nat → Nat → Int32) (lim : Int32) (st : KS) (g : Nat) : Int32 := nI ((addG A lim g st).2 - st.2)
theorem nkV_KE {A : Nat → Nat → Int32} {lim : Int32} {s t : KS} (h : KE s t) (g : Nat) : nkV A lim s g = nkV A lim t g := by
  unfold nkV addG
  rw [(h.adds (fun k => kindA A lim (6 * g + k)) (cA A g)).1, h.1]
/-- the best of those that are there: the least value, of several the first -/
def bst (P : Nat → Bool) (val : Nat → Int32) : Nat → Int32 × Int32
  | 0 => (-9, -9)
  | g + 1 => if P g = true then (if (bst P val g).1 = -9 ∨ val g < (bst P val g).2 then (nI g, val g) else bst P val g) else bst P val g
theorem nI_ne9 {g : Nat} (hg : g ≤ 1000) : ¬ nI g = -9 := by
  intro e
  have e1 : (nI g).toInt = g := nI_toInt (by omega)
  rw [e] at e1
  have : (-9 : Int32).toInt = -9 := rfl
  omega
theorem bst_in (P : Nat → Bool) (val : Nat → Int32) : ∀ n, n ≤ 1000 → ((bst P val n).1 = -9 ∧ ∀ g, g < n → P g = false) ∨ ∃ g, g < n ∧ P g = true ∧ (bst P val n).1 = nI g ∧ (bst P val n).2 = val g
  | 0, _ => Or.inl ⟨rfl, fun g h => absurd h (Nat.not_lt_zero _)⟩
  | n + 1, hn => by
    rcases bst_in P val n (by omega) with ⟨h1, h2⟩ | ⟨g, h1, h2, h3, h4⟩
    · simp only [bst]
      by_cases hp : P n = true
      · rw [if_pos hp, if_pos (Or.inl h1)]
        exact Or.inr ⟨n, by omega, hp, rfl, rfl⟩
      · rw [if_neg hp]
        refine Or.inl ⟨h1, fun g hg => ?_⟩
        by_cases e : g = n
        · subst e; exact Bool.eq_false_iff.mpr hp
        · exact h2 g (by omega)
    · simp only [bst]
      by_cases hp : P n = true
      · rw [if_pos hp]
        by_cases hc : (bst P val n).1 = -9 ∨ val n < (bst P val n).2
        · rw [if_pos hc]
          exact Or.inr ⟨n, by omega, hp, rfl, rfl⟩
        · rw [if_neg hc]
          exact Or.inr ⟨g, by omega, h2, h3, h4⟩
      · rw [if_neg hp]
        exact Or.inr ⟨g, by omega, h2, h3, h4⟩
theorem bst_congr {P P' : Nat → Bool} {val val' : Nat → Int32} : ∀ {n : Nat}, (∀ g, g < n → P g = P' g) → (∀ g, g < n → P g = true → val g = val' g) → bst P val n = bst P' val' n
  | 0, _, _ => rfl
  | n + 1, h1, h2 => by
    simp only [bst]
    rw [bst_congr (fun g hg => h1 g (by omega)) (fun g hg => h2 g (by omega)), ← h1 n (by omega)]
    by_cases hp : P n = true
    · rw [if_pos hp, if_pos hp, h2 n (by omega) hp]
    · rw [if_neg hp, if_neg hp]
abbrev hKT (h : Hp) (J : Nat → Int32) (st : KS) (t : Nat → Int32) : Hp := hK (hset h 38 (ia 1 26 t)) J st
def ltB (A : Nat → Nat → Int32) (t : Nat → Int32) (g : Nat) : Bool := isL A (nI g) && decide (t g = 0)
section MM
variable {h : Hp} {I : Nat → Nat → Int32} {A : Nat → Nat → Int32}
theorem m_newKinds (M : MH h I A) (K : MOK A) (Q : Option Value → Hp → Prop) {g : Nat} (hg : g < 27) {z : Int32} (hz : z = nI g) (st : KS) (hs : st.2 + 6 ≤ 162) : Call 176 [.ref 24, .int z] (hK h (I 24) st) Q = Q (some (.int (nkV A (I 24 13) st g))) (hK h (I 24) ((addG A (I 24 13) g st).1, st.2)) := by
  have hc := (K.1 g hg).2
  have hk := (addKs_keep (fun k => kindA A (I 24 13) (6 * g + k)) st (cA A g)).1
  unfold Call
  simp (disch := omega) only [MT, MT_0, MT_1, MT_2, MT_3, MT_4, MT_5, MT_6, MT_7, MT_8, MT_9, MT_10, MT_11, MT_12, rq_X10_newKinds_0, rq_X10_newKinds_1, rq_X10_newKinds_4, rq_X10_newKinds_5, rq_X10_newKinds_6, rq_X10_newKinds_7, xo_aload, xo_getf, xo_istore, xo_iload, xo_bin, xo_putf, xo_iret, Cnt_l, Cnt_r, Knt_v, Knt_n, run_ite, CCall, callOk, xrecv, initLo, nl, List.map_cons, List.map_nil, List.length_cons, List.length_nil, List.replicate, List.append_nil, List.nil_append, List.cons_append, List.getElem?_cons_zero, List.getElem?_cons_succ, List.set_cons_zero, List.set_cons_succ, List.take_succ_cons, List.take_zero, List.drop_succ_cons, List.drop_zero, List.reverse_cons, List.reverse_nil, List.getLast?_cons_cons, List.getLast?_singleton, List.all_cons, List.all_nil, List.sum_cons, List.sum_nil, Value.category, xcat1, xintV, Bool.cond_decide, cond_true, cond_false, ite_not, if_true, if_false, ite_self, beq_self_eq_true, Bool.and_true, Bool.true_and, Bool.and_self, decide_true, decide_false, true_and, and_true, and_self, not_false_eq_true, not_true_eq_false, Nat.reduceLeDiff, Nat.reduceAdd, Nat.reduceSub, Nat.reduceEqDiff, Nat.reduceLT, Nat.reduceBEq, ne_eq, hset_get, reduceIte, reduceCtorEq, Nat.le_refl, Nat.zero_le, Nat.reduceMul, or_tl, or_tr, i01, i10, bI_eq0, bI_eq1, bft, bI_z, bI_t, bI_f, bI_nar, nar0, nar1, va_up_self]
  rw [m_addKinds M K _ hg hz st (by omega)]
  simp (disch := omega) only [rq_X10_newKinds_10, rq_X10_newKinds_11, rq_X10_newKinds_14, rq_X10_newKinds_15, rq_X10_newKinds_16, rq_X10_newKinds_17, rq_X10_newKinds_18, rq_X10_newKinds_19, rq_X10_newKinds_22, rq_X10_newKinds_23, xo_aload, xo_getf, xo_istore, xo_iload, xo_bin, xo_putf, xo_iret, Cnt_l, Cnt_r, Knt_v, Knt_n, run_ite, CCall, callOk, xrecv, initLo, nl, List.map_cons, List.map_nil, List.length_cons, List.length_nil, List.replicate, List.append_nil, List.nil_append, List.cons_append, List.getElem?_cons_zero, List.getElem?_cons_succ, List.set_cons_zero, List.set_cons_succ, List.take_succ_cons, List.take_zero, List.drop_succ_cons, List.drop_zero, List.reverse_cons, List.reverse_nil, List.getLast?_cons_cons, List.getLast?_singleton, List.all_cons, List.all_nil, List.sum_cons, List.sum_nil, Value.category, xcat1, xintV, Bool.cond_decide, cond_true, cond_false, ite_not, if_true, if_false, ite_self, beq_self_eq_true, Bool.and_true, Bool.true_and, Bool.and_self, decide_true, decide_false, true_and, and_true, and_self, not_false_eq_true, not_true_eq_false, Nat.reduceLeDiff, Nat.reduceAdd, Nat.reduceSub, Nat.reduceEqDiff, Nat.reduceLT, Nat.reduceBEq, ne_eq, hset_get, reduceIte, reduceCtorEq, Nat.le_refl, Nat.zero_le, Nat.reduceMul, or_tl, or_tr, i01, i10, bI_eq0, bI_eq1, bft, bI_z, bI_t, bI_f, bI_nar, nar0, nar1, nq_add, nq_mul, nq_sub, nq_cl, ↓nq_in, nq_nin, nq_lt, nq_le, nq_ge, nq_gt, nq_eq, va_up_self, hK_1]
  rfl
theorem l_nextT (M : MH h I A) (K : MOK A) (Q : Option Value → Hp → Prop) (st : KS) (hs : st.2 + 6 ≤ 162) (t : Nat → Int32) (hQ : ∀ f, KE st (f, st.2) → Q (some (.int (bst (ltB A t) (nkV A (I 24 13) st) 26).1)) (hKT h (I 24) (f, st.2) t)) : ∀ m g, g + m = 26 → ∀ f, KE st (f, st.2) → ∀ z : Option Value,
    Run 177 8 [some (.ref 24), some (.int (bst (ltB A t) (nkV A (I 24 13) st) g).1), some (.int (bst (ltB A t) (nkV A (I 24 13) st) g).2), some (.int (nI g)), z] [] (hKT h (I 24) (f, st.2) t) Q := by
  have M1 := M.s38 t
  intro m
  induction m with
  | zero =>
    intro g hg f hf z
    have : g = 26 := by omega
    subst this
    rw [rq_X10_nextTaught_8]
    simp (disch := omega) only [rq_X10_nextTaught_9, rq_X10_nextTaught_11, rq_X10_nextTaught_61, rq_X10_nextTaught_62, xo_const, xo_istore, xo_iload, xo_if2, xo_aload, xo_if1, xo_getf, xo_zald, xo_iinc, xo_goto, xo_iret, Cnt_l, Cnt_r, Knt_v, Knt_n, run_ite, CCall, callOk, xrecv, initLo, nl, List.map_cons, List.map_nil, List.length_cons, List.length_nil, List.replicate, List.append_nil, List.nil_append, List.cons_append, List.getElem?_cons_zero, List.getElem?_cons_succ, List.set_cons_zero, List.set_cons_succ, List.take_succ_cons, List.take_zero, List.drop_succ_cons, List.drop_zero, List.reverse_cons, List.reverse_nil, List.getLast?_cons_cons, List.getLast?_singleton, List.all_cons, List.all_nil, List.sum_cons, List.sum_nil, Value.category, xcat1, xintV, Bool.cond_decide, cond_true, cond_false, ite_not, if_true, if_false, ite_self, beq_self_eq_true, Bool.and_true, Bool.true_and, Bool.and_self, decide_true, decide_false, true_and, and_true, and_self, not_false_eq_true, not_true_eq_false, Nat.reduceLeDiff, Nat.reduceAdd, Nat.reduceSub, Nat.reduceEqDiff, Nat.reduceLT, Nat.reduceBEq, ne_eq, hset_get, reduceIte, reduceCtorEq, Nat.le_refl, Nat.zero_le, Nat.reduceMul, or_tl, or_tr, i01, i10, bI_eq0, bI_eq1, bft, bI_z, bI_t, bI_f, bI_nar, nar0, nar1, nq_add, nq_mul, nq_sub, nq_cl, ↓nq_in, nq_nin, nq_lt, nq_le, nq_ge, nq_gt, nq_eq, nq_addl_26, nq_ladd_26, nq_lmul_26, nq_mull_26, nq_subl_26, nq_cll_26, ↓nq_inl_26, nq_ltl_26, nq_lel_26, nq_gel_26, nq_gtl_26, nq_eql_26]
    exact hQ f hf
  | succ m ih =>
    intro g hg f hf z
    have hlt : ¬ 26 ≤ g := by omega
    have ih := ih (g + 1) (by omega)
    simp only [bst] at ih
    generalize bst (ltB A t) (nkV A (I 24 13) st) g = b at ih ⊢
    have M2 := (M1.s24 (va_up (I 24) 16 (nI st.2))).s37 f
    rw [rq_X10_nextTaught_8]
    simp (disch := omega) only [rq_X10_nextTaught_9, rq_X10_nextTaught_11, rq_X10_nextTaught_14, rq_X10_nextTaught_15, rq_X10_nextTaught_16, xo_const, xo_istore, xo_iload, xo_if2, xo_aload, xo_if1, xo_getf, xo_zald, xo_iinc, xo_goto, xo_iret, Cnt_l, Cnt_r, Knt_v, Knt_n, run_ite, CCall, callOk, xrecv, initLo, nl, List.map_cons, List.map_nil, List.length_cons, List.length_nil, List.replicate, List.append_nil, List.nil_append, List.cons_append, List.getElem?_cons_zero, List.getElem?_cons_succ, List.set_cons_zero, List.set_cons_succ, List.take_succ_cons, List.take_zero, List.drop_succ_cons, List.drop_zero, List.reverse_cons, List.reverse_nil, List.getLast?_cons_cons, List.getLast?_singleton, List.all_cons, List.all_nil, List.sum_cons, List.sum_nil, Value.category, xcat1, xintV, Bool.cond_decide, cond_true, cond_false, ite_not, if_true, if_false, ite_self, beq_self_eq_true, Bool.and_true, Bool.true_and, Bool.and_self, decide_true, decide_false, true_and, and_true, and_self, not_false_eq_true, not_true_eq_false, Nat.reduceLeDiff, Nat.reduceAdd, Nat.reduceSub, Nat.reduceEqDiff, Nat.reduceLT, Nat.reduceBEq, ne_eq, hset_get, reduceIte, reduceCtorEq, Nat.le_refl, Nat.zero_le, Nat.reduceMul, or_tl, or_tr, i01, i10, bI_eq0, bI_eq1, bft, bI_z, bI_t, bI_f, bI_nar, nar0, nar1, nq_add, nq_mul, nq_sub, nq_cl, ↓nq_in, nq_nin, nq_lt, nq_le, nq_ge, nq_gt, nq_eq, nq_addl_26, nq_ladd_26, nq_lmul_26, nq_mull_26, nq_subl_26, nq_cll_26, ↓nq_inl_26, nq_ltl_26, nq_lel_26, nq_gel_26, nq_gtl_26, nq_eql_26, hlt, m_isLetter M2]
    rw [show isL (va_up (va_up A 38 t) 37 f) (nI g) = isL A (nI g) from rfl]
    by_cases h1 : isL A (nI g) = true
    · simp (disch := omega) only [rq_X10_nextTaught_19, rq_X10_nextTaught_22, rq_X10_nextTaught_23, rq_X10_nextTaught_26, rq_X10_nextTaught_27, rq_X10_nextTaught_28, xo_const, xo_istore, xo_iload, xo_if2, xo_aload, xo_if1, xo_getf, xo_zald, xo_iinc, xo_goto, xo_iret, Cnt_l, Cnt_r, Knt_v, Knt_n, run_ite, CCall, callOk, xrecv, initLo, nl, List.map_cons, List.map_nil, List.length_cons, List.length_nil, List.replicate, List.append_nil, List.nil_append, List.cons_append, List.getElem?_cons_zero, List.getElem?_cons_succ, List.set_cons_zero, List.set_cons_succ, List.take_succ_cons, List.take_zero, List.drop_succ_cons, List.drop_zero, List.reverse_cons, List.reverse_nil, List.getLast?_cons_cons, List.getLast?_singleton, List.all_cons, List.all_nil, List.sum_cons, List.sum_nil, Value.category, xcat1, xintV, Bool.cond_decide, cond_true, cond_false, ite_not, if_true, if_false, ite_self, beq_self_eq_true, Bool.and_true, Bool.true_and, Bool.and_self, decide_true, decide_false, true_and, and_true, and_self, not_false_eq_true, not_true_eq_false, Nat.reduceLeDiff, Nat.reduceAdd, Nat.reduceSub, Nat.reduceEqDiff, Nat.reduceLT, Nat.reduceBEq, ne_eq, hset_get, reduceIte, reduceCtorEq, Nat.le_refl, Nat.zero_le, Nat.reduceMul, or_tl, or_tr, i01, i10, bI_eq0, bI_eq1, bft, bI_z, bI_t, bI_f, bI_nar, nar0, nar1, nq_add, nq_mul, nq_sub, nq_cl, ↓nq_in, nq_nin, nq_lt, nq_le, nq_ge, nq_gt, nq_eq, h1, Bool.true_eq_false]
      by_cases h2 : t g = 0
      · have e : ltB A t g = true := by simp [ltB, h1, h2]
        simp only [e, if_true] at ih
        simp (disch := omega) only [rq_X10_nextTaught_31, rq_X10_nextTaught_32, rq_X10_nextTaught_33, xo_const, xo_istore, xo_iload, xo_if2, xo_aload, xo_if1, xo_getf, xo_zald, xo_iinc, xo_goto, xo_iret, Cnt_l, Cnt_r, Knt_v, Knt_n, run_ite, CCall, callOk, xrecv, initLo, nl, List.map_cons, List.map_nil, List.length_cons, List.length_nil, List.replicate, List.append_nil, List.nil_append, List.cons_append, List.getElem?_cons_zero, List.getElem?_cons_succ, List.set_cons_zero, List.set_cons_succ, List.take_succ_cons, List.take_zero, List.drop_succ_cons, List.drop_zero, List.reverse_cons, List.reverse_nil, List.getLast?_cons_cons, List.getLast?_singleton, List.all_cons, List.all_nil, List.sum_cons, List.sum_nil, Value.category, xcat1, xintV, Bool.cond_decide, cond_true, cond_false, ite_not, if_true, if_false, ite_self, beq_self_eq_true, Bool.and_true, Bool.true_and, Bool.and_self, decide_true, decide_false, true_and, and_true, and_self, not_false_eq_true, not_true_eq_false, Nat.reduceLeDiff, Nat.reduceAdd, Nat.reduceSub, Nat.reduceEqDiff, Nat.reduceLT, Nat.reduceBEq, ne_eq, hset_get, reduceIte, reduceCtorEq, Nat.le_refl, Nat.zero_le, Nat.reduceMul, or_tl, or_tr, i01, i10, bI_eq0, bI_eq1, bft, bI_z, bI_t, bI_f, bI_nar, nar0, nar1, eq_true h2]
        rw [m_newKinds M1 K _ (by omega) rfl (f, st.2) hs]
        rw [show nkV (va_up A 38 t) (I 24 13) (f, st.2) g = nkV A (I 24 13) (f, st.2) g from rfl, ← nkV_KE hf g]
        have hf2 : KE st ((addG (va_up A 38 t) (I 24 13) g (f, st.2)).1, st.2) := by
          have hk := addKs_keep (fun k => kindA (va_up A 38 t) (I 24 13) (6 * g + k)) (f, st.2) (cA (va_up A 38 t) g)
          exact ⟨rfl, fun j hj => (hf.2 j hj).trans (hk.2 j hj).symm⟩
        by_cases h3 : b.1 = -9
        · simp only [eq_true h3, or_tl, if_true] at ih
          simp (disch := omega) only [rq_X10_nextTaught_36, rq_X10_nextTaught_38, rq_X10_nextTaught_39, rq_X10_nextTaught_41, rq_X10_nextTaught_44, rq_X10_nextTaught_46, rq_X10_nextTaught_47, rq_X10_nextTaught_50, rq_X10_nextTaught_51, rq_X10_nextTaught_52, rq_X10_nextTaught_54, rq_X10_nextTaught_55, rq_X10_nextTaught_58, xo_const, xo_istore, xo_iload, xo_if2, xo_aload, xo_if1, xo_getf, xo_zald, xo_iinc, xo_goto, xo_iret, Cnt_l, Cnt_r, Knt_v, Knt_n, run_ite, CCall, callOk, xrecv, initLo, nl, List.map_cons, List.map_nil, List.length_cons, List.length_nil, List.replicate, List.append_nil, List.nil_append, List.cons_append, List.getElem?_cons_zero, List.getElem?_cons_succ, List.set_cons_zero, List.set_cons_succ, List.take_succ_cons, List.take_zero, List.drop_succ_cons, List.drop_zero, List.reverse_cons, List.reverse_nil, List.getLast?_cons_cons, List.getLast?_singleton, List.all_cons, List.all_nil, List.sum_cons, List.sum_nil, Value.category, xcat1, xintV, Bool.cond_decide, cond_true, cond_false, ite_not, if_true, if_false, ite_self, beq_self_eq_true, Bool.and_true, Bool.true_and, Bool.and_self, decide_true, decide_false, true_and, and_true, and_self, not_false_eq_true, not_true_eq_false, Nat.reduceLeDiff, Nat.reduceAdd, Nat.reduceSub, Nat.reduceEqDiff, Nat.reduceLT, Nat.reduceBEq, ne_eq, hset_get, reduceIte, reduceCtorEq, Nat.le_refl, Nat.zero_le, Nat.reduceMul, or_tl, or_tr, i01, i10, bI_eq0, bI_eq1, bft, bI_z, bI_t, bI_f, bI_nar, nar0, nar1, nq_add, nq_mul, nq_sub, nq_cl, ↓nq_in, nq_nin, nq_lt, nq_le, nq_ge, nq_gt, nq_eq, nq_addl_1, nq_ladd_1, nq_lmul_1, nq_mull_1, nq_subl_1, nq_cll_1, ↓nq_inl_1, nq_ltl_1, nq_lel_1, nq_gel_1, nq_gtl_1, nq_eql_1, eq_true h3]
          exact ih _ hf2 _
        · by_cases h4 : nkV A (I 24 13) st g < b.2
          · have h5 : ¬ nkV A (I 24 13) st g ≥ b.2 := by rw [ge_iff_le, jle]; exact h4
            simp only [eq_true h4, or_tr, if_true] at ih
            simp (disch := omega) only [rq_X10_nextTaught_36, rq_X10_nextTaught_38, rq_X10_nextTaught_39, rq_X10_nextTaught_41, rq_X10_nextTaught_44, rq_X10_nextTaught_46, rq_X10_nextTaught_47, rq_X10_nextTaught_50, rq_X10_nextTaught_51, rq_X10_nextTaught_52, rq_X10_nextTaught_54, rq_X10_nextTaught_55, rq_X10_nextTaught_58, xo_const, xo_istore, xo_iload, xo_if2, xo_aload, xo_if1, xo_getf, xo_zald, xo_iinc, xo_goto, xo_iret, Cnt_l, Cnt_r, Knt_v, Knt_n, run_ite, CCall, callOk, xrecv, initLo, nl, List.map_cons, List.map_nil, List.length_cons, List.length_nil, List.replicate, List.append_nil, List.nil_append, List.cons_append, List.getElem?_cons_zero, List.getElem?_cons_succ, List.set_cons_zero, List.set_cons_succ, List.take_succ_cons, List.take_zero, List.drop_succ_cons, List.drop_zero, List.reverse_cons, List.reverse_nil, List.getLast?_cons_cons, List.getLast?_singleton, List.all_cons, List.all_nil, List.sum_cons, List.sum_nil, Value.category, xcat1, xintV, Bool.cond_decide, cond_true, cond_false, ite_not, if_true, if_false, ite_self, beq_self_eq_true, Bool.and_true, Bool.true_and, Bool.and_self, decide_true, decide_false, true_and, and_true, and_self, not_false_eq_true, not_true_eq_false, Nat.reduceLeDiff, Nat.reduceAdd, Nat.reduceSub, Nat.reduceEqDiff, Nat.reduceLT, Nat.reduceBEq, ne_eq, hset_get, reduceIte, reduceCtorEq, Nat.le_refl, Nat.zero_le, Nat.reduceMul, or_tl, or_tr, i01, i10, bI_eq0, bI_eq1, bft, bI_z, bI_t, bI_f, bI_nar, nar0, nar1, nq_add, nq_mul, nq_sub, nq_cl, ↓nq_in, nq_nin, nq_lt, nq_le, nq_ge, nq_gt, nq_eq, nq_addl_1, nq_ladd_1, nq_lmul_1, nq_mull_1, nq_subl_1, nq_cll_1, ↓nq_inl_1, nq_ltl_1, nq_lel_1, nq_gel_1, nq_gtl_1, nq_eql_1, h3, h5]
            exact ih _ hf2 _
          · have h5 : nkV A (I 24 13) st g ≥ b.2 := by rw [jlt] at h4; exact h4
            simp only [h3, h4, or_self, if_false] at ih
            simp (disch := omega) only [rq_X10_nextTaught_36, rq_X10_nextTaught_38, rq_X10_nextTaught_39, rq_X10_nextTaught_41, rq_X10_nextTaught_44, rq_X10_nextTaught_46, rq_X10_nextTaught_47, rq_X10_nextTaught_50, rq_X10_nextTaught_51, rq_X10_nextTaught_52, rq_X10_nextTaught_54, rq_X10_nextTaught_55, rq_X10_nextTaught_58, xo_const, xo_istore, xo_iload, xo_if2, xo_aload, xo_if1, xo_getf, xo_zald, xo_iinc, xo_goto, xo_iret, Cnt_l, Cnt_r, Knt_v, Knt_n, run_ite, CCall, callOk, xrecv, initLo, nl, List.map_cons, List.map_nil, List.length_cons, List.length_nil, List.replicate, List.append_nil, List.nil_append, List.cons_append, List.getElem?_cons_zero, List.getElem?_cons_succ, List.set_cons_zero, List.set_cons_succ, List.take_succ_cons, List.take_zero, List.drop_succ_cons, List.drop_zero, List.reverse_cons, List.reverse_nil, List.getLast?_cons_cons, List.getLast?_singleton, List.all_cons, List.all_nil, List.sum_cons, List.sum_nil, Value.category, xcat1, xintV, Bool.cond_decide, cond_true, cond_false, ite_not, if_true, if_false, ite_self, beq_self_eq_true, Bool.and_true, Bool.true_and, Bool.and_self, decide_true, decide_false, true_and, and_true, and_self, not_false_eq_true, not_true_eq_false, Nat.reduceLeDiff, Nat.reduceAdd, Nat.reduceSub, Nat.reduceEqDiff, Nat.reduceLT, Nat.reduceBEq, ne_eq, hset_get, reduceIte, reduceCtorEq, Nat.le_refl, Nat.zero_le, Nat.reduceMul, or_tl, or_tr, i01, i10, bI_eq0, bI_eq1, bft, bI_z, bI_t, bI_f, bI_nar, nar0, nar1, nq_add, nq_mul, nq_sub, nq_cl, ↓nq_in, nq_nin, nq_lt, nq_le, nq_ge, nq_gt, nq_eq, nq_addl_1, nq_ladd_1, nq_lmul_1, nq_mull_1, nq_subl_1, nq_cll_1, ↓nq_inl_1, nq_ltl_1, nq_lel_1, nq_gel_1, nq_gtl_1, nq_eql_1, h3, eq_true h5]
            exact ih _ hf2 _
      · have e : ltB A t g = false := by simp [ltB, h2]
        simp only [e, Bool.false_eq_true, if_false] at ih
        simp (disch := omega) only [rq_X10_nextTaught_55, rq_X10_nextTaught_58, xo_const, xo_istore, xo_iload, xo_if2, xo_aload, xo_if1, xo_getf, xo_zald, xo_iinc, xo_goto, xo_iret, Cnt_l, Cnt_r, Knt_v, Knt_n, run_ite, CCall, callOk, xrecv, initLo, nl, List.map_cons, List.map_nil, List.length_cons, List.length_nil, List.replicate, List.append_nil, List.nil_append, List.cons_append, List.getElem?_cons_zero, List.getElem?_cons_succ, List.set_cons_zero, List.set_cons_succ, List.take_succ_cons, List.take_zero, List.drop_succ_cons, List.drop_zero, List.reverse_cons, List.reverse_nil, List.getLast?_cons_cons, List.getLast?_singleton, List.all_cons, List.all_nil, List.sum_cons, List.sum_nil, Value.category, xcat1, xintV, Bool.cond_decide, cond_true, cond_false, ite_not, if_true, if_false, ite_self, beq_self_eq_true, Bool.and_true, Bool.true_and, Bool.and_self, decide_true, decide_false, true_and, and_true, and_self, not_false_eq_true, not_true_eq_false, Nat.reduceLeDiff, Nat.reduceAdd, Nat.reduceSub, Nat.reduceEqDiff, Nat.reduceLT, Nat.reduceBEq, ne_eq, hset_get, reduceIte, reduceCtorEq, Nat.le_refl, Nat.zero_le, Nat.reduceMul, or_tl, or_tr, i01, i10, bI_eq0, bI_eq1, bft, bI_z, bI_t, bI_f, bI_nar, nar0, nar1, nq_add, nq_mul, nq_sub, nq_cl, ↓nq_in, nq_nin, nq_lt, nq_le, nq_ge, nq_gt, nq_eq, nq_addl_1, nq_ladd_1, nq_lmul_1, nq_mull_1, nq_subl_1, nq_cll_1, ↓nq_inl_1, nq_ltl_1, nq_lel_1, nq_gel_1, nq_gtl_1, nq_eql_1, h2]
        exact ih f hf _
    · have h1 := Bool.eq_false_iff.mpr h1
      have e : ltB A t g = false := by simp [ltB, h1]
      simp only [e, Bool.false_eq_true, if_false] at ih
      simp (disch := omega) only [rq_X10_nextTaught_19, rq_X10_nextTaught_55, rq_X10_nextTaught_58, xo_const, xo_istore, xo_iload, xo_if2, xo_aload, xo_if1, xo_getf, xo_zald, xo_iinc, xo_goto, xo_iret, Cnt_l, Cnt_r, Knt_v, Knt_n, run_ite, CCall, callOk, xrecv, initLo, nl, List.map_cons, List.map_nil, List.length_cons, List.length_nil, List.replicate, List.append_nil, List.nil_append, List.cons_append, List.getElem?_cons_zero, List.getElem?_cons_succ, List.set_cons_zero, List.set_cons_succ, List.take_succ_cons, List.take_zero, List.drop_succ_cons, List.drop_zero, List.reverse_cons, List.reverse_nil, List.getLast?_cons_cons, List.getLast?_singleton, List.all_cons, List.all_nil, List.sum_cons, List.sum_nil, Value.category, xcat1, xintV, Bool.cond_decide, cond_true, cond_false, ite_not, if_true, if_false, ite_self, beq_self_eq_true, Bool.and_true, Bool.true_and, Bool.and_self, decide_true, decide_false, true_and, and_true, and_self, not_false_eq_true, not_true_eq_false, Nat.reduceLeDiff, Nat.reduceAdd, Nat.reduceSub, Nat.reduceEqDiff, Nat.reduceLT, Nat.reduceBEq, ne_eq, hset_get, reduceIte, reduceCtorEq, Nat.le_refl, Nat.zero_le, Nat.reduceMul, or_tl, or_tr, i01, i10, bI_eq0, bI_eq1, bft, bI_z, bI_t, bI_f, bI_nar, nar0, nar1, nq_add, nq_mul, nq_sub, nq_cl, ↓nq_in, nq_nin, nq_lt, nq_le, nq_ge, nq_gt, nq_eq, nq_addl_1, nq_ladd_1, nq_lmul_1, nq_mull_1, nq_subl_1, nq_cll_1, ↓nq_inl_1, nq_ltl_1, nq_lel_1, nq_gel_1, nq_gtl_1, nq_eql_1, h1]
      exact ih f hf _
theorem m_nextTaught (M : MH h I A) (K : MOK A) (Q : Option Value → Hp → Prop) (st : KS) (hs : st.2 + 6 ≤ 162) (t : Nat → Int32) (hQ : ∀ f, KE st (f, st.2) → Q (some (.int (bst (ltB A t) (nkV A (I 24 13) st) 26).1)) (hKT h (I 24) (f, st.2) t)) : Call 177 [.ref 24] (hKT h (I 24) st t) Q := by
  unfold Call
  simp only [MT, MT_0, MT_1, MT_2, MT_3, MT_4, MT_5, MT_6, MT_7, MT_8, MT_9, MT_10, MT_11, MT_12, rq_X10_nextTaught_0, rq_X10_nextTaught_2, rq_X10_nextTaught_3, rq_X10_nextTaught_5, rq_X10_nextTaught_6, rq_X10_nextTaught_7, xo_const, xo_istore, xo_iload, xo_if2, xo_aload, xo_if1, xo_getf, xo_zald, xo_iinc, xo_goto, xo_iret, Cnt_l, Cnt_r, Knt_v, Knt_n, run_ite, CCall, callOk, xrecv, initLo, nl, List.map_cons, List.map_nil, List.length_cons, List.length_nil, List.replicate, List.append_nil, List.nil_append, List.cons_append, List.getElem?_cons_zero, List.getElem?_cons_succ, List.set_cons_zero, List.set_cons_succ, List.take_succ_cons, List.take_zero, List.drop_succ_cons, List.drop_zero, List.reverse_cons, List.reverse_nil, List.getLast?_cons_cons, List.getLast?_singleton, List.all_cons, List.all_nil, List.sum_cons, List.sum_nil, Value.category, xcat1, xintV, Bool.cond_decide, cond_true, cond_false, ite_not, if_true, if_false, ite_self, beq_self_eq_true, Bool.and_true, Bool.true_and, Bool.and_self, decide_true, decide_false, true_and, and_true, and_self, not_false_eq_true, not_true_eq_false, Nat.reduceLeDiff, Nat.reduceAdd, Nat.reduceSub, Nat.reduceEqDiff, Nat.reduceLT, Nat.reduceBEq, ne_eq, hset_get, reduceIte, reduceCtorEq, Nat.le_refl, Nat.zero_le, Nat.reduceMul, or_tl, or_tr, i01, i10, bI_eq0, bI_eq1, bft, bI_z, bI_t, bI_f, bI_nar, nar0, nar1]
  exact l_nextT M K Q st hs t hQ 26 0 rfl st.1 ⟨rfl, fun _ _ => rfl⟩ _
end MM
