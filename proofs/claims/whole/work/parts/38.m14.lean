/-! the reference: lessons in their order, best nib, best limit -/
def cntT (p : Nat → Bool) : Nat → Nat
  | 0 => 0
  | n + 1 => cntT p n + if p n = true then 1 else 0
theorem cntT_le (p : Nat → Bool) : ∀ n, cntT p n ≤ n
  | 0 => Nat.le_refl 0
  | n + 1 => by
    have := cntT_le p n
    simp only [cntT]
    split <;> omega
theorem sumN_bI (p : Nat → Bool) : ∀ n, sumN (fun g => bI (p g)) n = nI (cntT p n)
  | 0 => rfl
  | n + 1 => by
    show sumN (fun g => bI (p g)) n + bI (p n) = nI (cntT p n + if p n = true then 1 else 0)
    rw [sumN_bI p n]
    cases p n
    · rw [bI_f, if_neg (by decide)]; exact nI_add _ 0
    · rw [bI_t, if_pos rfl]; exact nI_add _ 1
theorem cntT_pos {p : Nat → Bool} : ∀ {n : Nat}, 1 ≤ cntT p n → ∃ g, g < n ∧ p g = true
  | 0, h => absurd h (by simp [cntT])
  | n + 1, h => by
    simp only [cntT] at h
    by_cases hp : p n = true
    · exact ⟨n, by omega, hp⟩
    · rw [if_neg hp] at h
      obtain ⟨g, h1, h2⟩ := cntT_pos (p := p) (n := n) (by omega)
      exact ⟨g, by omega, h2⟩
theorem cntT_congr {p q : Nat → Bool} : ∀ {n : Nat}, (∀ g, g < n → p g = q g) → cntT p n = cntT q n
  | 0, _ => rfl
  | n + 1, h => by
    simp only [cntT]
    rw [cntT_congr (fun g hg => h g (by omega)), h n (by omega)]
theorem cntT_del {p q : Nat → Bool} {c : Nat} (hq : ∀ g, g ≠ c → q g = p g) (hc : q c = false) (hp : p c = true) : ∀ n, c < n → cntT q n + 1 = cntT p n
  | 0, h => absurd h (Nat.not_lt_zero _)
  | n + 1, h => by
    simp only [cntT]
    by_cases e : c = n
    · subst e
      rw [hc, hp, if_neg (by decide), if_pos rfl, cntT_congr (p := q) (q := p) (fun g hg => hq g (by omega))]
    · rw [hq n (fun z => e z.symm)]
      have := cntT_del hq hc hp n (by omega)
      omega
/-- which letter comes next -/
def itsN (A : Nat → Nat → Int32) (lim : Int32) (st : KS) (t : Nat → Int32) : Nat := (bst (ltB A t) (nkV A lim st) 26).1.toNatClampNeg
def lesK (A : Nat → Nat → Int32) (lim : Int32) (f : Nat → Int32) : Nat → KS × (Nat → Int32)
  | 0 => ((f, 0), fun _ => 0)
  | n + 1 => (addG A lim (itsN A lim (lesK A lim f n).1 (lesK A lim f n).2) (lesK A lim f n).1, upd (lesK A lim f n).2 (itsN A lim (lesK A lim f n).1 (lesK A lim f n).2) 1)
def lesI (A : Nat → Nat → Int32) (lim : Int32) (f : Nat → Int32) (n : Nat) : Nat := itsN A lim (lesK A lim f n).1 (lesK A lim f n).2
def lesM (A : Nat → Nat → Int32) (lim : Int32) (f : Nat → Int32) (n : Nat) : Int32 := nkV A lim (lesK A lim f n).1 (lesI A lim f n)
theorem its_ok {A : Nat → Nat → Int32} {lim : Int32} {st : KS} {t : Nat → Int32} (h : 1 ≤ cntT (ltB A t) 26) : itsN A lim st t < 26 ∧ ltB A t (itsN A lim st t) = true ∧ (bst (ltB A t) (nkV A lim st) 26).1 = nI (itsN A lim st t) := by
  rcases bst_in (ltB A t) (nkV A lim st) 26 (by omega) with ⟨h1, h2⟩ | ⟨g, h1, h2, h3, h4⟩
  · obtain ⟨g, h5, h6⟩ := cntT_pos h
    rw [h2 g h5] at h6
    cases h6
  · have e : itsN A lim st t = g := by unfold itsN; rw [h3, nq_cl (by omega)]
    rw [e]
    exact ⟨h1, h2, h3⟩
theorem lesK_ok {A : Nat → Nat → Int32} (K : MOK A) {lim : Int32} {f : Nat → Int32} : ∀ n, n ≤ cntT (fun g => isL A (nI g)) 26 → cntT (ltB A (lesK A lim f n).2) 26 + n = cntT (fun g => isL A (nI g)) 26 ∧ (lesK A lim f n).1.2 ≤ 6 * n
  | 0, _ => by
    refine ⟨?_, Nat.le_refl _⟩
    rw [cntT_congr (p := ltB A (lesK A lim f 0).2) (q := fun g => isL A (nI g)) (fun g _ => by simp [ltB, lesK])]
    rfl
  | n + 1, hn => by
    obtain ⟨h1, h2⟩ := lesK_ok K (lim := lim) (f := f) n (by omega)
    obtain ⟨i1, i2, i3⟩ := its_ok (lim := lim) (st := (lesK A lim f n).1) (t := (lesK A lim f n).2) (A := A) (by omega)
    refine ⟨?_, ?_⟩
    · have := cntT_del (p := ltB A (lesK A lim f n).2) (q := ltB A (lesK A lim f (n + 1)).2) (c := itsN A lim (lesK A lim f n).1 (lesK A lim f n).2)
        (fun g hg => by show (isL A (nI g) && decide (upd (lesK A lim f n).2 _ 1 g = 0)) = _; rw [upd_ne _ _ hg]; rfl)
        (by show (isL A _ && decide (upd (lesK A lim f n).2 _ 1 _ = 0)) = false; rw [upd_self]; simp) i2 26 i1
      omega
    · have h3 := addKs_le (fun k => kindA A lim (6 * itsN A lim (lesK A lim f n).1 (lesK A lim f n).2 + k)) (lesK A lim f n).1 (cA A (itsN A lim (lesK A lim f n).1 (lesK A lim f n).2))
      have h4 := (K.1 (itsN A lim (lesK A lim f n).1 (lesK A lim f n).2) (by omega)).2
      show (addKs (fun k => kindA A lim (6 * itsN A lim (lesK A lim f n).1 (lesK A lim f n).2 + k)) (lesK A lim f n).1 (cA A (itsN A lim (lesK A lim f n).1 (lesK A lim f n).2))).2 ≤ _
      omega
section MM
variable {h : Hp} {I : Nat → Nat → Int32} {A : Nat → Nat → Int32}
theorem l_lesson1 (M : MH h I A) (Q : Option Value → Hp → Prop) (st : KS) (v1 v2 v4 v5 : Option Value) (t : Nat → Int32) : ∀ m g, g + m = 26 → Run 178 40 [some (.ref 24), v1, v2, some (.int (nI g)), v4, v5] [] (hKT h (I 24) st (gmix g (fun _ => 0) t)) Q = Run 178 59 [some (.ref 24), v1, v2, some (.int (nI 26)), v4, v5] [] (hKT h (I 24) st (gmix 26 (fun _ => 0) t)) Q := by
  intro m
  induction m with
  | zero =>
    intro g hg
    have : g = 26 := by omega
    subst this
    rw [rq_X10_lesson_40]
    simp (disch := omega) only [rq_X10_lesson_41, rq_X10_lesson_43, xo_iload, xo_const, xo_if1, xo_iret, xo_aload, xo_if2, xo_putf, xo_istore, xo_getf, xo_zast, xo_iinc, xo_goto, Cnt_l, Cnt_r, Knt_v, Knt_n, run_ite, CCall, callOk, xrecv, initLo, nl, List.map_cons, List.map_nil, List.length_cons, List.length_nil, List.replicate, List.append_nil, List.nil_append, List.cons_append, List.getElem?_cons_zero, List.getElem?_cons_succ, List.set_cons_zero, List.set_cons_succ, List.take_succ_cons, List.take_zero, List.drop_succ_cons, List.drop_zero, List.reverse_cons, List.reverse_nil, List.getLast?_cons_cons, List.getLast?_singleton, List.all_cons, List.all_nil, List.sum_cons, List.sum_nil, Value.category, xcat1, xintV, Bool.cond_decide, cond_true, cond_false, ite_not, if_true, if_false, ite_self, beq_self_eq_true, Bool.and_true, Bool.true_and, Bool.and_self, decide_true, decide_false, true_and, and_true, and_self, not_false_eq_true, not_true_eq_false, Nat.reduceLeDiff, Nat.reduceAdd, Nat.reduceSub, Nat.reduceEqDiff, Nat.reduceLT, Nat.reduceBEq, ne_eq, hset_get, reduceIte, reduceCtorEq, Nat.le_refl, Nat.zero_le, Nat.reduceMul, or_tl, or_tr, i01, i10, bI_eq0, bI_eq1, bft, bI_z, bI_t, bI_f, bI_nar, nar0, nar1, nq_add, nq_mul, nq_sub, nq_cl, ↓nq_in, nq_nin, nq_lt, nq_le, nq_ge, nq_gt, nq_eq, nq_addl_26, nq_ladd_26, nq_lmul_26, nq_mull_26, nq_subl_26, nq_cll_26, ↓nq_inl_26, nq_ltl_26, nq_lel_26, nq_gel_26, nq_gtl_26, nq_eql_26]
  | succ m ih =>
    intro g hg
    have hlt : ¬ 26 ≤ g := by omega
    have e1 : upd (gmix g (fun _ => 0) t) g 0 = gmix (g + 1) (fun _ => 0) t := upd_gmix rfl
    have e2 : ∀ a b c d, hset (hset (hset (hset h 38 a) 24 b) 37 c) 38 d = hset (hset (hset h 38 d) 24 b) 37 c := fun a b c d => by
      rw [hset_swap _ (by decide : (37 : Nat) ≠ 38), hset_swap _ (by decide : (24 : Nat) ≠ 38), hset_hset]
    rw [rq_X10_lesson_40]
    simp (disch := omega) only [rq_X10_lesson_41, rq_X10_lesson_43, rq_X10_lesson_46, rq_X10_lesson_47, rq_X10_lesson_50, rq_X10_lesson_51, rq_X10_lesson_52, rq_X10_lesson_53, rq_X10_lesson_56, xo_iload, xo_const, xo_if1, xo_iret, xo_aload, xo_if2, xo_putf, xo_istore, xo_getf, xo_zast, xo_iinc, xo_goto, Cnt_l, Cnt_r, Knt_v, Knt_n, run_ite, CCall, callOk, xrecv, initLo, nl, List.map_cons, List.map_nil, List.length_cons, List.length_nil, List.replicate, List.append_nil, List.nil_append, List.cons_append, List.getElem?_cons_zero, List.getElem?_cons_succ, List.set_cons_zero, List.set_cons_succ, List.take_succ_cons, List.take_zero, List.drop_succ_cons, List.drop_zero, List.reverse_cons, List.reverse_nil, List.getLast?_cons_cons, List.getLast?_singleton, List.all_cons, List.all_nil, List.sum_cons, List.sum_nil, Value.category, xcat1, xintV, Bool.cond_decide, cond_true, cond_false, ite_not, if_true, if_false, ite_self, beq_self_eq_true, Bool.and_true, Bool.true_and, Bool.and_self, decide_true, decide_false, true_and, and_true, and_self, not_false_eq_true, not_true_eq_false, Nat.reduceLeDiff, Nat.reduceAdd, Nat.reduceSub, Nat.reduceEqDiff, Nat.reduceLT, Nat.reduceBEq, ne_eq, hset_get, reduceIte, reduceCtorEq, Nat.le_refl, Nat.zero_le, Nat.reduceMul, or_tl, or_tr, i01, i10, bI_eq0, bI_eq1, bft, bI_z, bI_t, bI_f, bI_nar, nar0, nar1, nq_add, nq_mul, nq_sub, nq_cl, ↓nq_in, nq_nin, nq_lt, nq_le, nq_ge, nq_gt, nq_eq, nq_addl_1, nq_ladd_1, nq_lmul_1, nq_mull_1, nq_subl_1, nq_cll_1, ↓nq_inl_1, nq_ltl_1, nq_lel_1, nq_gel_1, nq_gtl_1, nq_eql_1, nq_addl_26, nq_ladd_26, nq_lmul_26, nq_mull_26, nq_subl_26, nq_cll_26, ↓nq_inl_26, nq_ltl_26, nq_lel_26, nq_gel_26, nq_gtl_26, nq_eql_26, hlt, e1, e2]
    exact ih (g + 1) (by omega)
theorem l_lesson2 (M : MH h I A) (K : MOK A) (Q : Option Value → Hp → Prop) {k : Nat} (hk : k < cntT (fun g => isL A (nI g)) 26) (hk9 : k ≤ 9) (f0 : Nat → Int32) (w : Int32) (hQ : ∀ f n t, Q (some (.int (if w = 0 then nI (lesI A (I 24 13) f0 k) else lesM A (I 24 13) f0 k))) (hKT h (I 24) (f, n) t)) : ∀ m n, n + m = k + 1 → ∀ f t, KE (lesK A (I 24 13) f0 n).1 (f, (lesK A (I 24 13) f0 n).1.2) → (∀ g, g < 26 → (lesK A (I 24 13) f0 n).2 g = t g) → ∀ v3 v4, (n ≠ 0 → v3 = nI (lesI A (I 24 13) f0 (n - 1)) ∧ v4 = lesM A (I 24 13) f0 (n - 1)) →
    Run 178 68 [some (.ref 24), some (.int (nI k)), some (.int w), some (.int v3), some (.int v4), some (.int (nI n))] [] (hKT h (I 24) (f, (lesK A (I 24 13) f0 n).1.2) t) Q := by
  intro m
  induction m with
  | zero =>
    intro n hn f t hf ht v3 v4 hv
    have : n = k + 1 := by omega
    subst this
    obtain ⟨e3, e4⟩ := hv (by omega)
    rw [Nat.add_sub_cancel] at e3 e4
    have hlt : k < k + 1 := by omega
    rw [rq_X10_lesson_68]
    simp (disch := omega) only [rq_X10_lesson_70, rq_X10_lesson_71, rq_X10_lesson_104, rq_X10_lesson_105, rq_X10_lesson_108, rq_X10_lesson_109, rq_X10_lesson_112, rq_X10_lesson_114, xo_iload, xo_const, xo_if1, xo_iret, xo_aload, xo_if2, xo_putf, xo_istore, xo_getf, xo_zast, xo_iinc, xo_goto, Cnt_l, Cnt_r, Knt_v, Knt_n, run_ite, CCall, callOk, xrecv, initLo, nl, List.map_cons, List.map_nil, List.length_cons, List.length_nil, List.replicate, List.append_nil, List.nil_append, List.cons_append, List.getElem?_cons_zero, List.getElem?_cons_succ, List.set_cons_zero, List.set_cons_succ, List.take_succ_cons, List.take_zero, List.drop_succ_cons, List.drop_zero, List.reverse_cons, List.reverse_nil, List.getLast?_cons_cons, List.getLast?_singleton, List.all_cons, List.all_nil, List.sum_cons, List.sum_nil, Value.category, xcat1, xintV, Bool.cond_decide, cond_true, cond_false, ite_not, if_true, if_false, ite_self, beq_self_eq_true, Bool.and_true, Bool.true_and, Bool.and_self, decide_true, decide_false, true_and, and_true, and_self, not_false_eq_true, not_true_eq_false, Nat.reduceLeDiff, Nat.reduceAdd, Nat.reduceSub, Nat.reduceEqDiff, Nat.reduceLT, Nat.reduceBEq, ne_eq, hset_get, reduceIte, reduceCtorEq, Nat.le_refl, Nat.zero_le, Nat.reduceMul, or_tl, or_tr, i01, i10, bI_eq0, bI_eq1, bft, bI_z, bI_t, bI_f, bI_nar, nar0, nar1, nq_add, nq_mul, nq_sub, nq_cl, ↓nq_in, nq_nin, nq_lt, nq_le, nq_ge, nq_gt, nq_eq, eq_true hlt]
    have hQ := hQ f (lesK A (I 24 13) f0 (k + 1)).1.2 t
    by_cases h1 : w = 0
    · rw [if_pos h1, ← e3] at hQ
      simp only [eq_true h1, Cnt_l, Cnt_r, Knt_v, Knt_n, run_ite, CCall, callOk, xrecv, initLo, nl, List.map_cons, List.map_nil, List.length_cons, List.length_nil, List.replicate, List.append_nil, List.nil_append, List.cons_append, List.getElem?_cons_zero, List.getElem?_cons_succ, List.set_cons_zero, List.set_cons_succ, List.take_succ_cons, List.take_zero, List.drop_succ_cons, List.drop_zero, List.reverse_cons, List.reverse_nil, List.getLast?_cons_cons, List.getLast?_singleton, List.all_cons, List.all_nil, List.sum_cons, List.sum_nil, Value.category, xcat1, xintV, Bool.cond_decide, cond_true, cond_false, ite_not, if_true, if_false, ite_self, beq_self_eq_true, Bool.and_true, Bool.true_and, Bool.and_self, decide_true, decide_false, true_and, and_true, and_self, not_false_eq_true, not_true_eq_false, Nat.reduceLeDiff, Nat.reduceAdd, Nat.reduceSub, Nat.reduceEqDiff, Nat.reduceLT, Nat.reduceBEq, ne_eq, hset_get, reduceIte, reduceCtorEq, Nat.le_refl, Nat.zero_le, Nat.reduceMul, or_tl, or_tr, i01, i10, bI_eq0, bI_eq1, bft, bI_z, bI_t, bI_f, bI_nar, nar0, nar1]
      exact hQ
    · rw [if_neg h1, ← e4] at hQ
      simp only [h1, Cnt_l, Cnt_r, Knt_v, Knt_n, run_ite, CCall, callOk, xrecv, initLo, nl, List.map_cons, List.map_nil, List.length_cons, List.length_nil, List.replicate, List.append_nil, List.nil_append, List.cons_append, List.getElem?_cons_zero, List.getElem?_cons_succ, List.set_cons_zero, List.set_cons_succ, List.take_succ_cons, List.take_zero, List.drop_succ_cons, List.drop_zero, List.reverse_cons, List.reverse_nil, List.getLast?_cons_cons, List.getLast?_singleton, List.all_cons, List.all_nil, List.sum_cons, List.sum_nil, Value.category, xcat1, xintV, Bool.cond_decide, cond_true, cond_false, ite_not, if_true, if_false, ite_self, beq_self_eq_true, Bool.and_true, Bool.true_and, Bool.and_self, decide_true, decide_false, true_and, and_true, and_self, not_false_eq_true, not_true_eq_false, Nat.reduceLeDiff, Nat.reduceAdd, Nat.reduceSub, Nat.reduceEqDiff, Nat.reduceLT, Nat.reduceBEq, ne_eq, hset_get, reduceIte, reduceCtorEq, Nat.le_refl, Nat.zero_le, Nat.reduceMul, or_tl, or_tr, i01, i10, bI_eq0, bI_eq1, bft, bI_z, bI_t, bI_f, bI_nar, nar0, nar1]
      exact hQ
  | succ m ih =>
    intro n hn f t hf ht v3 v4 hv
    have hlt : ¬ k < n := by omega
    obtain ⟨a1, a2⟩ := lesK_ok K (lim := I 24 13) (f := f0) n (by omega)
    obtain ⟨i1, i2, i3⟩ := its_ok (lim := I 24 13) (st := (lesK A (I 24 13) f0 n).1) (t := (lesK A (I 24 13) f0 n).2) (A := A) (by omega)
    have ih := ih (n + 1) (by omega)
    rw [Nat.add_sub_cancel] at ih
    have M1 := M.s38 t
    have hb : bst (ltB A t) (nkV A (I 24 13) (f, (lesK A (I 24 13) f0 n).1.2)) 26 = bst (ltB A (lesK A (I 24 13) f0 n).2) (nkV A (I 24 13) (lesK A (I 24 13) f0 n).1) 26 := bst_congr (fun g hg => by simp only [ltB, ht g hg]) (fun g _ _ => (nkV_KE hf g).symm)
    rw [rq_X10_lesson_68]
    simp (disch := omega) only [rq_X10_lesson_70, rq_X10_lesson_71, rq_X10_lesson_74, rq_X10_lesson_75, xo_iload, xo_const, xo_if1, xo_iret, xo_aload, xo_if2, xo_putf, xo_istore, xo_getf, xo_zast, xo_iinc, xo_goto, Cnt_l, Cnt_r, Knt_v, Knt_n, run_ite, CCall, callOk, xrecv, initLo, nl, List.map_cons, List.map_nil, List.length_cons, List.length_nil, List.replicate, List.append_nil, List.nil_append, List.cons_append, List.getElem?_cons_zero, List.getElem?_cons_succ, List.set_cons_zero, List.set_cons_succ, List.take_succ_cons, List.take_zero, List.drop_succ_cons, List.drop_zero, List.reverse_cons, List.reverse_nil, List.getLast?_cons_cons, List.getLast?_singleton, List.all_cons, List.all_nil, List.sum_cons, List.sum_nil, Value.category, xcat1, xintV, Bool.cond_decide, cond_true, cond_false, ite_not, if_true, if_false, ite_self, beq_self_eq_true, Bool.and_true, Bool.true_and, Bool.and_self, decide_true, decide_false, true_and, and_true, and_self, not_false_eq_true, not_true_eq_false, Nat.reduceLeDiff, Nat.reduceAdd, Nat.reduceSub, Nat.reduceEqDiff, Nat.reduceLT, Nat.reduceBEq, ne_eq, hset_get, reduceIte, reduceCtorEq, Nat.le_refl, Nat.zero_le, Nat.reduceMul, or_tl, or_tr, i01, i10, bI_eq0, bI_eq1, bft, bI_z, bI_t, bI_f, bI_nar, nar0, nar1, nq_add, nq_mul, nq_sub, nq_cl, ↓nq_in, nq_nin, nq_lt, nq_le, nq_ge, nq_gt, nq_eq, hlt]
    refine m_nextTaught M K _ (f, (lesK A (I 24 13) f0 n).1.2) (by show _ + 6 ≤ 162; omega) t ?_
    intro f2 hf2
    rw [hb, i3]
    have hf3 : KE (lesK A (I 24 13) f0 n).1 (f2, (lesK A (I 24 13) f0 n).1.2) := ⟨rfl, fun j hj => (hf.2 j hj).trans (hf2.2 j hj)⟩
    simp (disch := omega) only [rq_X10_lesson_78, rq_X10_lesson_79, rq_X10_lesson_80, rq_X10_lesson_81, xo_iload, xo_const, xo_if1, xo_iret, xo_aload, xo_if2, xo_putf, xo_istore, xo_getf, xo_zast, xo_iinc, xo_goto, Cnt_l, Cnt_r, Knt_v, Knt_n, run_ite, CCall, callOk, xrecv, initLo, nl, List.map_cons, List.map_nil, List.length_cons, List.length_nil, List.replicate, List.append_nil, List.nil_append, List.cons_append, List.getElem?_cons_zero, List.getElem?_cons_succ, List.set_cons_zero, List.set_cons_succ, List.take_succ_cons, List.take_zero, List.drop_succ_cons, List.drop_zero, List.reverse_cons, List.reverse_nil, List.getLast?_cons_cons, List.getLast?_singleton, List.all_cons, List.all_nil, List.sum_cons, List.sum_nil, Value.category, xcat1, xintV, Bool.cond_decide, cond_true, cond_false, ite_not, if_true, if_false, ite_self, beq_self_eq_true, Bool.and_true, Bool.true_and, Bool.and_self, decide_true, decide_false, true_and, and_true, and_self, not_false_eq_true, not_true_eq_false, Nat.reduceLeDiff, Nat.reduceAdd, Nat.reduceSub, Nat.reduceEqDiff, Nat.reduceLT, Nat.reduceBEq, ne_eq, hset_get, reduceIte, reduceCtorEq, Nat.le_refl, Nat.zero_le, Nat.reduceMul, or_tl, or_tr, i01, i10, bI_eq0, bI_eq1, bft, bI_z, bI_t, bI_f, bI_nar, nar0, nar1]
    rw [m_newKinds M1 K _ (g := itsN A (I 24 13) (lesK A (I 24 13) f0 n).1 (lesK A (I 24 13) f0 n).2) (by omega) rfl _ (by show _ + 6 ≤ 162; omega)]
    rw [show nkV (va_up A 38 t) (I 24 13) (f2, (lesK A (I 24 13) f0 n).1.2) (itsN A (I 24 13) (lesK A (I 24 13) f0 n).1 (lesK A (I 24 13) f0 n).2) = nkV A (I 24 13) (f2, (lesK A (I 24 13) f0 n).1.2) (itsN A (I 24 13) (lesK A (I 24 13) f0 n).1 (lesK A (I 24 13) f0 n).2) from rfl, ← nkV_KE hf3]
    simp (disch := omega) only [rq_X10_lesson_84, rq_X10_lesson_86, rq_X10_lesson_87, rq_X10_lesson_88, xo_iload, xo_const, xo_if1, xo_iret, xo_aload, xo_if2, xo_putf, xo_istore, xo_getf, xo_zast, xo_iinc, xo_goto, Cnt_l, Cnt_r, Knt_v, Knt_n, run_ite, CCall, callOk, xrecv, initLo, nl, List.map_cons, List.map_nil, List.length_cons, List.length_nil, List.replicate, List.append_nil, List.nil_append, List.cons_append, List.getElem?_cons_zero, List.getElem?_cons_succ, List.set_cons_zero, List.set_cons_succ, List.take_succ_cons, List.take_zero, List.drop_succ_cons, List.drop_zero, List.reverse_cons, List.reverse_nil, List.getLast?_cons_cons, List.getLast?_singleton, List.all_cons, List.all_nil, List.sum_cons, List.sum_nil, Value.category, xcat1, xintV, Bool.cond_decide, cond_true, cond_false, ite_not, if_true, if_false, ite_self, beq_self_eq_true, Bool.and_true, Bool.true_and, Bool.and_self, decide_true, decide_false, true_and, and_true, and_self, not_false_eq_true, not_true_eq_false, Nat.reduceLeDiff, Nat.reduceAdd, Nat.reduceSub, Nat.reduceEqDiff, Nat.reduceLT, Nat.reduceBEq, ne_eq, hset_get, reduceIte, reduceCtorEq, Nat.le_refl, Nat.zero_le, Nat.reduceMul, or_tl, or_tr, i01, i10, bI_eq0, bI_eq1, bft, bI_z, bI_t, bI_f, bI_nar, nar0, nar1]
    have hc4 := (K.1 (itsN A (I 24 13) (lesK A (I 24 13) f0 n).1 (lesK A (I 24 13) f0 n).2) (by omega)).2
    rw [m_addKinds M1 K _ (g := itsN A (I 24 13) (lesK A (I 24 13) f0 n).1 (lesK A (I 24 13) f0 n).2) (by omega) rfl _ (by show _ + cA A _ ≤ 162; omega)]
    have hf4 : KE (lesK A (I 24 13) f0 n).1 ((addG (va_up A 38 t) (I 24 13) (itsN A (I 24 13) (lesK A (I 24 13) f0 n).1 (lesK A (I 24 13) f0 n).2) (f2, (lesK A (I 24 13) f0 n).1.2)).1, (lesK A (I 24 13) f0 n).1.2) := by
      have hk := addKs_keep (fun k => kindA (va_up A 38 t) (I 24 13) (6 * itsN A (I 24 13) (lesK A (I 24 13) f0 n).1 (lesK A (I 24 13) f0 n).2 + k)) (f2, (lesK A (I 24 13) f0 n).1.2) (cA (va_up A 38 t) (itsN A (I 24 13) (lesK A (I 24 13) f0 n).1 (lesK A (I 24 13) f0 n).2))
      exact ⟨rfl, fun j hj => (hf3.2 j hj).trans (hk.2 j hj).symm⟩
    generalize (addG (va_up A 38 t) (I 24 13) (itsN A (I 24 13) (lesK A (I 24 13) f0 n).1 (lesK A (I 24 13) f0 n).2) (f2, (lesK A (I 24 13) f0 n).1.2)).1 = f5 at hf4 ⊢
    have hE := hf4.adds (fun k => kindA A (I 24 13) (6 * itsN A (I 24 13) (lesK A (I 24 13) f0 n).1 (lesK A (I 24 13) f0 n).2 + k)) (cA A (itsN A (I 24 13) (lesK A (I 24 13) f0 n).1 (lesK A (I 24 13) f0 n).2))
    have e2 : ∀ a b c d, hset (hset (hset (hset h 38 a) 24 b) 37 c) 38 d = hset (hset (hset h 38 d) 24 b) 37 c := fun a b c d => by
      rw [hset_swap _ (by decide : (37 : Nat) ≠ 38), hset_swap _ (by decide : (24 : Nat) ≠ 38), hset_hset]
    simp (disch := omega) only [rq_X10_lesson_91, rq_X10_lesson_92, rq_X10_lesson_95, rq_X10_lesson_96, rq_X10_lesson_97, rq_X10_lesson_98, rq_X10_lesson_101, xo_iload, xo_const, xo_if1, xo_iret, xo_aload, xo_if2, xo_putf, xo_istore, xo_getf, xo_zast, xo_iinc, xo_goto, Cnt_l, Cnt_r, Knt_v, Knt_n, run_ite, CCall, callOk, xrecv, initLo, nl, List.map_cons, List.map_nil, List.length_cons, List.length_nil, List.replicate, List.append_nil, List.nil_append, List.cons_append, List.getElem?_cons_zero, List.getElem?_cons_succ, List.set_cons_zero, List.set_cons_succ, List.take_succ_cons, List.take_zero, List.drop_succ_cons, List.drop_zero, List.reverse_cons, List.reverse_nil, List.getLast?_cons_cons, List.getLast?_singleton, List.all_cons, List.all_nil, List.sum_cons, List.sum_nil, Value.category, xcat1, xintV, Bool.cond_decide, cond_true, cond_false, ite_not, if_true, if_false, ite_self, beq_self_eq_true, Bool.and_true, Bool.true_and, Bool.and_self, decide_true, decide_false, true_and, and_true, and_self, not_false_eq_true, not_true_eq_false, Nat.reduceLeDiff, Nat.reduceAdd, Nat.reduceSub, Nat.reduceEqDiff, Nat.reduceLT, Nat.reduceBEq, ne_eq, hset_get, reduceIte, reduceCtorEq, Nat.le_refl, Nat.zero_le, Nat.reduceMul, or_tl, or_tr, i01, i10, bI_eq0, bI_eq1, bft, bI_z, bI_t, bI_f, bI_nar, nar0, nar1, nq_add, nq_mul, nq_sub, nq_cl, ↓nq_in, nq_nin, nq_lt, nq_le, nq_ge, nq_gt, nq_eq, nq_addl_1, nq_ladd_1, nq_lmul_1, nq_mull_1, nq_subl_1, nq_cll_1, ↓nq_inl_1, nq_ltl_1, nq_lel_1, nq_gel_1, nq_gtl_1, nq_eql_1, e2]
    have fin := ih (addKs (fun k => kindA A (I 24 13) (6 * itsN A (I 24 13) (lesK A (I 24 13) f0 n).1 (lesK A (I 24 13) f0 n).2 + k)) (f5, (lesK A (I 24 13) f0 n).1.2) (cA A (itsN A (I 24 13) (lesK A (I 24 13) f0 n).1 (lesK A (I 24 13) f0 n).2))).1 (upd t (itsN A (I 24 13) (lesK A (I 24 13) f0 n).1 (lesK A (I 24 13) f0 n).2) 1) ⟨rfl, fun j hj => hE.2 j hj⟩ (fun g hg => by
      show upd (lesK A (I 24 13) f0 n).2 _ 1 g = upd t _ 1 g
      by_cases e : g = itsN A (I 24 13) (lesK A (I 24 13) f0 n).1 (lesK A (I 24 13) f0 n).2
      · rw [← e, upd_self, upd_self]
      · rw [upd_ne _ _ e, upd_ne _ _ e, ht g hg]) (nI (itsN A (I 24 13) (lesK A (I 24 13) f0 n).1 (lesK A (I 24 13) f0 n).2)) (nkV A (I 24 13) (lesK A (I 24 13) f0 n).1 (itsN A (I 24 13) (lesK A (I 24 13) f0 n).1 (lesK A (I 24 13) f0 n).2)) (fun _ => ⟨rfl, rfl⟩)
    have e6 : (lesK A (I 24 13) f0 (n + 1)).1.2 = (addKs (fun k => kindA A (I 24 13) (6 * itsN A (I 24 13) (lesK A (I 24 13) f0 n).1 (lesK A (I 24 13) f0 n).2 + k)) (f5, (lesK A (I 24 13) f0 n).1.2) (cA A (itsN A (I 24 13) (lesK A (I 24 13) f0 n).1 (lesK A (I 24 13) f0 n).2))).2 := hE.1
    rw [e6] at fin
    exact fin
end MM
