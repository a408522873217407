/-! the reference: lift -/
/-- a line of points laid into the places of stroke a -/
def lnF (f : Nat → Int32) (a : Nat) (X : Nat → Int32) (n : Nat) : Nat → Int32 := fun j => if 8 * a ≤ j ∧ j < 8 * a + n then X (j - 8 * a) else f j
theorem lnF_0 (f : Nat → Int32) (a : Nat) (X : Nat → Int32) : lnF f a X 0 = f := by
  funext j; unfold lnF; rw [if_neg (by omega)]
theorem lnF_s (f : Nat → Int32) (a : Nat) (X : Nat → Int32) (n : Nat) : upd (lnF f a X n) (8 * a + n) (X n) = lnF f a X (n + 1) := by
  funext j
  by_cases e : j = 8 * a + n
  · subst e
    rw [upd_self]; unfold lnF; rw [if_pos (by omega), Nat.add_sub_cancel_left]
  · rw [upd_ne _ _ e]; unfold lnF
    by_cases g : 8 * a ≤ j ∧ j < 8 * a + n
    · rw [if_pos g, if_pos (by omega)]
    · rw [if_neg g, if_neg (by omega)]
abbrev hLn (h : Hp) (f g : Nat → Int32) : Hp := hset (hset h 31 (ia 0 1296 f)) 32 (ia 0 1296 g)
theorem hLn_31 (h : Hp) (a b c : AE) : hset (hset (hset h 31 a) 32 b) 31 c = hset (hset h 31 c) 32 b := by
  rw [hset_swap _ (by decide : (32 : Nat) ≠ 31), hset_hset]
section M
variable {h : Hp} {I : Nat → Nat → Int32} {A : Nat → Nat → Int32} {Q : Option Value → Hp → Prop}
theorem l_lift (M : MH h I A) {n a : Nat} (c24 : h.2.2 24 = some (oc24 (va_up (I 24) 2 (nI n)))) (hn : n ≤ 8) (ha : a < 162) (v1 : Option Value) (hQ : Run 116 113 [some (.ref 24), v1, some (.int (nI a)), some (.int (nI n))] [] (hLn h (lnF (A 31) a (A 25) n) (lnF (A 32) a (A 26) n)) Q) : ∀ m i, i + m = n → Run 116 65 [some (.ref 24), v1, some (.int (nI a)), some (.int (nI i))] [] (hLn h (lnF (A 31) a (A 25) i) (lnF (A 32) a (A 26) i)) Q := by
  intro m
  induction m with
  | zero =>
    intro i hi
    have : i = n := by omega
    subst this
    rw [rq_X10_lift_65]
    simp (disch := omega) only [rq_X10_lift_66, rq_X10_lift_67, rq_X10_lift_70, xo_aload, xo_getf, xo_if1, xo_const, xo_iret, xo_iald, xo_istore, xo_iload, xo_if2, xo_bin, xo_iast, xo_iinc, xo_goto, xo_putf, xo_dup2, Cnt_l, Cnt_r, Knt_v, Knt_n, run_ite, CCall, callOk, xrecv, initLo, nl, List.map_cons, List.map_nil, List.length_cons, List.length_nil, List.replicate, List.append_nil, List.nil_append, List.cons_append, List.getElem?_cons_zero, List.getElem?_cons_succ, List.set_cons_zero, List.set_cons_succ, List.take_succ_cons, List.take_zero, List.drop_succ_cons, List.drop_zero, List.reverse_cons, List.reverse_nil, List.getLast?_cons_cons, List.getLast?_singleton, List.all_cons, List.all_nil, List.sum_cons, List.sum_nil, Value.category, xcat1, xintV, Bool.cond_decide, cond_true, cond_false, ite_not, if_true, if_false, ite_self, beq_self_eq_true, Bool.and_true, Bool.true_and, Bool.and_self, decide_true, decide_false, true_and, and_true, and_self, not_false_eq_true, not_true_eq_false, Nat.reduceLeDiff, Nat.reduceAdd, Nat.reduceSub, Nat.reduceEqDiff, Nat.reduceLT, Nat.reduceBEq, ne_eq, hset_get, reduceIte, reduceCtorEq, Nat.le_refl, Nat.zero_le, Nat.reduceMul, or_tl, or_tr, i01, i10, bI_eq0, bI_eq1, bft, bI_z, bI_t, bI_f, bI_nar, nar0, nar1, nq_add, nq_mul, nq_sub, nq_cl, ↓nq_in, nq_nin, nq_lt, nq_le, nq_ge, nq_gt, nq_eq, c24, va_up, Nat.le_refl]
    exact hQ
  | succ m ih =>
    intro i hi
    have hlt : ¬ n ≤ i := by omega
    have ih := ih (i + 1) (by omega)
    rw [← lnF_s, ← lnF_s] at ih
    rw [rq_X10_lift_65]
    simp (disch := omega) only [rq_X10_lift_66, rq_X10_lift_67, rq_X10_lift_70, rq_X10_lift_73, rq_X10_lift_74, rq_X10_lift_77, rq_X10_lift_79, rq_X10_lift_80, rq_X10_lift_81, rq_X10_lift_82, rq_X10_lift_83, rq_X10_lift_84, rq_X10_lift_87, rq_X10_lift_88, rq_X10_lift_89, rq_X10_lift_90, rq_X10_lift_91, rq_X10_lift_94, rq_X10_lift_96, rq_X10_lift_97, rq_X10_lift_98, rq_X10_lift_99, rq_X10_lift_100, rq_X10_lift_101, rq_X10_lift_104, rq_X10_lift_105, rq_X10_lift_106, rq_X10_lift_107, rq_X10_lift_110, xo_aload, xo_getf, xo_if1, xo_const, xo_iret, xo_iald, xo_istore, xo_iload, xo_if2, xo_bin, xo_iast, xo_iinc, xo_goto, xo_putf, xo_dup2, Cnt_l, Cnt_r, Knt_v, Knt_n, run_ite, CCall, callOk, xrecv, initLo, nl, List.map_cons, List.map_nil, List.length_cons, List.length_nil, List.replicate, List.append_nil, List.nil_append, List.cons_append, List.getElem?_cons_zero, List.getElem?_cons_succ, List.set_cons_zero, List.set_cons_succ, List.take_succ_cons, List.take_zero, List.drop_succ_cons, List.drop_zero, List.reverse_cons, List.reverse_nil, List.getLast?_cons_cons, List.getLast?_singleton, List.all_cons, List.all_nil, List.sum_cons, List.sum_nil, Value.category, xcat1, xintV, Bool.cond_decide, cond_true, cond_false, ite_not, if_true, if_false, ite_self, beq_self_eq_true, Bool.and_true, Bool.true_and, Bool.and_self, decide_true, decide_false, true_and, and_true, and_self, not_false_eq_true, not_true_eq_false, Nat.reduceLeDiff, Nat.reduceAdd, Nat.reduceSub, Nat.reduceEqDiff, Nat.reduceLT, Nat.reduceBEq, ne_eq, hset_get, reduceIte, reduceCtorEq, Nat.le_refl, Nat.zero_le, Nat.reduceMul, or_tl, or_tr, i01, i10, bI_eq0, bI_eq1, bft, bI_z, bI_t, bI_f, bI_nar, nar0, nar1, nq_add, nq_mul, nq_sub, nq_cl, ↓nq_in, nq_nin, nq_lt, nq_le, nq_ge, nq_gt, nq_eq, nq_addl_1, nq_ladd_1, nq_lmul_1, nq_mull_1, nq_subl_1, nq_cll_1, ↓nq_inl_1, nq_ltl_1, nq_lel_1, nq_gel_1, nq_gtl_1, nq_eql_1, nq_addl_8, nq_ladd_8, nq_lmul_8, nq_mull_8, nq_subl_8, nq_cll_8, ↓nq_inl_8, nq_ltl_8, nq_lel_8, nq_gel_8, nq_gtl_8, nq_eql_8, c24, M.c25, M.c26, va_up, hlt, hset_hset, hLn_31]
    exact ih
end M
