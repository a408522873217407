/-! the reference: copies, keep, take, forget, name -/
def cpF (f : Nat → Int32) (a b n m : Nat) : Nat → Int32 := fun j => if n * b ≤ j ∧ j < n * b + m then f (n * a + (j - n * b)) else f j
theorem cpF_0 (f : Nat → Int32) (a b n : Nat) : cpF f a b n 0 = f := by
  funext j
  simp only [cpF]
  rw [if_neg (by omega)]
theorem cpF_src {f : Nat → Int32} {a b n m i : Nat} (hab : a ≠ b) (hi : i < n) (hm : m ≤ n) : cpF f a b n m (n * a + i) = f (n * a + i) := by
  simp only [cpF]
  rw [if_neg]
  rintro ⟨h1, h2⟩
  rcases Nat.lt_or_gt_of_ne hab with h | h
  · have : n * a + n ≤ n * b := by rw [← Nat.mul_succ]; exact Nat.mul_le_mul_left n h
    omega
  · have : n * b + n ≤ n * a := by rw [← Nat.mul_succ]; exact Nat.mul_le_mul_left n h
    omega
theorem cpF_s {f : Nat → Int32} {a b n i : Nat} : upd (cpF f a b n i) (n * b + i) (f (n * a + i)) = cpF f a b n (i + 1) := by
  funext j
  simp only [upd, cpF]
  by_cases h1 : j = n * b + i
  · subst h1
    rw [if_pos rfl, if_pos ⟨by omega, by omega⟩]
    congr 1
    omega
  · rw [if_neg h1]
    by_cases h2 : n * b ≤ j ∧ j < n * b + i
    · rw [if_pos h2, if_pos ⟨h2.1, by omega⟩]
    · rw [if_neg h2, if_neg (fun q => h2 ⟨q.1, by omega⟩)]
abbrev h3c (h : Hp) (p u v : Nat → Int32) : Hp := hset (hset (hset h 28 (ia 0 162 p)) 29 (ia 0 162 u)) 30 (ia 0 162 v)
theorem h3c_1 (h : Hp) (a b c d : AE) : hset (hset (hset (hset h 28 a) 29 b) 30 c) 28 d = hset (hset (hset h 28 d) 29 b) 30 c := by
  rw [hset_swap _ (by decide : (30 : Nat) ≠ 28), hset_swap _ (by decide : (29 : Nat) ≠ 28), hset_hset]
theorem h3c_2 (h : Hp) (a b c d : AE) : hset (hset (hset (hset h 28 a) 29 b) 30 c) 29 d = hset (hset (hset h 28 a) 29 d) 30 c := by
  rw [hset_swap _ (by decide : (30 : Nat) ≠ 29), hset_hset]
abbrev h2c (h : Hp) (x y : Nat → Int32) : Hp := hset (hset h 31 (ia 0 1296 x)) 32 (ia 0 1296 y)
theorem h2c_1 (h : Hp) (a b c : AE) : hset (hset (hset h 31 a) 32 b) 31 c = hset (hset h 31 c) 32 b := by
  rw [hset_swap _ (by decide : (32 : Nat) ≠ 31), hset_hset]
section MM
variable {h : Hp} {I : Nat → Nat → Int32} {A : Nat → Nat → Int32}
theorem l_copies1 (M : MH h I A) (Q : Option Value → Hp → Prop) {a b : Nat} (ha : a < 27) (hb : b < 27) (hab : a ≠ b) (p u v : Nat → Int32) : ∀ m i, i + m = 6 → Run 156 14 [some (.ref 24), some (.int (nI a)), some (.int (nI b)), some (.int (nI i))] [] (h3c h (cpF p a b 6 i) (cpF u a b 6 i) (cpF v a b 6 i)) Q = Run 156 92 [some (.ref 24), some (.int (nI a)), some (.int (nI b)), some (.int (nI 6))] [] (h3c h (cpF p a b 6 6) (cpF u a b 6 6) (cpF v a b 6 6)) Q := by
  intro m
  induction m with
  | zero =>
    intro i hi
    have : i = 6 := by omega
    subst this
    rw [rq_X10_copies_14]
    simp (disch := omega) only [rq_X10_copies_15, rq_X10_copies_17, xo_aload, xo_getf, xo_iload, xo_iald, xo_iast, xo_const, xo_istore, xo_if2, xo_bin, xo_iinc, xo_goto, xo_vret, Cnt_l, Cnt_r, Knt_v, Knt_n, run_ite, CCall, callOk, xrecv, initLo, nl, List.map_cons, List.map_nil, List.length_cons, List.length_nil, List.replicate, List.append_nil, List.nil_append, List.cons_append, List.getElem?_cons_zero, List.getElem?_cons_succ, List.set_cons_zero, List.set_cons_succ, List.take_succ_cons, List.take_zero, List.drop_succ_cons, List.drop_zero, List.reverse_cons, List.reverse_nil, List.getLast?_cons_cons, List.getLast?_singleton, List.all_cons, List.all_nil, List.sum_cons, List.sum_nil, Value.category, xcat1, xintV, Bool.cond_decide, cond_true, cond_false, ite_not, if_true, if_false, ite_self, beq_self_eq_true, Bool.and_true, Bool.true_and, Bool.and_self, decide_true, decide_false, true_and, and_true, and_self, not_false_eq_true, not_true_eq_false, Nat.reduceLeDiff, Nat.reduceAdd, Nat.reduceSub, Nat.reduceEqDiff, Nat.reduceLT, Nat.reduceBEq, ne_eq, hset_get, reduceIte, reduceCtorEq, Nat.le_refl, Nat.zero_le, Nat.reduceMul, or_tl, or_tr, i01, i10, bI_eq0, bI_eq1, bft, bI_z, bI_t, bI_f, bI_nar, nar0, nar1, nq_add, nq_mul, nq_sub, nq_cl, ↓nq_in, nq_nin, nq_lt, nq_le, nq_ge, nq_gt, nq_eq, nq_addl_6, nq_ladd_6, nq_lmul_6, nq_mull_6, nq_subl_6, nq_cll_6, ↓nq_inl_6, nq_ltl_6, nq_lel_6, nq_gel_6, nq_gtl_6, nq_eql_6]
  | succ m ih =>
    intro i hi
    have hlt : ¬ 6 ≤ i := by omega
    have e1 := fun f => cpF_src (f := f) hab (show i < 6 by omega) (show i ≤ 6 by omega)
    have e2 := fun f => cpF_s (f := f) (a := a) (b := b) (n := 6) (i := i)
    rw [rq_X10_copies_14]
    simp (disch := omega) only [rq_X10_copies_15, rq_X10_copies_17, rq_X10_copies_20, rq_X10_copies_21, rq_X10_copies_24, rq_X10_copies_26, rq_X10_copies_27, rq_X10_copies_28, rq_X10_copies_29, rq_X10_copies_30, rq_X10_copies_31, rq_X10_copies_34, rq_X10_copies_36, rq_X10_copies_37, rq_X10_copies_38, rq_X10_copies_39, rq_X10_copies_40, rq_X10_copies_41, rq_X10_copies_42, rq_X10_copies_43, rq_X10_copies_46, rq_X10_copies_48, rq_X10_copies_49, rq_X10_copies_50, rq_X10_copies_51, rq_X10_copies_52, rq_X10_copies_53, rq_X10_copies_56, rq_X10_copies_58, rq_X10_copies_59, rq_X10_copies_60, rq_X10_copies_61, rq_X10_copies_62, rq_X10_copies_63, rq_X10_copies_64, rq_X10_copies_65, rq_X10_copies_68, rq_X10_copies_70, rq_X10_copies_71, rq_X10_copies_72, rq_X10_copies_73, rq_X10_copies_74, rq_X10_copies_75, rq_X10_copies_78, rq_X10_copies_80, rq_X10_copies_81, rq_X10_copies_82, rq_X10_copies_83, rq_X10_copies_84, rq_X10_copies_85, rq_X10_copies_86, rq_X10_copies_89, xo_aload, xo_getf, xo_iload, xo_iald, xo_iast, xo_const, xo_istore, xo_if2, xo_bin, xo_iinc, xo_goto, xo_vret, Cnt_l, Cnt_r, Knt_v, Knt_n, run_ite, CCall, callOk, xrecv, initLo, nl, List.map_cons, List.map_nil, List.length_cons, List.length_nil, List.replicate, List.append_nil, List.nil_append, List.cons_append, List.getElem?_cons_zero, List.getElem?_cons_succ, List.set_cons_zero, List.set_cons_succ, List.take_succ_cons, List.take_zero, List.drop_succ_cons, List.drop_zero, List.reverse_cons, List.reverse_nil, List.getLast?_cons_cons, List.getLast?_singleton, List.all_cons, List.all_nil, List.sum_cons, List.sum_nil, Value.category, xcat1, xintV, Bool.cond_decide, cond_true, cond_false, ite_not, if_true, if_false, ite_self, beq_self_eq_true, Bool.and_true, Bool.true_and, Bool.and_self, decide_true, decide_false, true_and, and_true, and_self, not_false_eq_true, not_true_eq_false, Nat.reduceLeDiff, Nat.reduceAdd, Nat.reduceSub, Nat.reduceEqDiff, Nat.reduceLT, Nat.reduceBEq, ne_eq, hset_get, reduceIte, reduceCtorEq, Nat.le_refl, Nat.zero_le, Nat.reduceMul, or_tl, or_tr, i01, i10, bI_eq0, bI_eq1, bft, bI_z, bI_t, bI_f, bI_nar, nar0, nar1, nq_add, nq_mul, nq_sub, nq_cl, ↓nq_in, nq_nin, nq_lt, nq_le, nq_ge, nq_gt, nq_eq, nq_addl_1, nq_ladd_1, nq_lmul_1, nq_mull_1, nq_subl_1, nq_cll_1, ↓nq_inl_1, nq_ltl_1, nq_lel_1, nq_gel_1, nq_gtl_1, nq_eql_1, nq_addl_6, nq_ladd_6, nq_lmul_6, nq_mull_6, nq_subl_6, nq_cll_6, ↓nq_inl_6, nq_ltl_6, nq_lel_6, nq_gel_6, nq_gtl_6, nq_eql_6, M.c24, hlt, hset_hset, h3c_1, h3c_2, e1, e2]
    exact ih (i + 1) (by omega)
theorem l_copies2 (M : MH h I A) (Q : Option Value → Hp → Prop) {a b : Nat} (ha : a < 27) (hb : b < 27) (hab : a ≠ b) (x y : Nat → Int32) : ∀ m i, i + m = 48 → Run 156 94 [some (.ref 24), some (.int (nI a)), some (.int (nI b)), some (.int (nI i))] [] (h2c h (cpF x a b 48 i) (cpF y a b 48 i)) Q = Q none (h2c h (cpF x a b 48 48) (cpF y a b 48 48)) := by
  intro m
  induction m with
  | zero =>
    intro i hi
    have : i = 48 := by omega
    subst this
    rw [rq_X10_copies_94]
    simp (disch := omega) only [rq_X10_copies_95, rq_X10_copies_97, rq_X10_copies_150, xo_aload, xo_getf, xo_iload, xo_iald, xo_iast, xo_const, xo_istore, xo_if2, xo_bin, xo_iinc, xo_goto, xo_vret, Cnt_l, Cnt_r, Knt_v, Knt_n, run_ite, CCall, callOk, xrecv, initLo, nl, List.map_cons, List.map_nil, List.length_cons, List.length_nil, List.replicate, List.append_nil, List.nil_append, List.cons_append, List.getElem?_cons_zero, List.getElem?_cons_succ, List.set_cons_zero, List.set_cons_succ, List.take_succ_cons, List.take_zero, List.drop_succ_cons, List.drop_zero, List.reverse_cons, List.reverse_nil, List.getLast?_cons_cons, List.getLast?_singleton, List.all_cons, List.all_nil, List.sum_cons, List.sum_nil, Value.category, xcat1, xintV, Bool.cond_decide, cond_true, cond_false, ite_not, if_true, if_false, ite_self, beq_self_eq_true, Bool.and_true, Bool.true_and, Bool.and_self, decide_true, decide_false, true_and, and_true, and_self, not_false_eq_true, not_true_eq_false, Nat.reduceLeDiff, Nat.reduceAdd, Nat.reduceSub, Nat.reduceEqDiff, Nat.reduceLT, Nat.reduceBEq, ne_eq, hset_get, reduceIte, reduceCtorEq, Nat.le_refl, Nat.zero_le, Nat.reduceMul, or_tl, or_tr, i01, i10, bI_eq0, bI_eq1, bft, bI_z, bI_t, bI_f, bI_nar, nar0, nar1, nq_add, nq_mul, nq_sub, nq_cl, ↓nq_in, nq_nin, nq_lt, nq_le, nq_ge, nq_gt, nq_eq, nq_addl_48, nq_ladd_48, nq_lmul_48, nq_mull_48, nq_subl_48, nq_cll_48, ↓nq_inl_48, nq_ltl_48, nq_lel_48, nq_gel_48, nq_gtl_48, nq_eql_48]
  | succ m ih =>
    intro i hi
    have hlt : ¬ 48 ≤ i := by omega
    have e1 := fun f => cpF_src (f := f) hab (show i < 48 by omega) (show i ≤ 48 by omega)
    have e2 := fun f => cpF_s (f := f) (a := a) (b := b) (n := 48) (i := i)
    rw [rq_X10_copies_94]
    simp (disch := omega) only [rq_X10_copies_95, rq_X10_copies_97, rq_X10_copies_100, rq_X10_copies_101, rq_X10_copies_104, rq_X10_copies_106, rq_X10_copies_107, rq_X10_copies_108, rq_X10_copies_109, rq_X10_copies_110, rq_X10_copies_111, rq_X10_copies_114, rq_X10_copies_116, rq_X10_copies_117, rq_X10_copies_118, rq_X10_copies_119, rq_X10_copies_120, rq_X10_copies_121, rq_X10_copies_122, rq_X10_copies_123, rq_X10_copies_126, rq_X10_copies_128, rq_X10_copies_129, rq_X10_copies_130, rq_X10_copies_131, rq_X10_copies_132, rq_X10_copies_133, rq_X10_copies_136, rq_X10_copies_138, rq_X10_copies_139, rq_X10_copies_140, rq_X10_copies_141, rq_X10_copies_142, rq_X10_copies_143, rq_X10_copies_144, rq_X10_copies_147, xo_aload, xo_getf, xo_iload, xo_iald, xo_iast, xo_const, xo_istore, xo_if2, xo_bin, xo_iinc, xo_goto, xo_vret, Cnt_l, Cnt_r, Knt_v, Knt_n, run_ite, CCall, callOk, xrecv, initLo, nl, List.map_cons, List.map_nil, List.length_cons, List.length_nil, List.replicate, List.append_nil, List.nil_append, List.cons_append, List.getElem?_cons_zero, List.getElem?_cons_succ, List.set_cons_zero, List.set_cons_succ, List.take_succ_cons, List.take_zero, List.drop_succ_cons, List.drop_zero, List.reverse_cons, List.reverse_nil, List.getLast?_cons_cons, List.getLast?_singleton, List.all_cons, List.all_nil, List.sum_cons, List.sum_nil, Value.category, xcat1, xintV, Bool.cond_decide, cond_true, cond_false, ite_not, if_true, if_false, ite_self, beq_self_eq_true, Bool.and_true, Bool.true_and, Bool.and_self, decide_true, decide_false, true_and, and_true, and_self, not_false_eq_true, not_true_eq_false, Nat.reduceLeDiff, Nat.reduceAdd, Nat.reduceSub, Nat.reduceEqDiff, Nat.reduceLT, Nat.reduceBEq, ne_eq, hset_get, reduceIte, reduceCtorEq, Nat.le_refl, Nat.zero_le, Nat.reduceMul, or_tl, or_tr, i01, i10, bI_eq0, bI_eq1, bft, bI_z, bI_t, bI_f, bI_nar, nar0, nar1, nq_add, nq_mul, nq_sub, nq_cl, ↓nq_in, nq_nin, nq_lt, nq_le, nq_ge, nq_gt, nq_eq, nq_addl_1, nq_ladd_1, nq_lmul_1, nq_mull_1, nq_subl_1, nq_cll_1, ↓nq_inl_1, nq_ltl_1, nq_lel_1, nq_gel_1, nq_gtl_1, nq_eql_1, nq_addl_48, nq_ladd_48, nq_lmul_48, nq_mull_48, nq_subl_48, nq_cll_48, ↓nq_inl_48, nq_ltl_48, nq_lel_48, nq_gel_48, nq_gtl_48, nq_eql_48, M.c24, hlt, hset_hset, h2c_1, e1, e2]
    exact ih (i + 1) (by omega)
/-- the rows behind a copy -/
def cpA (A : Nat → Nat → Int32) (a b : Nat) : Nat → Nat → Int32 := va_up (va_up (va_up (va_up (va_up (va_up A 27 (upd (A 27) b (A 27 a))) 28 (cpF (A 28) a b 6 6)) 29 (cpF (A 29) a b 6 6)) 30 (cpF (A 30) a b 6 6)) 31 (cpF (A 31) a b 48 48)) 32 (cpF (A 32) a b 48 48)
abbrev cpH (h : Hp) (A : Nat → Nat → Int32) (a b : Nat) : Hp := h2c (h3c (hset h 27 (ia 0 27 (upd (A 27) b (A 27 a)))) (cpF (A 28) a b 6 6) (cpF (A 29) a b 6 6) (cpF (A 30) a b 6 6)) (cpF (A 31) a b 48 48) (cpF (A 32) a b 48 48)
theorem cpH_M (M : MH h I A) (a b : Nat) : MH (cpH h A a b) I (cpA A a b) := (((((M.s27 _).s28 _).s29 _).s30 _).s31 _).s32 _
theorem m_copies (M : MH h I A) (Q : Option Value → Hp → Prop) {a b : Nat} (ha : a < 27) (hb : b < 27) (hab : a ≠ b) {za zb : Int32} (hza : za = nI a) (hzb : zb = nI b) : Call 156 [.ref 24, .int za, .int zb] h Q = Q none (cpH h A a b) := by
  subst hza hzb
  have M1 := M.s27 (upd (A 27) b (A 27 a))
  have M2 := ((M1.s28 (cpF (A 28) a b 6 6)).s29 (cpF (A 29) a b 6 6)).s30 (cpF (A 30) a b 6 6)
  unfold Call
  simp (disch := omega) only [MT, MT_0, MT_1, MT_2, MT_3, MT_4, MT_5, MT_6, MT_7, MT_8, MT_9, MT_10, MT_11, MT_12, rq_X10_copies_0, rq_X10_copies_1, rq_X10_copies_4, rq_X10_copies_5, rq_X10_copies_6, rq_X10_copies_9, rq_X10_copies_10, rq_X10_copies_11, rq_X10_copies_12, rq_X10_copies_13, xo_aload, xo_getf, xo_iload, xo_iald, xo_iast, xo_const, xo_istore, xo_if2, xo_bin, xo_iinc, xo_goto, xo_vret, Cnt_l, Cnt_r, Knt_v, Knt_n, run_ite, CCall, callOk, xrecv, initLo, nl, List.map_cons, List.map_nil, List.length_cons, List.length_nil, List.replicate, List.append_nil, List.nil_append, List.cons_append, List.getElem?_cons_zero, List.getElem?_cons_succ, List.set_cons_zero, List.set_cons_succ, List.take_succ_cons, List.take_zero, List.drop_succ_cons, List.drop_zero, List.reverse_cons, List.reverse_nil, List.getLast?_cons_cons, List.getLast?_singleton, List.all_cons, List.all_nil, List.sum_cons, List.sum_nil, Value.category, xcat1, xintV, Bool.cond_decide, cond_true, cond_false, ite_not, if_true, if_false, ite_self, beq_self_eq_true, Bool.and_true, Bool.true_and, Bool.and_self, decide_true, decide_false, true_and, and_true, and_self, not_false_eq_true, not_true_eq_false, Nat.reduceLeDiff, Nat.reduceAdd, Nat.reduceSub, Nat.reduceEqDiff, Nat.reduceLT, Nat.reduceBEq, ne_eq, hset_get, reduceIte, reduceCtorEq, Nat.le_refl, Nat.zero_le, Nat.reduceMul, or_tl, or_tr, i01, i10, bI_eq0, bI_eq1, bft, bI_z, bI_t, bI_f, bI_nar, nar0, nar1, nq_add, nq_mul, nq_sub, nq_cl, ↓nq_in, nq_nin, nq_lt, nq_le, nq_ge, nq_gt, nq_eq, M.c24, M.c27]
  have e := l_copies1 M1 Q ha hb hab (A 28) (A 29) (A 30) 6 0 rfl
  simp only [cpF_0] at e
  have k1 : h3c (hset h 27 (ia 0 27 (upd (A 27) b (A 27 a)))) (A 28) (A 29) (A 30) = hset h 27 (ia 0 27 (upd (A 27) b (A 27 a))) := by
    have c28 : (hset h 27 (ia 0 27 (upd (A 27) b (A 27 a)))).2.2 28 = some (ia 0 162 (A 28)) := M1.c28
    have c29 : (hset h 27 (ia 0 27 (upd (A 27) b (A 27 a)))).2.2 29 = some (ia 0 162 (A 29)) := M1.c29
    have c30 : (hset h 27 (ia 0 27 (upd (A 27) b (A 27 a)))).2.2 30 = some (ia 0 162 (A 30)) := M1.c30
    rw [h3c, hset_id c28, hset_id c29, hset_id c30]
  rw [k1] at e
  refine Eq.trans e ?_
  simp (disch := omega) only [rq_X10_copies_92, rq_X10_copies_93, xo_aload, xo_getf, xo_iload, xo_iald, xo_iast, xo_const, xo_istore, xo_if2, xo_bin, xo_iinc, xo_goto, xo_vret, Cnt_l, Cnt_r, Knt_v, Knt_n, run_ite, CCall, callOk, xrecv, initLo, nl, List.map_cons, List.map_nil, List.length_cons, List.length_nil, List.replicate, List.append_nil, List.nil_append, List.cons_append, List.getElem?_cons_zero, List.getElem?_cons_succ, List.set_cons_zero, List.set_cons_succ, List.take_succ_cons, List.take_zero, List.drop_succ_cons, List.drop_zero, List.reverse_cons, List.reverse_nil, List.getLast?_cons_cons, List.getLast?_singleton, List.all_cons, List.all_nil, List.sum_cons, List.sum_nil, Value.category, xcat1, xintV, Bool.cond_decide, cond_true, cond_false, ite_not, if_true, if_false, ite_self, beq_self_eq_true, Bool.and_true, Bool.true_and, Bool.and_self, decide_true, decide_false, true_and, and_true, and_self, not_false_eq_true, not_true_eq_false, Nat.reduceLeDiff, Nat.reduceAdd, Nat.reduceSub, Nat.reduceEqDiff, Nat.reduceLT, Nat.reduceBEq, ne_eq, hset_get, reduceIte, reduceCtorEq, Nat.le_refl, Nat.zero_le, Nat.reduceMul, or_tl, or_tr, i01, i10, bI_eq0, bI_eq1, bft, bI_z, bI_t, bI_f, bI_nar, nar0, nar1]
  have e2 := l_copies2 M2 Q ha hb hab (A 31) (A 32) 48 0 rfl
  simp only [cpF_0] at e2
  have k2 : h2c (h3c (hset h 27 (ia 0 27 (upd (A 27) b (A 27 a)))) (cpF (A 28) a b 6 6) (cpF (A 29) a b 6 6) (cpF (A 30) a b 6 6)) (A 31) (A 32) = h3c (hset h 27 (ia 0 27 (upd (A 27) b (A 27 a)))) (cpF (A 28) a b 6 6) (cpF (A 29) a b 6 6) (cpF (A 30) a b 6 6) := by
    have c31 : (h3c (hset h 27 (ia 0 27 (upd (A 27) b (A 27 a)))) (cpF (A 28) a b 6 6) (cpF (A 29) a b 6 6) (cpF (A 30) a b 6 6)).2.2 31 = some (ia 0 1296 (A 31)) := M2.c31
    have c32 : (h3c (hset h 27 (ia 0 27 (upd (A 27) b (A 27 a)))) (cpF (A 28) a b 6 6) (cpF (A 29) a b 6 6) (cpF (A 30) a b 6 6)).2.2 32 = some (ia 0 1296 (A 32)) := M2.c32
    rw [h2c, hset_id c31, hset_id c32]
  rw [k2] at e2
  exact e2
end MM
