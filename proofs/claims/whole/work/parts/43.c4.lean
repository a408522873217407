/-! the class: a new stroke -/
/-- the rows behind a step of a stroke of the class -/
def cstepF (uu vv : Nat) (v : Int32) (x y : Nat → Nat) (i j : Nat) (g : Nat → Int32) : Nat → Int32 := boxF (nI uu) v (nI (x j) - nI (x i)) (nI (y j) - nI (y i)) (nI (x i)) (nI (y i)) (min (x i) (x j) - uu) (min 31 (max (x i) (x j) + uu)) (min (y i) (y j) - vv) (min 31 (max (y i) (y j) + vv)) g
def cstrF (uu vv : Nat) (v : Int32) (x y : Nat → Nat) (g : Nat → Int32) : Nat → Nat → Int32
  | 0 => g
  | k + 1 => cstepF uu vv v x y k (k + 1) (cstrF uu vv v x y g k)
def cstrI (n uu vv : Nat) (v : Int32) (x y : Nat → Nat) : Nat → Int32 := cstrF uu vv v x y (if n = 1 then cstepF uu vv v x y 0 0 (fun _ => 0) else fun _ => 0) (n - 1)
section CS
variable {h : Hp} {q n uu vv : Nat} {v : Int32} {X Y : Nat → Int32} {x y : Nat → Nat}
theorem l_strokeLoop (s0 : h.2.2 q = some (ob 8 [.int (nI n), .int (nI uu), .int v, .ref (q + 2), .ref (q + 3), .ref (q + 1)])) (sx : h.2.2 (q + 2) = some (ia 0 8 X)) (sy : h.2.2 (q + 3) = some (ia 0 8 Y)) (hn1 : 1 ≤ n) (hn : n ≤ 8) (ex : ∀ j, j < n → X j = nI (x j) ∧ x j < 32) (ey : ∀ j, j < n → Y j = nI (y j) ∧ y j < 32) (ev : abI v = nI vv) (bu : uu ≤ 6) (bv : vv ≤ 6) (w1 w2 w3 : Option Value) (g : Nat → Int32) (Q : Option Value → Hp → Prop) : ∀ m i, i + m = n - 1 →
    Run 43 73 [some (.ref q), w1, w2, w3, some (.int (nI i))] [] (hset h (q + 1) (ia 0 32 (cstrF uu vv v x y g i))) Q = Q none (hset h (q + 1) (ia 0 32 (cstrF uu vv v x y g (n - 1)))) := by
  have hq1 : ¬ q = q + 1 := by omega
  have hq2 : ¬ q + 2 = q + 1 := by omega
  have hq3 : ¬ q + 3 = q + 1 := by omega
  intro m
  induction m with
  | zero =>
    intro i hi
    have : i = n - 1 := by omega
    subst this
    have hge : n ≤ n - 1 + 1 := by omega
    rw [rq_X8_init_73]
    simp (disch := omega) only [rq_X8_init_75, rq_X8_init_76, rq_X8_init_77, rq_X8_init_78, rq_X8_init_81, rq_X8_init_100, xo_aload, xo_oinit, xo_const, xo_newi, xo_putf, xo_getf, xo_iload, xo_if2, xo_istore, xo_bin, xo_iinc, xo_goto, xo_vret, Cnt_l, Cnt_r, Knt_v, Knt_n, run_ite, CCall, callOk, xrecv, initLo, nl, List.map_cons, List.map_nil, List.length_cons, List.length_nil, List.replicate, List.append_nil, List.nil_append, List.cons_append, List.getElem?_cons_zero, List.getElem?_cons_succ, List.set_cons_zero, List.set_cons_succ, List.take_succ_cons, List.take_zero, List.drop_succ_cons, List.drop_zero, List.reverse_cons, List.reverse_nil, List.getLast?_cons_cons, List.getLast?_singleton, List.all_cons, List.all_nil, List.sum_cons, List.sum_nil, Value.category, xcat1, xintV, Bool.cond_decide, cond_true, cond_false, ite_not, if_true, if_false, ite_self, beq_self_eq_true, Bool.and_true, Bool.true_and, Bool.and_self, decide_true, decide_false, true_and, and_true, and_self, not_false_eq_true, not_true_eq_false, Nat.reduceLeDiff, Nat.reduceAdd, Nat.reduceSub, Nat.reduceEqDiff, Nat.reduceLT, Nat.reduceBEq, ne_eq, hset_get, reduceIte, reduceCtorEq, Nat.le_refl, Nat.zero_le, Nat.reduceMul, or_tl, or_tr, i01, i10, bI_eq0, bI_eq1, bft, bI_z, bI_t, bI_f, bI_nar, nar0, nar1, nq_addl_1, nq_ge, s0, hq1, eq_true hge]
  | succ m ih =>
    intro i hi
    have hlt : ¬ n ≤ i + 1 := by omega
    have ih := ih (i + 1) (by omega)
    simp only [cstrF] at ih
    rw [rq_X8_init_73]
    simp (disch := omega) only [rq_X8_init_75, rq_X8_init_76, rq_X8_init_77, rq_X8_init_78, rq_X8_init_81, rq_X8_init_84, rq_X8_init_85, rq_X8_init_87, rq_X8_init_89, rq_X8_init_90, rq_X8_init_91, xo_aload, xo_oinit, xo_const, xo_newi, xo_putf, xo_getf, xo_iload, xo_if2, xo_istore, xo_bin, xo_iinc, xo_goto, xo_vret, Cnt_l, Cnt_r, Knt_v, Knt_n, run_ite, CCall, callOk, xrecv, initLo, nl, List.map_cons, List.map_nil, List.length_cons, List.length_nil, List.replicate, List.append_nil, List.nil_append, List.cons_append, List.getElem?_cons_zero, List.getElem?_cons_succ, List.set_cons_zero, List.set_cons_succ, List.take_succ_cons, List.take_zero, List.drop_succ_cons, List.drop_zero, List.reverse_cons, List.reverse_nil, List.getLast?_cons_cons, List.getLast?_singleton, List.all_cons, List.all_nil, List.sum_cons, List.sum_nil, Value.category, xcat1, xintV, Bool.cond_decide, cond_true, cond_false, ite_not, if_true, if_false, ite_self, beq_self_eq_true, Bool.and_true, Bool.true_and, Bool.and_self, decide_true, decide_false, true_and, and_true, and_self, not_false_eq_true, not_true_eq_false, Nat.reduceLeDiff, Nat.reduceAdd, Nat.reduceSub, Nat.reduceEqDiff, Nat.reduceLT, Nat.reduceBEq, ne_eq, hset_get, reduceIte, reduceCtorEq, Nat.le_refl, Nat.zero_le, Nat.reduceMul, or_tl, or_tr, i01, i10, bI_eq0, bI_eq1, bft, bI_z, bI_t, bI_f, bI_nar, nar0, nar1, nq_addl_1, nq_ge, s0, hq1, hlt]
    rw [c_inkBetween s0 sx sy hq1 hq2 hq3 _ (i := i) (j := i + 1) (by omega) (by omega) (ex i (by omega)).1 (ex (i + 1) (by omega)).1 (ey i (by omega)).1 (ey (i + 1) (by omega)).1 (ex i (by omega)).2 (ex (i + 1) (by omega)).2 (ey i (by omega)).2 (ey (i + 1) (by omega)).2 rfl ev bu bv]
    simp (disch := omega) only [rq_X8_init_94, rq_X8_init_97, xo_aload, xo_oinit, xo_const, xo_newi, xo_putf, xo_getf, xo_iload, xo_if2, xo_istore, xo_bin, xo_iinc, xo_goto, xo_vret, Cnt_l, Cnt_r, Knt_v, Knt_n, run_ite, CCall, callOk, xrecv, initLo, nl, List.map_cons, List.map_nil, List.length_cons, List.length_nil, List.replicate, List.append_nil, List.nil_append, List.cons_append, List.getElem?_cons_zero, List.getElem?_cons_succ, List.set_cons_zero, List.set_cons_succ, List.take_succ_cons, List.take_zero, List.drop_succ_cons, List.drop_zero, List.reverse_cons, List.reverse_nil, List.getLast?_cons_cons, List.getLast?_singleton, List.all_cons, List.all_nil, List.sum_cons, List.sum_nil, Value.category, xcat1, xintV, Bool.cond_decide, cond_true, cond_false, ite_not, if_true, if_false, ite_self, beq_self_eq_true, Bool.and_true, Bool.true_and, Bool.and_self, decide_true, decide_false, true_and, and_true, and_self, not_false_eq_true, not_true_eq_false, Nat.reduceLeDiff, Nat.reduceAdd, Nat.reduceSub, Nat.reduceEqDiff, Nat.reduceLT, Nat.reduceBEq, ne_eq, hset_get, reduceIte, reduceCtorEq, Nat.le_refl, Nat.zero_le, Nat.reduceMul, or_tl, or_tr, i01, i10, bI_eq0, bI_eq1, bft, bI_z, bI_t, bI_f, bI_nar, nar0, nar1, nq_addl_1]
    exact ih
theorem c_strokeInit (hq : h.1 = q + 1) (hq2 : 5 ≤ q) (s0 : h.2.2 q = some (ob 8 [.int 0, .int 0, .int 0, .null, .null, .null])) (l0 : h.2.2 2 = some (ob 5 [.ref 3, .ref 4, .int (nI n)])) (lx : h.2.2 3 = some (ia 0 8 X)) (ly : h.2.2 4 = some (ia 0 8 Y)) (hn1 : 1 ≤ n) (hn : n ≤ 8) (ex : ∀ j, j < n → X j = nI (x j) ∧ x j < 32) (ey : ∀ j, j < n → Y j = nI (y j) ∧ y j < 32) (ev : abI v = nI vv) (bu : uu ≤ 6) (bv : vv ≤ 6) (Q : Option Value → Hp → Prop)
    (hQ : ∀ h', h'.1 = q + 4 → h'.2.1 = h.2.1 + 48 → h'.2.2 q = some (ob 8 [.int (nI n), .int (nI uu), .int v, .ref (q + 2), .ref (q + 3), .ref (q + 1)]) → h'.2.2 (q + 2) = some (ia 0 8 X) → h'.2.2 (q + 3) = some (ia 0 8 Y) → h'.2.2 (q + 1) = some (ia 0 32 (cstrI n uu vv v x y)) → (∀ j, j < q ∨ q + 4 ≤ j → h'.2.2 j = h.2.2 j) → Q none h') :
    Call 43 [.ref q, .ref 2, .int (nI uu), .int v] h Q := by
  have n0 : ¬ q = h.1 := by omega
  have n2 : ¬ 2 = h.1 := by omega
  have n3 : ¬ 3 = h.1 := by omega
  have n4 : ¬ 4 = h.1 := by omega
  have m2 : ¬ 2 = q := by omega
  have m3 : ¬ 3 = q := by omega
  have m4 : ¬ 4 = q := by omega
  have i32 : ((32 : Int32) < 0) = False := by simp
  have t32 : ((32 : Int32)).toNatClampNeg = 32 := nq_cll_32
  unfold Call
  simp (disch := omega) only [MT, MT_0, MT_1, MT_2, MT_3, MT_4, MT_5, MT_6, MT_7, MT_8, MT_9, MT_10, MT_11, MT_12, rq_X8_init_0, rq_X8_init_1, rq_X8_init_4, rq_X8_init_5, rq_X8_init_7, rq_X8_init_9, rq_X8_init_12, rq_X8_init_13, rq_X8_init_14, rq_X8_init_17, rq_X8_init_20, rq_X8_init_21, rq_X8_init_22, rq_X8_init_25, rq_X8_init_26, rq_X8_init_27, rq_X8_init_30, rq_X8_init_31, rq_X8_init_32, rq_X8_init_35, rq_X8_init_37, xo_aload, xo_oinit, xo_const, xo_newi, xo_putf, xo_getf, xo_iload, xo_if2, xo_istore, xo_bin, xo_iinc, xo_goto, xo_vret, Cnt_l, Cnt_r, Knt_v, Knt_n, run_ite, CCall, callOk, xrecv, initLo, nl, List.map_cons, List.map_nil, List.length_cons, List.length_nil, List.replicate, List.append_nil, List.nil_append, List.cons_append, List.getElem?_cons_zero, List.getElem?_cons_succ, List.set_cons_zero, List.set_cons_succ, List.take_succ_cons, List.take_zero, List.drop_succ_cons, List.drop_zero, List.reverse_cons, List.reverse_nil, List.getLast?_cons_cons, List.getLast?_singleton, List.all_cons, List.all_nil, List.sum_cons, List.sum_nil, Value.category, xcat1, xintV, Bool.cond_decide, cond_true, cond_false, ite_not, if_true, if_false, ite_self, beq_self_eq_true, Bool.and_true, Bool.true_and, Bool.and_self, decide_true, decide_false, true_and, and_true, and_self, not_false_eq_true, not_true_eq_false, Nat.reduceLeDiff, Nat.reduceAdd, Nat.reduceSub, Nat.reduceEqDiff, Nat.reduceLT, Nat.reduceBEq, ne_eq, hset_get, reduceIte, reduceCtorEq, Nat.le_refl, Nat.zero_le, Nat.reduceMul, or_tl, or_tr, i01, i10, bI_eq0, bI_eq1, bft, bI_z, bI_t, bI_f, bI_nar, nar0, nar1, s0, l0, lx, ly, hnew_get, n0, n2, n3, n4, m2, m3, m4, i32, t32, hset_hset]
  rw [c_copyOf (f := X) (by simp only [hset_get, hnew_get, m3, n3, if_false]; exact lx)]
  generalize hH1 : hset (hnew h 32 (ia 0 32 fun _ => 0)) q _ = H1
  have a1 : H1.1 = q + 2 := by rw [← hH1]; show h.1 + 1 = q + 2; omega
  have a2 : H1.2.1 = h.2.1 + 32 := by rw [← hH1]; rfl
  have a3 : H1.2.2 q = some (ob 8 [.int (nI n), .int (nI uu), .int v, .null, .null, .ref h.1]) := by rw [← hH1, hset_get, if_pos rfl]
  have a4 : ∀ j, j < q ∨ q + 4 ≤ j → H1.2.2 j = h.2.2 j := fun j hj => by rw [← hH1, hset_get, if_neg (by omega), hnew_get, if_neg (by omega)]
  have a5 : H1.2.2 (q + 1) = some (ia 0 32 fun _ => 0) := by rw [← hH1, hset_get, if_neg (by omega), hnew_get, if_pos (by omega)]
  clear hH1
  have p0 : ¬ q = H1.1 := by omega
  have p2 : ¬ 2 = H1.1 := by omega
  have p4 : ¬ 4 = H1.1 := by omega
  have c2 : H1.2.2 2 = some (ob 5 [.ref 3, .ref 4, .int (nI n)]) := by rw [a4 2 (by omega)]; exact l0
  have c4 : H1.2.2 4 = some (ia 0 8 Y) := by rw [a4 4 (by omega)]; exact ly
  simp (disch := omega) only [rq_X8_init_40, rq_X8_init_43, rq_X8_init_44, rq_X8_init_45, rq_X8_init_48, rq_X8_init_50, xo_aload, xo_oinit, xo_const, xo_newi, xo_putf, xo_getf, xo_iload, xo_if2, xo_istore, xo_bin, xo_iinc, xo_goto, xo_vret, Cnt_l, Cnt_r, Knt_v, Knt_n, run_ite, CCall, callOk, xrecv, initLo, nl, List.map_cons, List.map_nil, List.length_cons, List.length_nil, List.replicate, List.append_nil, List.nil_append, List.cons_append, List.getElem?_cons_zero, List.getElem?_cons_succ, List.set_cons_zero, List.set_cons_succ, List.take_succ_cons, List.take_zero, List.drop_succ_cons, List.drop_zero, List.reverse_cons, List.reverse_nil, List.getLast?_cons_cons, List.getLast?_singleton, List.all_cons, List.all_nil, List.sum_cons, List.sum_nil, Value.category, xcat1, xintV, Bool.cond_decide, cond_true, cond_false, ite_not, if_true, if_false, ite_self, beq_self_eq_true, Bool.and_true, Bool.true_and, Bool.and_self, decide_true, decide_false, true_and, and_true, and_self, not_false_eq_true, not_true_eq_false, Nat.reduceLeDiff, Nat.reduceAdd, Nat.reduceSub, Nat.reduceEqDiff, Nat.reduceLT, Nat.reduceBEq, ne_eq, hset_get, reduceIte, reduceCtorEq, Nat.le_refl, Nat.zero_le, Nat.reduceMul, or_tl, or_tr, i01, i10, bI_eq0, bI_eq1, bft, bI_z, bI_t, bI_f, bI_nar, nar0, nar1, a3, c2, c4, hnew_get, p0, p2, p4, m2, m4]
  rw [c_copyOf (f := Y) (by simp only [hset_get, hnew_get, m4, p4, if_false]; exact c4)]
  generalize hH2 : hset (hnew H1 8 (ia 0 8 X)) q _ = H2
  have b1 : H2.1 = q + 3 := by rw [← hH2]; show H1.1 + 1 = q + 3; omega
  have b2 : H2.2.1 = h.2.1 + 40 := by rw [← hH2]; show H1.2.1 + 8 = _; omega
  have b3 : H2.2.2 q = some (ob 8 [.int (nI n), .int (nI uu), .int v, .ref H1.1, .null, .ref h.1]) := by rw [← hH2, hset_get, if_pos rfl]
  have b4 : ∀ j, j < q ∨ q + 4 ≤ j → H2.2.2 j = h.2.2 j := fun j hj => by rw [← hH2, hset_get, if_neg (by omega), hnew_get, if_neg (by omega)]; exact a4 j hj
  have b5 : H2.2.2 (q + 1) = some (ia 0 32 fun _ => 0) := by rw [← hH2, hset_get, if_neg (by omega), hnew_get, if_neg (by omega)]; exact a5
  have b6 : H2.2.2 (q + 2) = some (ia 0 8 X) := by rw [← hH2, hset_get, if_neg (by omega), hnew_get, if_pos (by omega)]
  clear hH2
  have p0 : ¬ q = H2.1 := by omega
  rw [a1, hq] at b3
  simp (disch := omega) only [rq_X8_init_53, rq_X8_init_56, rq_X8_init_57, rq_X8_init_60, rq_X8_init_61, xo_aload, xo_oinit, xo_const, xo_newi, xo_putf, xo_getf, xo_iload, xo_if2, xo_istore, xo_bin, xo_iinc, xo_goto, xo_vret, Cnt_l, Cnt_r, Knt_v, Knt_n, run_ite, CCall, callOk, xrecv, initLo, nl, List.map_cons, List.map_nil, List.length_cons, List.length_nil, List.replicate, List.append_nil, List.nil_append, List.cons_append, List.getElem?_cons_zero, List.getElem?_cons_succ, List.set_cons_zero, List.set_cons_succ, List.take_succ_cons, List.take_zero, List.drop_succ_cons, List.drop_zero, List.reverse_cons, List.reverse_nil, List.getLast?_cons_cons, List.getLast?_singleton, List.all_cons, List.all_nil, List.sum_cons, List.sum_nil, Value.category, xcat1, xintV, Bool.cond_decide, cond_true, cond_false, ite_not, if_true, if_false, ite_self, beq_self_eq_true, Bool.and_true, Bool.true_and, Bool.and_self, decide_true, decide_false, true_and, and_true, and_self, not_false_eq_true, not_true_eq_false, Nat.reduceLeDiff, Nat.reduceAdd, Nat.reduceSub, Nat.reduceEqDiff, Nat.reduceLT, Nat.reduceBEq, ne_eq, hset_get, reduceIte, reduceCtorEq, Nat.le_refl, Nat.zero_le, Nat.reduceMul, or_tl, or_tr, i01, i10, bI_eq0, bI_eq1, bft, bI_z, bI_t, bI_f, bI_nar, nar0, nar1, b3, hnew_get, p0]
  generalize hH3 : hset (hnew H2 8 (ia 0 8 Y)) q _ = H3
  have d1 : H3.1 = q + 4 := by rw [← hH3]; show H2.1 + 1 = q + 4; omega
  have d2 : H3.2.1 = h.2.1 + 48 := by rw [← hH3]; show H2.2.1 + 8 = _; omega
  have d3 : H3.2.2 q = some (ob 8 [.int (nI n), .int (nI uu), .int v, .ref (q + 2), .ref (q + 3), .ref (q + 1)]) := by rw [← hH3, hset_get, if_pos rfl, b1]
  have d4 : ∀ j, j < q ∨ q + 4 ≤ j → H3.2.2 j = h.2.2 j := fun j hj => by rw [← hH3, hset_get, if_neg (by omega), hnew_get, if_neg (by omega)]; exact b4 j hj
  have d5 : H3.2.2 (q + 1) = some (ia 0 32 fun _ => 0) := by rw [← hH3, hset_get, if_neg (by omega), hnew_get, if_neg (by omega)]; exact b5
  have d6 : H3.2.2 (q + 2) = some (ia 0 8 X) := by rw [← hH3, hset_get, if_neg (by omega), hnew_get, if_neg (by omega)]; exact b6
  have d7 : H3.2.2 (q + 3) = some (ia 0 8 Y) := by rw [← hH3, hset_get, if_neg (by omega), hnew_get, if_pos (by omega)]
  clear hH3
  have fin : ∀ g, Q none (hset H3 (q + 1) (ia 0 32 g)) ∨ g ≠ cstrI n uu vv v x y := by
    intro g
    by_cases e : g = cstrI n uu vv v x y
    · refine Or.inl (hQ _ d1 d2 ?_ ?_ ?_ ?_ ?_)
      · rw [hset_get, if_neg (by omega)]; exact d3
      · rw [hset_get, if_neg (by omega)]; exact d6
      · rw [hset_get, if_neg (by omega)]; exact d7
      · rw [hset_get, if_pos rfl, e]
      · intro j hj; rw [hset_get, if_neg (by omega)]; exact d4 j hj
    · exact Or.inr e
  have fin : Q none (hset H3 (q + 1) (ia 0 32 (cstrI n uu vv v x y))) := (fin _).resolve_right (fun z => z rfl)
  have hq1 : ¬ q = q + 1 := by omega
  have hq2' : ¬ q + 2 = q + 1 := by omega
  have hq3 : ¬ q + 3 = q + 1 := by omega
  by_cases h1 : n = 1
  · simp (disch := omega) only [rq_X8_init_64, rq_X8_init_65, rq_X8_init_66, rq_X8_init_67, xo_aload, xo_oinit, xo_const, xo_newi, xo_putf, xo_getf, xo_iload, xo_if2, xo_istore, xo_bin, xo_iinc, xo_goto, xo_vret, Cnt_l, Cnt_r, Knt_v, Knt_n, run_ite, CCall, callOk, xrecv, initLo, nl, List.map_cons, List.map_nil, List.length_cons, List.length_nil, List.replicate, List.append_nil, List.nil_append, List.cons_append, List.getElem?_cons_zero, List.getElem?_cons_succ, List.set_cons_zero, List.set_cons_succ, List.take_succ_cons, List.take_zero, List.drop_succ_cons, List.drop_zero, List.reverse_cons, List.reverse_nil, List.getLast?_cons_cons, List.getLast?_singleton, List.all_cons, List.all_nil, List.sum_cons, List.sum_nil, Value.category, xcat1, xintV, Bool.cond_decide, cond_true, cond_false, ite_not, if_true, if_false, ite_self, beq_self_eq_true, Bool.and_true, Bool.true_and, Bool.and_self, decide_true, decide_false, true_and, and_true, and_self, not_false_eq_true, not_true_eq_false, Nat.reduceLeDiff, Nat.reduceAdd, Nat.reduceSub, Nat.reduceEqDiff, Nat.reduceLT, Nat.reduceBEq, ne_eq, hset_get, reduceIte, reduceCtorEq, Nat.le_refl, Nat.zero_le, Nat.reduceMul, or_tl, or_tr, i01, i10, bI_eq0, bI_eq1, bft, bI_z, bI_t, bI_f, bI_nar, nar0, nar1, nq_eql_1, eq_true h1, d3]
    rw [← hset_id d5]
    have hc := c_inkBetween d3 d6 d7 hq1 hq2' hq3 (Knt 43 70 [some (.ref q), some (.ref 2), some (.int (nI uu)), some (.int v), none] [] Q) (i := 0) (j := 0) (by omega) (by omega) (ex 0 (by omega)).1 (ex 0 (by omega)).1 (ey 0 (by omega)).1 (ey 0 (by omega)).1 (ex 0 (by omega)).2 (ex 0 (by omega)).2 (ey 0 (by omega)).2 (ey 0 (by omega)).2 rfl ev bu bv (fun _ => 0)
    refine Eq.mpr hc ?_
    simp (disch := omega) only [rq_X8_init_70, rq_X8_init_71, xo_aload, xo_oinit, xo_const, xo_newi, xo_putf, xo_getf, xo_iload, xo_if2, xo_istore, xo_bin, xo_iinc, xo_goto, xo_vret, Cnt_l, Cnt_r, Knt_v, Knt_n, run_ite, CCall, callOk, xrecv, initLo, nl, List.map_cons, List.map_nil, List.length_cons, List.length_nil, List.replicate, List.append_nil, List.nil_append, List.cons_append, List.getElem?_cons_zero, List.getElem?_cons_succ, List.set_cons_zero, List.set_cons_succ, List.take_succ_cons, List.take_zero, List.drop_succ_cons, List.drop_zero, List.reverse_cons, List.reverse_nil, List.getLast?_cons_cons, List.getLast?_singleton, List.all_cons, List.all_nil, List.sum_cons, List.sum_nil, Value.category, xcat1, xintV, Bool.cond_decide, cond_true, cond_false, ite_not, if_true, if_false, ite_self, beq_self_eq_true, Bool.and_true, Bool.true_and, Bool.and_self, decide_true, decide_false, true_and, and_true, and_self, not_false_eq_true, not_true_eq_false, Nat.reduceLeDiff, Nat.reduceAdd, Nat.reduceSub, Nat.reduceEqDiff, Nat.reduceLT, Nat.reduceBEq, ne_eq, hset_get, reduceIte, reduceCtorEq, Nat.le_refl, Nat.zero_le, Nat.reduceMul, or_tl, or_tr, i01, i10, bI_eq0, bI_eq1, bft, bI_z, bI_t, bI_f, bI_nar, nar0, nar1]
    refine Eq.mpr (l_strokeLoop d3 d6 d7 hn1 hn ex ey ev bu bv _ _ _ (cstepF uu vv v x y 0 0 (fun _ => 0)) Q (n - 1) 0 (by omega)) ?_
    unfold cstrI at fin
    rw [if_pos h1] at fin
    exact fin
  · simp (disch := omega) only [rq_X8_init_70, rq_X8_init_71, xo_aload, xo_oinit, xo_const, xo_newi, xo_putf, xo_getf, xo_iload, xo_if2, xo_istore, xo_bin, xo_iinc, xo_goto, xo_vret, Cnt_l, Cnt_r, Knt_v, Knt_n, run_ite, CCall, callOk, xrecv, initLo, nl, List.map_cons, List.map_nil, List.length_cons, List.length_nil, List.replicate, List.append_nil, List.nil_append, List.cons_append, List.getElem?_cons_zero, List.getElem?_cons_succ, List.set_cons_zero, List.set_cons_succ, List.take_succ_cons, List.take_zero, List.drop_succ_cons, List.drop_zero, List.reverse_cons, List.reverse_nil, List.getLast?_cons_cons, List.getLast?_singleton, List.all_cons, List.all_nil, List.sum_cons, List.sum_nil, Value.category, xcat1, xintV, Bool.cond_decide, cond_true, cond_false, ite_not, if_true, if_false, ite_self, beq_self_eq_true, Bool.and_true, Bool.true_and, Bool.and_self, decide_true, decide_false, true_and, and_true, and_self, not_false_eq_true, not_true_eq_false, Nat.reduceLeDiff, Nat.reduceAdd, Nat.reduceSub, Nat.reduceEqDiff, Nat.reduceLT, Nat.reduceBEq, ne_eq, hset_get, reduceIte, reduceCtorEq, Nat.le_refl, Nat.zero_le, Nat.reduceMul, or_tl, or_tr, i01, i10, bI_eq0, bI_eq1, bft, bI_z, bI_t, bI_f, bI_nar, nar0, nar1, nq_eql_1, h1]
    rw [← hset_id d5]
    refine Eq.mpr (l_strokeLoop d3 d6 d7 hn1 hn ex ey ev bu bv _ _ _ (fun _ => 0) Q (n - 1) 0 (by omega)) ?_
    unfold cstrI at fin
    rw [if_neg h1] at fin
    exact fin
end CS
