/-! new objects: the reference -/
def I0m : Nat → Nat → Int32 := fun _ i => if i = 0 then 2 else if i = 1 then -2 else if i = 13 then 4 else if i = 22 then -9 else 0
def PR (z : Nat → Option AE) (n : Nat) (f : Nat → Option AE) : Prop := (∀ c e, c < n → ¬ c = 24 → msh I0m (fun _ _ => 0) c = some e → f c = some e) ∧ (∀ c, c < 24 → f c = z c) ∧ ∀ c, 40 ≤ c → f c = none
section N
variable {s : Nat} {f : Nat → Option AE} {Q : Option Value → Hp → Prop} {z : Nat → Option AE}
theorem r_i17 (s0 : f 24 = some (ob 10 [.int 2, .int (-2), .int 0, .ref 25, .ref 26, .ref 27, .ref 28, .ref 29, .ref 30, .ref 31, .ref 32, .ref 33, .ref 34, .int 4, .ref 35, .ref 36, .int 0, .ref 37, .int 0, .int 0, .int 0, .ref 38, .int (-9), .ref 39])) (p : PR z 40 f) (hQ : ∀ s' f', s' ≤ s → PR z 40 f' → f' 24 = some (ob 10 [.int 2, .int (-2), .int 0, .ref 25, .ref 26, .ref 27, .ref 28, .ref 29, .ref 30, .ref 31, .ref 32, .ref 33, .ref 34, .int 4, .ref 35, .ref 36, .int 0, .ref 37, .int 0, .int 0, .int 0, .ref 38, .int (-9), .ref 39]) → Q none (40, s', f')) : Run 110 154 [some (.ref 24)] [] (40, s, f) Q := by
  simp (disch := omega) only [rq_X10_init_154, xo_aload, xo_oinit, xo_const, xo_putf, xo_newi, xo_vret, Cnt_l, Cnt_r, Knt_v, Knt_n, run_ite, CCall, callOk, xrecv, initLo, nl, List.map_cons, List.map_nil, List.length_cons, List.length_nil, List.replicate, List.append_nil, List.nil_append, List.cons_append, List.getElem?_cons_zero, List.getElem?_cons_succ, List.set_cons_zero, List.set_cons_succ, List.take_succ_cons, List.take_zero, List.drop_succ_cons, List.drop_zero, List.reverse_cons, List.reverse_nil, List.getLast?_cons_cons, List.getLast?_singleton, List.all_cons, List.all_nil, List.sum_cons, List.sum_nil, Value.category, xcat1, xintV, Bool.cond_decide, cond_true, cond_false, ite_not, if_true, if_false, ite_self, beq_self_eq_true, Bool.and_true, Bool.true_and, Bool.and_self, decide_true, decide_false, true_and, and_true, and_self, not_false_eq_true, not_true_eq_false, Nat.reduceLeDiff, Nat.reduceAdd, Nat.reduceSub, Nat.reduceEqDiff, Nat.reduceLT, Nat.reduceBEq, ne_eq, hset_get, reduceIte, reduceCtorEq, Nat.le_refl, Nat.zero_le, Nat.reduceMul, or_tl, or_tr, i01, i10, bI_eq0, bI_eq1, bft, bI_z, bI_t, bI_f, bI_nar, nar0, nar1]
  exact hQ _ _ (Nat.le_refl _) p s0
theorem r_i16 (s0 : f 24 = some (ob 10 [.int 2, .int (-2), .int 0, .ref 25, .ref 26, .ref 27, .ref 28, .ref 29, .ref 30, .ref 31, .ref 32, .ref 33, .ref 34, .int 4, .ref 35, .ref 36, .int 0, .ref 37, .int 0, .int 0, .int 0, .ref 38, .int (-9), .null])) (p : PR z 39 f) (hQ : ∀ s' f', s' ≤ s + 64 → PR z 40 f' → f' 24 = some (ob 10 [.int 2, .int (-2), .int 0, .ref 25, .ref 26, .ref 27, .ref 28, .ref 29, .ref 30, .ref 31, .ref 32, .ref 33, .ref 34, .int 4, .ref 35, .ref 36, .int 0, .ref 37, .int 0, .int 0, .int 0, .ref 38, .int (-9), .ref 39]) → Q none (40, s', f')) : Run 110 146 [some (.ref 24)] [] (39, s, f) Q := by
  have i6 : ((64 : Int32) < 0) = False := by simp
  have t6 : ((64 : Int32)).toNatClampNeg = 64 := nq_cl (n := 64) (by omega)
  simp (disch := omega) only [rq_X10_init_146, rq_X10_init_147, rq_X10_init_149, rq_X10_init_151, xo_aload, xo_oinit, xo_const, xo_putf, xo_newi, xo_vret, Cnt_l, Cnt_r, Knt_v, Knt_n, run_ite, CCall, callOk, xrecv, initLo, nl, List.map_cons, List.map_nil, List.length_cons, List.length_nil, List.replicate, List.append_nil, List.nil_append, List.cons_append, List.getElem?_cons_zero, List.getElem?_cons_succ, List.set_cons_zero, List.set_cons_succ, List.take_succ_cons, List.take_zero, List.drop_succ_cons, List.drop_zero, List.reverse_cons, List.reverse_nil, List.getLast?_cons_cons, List.getLast?_singleton, List.all_cons, List.all_nil, List.sum_cons, List.sum_nil, Value.category, xcat1, xintV, Bool.cond_decide, cond_true, cond_false, ite_not, if_true, if_false, ite_self, beq_self_eq_true, Bool.and_true, Bool.true_and, Bool.and_self, decide_true, decide_false, true_and, and_true, and_self, not_false_eq_true, not_true_eq_false, Nat.reduceLeDiff, Nat.reduceAdd, Nat.reduceSub, Nat.reduceEqDiff, Nat.reduceLT, Nat.reduceBEq, ne_eq, hset_get, reduceIte, reduceCtorEq, Nat.le_refl, Nat.zero_le, Nat.reduceMul, or_tl, or_tr, i01, i10, bI_eq0, bI_eq1, bft, bI_z, bI_t, bI_f, bI_nar, nar0, nar1, s0, i6, t6, hnewT, hsetT, vT_at, Nat.reduceAdd]
  refine r_i17 rfl ⟨fun c e hc h1 he => ?_, fun c hc => ?_, fun c hc => ?_⟩ (fun s' f' hs => hQ s' f' (by omega))
  · by_cases cl : c < 39
    · rw [← p.1 c e cl h1 he]
      simp only [vT_at]
      repeat rw [if_neg (by omega)]
    · rcases (show c = 39 by omega) with rfl
      cases he; rfl
  · rw [← p.2.1 c hc]
    simp only [vT_at]
    repeat rw [if_neg (by omega)]
  · rw [← p.2.2 c hc]
    simp only [vT_at]
    repeat rw [if_neg (by omega)]
theorem r_i15 (s0 : f 24 = some (ob 10 [.int 2, .int (-2), .int 0, .ref 25, .ref 26, .ref 27, .ref 28, .ref 29, .ref 30, .ref 31, .ref 32, .ref 33, .ref 34, .int 4, .ref 35, .ref 36, .int 0, .ref 37, .int 0, .int 0, .int 0, .ref 38, .int 0, .null])) (p : PR z 39 f) (hQ : ∀ s' f', s' ≤ s + 64 → PR z 40 f' → f' 24 = some (ob 10 [.int 2, .int (-2), .int 0, .ref 25, .ref 26, .ref 27, .ref 28, .ref 29, .ref 30, .ref 31, .ref 32, .ref 33, .ref 34, .int 4, .ref 35, .ref 36, .int 0, .ref 37, .int 0, .int 0, .int 0, .ref 38, .int (-9), .ref 39]) → Q none (40, s', f')) : Run 110 140 [some (.ref 24)] [] (39, s, f) Q := by
  simp (disch := omega) only [rq_X10_init_140, rq_X10_init_141, rq_X10_init_143, xo_aload, xo_oinit, xo_const, xo_putf, xo_newi, xo_vret, Cnt_l, Cnt_r, Knt_v, Knt_n, run_ite, CCall, callOk, xrecv, initLo, nl, List.map_cons, List.map_nil, List.length_cons, List.length_nil, List.replicate, List.append_nil, List.nil_append, List.cons_append, List.getElem?_cons_zero, List.getElem?_cons_succ, List.set_cons_zero, List.set_cons_succ, List.take_succ_cons, List.take_zero, List.drop_succ_cons, List.drop_zero, List.reverse_cons, List.reverse_nil, List.getLast?_cons_cons, List.getLast?_singleton, List.all_cons, List.all_nil, List.sum_cons, List.sum_nil, Value.category, xcat1, xintV, Bool.cond_decide, cond_true, cond_false, ite_not, if_true, if_false, ite_self, beq_self_eq_true, Bool.and_true, Bool.true_and, Bool.and_self, decide_true, decide_false, true_and, and_true, and_self, not_false_eq_true, not_true_eq_false, Nat.reduceLeDiff, Nat.reduceAdd, Nat.reduceSub, Nat.reduceEqDiff, Nat.reduceLT, Nat.reduceBEq, ne_eq, hset_get, reduceIte, reduceCtorEq, Nat.le_refl, Nat.zero_le, Nat.reduceMul, or_tl, or_tr, i01, i10, bI_eq0, bI_eq1, bft, bI_z, bI_t, bI_f, bI_nar, nar0, nar1, s0, hnewT, hsetT, vT_at, Nat.reduceAdd]
  refine r_i16 rfl ⟨fun c e hc h1 he => ?_, fun c hc => ?_, fun c hc => ?_⟩ (fun s' f' hs => hQ s' f' (by omega))
  · rw [← p.1 c e hc h1 he]
    simp only [vT_at]
    repeat rw [if_neg (by omega)]
  · rw [← p.2.1 c hc]
    simp only [vT_at]
    repeat rw [if_neg (by omega)]
  · rw [← p.2.2 c hc]
    simp only [vT_at]
    repeat rw [if_neg (by omega)]
theorem r_i14 (s0 : f 24 = some (ob 10 [.int 2, .int (-2), .int 0, .ref 25, .ref 26, .ref 27, .ref 28, .ref 29, .ref 30, .ref 31, .ref 32, .ref 33, .ref 34, .int 4, .ref 35, .ref 36, .int 0, .ref 37, .int 0, .int 0, .int 0, .null, .int 0, .null])) (p : PR z 38 f) (hQ : ∀ s' f', s' ≤ s + 90 → PR z 40 f' → f' 24 = some (ob 10 [.int 2, .int (-2), .int 0, .ref 25, .ref 26, .ref 27, .ref 28, .ref 29, .ref 30, .ref 31, .ref 32, .ref 33, .ref 34, .int 4, .ref 35, .ref 36, .int 0, .ref 37, .int 0, .int 0, .int 0, .ref 38, .int (-9), .ref 39]) → Q none (40, s', f')) : Run 110 132 [some (.ref 24)] [] (38, s, f) Q := by
  have i6 : ((26 : Int32) < 0) = False := by simp
  have t6 : ((26 : Int32)).toNatClampNeg = 26 := nq_cl (n := 26) (by omega)
  simp (disch := omega) only [rq_X10_init_132, rq_X10_init_133, rq_X10_init_135, rq_X10_init_137, xo_aload, xo_oinit, xo_const, xo_putf, xo_newi, xo_vret, Cnt_l, Cnt_r, Knt_v, Knt_n, run_ite, CCall, callOk, xrecv, initLo, nl, List.map_cons, List.map_nil, List.length_cons, List.length_nil, List.replicate, List.append_nil, List.nil_append, List.cons_append, List.getElem?_cons_zero, List.getElem?_cons_succ, List.set_cons_zero, List.set_cons_succ, List.take_succ_cons, List.take_zero, List.drop_succ_cons, List.drop_zero, List.reverse_cons, List.reverse_nil, List.getLast?_cons_cons, List.getLast?_singleton, List.all_cons, List.all_nil, List.sum_cons, List.sum_nil, Value.category, xcat1, xintV, Bool.cond_decide, cond_true, cond_false, ite_not, if_true, if_false, ite_self, beq_self_eq_true, Bool.and_true, Bool.true_and, Bool.and_self, decide_true, decide_false, true_and, and_true, and_self, not_false_eq_true, not_true_eq_false, Nat.reduceLeDiff, Nat.reduceAdd, Nat.reduceSub, Nat.reduceEqDiff, Nat.reduceLT, Nat.reduceBEq, ne_eq, hset_get, reduceIte, reduceCtorEq, Nat.le_refl, Nat.zero_le, Nat.reduceMul, or_tl, or_tr, i01, i10, bI_eq0, bI_eq1, bft, bI_z, bI_t, bI_f, bI_nar, nar0, nar1, s0, i6, t6, hnewT, hsetT, vT_at, Nat.reduceAdd]
  refine r_i15 rfl ⟨fun c e hc h1 he => ?_, fun c hc => ?_, fun c hc => ?_⟩ (fun s' f' hs => hQ s' f' (by omega))
  · by_cases cl : c < 38
    · rw [← p.1 c e cl h1 he]
      simp only [vT_at]
      repeat rw [if_neg (by omega)]
    · rcases (show c = 38 by omega) with rfl
      cases he; rfl
  · rw [← p.2.1 c hc]
    simp only [vT_at]
    repeat rw [if_neg (by omega)]
  · rw [← p.2.2 c hc]
    simp only [vT_at]
    repeat rw [if_neg (by omega)]
theorem r_i13 (s0 : f 24 = some (ob 10 [.int 2, .int (-2), .int 0, .ref 25, .ref 26, .ref 27, .ref 28, .ref 29, .ref 30, .ref 31, .ref 32, .ref 33, .ref 34, .int 4, .ref 35, .ref 36, .int 0, .null, .int 0, .int 0, .int 0, .null, .int 0, .null])) (p : PR z 37 f) (hQ : ∀ s' f', s' ≤ s + 252 → PR z 40 f' → f' 24 = some (ob 10 [.int 2, .int (-2), .int 0, .ref 25, .ref 26, .ref 27, .ref 28, .ref 29, .ref 30, .ref 31, .ref 32, .ref 33, .ref 34, .int 4, .ref 35, .ref 36, .int 0, .ref 37, .int 0, .int 0, .int 0, .ref 38, .int (-9), .ref 39]) → Q none (40, s', f')) : Run 110 123 [some (.ref 24)] [] (37, s, f) Q := by
  have i6 : ((162 : Int32) < 0) = False := by simp
  have t6 : ((162 : Int32)).toNatClampNeg = 162 := nq_cl (n := 162) (by omega)
  simp (disch := omega) only [rq_X10_init_123, rq_X10_init_124, rq_X10_init_127, rq_X10_init_129, xo_aload, xo_oinit, xo_const, xo_putf, xo_newi, xo_vret, Cnt_l, Cnt_r, Knt_v, Knt_n, run_ite, CCall, callOk, xrecv, initLo, nl, List.map_cons, List.map_nil, List.length_cons, List.length_nil, List.replicate, List.append_nil, List.nil_append, List.cons_append, List.getElem?_cons_zero, List.getElem?_cons_succ, List.set_cons_zero, List.set_cons_succ, List.take_succ_cons, List.take_zero, List.drop_succ_cons, List.drop_zero, List.reverse_cons, List.reverse_nil, List.getLast?_cons_cons, List.getLast?_singleton, List.all_cons, List.all_nil, List.sum_cons, List.sum_nil, Value.category, xcat1, xintV, Bool.cond_decide, cond_true, cond_false, ite_not, if_true, if_false, ite_self, beq_self_eq_true, Bool.and_true, Bool.true_and, Bool.and_self, decide_true, decide_false, true_and, and_true, and_self, not_false_eq_true, not_true_eq_false, Nat.reduceLeDiff, Nat.reduceAdd, Nat.reduceSub, Nat.reduceEqDiff, Nat.reduceLT, Nat.reduceBEq, ne_eq, hset_get, reduceIte, reduceCtorEq, Nat.le_refl, Nat.zero_le, Nat.reduceMul, or_tl, or_tr, i01, i10, bI_eq0, bI_eq1, bft, bI_z, bI_t, bI_f, bI_nar, nar0, nar1, s0, i6, t6, hnewT, hsetT, vT_at, Nat.reduceAdd]
  refine r_i14 rfl ⟨fun c e hc h1 he => ?_, fun c hc => ?_, fun c hc => ?_⟩ (fun s' f' hs => hQ s' f' (by omega))
  · by_cases cl : c < 37
    · rw [← p.1 c e cl h1 he]
      simp only [vT_at]
      repeat rw [if_neg (by omega)]
    · rcases (show c = 37 by omega) with rfl
      cases he; rfl
  · rw [← p.2.1 c hc]
    simp only [vT_at]
    repeat rw [if_neg (by omega)]
  · rw [← p.2.2 c hc]
    simp only [vT_at]
    repeat rw [if_neg (by omega)]
theorem r_i12 (s0 : f 24 = some (ob 10 [.int 2, .int (-2), .int 0, .ref 25, .ref 26, .ref 27, .ref 28, .ref 29, .ref 30, .ref 31, .ref 32, .ref 33, .ref 34, .int 4, .ref 35, .null, .int 0, .null, .int 0, .int 0, .int 0, .null, .int 0, .null])) (p : PR z 36 f) (hQ : ∀ s' f', s' ≤ s + 1276 → PR z 40 f' → f' 24 = some (ob 10 [.int 2, .int (-2), .int 0, .ref 25, .ref 26, .ref 27, .ref 28, .ref 29, .ref 30, .ref 31, .ref 32, .ref 33, .ref 34, .int 4, .ref 35, .ref 36, .int 0, .ref 37, .int 0, .int 0, .int 0, .ref 38, .int (-9), .ref 39]) → Q none (40, s', f')) : Run 110 114 [some (.ref 24)] [] (36, s, f) Q := by
  have i6 : ((1024 : Int32) < 0) = False := by simp
  have t6 : ((1024 : Int32)).toNatClampNeg = 1024 := nq_cl (n := 1024) (by omega)
  simp (disch := omega) only [rq_X10_init_114, rq_X10_init_115, rq_X10_init_118, rq_X10_init_120, xo_aload, xo_oinit, xo_const, xo_putf, xo_newi, xo_vret, Cnt_l, Cnt_r, Knt_v, Knt_n, run_ite, CCall, callOk, xrecv, initLo, nl, List.map_cons, List.map_nil, List.length_cons, List.length_nil, List.replicate, List.append_nil, List.nil_append, List.cons_append, List.getElem?_cons_zero, List.getElem?_cons_succ, List.set_cons_zero, List.set_cons_succ, List.take_succ_cons, List.take_zero, List.drop_succ_cons, List.drop_zero, List.reverse_cons, List.reverse_nil, List.getLast?_cons_cons, List.getLast?_singleton, List.all_cons, List.all_nil, List.sum_cons, List.sum_nil, Value.category, xcat1, xintV, Bool.cond_decide, cond_true, cond_false, ite_not, if_true, if_false, ite_self, beq_self_eq_true, Bool.and_true, Bool.true_and, Bool.and_self, decide_true, decide_false, true_and, and_true, and_self, not_false_eq_true, not_true_eq_false, Nat.reduceLeDiff, Nat.reduceAdd, Nat.reduceSub, Nat.reduceEqDiff, Nat.reduceLT, Nat.reduceBEq, ne_eq, hset_get, reduceIte, reduceCtorEq, Nat.le_refl, Nat.zero_le, Nat.reduceMul, or_tl, or_tr, i01, i10, bI_eq0, bI_eq1, bft, bI_z, bI_t, bI_f, bI_nar, nar0, nar1, s0, i6, t6, hnewT, hsetT, vT_at, Nat.reduceAdd]
  refine r_i13 rfl ⟨fun c e hc h1 he => ?_, fun c hc => ?_, fun c hc => ?_⟩ (fun s' f' hs => hQ s' f' (by omega))
  · by_cases cl : c < 36
    · rw [← p.1 c e cl h1 he]
      simp only [vT_at]
      repeat rw [if_neg (by omega)]
    · rcases (show c = 36 by omega) with rfl
      cases he; rfl
  · rw [← p.2.1 c hc]
    simp only [vT_at]
    repeat rw [if_neg (by omega)]
  · rw [← p.2.2 c hc]
    simp only [vT_at]
    repeat rw [if_neg (by omega)]
theorem r_i11 (s0 : f 24 = some (ob 10 [.int 2, .int (-2), .int 0, .ref 25, .ref 26, .ref 27, .ref 28, .ref 29, .ref 30, .ref 31, .ref 32, .ref 33, .ref 34, .int 4, .null, .null, .int 0, .null, .int 0, .int 0, .int 0, .null, .int 0, .null])) (p : PR z 35 f) (hQ : ∀ s' f', s' ≤ s + 2300 → PR z 40 f' → f' 24 = some (ob 10 [.int 2, .int (-2), .int 0, .ref 25, .ref 26, .ref 27, .ref 28, .ref 29, .ref 30, .ref 31, .ref 32, .ref 33, .ref 34, .int 4, .ref 35, .ref 36, .int 0, .ref 37, .int 0, .int 0, .int 0, .ref 38, .int (-9), .ref 39]) → Q none (40, s', f')) : Run 110 105 [some (.ref 24)] [] (35, s, f) Q := by
  have i6 : ((1024 : Int32) < 0) = False := by simp
  have t6 : ((1024 : Int32)).toNatClampNeg = 1024 := nq_cl (n := 1024) (by omega)
  simp (disch := omega) only [rq_X10_init_105, rq_X10_init_106, rq_X10_init_109, rq_X10_init_111, xo_aload, xo_oinit, xo_const, xo_putf, xo_newi, xo_vret, Cnt_l, Cnt_r, Knt_v, Knt_n, run_ite, CCall, callOk, xrecv, initLo, nl, List.map_cons, List.map_nil, List.length_cons, List.length_nil, List.replicate, List.append_nil, List.nil_append, List.cons_append, List.getElem?_cons_zero, List.getElem?_cons_succ, List.set_cons_zero, List.set_cons_succ, List.take_succ_cons, List.take_zero, List.drop_succ_cons, List.drop_zero, List.reverse_cons, List.reverse_nil, List.getLast?_cons_cons, List.getLast?_singleton, List.all_cons, List.all_nil, List.sum_cons, List.sum_nil, Value.category, xcat1, xintV, Bool.cond_decide, cond_true, cond_false, ite_not, if_true, if_false, ite_self, beq_self_eq_true, Bool.and_true, Bool.true_and, Bool.and_self, decide_true, decide_false, true_and, and_true, and_self, not_false_eq_true, not_true_eq_false, Nat.reduceLeDiff, Nat.reduceAdd, Nat.reduceSub, Nat.reduceEqDiff, Nat.reduceLT, Nat.reduceBEq, ne_eq, hset_get, reduceIte, reduceCtorEq, Nat.le_refl, Nat.zero_le, Nat.reduceMul, or_tl, or_tr, i01, i10, bI_eq0, bI_eq1, bft, bI_z, bI_t, bI_f, bI_nar, nar0, nar1, s0, i6, t6, hnewT, hsetT, vT_at, Nat.reduceAdd]
  refine r_i12 rfl ⟨fun c e hc h1 he => ?_, fun c hc => ?_, fun c hc => ?_⟩ (fun s' f' hs => hQ s' f' (by omega))
  · by_cases cl : c < 35
    · rw [← p.1 c e cl h1 he]
      simp only [vT_at]
      repeat rw [if_neg (by omega)]
    · rcases (show c = 35 by omega) with rfl
      cases he; rfl
  · rw [← p.2.1 c hc]
    simp only [vT_at]
    repeat rw [if_neg (by omega)]
  · rw [← p.2.2 c hc]
    simp only [vT_at]
    repeat rw [if_neg (by omega)]
theorem r_i10 (s0 : f 24 = some (ob 10 [.int 2, .int (-2), .int 0, .ref 25, .ref 26, .ref 27, .ref 28, .ref 29, .ref 30, .ref 31, .ref 32, .ref 33, .ref 34, .int 0, .null, .null, .int 0, .null, .int 0, .int 0, .int 0, .null, .int 0, .null])) (p : PR z 35 f) (hQ : ∀ s' f', s' ≤ s + 2300 → PR z 40 f' → f' 24 = some (ob 10 [.int 2, .int (-2), .int 0, .ref 25, .ref 26, .ref 27, .ref 28, .ref 29, .ref 30, .ref 31, .ref 32, .ref 33, .ref 34, .int 4, .ref 35, .ref 36, .int 0, .ref 37, .int 0, .int 0, .int 0, .ref 38, .int (-9), .ref 39]) → Q none (40, s', f')) : Run 110 100 [some (.ref 24)] [] (35, s, f) Q := by
  simp (disch := omega) only [rq_X10_init_100, rq_X10_init_101, rq_X10_init_102, xo_aload, xo_oinit, xo_const, xo_putf, xo_newi, xo_vret, Cnt_l, Cnt_r, Knt_v, Knt_n, run_ite, CCall, callOk, xrecv, initLo, nl, List.map_cons, List.map_nil, List.length_cons, List.length_nil, List.replicate, List.append_nil, List.nil_append, List.cons_append, List.getElem?_cons_zero, List.getElem?_cons_succ, List.set_cons_zero, List.set_cons_succ, List.take_succ_cons, List.take_zero, List.drop_succ_cons, List.drop_zero, List.reverse_cons, List.reverse_nil, List.getLast?_cons_cons, List.getLast?_singleton, List.all_cons, List.all_nil, List.sum_cons, List.sum_nil, Value.category, xcat1, xintV, Bool.cond_decide, cond_true, cond_false, ite_not, if_true, if_false, ite_self, beq_self_eq_true, Bool.and_true, Bool.true_and, Bool.and_self, decide_true, decide_false, true_and, and_true, and_self, not_false_eq_true, not_true_eq_false, Nat.reduceLeDiff, Nat.reduceAdd, Nat.reduceSub, Nat.reduceEqDiff, Nat.reduceLT, Nat.reduceBEq, ne_eq, hset_get, reduceIte, reduceCtorEq, Nat.le_refl, Nat.zero_le, Nat.reduceMul, or_tl, or_tr, i01, i10, bI_eq0, bI_eq1, bft, bI_z, bI_t, bI_f, bI_nar, nar0, nar1, s0, hnewT, hsetT, vT_at, Nat.reduceAdd]
  refine r_i11 rfl ⟨fun c e hc h1 he => ?_, fun c hc => ?_, fun c hc => ?_⟩ (fun s' f' hs => hQ s' f' (by omega))
  · rw [← p.1 c e hc h1 he]
    simp only [vT_at]
    repeat rw [if_neg (by omega)]
  · rw [← p.2.1 c hc]
    simp only [vT_at]
    repeat rw [if_neg (by omega)]
  · rw [← p.2.2 c hc]
    simp only [vT_at]
    repeat rw [if_neg (by omega)]
theorem r_i9 (s0 : f 24 = some (ob 10 [.int 2, .int (-2), .int 0, .ref 25, .ref 26, .ref 27, .ref 28, .ref 29, .ref 30, .ref 31, .ref 32, .ref 33, .null, .int 0, .null, .null, .int 0, .null, .int 0, .int 0, .int 0, .null, .int 0, .null])) (p : PR z 34 f) (hQ : ∀ s' f', s' ≤ s + 2332 → PR z 40 f' → f' 24 = some (ob 10 [.int 2, .int (-2), .int 0, .ref 25, .ref 26, .ref 27, .ref 28, .ref 29, .ref 30, .ref 31, .ref 32, .ref 33, .ref 34, .int 4, .ref 35, .ref 36, .int 0, .ref 37, .int 0, .int 0, .int 0, .ref 38, .int (-9), .ref 39]) → Q none (40, s', f')) : Run 110 92 [some (.ref 24)] [] (34, s, f) Q := by
  have i6 : ((32 : Int32) < 0) = False := by simp
  have t6 : ((32 : Int32)).toNatClampNeg = 32 := nq_cl (n := 32) (by omega)
  simp (disch := omega) only [rq_X10_init_92, rq_X10_init_93, rq_X10_init_95, rq_X10_init_97, xo_aload, xo_oinit, xo_const, xo_putf, xo_newi, xo_vret, Cnt_l, Cnt_r, Knt_v, Knt_n, run_ite, CCall, callOk, xrecv, initLo, nl, List.map_cons, List.map_nil, List.length_cons, List.length_nil, List.replicate, List.append_nil, List.nil_append, List.cons_append, List.getElem?_cons_zero, List.getElem?_cons_succ, List.set_cons_zero, List.set_cons_succ, List.take_succ_cons, List.take_zero, List.drop_succ_cons, List.drop_zero, List.reverse_cons, List.reverse_nil, List.getLast?_cons_cons, List.getLast?_singleton, List.all_cons, List.all_nil, List.sum_cons, List.sum_nil, Value.category, xcat1, xintV, Bool.cond_decide, cond_true, cond_false, ite_not, if_true, if_false, ite_self, beq_self_eq_true, Bool.and_true, Bool.true_and, Bool.and_self, decide_true, decide_false, true_and, and_true, and_self, not_false_eq_true, not_true_eq_false, Nat.reduceLeDiff, Nat.reduceAdd, Nat.reduceSub, Nat.reduceEqDiff, Nat.reduceLT, Nat.reduceBEq, ne_eq, hset_get, reduceIte, reduceCtorEq, Nat.le_refl, Nat.zero_le, Nat.reduceMul, or_tl, or_tr, i01, i10, bI_eq0, bI_eq1, bft, bI_z, bI_t, bI_f, bI_nar, nar0, nar1, s0, i6, t6, hnewT, hsetT, vT_at, Nat.reduceAdd]
  refine r_i10 rfl ⟨fun c e hc h1 he => ?_, fun c hc => ?_, fun c hc => ?_⟩ (fun s' f' hs => hQ s' f' (by omega))
  · by_cases cl : c < 34
    · rw [← p.1 c e cl h1 he]
      simp only [vT_at]
      repeat rw [if_neg (by omega)]
    · rcases (show c = 34 by omega) with rfl
      cases he; rfl
  · rw [← p.2.1 c hc]
    simp only [vT_at]
    repeat rw [if_neg (by omega)]
  · rw [← p.2.2 c hc]
    simp only [vT_at]
    repeat rw [if_neg (by omega)]
theorem r_i8 (s0 : f 24 = some (ob 10 [.int 2, .int (-2), .int 0, .ref 25, .ref 26, .ref 27, .ref 28, .ref 29, .ref 30, .ref 31, .ref 32, .null, .null, .int 0, .null, .null, .int 0, .null, .int 0, .int 0, .int 0, .null, .int 0, .null])) (p : PR z 33 f) (hQ : ∀ s' f', s' ≤ s + 2364 → PR z 40 f' → f' 24 = some (ob 10 [.int 2, .int (-2), .int 0, .ref 25, .ref 26, .ref 27, .ref 28, .ref 29, .ref 30, .ref 31, .ref 32, .ref 33, .ref 34, .int 4, .ref 35, .ref 36, .int 0, .ref 37, .int 0, .int 0, .int 0, .ref 38, .int (-9), .ref 39]) → Q none (40, s', f')) : Run 110 84 [some (.ref 24)] [] (33, s, f) Q := by
  have i6 : ((32 : Int32) < 0) = False := by simp
  have t6 : ((32 : Int32)).toNatClampNeg = 32 := nq_cl (n := 32) (by omega)
  simp (disch := omega) only [rq_X10_init_84, rq_X10_init_85, rq_X10_init_87, rq_X10_init_89, xo_aload, xo_oinit, xo_const, xo_putf, xo_newi, xo_vret, Cnt_l, Cnt_r, Knt_v, Knt_n, run_ite, CCall, callOk, xrecv, initLo, nl, List.map_cons, List.map_nil, List.length_cons, List.length_nil, List.replicate, List.append_nil, List.nil_append, List.cons_append, List.getElem?_cons_zero, List.getElem?_cons_succ, List.set_cons_zero, List.set_cons_succ, List.take_succ_cons, List.take_zero, List.drop_succ_cons, List.drop_zero, List.reverse_cons, List.reverse_nil, List.getLast?_cons_cons, List.getLast?_singleton, List.all_cons, List.all_nil, List.sum_cons, List.sum_nil, Value.category, xcat1, xintV, Bool.cond_decide, cond_true, cond_false, ite_not, if_true, if_false, ite_self, beq_self_eq_true, Bool.and_true, Bool.true_and, Bool.and_self, decide_true, decide_false, true_and, and_true, and_self, not_false_eq_true, not_true_eq_false, Nat.reduceLeDiff, Nat.reduceAdd, Nat.reduceSub, Nat.reduceEqDiff, Nat.reduceLT, Nat.reduceBEq, ne_eq, hset_get, reduceIte, reduceCtorEq, Nat.le_refl, Nat.zero_le, Nat.reduceMul, or_tl, or_tr, i01, i10, bI_eq0, bI_eq1, bft, bI_z, bI_t, bI_f, bI_nar, nar0, nar1, s0, i6, t6, hnewT, hsetT, vT_at, Nat.reduceAdd]
  refine r_i9 rfl ⟨fun c e hc h1 he => ?_, fun c hc => ?_, fun c hc => ?_⟩ (fun s' f' hs => hQ s' f' (by omega))
  · by_cases cl : c < 33
    · rw [← p.1 c e cl h1 he]
      simp only [vT_at]
      repeat rw [if_neg (by omega)]
    · rcases (show c = 33 by omega) with rfl
      cases he; rfl
  · rw [← p.2.1 c hc]
    simp only [vT_at]
    repeat rw [if_neg (by omega)]
  · rw [← p.2.2 c hc]
    simp only [vT_at]
    repeat rw [if_neg (by omega)]
theorem r_i7 (s0 : f 24 = some (ob 10 [.int 2, .int (-2), .int 0, .ref 25, .ref 26, .ref 27, .ref 28, .ref 29, .ref 30, .ref 31, .null, .null, .null, .int 0, .null, .null, .int 0, .null, .int 0, .int 0, .int 0, .null, .int 0, .null])) (p : PR z 32 f) (hQ : ∀ s' f', s' ≤ s + 3660 → PR z 40 f' → f' 24 = some (ob 10 [.int 2, .int (-2), .int 0, .ref 25, .ref 26, .ref 27, .ref 28, .ref 29, .ref 30, .ref 31, .ref 32, .ref 33, .ref 34, .int 4, .ref 35, .ref 36, .int 0, .ref 37, .int 0, .int 0, .int 0, .ref 38, .int (-9), .ref 39]) → Q none (40, s', f')) : Run 110 75 [some (.ref 24)] [] (32, s, f) Q := by
  have i6 : ((1296 : Int32) < 0) = False := by simp
  have t6 : ((1296 : Int32)).toNatClampNeg = 1296 := nq_cl (n := 1296) (by omega)
  simp (disch := omega) only [rq_X10_init_75, rq_X10_init_76, rq_X10_init_79, rq_X10_init_81, xo_aload, xo_oinit, xo_const, xo_putf, xo_newi, xo_vret, Cnt_l, Cnt_r, Knt_v, Knt_n, run_ite, CCall, callOk, xrecv, initLo, nl, List.map_cons, List.map_nil, List.length_cons, List.length_nil, List.replicate, List.append_nil, List.nil_append, List.cons_append, List.getElem?_cons_zero, List.getElem?_cons_succ, List.set_cons_zero, List.set_cons_succ, List.take_succ_cons, List.take_zero, List.drop_succ_cons, List.drop_zero, List.reverse_cons, List.reverse_nil, List.getLast?_cons_cons, List.getLast?_singleton, List.all_cons, List.all_nil, List.sum_cons, List.sum_nil, Value.category, xcat1, xintV, Bool.cond_decide, cond_true, cond_false, ite_not, if_true, if_false, ite_self, beq_self_eq_true, Bool.and_true, Bool.true_and, Bool.and_self, decide_true, decide_false, true_and, and_true, and_self, not_false_eq_true, not_true_eq_false, Nat.reduceLeDiff, Nat.reduceAdd, Nat.reduceSub, Nat.reduceEqDiff, Nat.reduceLT, Nat.reduceBEq, ne_eq, hset_get, reduceIte, reduceCtorEq, Nat.le_refl, Nat.zero_le, Nat.reduceMul, or_tl, or_tr, i01, i10, bI_eq0, bI_eq1, bft, bI_z, bI_t, bI_f, bI_nar, nar0, nar1, s0, i6, t6, hnewT, hsetT, vT_at, Nat.reduceAdd]
  refine r_i8 rfl ⟨fun c e hc h1 he => ?_, fun c hc => ?_, fun c hc => ?_⟩ (fun s' f' hs => hQ s' f' (by omega))
  · by_cases cl : c < 32
    · rw [← p.1 c e cl h1 he]
      simp only [vT_at]
      repeat rw [if_neg (by omega)]
    · rcases (show c = 32 by omega) with rfl
      cases he; rfl
  · rw [← p.2.1 c hc]
    simp only [vT_at]
    repeat rw [if_neg (by omega)]
  · rw [← p.2.2 c hc]
    simp only [vT_at]
    repeat rw [if_neg (by omega)]
theorem r_i6 (s0 : f 24 = some (ob 10 [.int 2, .int (-2), .int 0, .ref 25, .ref 26, .ref 27, .ref 28, .ref 29, .ref 30, .null, .null, .null, .null, .int 0, .null, .null, .int 0, .null, .int 0, .int 0, .int 0, .null, .int 0, .null])) (p : PR z 31 f) (hQ : ∀ s' f', s' ≤ s + 4956 → PR z 40 f' → f' 24 = some (ob 10 [.int 2, .int (-2), .int 0, .ref 25, .ref 26, .ref 27, .ref 28, .ref 29, .ref 30, .ref 31, .ref 32, .ref 33, .ref 34, .int 4, .ref 35, .ref 36, .int 0, .ref 37, .int 0, .int 0, .int 0, .ref 38, .int (-9), .ref 39]) → Q none (40, s', f')) : Run 110 66 [some (.ref 24)] [] (31, s, f) Q := by
  have i6 : ((1296 : Int32) < 0) = False := by simp
  have t6 : ((1296 : Int32)).toNatClampNeg = 1296 := nq_cl (n := 1296) (by omega)
  simp (disch := omega) only [rq_X10_init_66, rq_X10_init_67, rq_X10_init_70, rq_X10_init_72, xo_aload, xo_oinit, xo_const, xo_putf, xo_newi, xo_vret, Cnt_l, Cnt_r, Knt_v, Knt_n, run_ite, CCall, callOk, xrecv, initLo, nl, List.map_cons, List.map_nil, List.length_cons, List.length_nil, List.replicate, List.append_nil, List.nil_append, List.cons_append, List.getElem?_cons_zero, List.getElem?_cons_succ, List.set_cons_zero, List.set_cons_succ, List.take_succ_cons, List.take_zero, List.drop_succ_cons, List.drop_zero, List.reverse_cons, List.reverse_nil, List.getLast?_cons_cons, List.getLast?_singleton, List.all_cons, List.all_nil, List.sum_cons, List.sum_nil, Value.category, xcat1, xintV, Bool.cond_decide, cond_true, cond_false, ite_not, if_true, if_false, ite_self, beq_self_eq_true, Bool.and_true, Bool.true_and, Bool.and_self, decide_true, decide_false, true_and, and_true, and_self, not_false_eq_true, not_true_eq_false, Nat.reduceLeDiff, Nat.reduceAdd, Nat.reduceSub, Nat.reduceEqDiff, Nat.reduceLT, Nat.reduceBEq, ne_eq, hset_get, reduceIte, reduceCtorEq, Nat.le_refl, Nat.zero_le, Nat.reduceMul, or_tl, or_tr, i01, i10, bI_eq0, bI_eq1, bft, bI_z, bI_t, bI_f, bI_nar, nar0, nar1, s0, i6, t6, hnewT, hsetT, vT_at, Nat.reduceAdd]
  refine r_i7 rfl ⟨fun c e hc h1 he => ?_, fun c hc => ?_, fun c hc => ?_⟩ (fun s' f' hs => hQ s' f' (by omega))
  · by_cases cl : c < 31
    · rw [← p.1 c e cl h1 he]
      simp only [vT_at]
      repeat rw [if_neg (by omega)]
    · rcases (show c = 31 by omega) with rfl
      cases he; rfl
  · rw [← p.2.1 c hc]
    simp only [vT_at]
    repeat rw [if_neg (by omega)]
  · rw [← p.2.2 c hc]
    simp only [vT_at]
    repeat rw [if_neg (by omega)]
theorem r_i5 (s0 : f 24 = some (ob 10 [.int 2, .int (-2), .int 0, .ref 25, .ref 26, .ref 27, .ref 28, .ref 29, .null, .null, .null, .null, .null, .int 0, .null, .null, .int 0, .null, .int 0, .int 0, .int 0, .null, .int 0, .null])) (p : PR z 30 f) (hQ : ∀ s' f', s' ≤ s + 5118 → PR z 40 f' → f' 24 = some (ob 10 [.int 2, .int (-2), .int 0, .ref 25, .ref 26, .ref 27, .ref 28, .ref 29, .ref 30, .ref 31, .ref 32, .ref 33, .ref 34, .int 4, .ref 35, .ref 36, .int 0, .ref 37, .int 0, .int 0, .int 0, .ref 38, .int (-9), .ref 39]) → Q none (40, s', f')) : Run 110 57 [some (.ref 24)] [] (30, s, f) Q := by
  have i6 : ((162 : Int32) < 0) = False := by simp
  have t6 : ((162 : Int32)).toNatClampNeg = 162 := nq_cl (n := 162) (by omega)
  simp (disch := omega) only [rq_X10_init_57, rq_X10_init_58, rq_X10_init_61, rq_X10_init_63, xo_aload, xo_oinit, xo_const, xo_putf, xo_newi, xo_vret, Cnt_l, Cnt_r, Knt_v, Knt_n, run_ite, CCall, callOk, xrecv, initLo, nl, List.map_cons, List.map_nil, List.length_cons, List.length_nil, List.replicate, List.append_nil, List.nil_append, List.cons_append, List.getElem?_cons_zero, List.getElem?_cons_succ, List.set_cons_zero, List.set_cons_succ, List.take_succ_cons, List.take_zero, List.drop_succ_cons, List.drop_zero, List.reverse_cons, List.reverse_nil, List.getLast?_cons_cons, List.getLast?_singleton, List.all_cons, List.all_nil, List.sum_cons, List.sum_nil, Value.category, xcat1, xintV, Bool.cond_decide, cond_true, cond_false, ite_not, if_true, if_false, ite_self, beq_self_eq_true, Bool.and_true, Bool.true_and, Bool.and_self, decide_true, decide_false, true_and, and_true, and_self, not_false_eq_true, not_true_eq_false, Nat.reduceLeDiff, Nat.reduceAdd, Nat.reduceSub, Nat.reduceEqDiff, Nat.reduceLT, Nat.reduceBEq, ne_eq, hset_get, reduceIte, reduceCtorEq, Nat.le_refl, Nat.zero_le, Nat.reduceMul, or_tl, or_tr, i01, i10, bI_eq0, bI_eq1, bft, bI_z, bI_t, bI_f, bI_nar, nar0, nar1, s0, i6, t6, hnewT, hsetT, vT_at, Nat.reduceAdd]
  refine r_i6 rfl ⟨fun c e hc h1 he => ?_, fun c hc => ?_, fun c hc => ?_⟩ (fun s' f' hs => hQ s' f' (by omega))
  · by_cases cl : c < 30
    · rw [← p.1 c e cl h1 he]
      simp only [vT_at]
      repeat rw [if_neg (by omega)]
    · rcases (show c = 30 by omega) with rfl
      cases he; rfl
  · rw [← p.2.1 c hc]
    simp only [vT_at]
    repeat rw [if_neg (by omega)]
  · rw [← p.2.2 c hc]
    simp only [vT_at]
    repeat rw [if_neg (by omega)]
theorem r_i4 (s0 : f 24 = some (ob 10 [.int 2, .int (-2), .int 0, .ref 25, .ref 26, .ref 27, .ref 28, .null, .null, .null, .null, .null, .null, .int 0, .null, .null, .int 0, .null, .int 0, .int 0, .int 0, .null, .int 0, .null])) (p : PR z 29 f) (hQ : ∀ s' f', s' ≤ s + 5280 → PR z 40 f' → f' 24 = some (ob 10 [.int 2, .int (-2), .int 0, .ref 25, .ref 26, .ref 27, .ref 28, .ref 29, .ref 30, .ref 31, .ref 32, .ref 33, .ref 34, .int 4, .ref 35, .ref 36, .int 0, .ref 37, .int 0, .int 0, .int 0, .ref 38, .int (-9), .ref 39]) → Q none (40, s', f')) : Run 110 48 [some (.ref 24)] [] (29, s, f) Q := by
  have i6 : ((162 : Int32) < 0) = False := by simp
  have t6 : ((162 : Int32)).toNatClampNeg = 162 := nq_cl (n := 162) (by omega)
  simp (disch := omega) only [rq_X10_init_48, rq_X10_init_49, rq_X10_init_52, rq_X10_init_54, xo_aload, xo_oinit, xo_const, xo_putf, xo_newi, xo_vret, Cnt_l, Cnt_r, Knt_v, Knt_n, run_ite, CCall, callOk, xrecv, initLo, nl, List.map_cons, List.map_nil, List.length_cons, List.length_nil, List.replicate, List.append_nil, List.nil_append, List.cons_append, List.getElem?_cons_zero, List.getElem?_cons_succ, List.set_cons_zero, List.set_cons_succ, List.take_succ_cons, List.take_zero, List.drop_succ_cons, List.drop_zero, List.reverse_cons, List.reverse_nil, List.getLast?_cons_cons, List.getLast?_singleton, List.all_cons, List.all_nil, List.sum_cons, List.sum_nil, Value.category, xcat1, xintV, Bool.cond_decide, cond_true, cond_false, ite_not, if_true, if_false, ite_self, beq_self_eq_true, Bool.and_true, Bool.true_and, Bool.and_self, decide_true, decide_false, true_and, and_true, and_self, not_false_eq_true, not_true_eq_false, Nat.reduceLeDiff, Nat.reduceAdd, Nat.reduceSub, Nat.reduceEqDiff, Nat.reduceLT, Nat.reduceBEq, ne_eq, hset_get, reduceIte, reduceCtorEq, Nat.le_refl, Nat.zero_le, Nat.reduceMul, or_tl, or_tr, i01, i10, bI_eq0, bI_eq1, bft, bI_z, bI_t, bI_f, bI_nar, nar0, nar1, s0, i6, t6, hnewT, hsetT, vT_at, Nat.reduceAdd]
  refine r_i5 rfl ⟨fun c e hc h1 he => ?_, fun c hc => ?_, fun c hc => ?_⟩ (fun s' f' hs => hQ s' f' (by omega))
  · by_cases cl : c < 29
    · rw [← p.1 c e cl h1 he]
      simp only [vT_at]
      repeat rw [if_neg (by omega)]
    · rcases (show c = 29 by omega) with rfl
      cases he; rfl
  · rw [← p.2.1 c hc]
    simp only [vT_at]
    repeat rw [if_neg (by omega)]
  · rw [← p.2.2 c hc]
    simp only [vT_at]
    repeat rw [if_neg (by omega)]
theorem r_i3 (s0 : f 24 = some (ob 10 [.int 2, .int (-2), .int 0, .ref 25, .ref 26, .ref 27, .null, .null, .null, .null, .null, .null, .null, .int 0, .null, .null, .int 0, .null, .int 0, .int 0, .int 0, .null, .int 0, .null])) (p : PR z 28 f) (hQ : ∀ s' f', s' ≤ s + 5442 → PR z 40 f' → f' 24 = some (ob 10 [.int 2, .int (-2), .int 0, .ref 25, .ref 26, .ref 27, .ref 28, .ref 29, .ref 30, .ref 31, .ref 32, .ref 33, .ref 34, .int 4, .ref 35, .ref 36, .int 0, .ref 37, .int 0, .int 0, .int 0, .ref 38, .int (-9), .ref 39]) → Q none (40, s', f')) : Run 110 39 [some (.ref 24)] [] (28, s, f) Q := by
  have i6 : ((162 : Int32) < 0) = False := by simp
  have t6 : ((162 : Int32)).toNatClampNeg = 162 := nq_cl (n := 162) (by omega)
  simp (disch := omega) only [rq_X10_init_39, rq_X10_init_40, rq_X10_init_43, rq_X10_init_45, xo_aload, xo_oinit, xo_const, xo_putf, xo_newi, xo_vret, Cnt_l, Cnt_r, Knt_v, Knt_n, run_ite, CCall, callOk, xrecv, initLo, nl, List.map_cons, List.map_nil, List.length_cons, List.length_nil, List.replicate, List.append_nil, List.nil_append, List.cons_append, List.getElem?_cons_zero, List.getElem?_cons_succ, List.set_cons_zero, List.set_cons_succ, List.take_succ_cons, List.take_zero, List.drop_succ_cons, List.drop_zero, List.reverse_cons, List.reverse_nil, List.getLast?_cons_cons, List.getLast?_singleton, List.all_cons, List.all_nil, List.sum_cons, List.sum_nil, Value.category, xcat1, xintV, Bool.cond_decide, cond_true, cond_false, ite_not, if_true, if_false, ite_self, beq_self_eq_true, Bool.and_true, Bool.true_and, Bool.and_self, decide_true, decide_false, true_and, and_true, and_self, not_false_eq_true, not_true_eq_false, Nat.reduceLeDiff, Nat.reduceAdd, Nat.reduceSub, Nat.reduceEqDiff, Nat.reduceLT, Nat.reduceBEq, ne_eq, hset_get, reduceIte, reduceCtorEq, Nat.le_refl, Nat.zero_le, Nat.reduceMul, or_tl, or_tr, i01, i10, bI_eq0, bI_eq1, bft, bI_z, bI_t, bI_f, bI_nar, nar0, nar1, s0, i6, t6, hnewT, hsetT, vT_at, Nat.reduceAdd]
  refine r_i4 rfl ⟨fun c e hc h1 he => ?_, fun c hc => ?_, fun c hc => ?_⟩ (fun s' f' hs => hQ s' f' (by omega))
  · by_cases cl : c < 28
    · rw [← p.1 c e cl h1 he]
      simp only [vT_at]
      repeat rw [if_neg (by omega)]
    · rcases (show c = 28 by omega) with rfl
      cases he; rfl
  · rw [← p.2.1 c hc]
    simp only [vT_at]
    repeat rw [if_neg (by omega)]
  · rw [← p.2.2 c hc]
    simp only [vT_at]
    repeat rw [if_neg (by omega)]
theorem r_i2 (s0 : f 24 = some (ob 10 [.int 2, .int (-2), .int 0, .ref 25, .ref 26, .null, .null, .null, .null, .null, .null, .null, .null, .int 0, .null, .null, .int 0, .null, .int 0, .int 0, .int 0, .null, .int 0, .null])) (p : PR z 27 f) (hQ : ∀ s' f', s' ≤ s + 5469 → PR z 40 f' → f' 24 = some (ob 10 [.int 2, .int (-2), .int 0, .ref 25, .ref 26, .ref 27, .ref 28, .ref 29, .ref 30, .ref 31, .ref 32, .ref 33, .ref 34, .int 4, .ref 35, .ref 36, .int 0, .ref 37, .int 0, .int 0, .int 0, .ref 38, .int (-9), .ref 39]) → Q none (40, s', f')) : Run 110 31 [some (.ref 24)] [] (27, s, f) Q := by
  have i6 : ((27 : Int32) < 0) = False := by simp
  have t6 : ((27 : Int32)).toNatClampNeg = 27 := nq_cl (n := 27) (by omega)
  simp (disch := omega) only [rq_X10_init_31, rq_X10_init_32, rq_X10_init_34, rq_X10_init_36, xo_aload, xo_oinit, xo_const, xo_putf, xo_newi, xo_vret, Cnt_l, Cnt_r, Knt_v, Knt_n, run_ite, CCall, callOk, xrecv, initLo, nl, List.map_cons, List.map_nil, List.length_cons, List.length_nil, List.replicate, List.append_nil, List.nil_append, List.cons_append, List.getElem?_cons_zero, List.getElem?_cons_succ, List.set_cons_zero, List.set_cons_succ, List.take_succ_cons, List.take_zero, List.drop_succ_cons, List.drop_zero, List.reverse_cons, List.reverse_nil, List.getLast?_cons_cons, List.getLast?_singleton, List.all_cons, List.all_nil, List.sum_cons, List.sum_nil, Value.category, xcat1, xintV, Bool.cond_decide, cond_true, cond_false, ite_not, if_true, if_false, ite_self, beq_self_eq_true, Bool.and_true, Bool.true_and, Bool.and_self, decide_true, decide_false, true_and, and_true, and_self, not_false_eq_true, not_true_eq_false, Nat.reduceLeDiff, Nat.reduceAdd, Nat.reduceSub, Nat.reduceEqDiff, Nat.reduceLT, Nat.reduceBEq, ne_eq, hset_get, reduceIte, reduceCtorEq, Nat.le_refl, Nat.zero_le, Nat.reduceMul, or_tl, or_tr, i01, i10, bI_eq0, bI_eq1, bft, bI_z, bI_t, bI_f, bI_nar, nar0, nar1, s0, i6, t6, hnewT, hsetT, vT_at, Nat.reduceAdd]
  refine r_i3 rfl ⟨fun c e hc h1 he => ?_, fun c hc => ?_, fun c hc => ?_⟩ (fun s' f' hs => hQ s' f' (by omega))
  · by_cases cl : c < 27
    · rw [← p.1 c e cl h1 he]
      simp only [vT_at]
      repeat rw [if_neg (by omega)]
    · rcases (show c = 27 by omega) with rfl
      cases he; rfl
  · rw [← p.2.1 c hc]
    simp only [vT_at]
    repeat rw [if_neg (by omega)]
  · rw [← p.2.2 c hc]
    simp only [vT_at]
    repeat rw [if_neg (by omega)]
theorem r_i1 (s0 : f 24 = some (ob 10 [.int 2, .int (-2), .int 0, .ref 25, .null, .null, .null, .null, .null, .null, .null, .null, .null, .int 0, .null, .null, .int 0, .null, .int 0, .int 0, .int 0, .null, .int 0, .null])) (p : PR z 26 f) (hQ : ∀ s' f', s' ≤ s + 5477 → PR z 40 f' → f' 24 = some (ob 10 [.int 2, .int (-2), .int 0, .ref 25, .ref 26, .ref 27, .ref 28, .ref 29, .ref 30, .ref 31, .ref 32, .ref 33, .ref 34, .int 4, .ref 35, .ref 36, .int 0, .ref 37, .int 0, .int 0, .int 0, .ref 38, .int (-9), .ref 39]) → Q none (40, s', f')) : Run 110 23 [some (.ref 24)] [] (26, s, f) Q := by
  have i6 : ((8 : Int32) < 0) = False := by simp
  have t6 : ((8 : Int32)).toNatClampNeg = 8 := nq_cl (n := 8) (by omega)
  simp (disch := omega) only [rq_X10_init_23, rq_X10_init_24, rq_X10_init_26, rq_X10_init_28, xo_aload, xo_oinit, xo_const, xo_putf, xo_newi, xo_vret, Cnt_l, Cnt_r, Knt_v, Knt_n, run_ite, CCall, callOk, xrecv, initLo, nl, List.map_cons, List.map_nil, List.length_cons, List.length_nil, List.replicate, List.append_nil, List.nil_append, List.cons_append, List.getElem?_cons_zero, List.getElem?_cons_succ, List.set_cons_zero, List.set_cons_succ, List.take_succ_cons, List.take_zero, List.drop_succ_cons, List.drop_zero, List.reverse_cons, List.reverse_nil, List.getLast?_cons_cons, List.getLast?_singleton, List.all_cons, List.all_nil, List.sum_cons, List.sum_nil, Value.category, xcat1, xintV, Bool.cond_decide, cond_true, cond_false, ite_not, if_true, if_false, ite_self, beq_self_eq_true, Bool.and_true, Bool.true_and, Bool.and_self, decide_true, decide_false, true_and, and_true, and_self, not_false_eq_true, not_true_eq_false, Nat.reduceLeDiff, Nat.reduceAdd, Nat.reduceSub, Nat.reduceEqDiff, Nat.reduceLT, Nat.reduceBEq, ne_eq, hset_get, reduceIte, reduceCtorEq, Nat.le_refl, Nat.zero_le, Nat.reduceMul, or_tl, or_tr, i01, i10, bI_eq0, bI_eq1, bft, bI_z, bI_t, bI_f, bI_nar, nar0, nar1, s0, i6, t6, hnewT, hsetT, vT_at, Nat.reduceAdd]
  refine r_i2 rfl ⟨fun c e hc h1 he => ?_, fun c hc => ?_, fun c hc => ?_⟩ (fun s' f' hs => hQ s' f' (by omega))
  · by_cases cl : c < 26
    · rw [← p.1 c e cl h1 he]
      simp only [vT_at]
      repeat rw [if_neg (by omega)]
    · rcases (show c = 26 by omega) with rfl
      cases he; rfl
  · rw [← p.2.1 c hc]
    simp only [vT_at]
    repeat rw [if_neg (by omega)]
  · rw [← p.2.2 c hc]
    simp only [vT_at]
    repeat rw [if_neg (by omega)]
theorem r_i0 (s0 : f 24 = some (ob 10 [.int 2, .int (-2), .int 0, .null, .null, .null, .null, .null, .null, .null, .null, .null, .null, .int 0, .null, .null, .int 0, .null, .int 0, .int 0, .int 0, .null, .int 0, .null])) (p : PR z 25 f) (hQ : ∀ s' f', s' ≤ s + 5485 → PR z 40 f' → f' 24 = some (ob 10 [.int 2, .int (-2), .int 0, .ref 25, .ref 26, .ref 27, .ref 28, .ref 29, .ref 30, .ref 31, .ref 32, .ref 33, .ref 34, .int 4, .ref 35, .ref 36, .int 0, .ref 37, .int 0, .int 0, .int 0, .ref 38, .int (-9), .ref 39]) → Q none (40, s', f')) : Run 110 15 [some (.ref 24)] [] (25, s, f) Q := by
  have i6 : ((8 : Int32) < 0) = False := by simp
  have t6 : ((8 : Int32)).toNatClampNeg = 8 := nq_cl (n := 8) (by omega)
  simp (disch := omega) only [rq_X10_init_15, rq_X10_init_16, rq_X10_init_18, rq_X10_init_20, xo_aload, xo_oinit, xo_const, xo_putf, xo_newi, xo_vret, Cnt_l, Cnt_r, Knt_v, Knt_n, run_ite, CCall, callOk, xrecv, initLo, nl, List.map_cons, List.map_nil, List.length_cons, List.length_nil, List.replicate, List.append_nil, List.nil_append, List.cons_append, List.getElem?_cons_zero, List.getElem?_cons_succ, List.set_cons_zero, List.set_cons_succ, List.take_succ_cons, List.take_zero, List.drop_succ_cons, List.drop_zero, List.reverse_cons, List.reverse_nil, List.getLast?_cons_cons, List.getLast?_singleton, List.all_cons, List.all_nil, List.sum_cons, List.sum_nil, Value.category, xcat1, xintV, Bool.cond_decide, cond_true, cond_false, ite_not, if_true, if_false, ite_self, beq_self_eq_true, Bool.and_true, Bool.true_and, Bool.and_self, decide_true, decide_false, true_and, and_true, and_self, not_false_eq_true, not_true_eq_false, Nat.reduceLeDiff, Nat.reduceAdd, Nat.reduceSub, Nat.reduceEqDiff, Nat.reduceLT, Nat.reduceBEq, ne_eq, hset_get, reduceIte, reduceCtorEq, Nat.le_refl, Nat.zero_le, Nat.reduceMul, or_tl, or_tr, i01, i10, bI_eq0, bI_eq1, bft, bI_z, bI_t, bI_f, bI_nar, nar0, nar1, s0, i6, t6, hnewT, hsetT, vT_at, Nat.reduceAdd]
  refine r_i1 rfl ⟨fun c e hc h1 he => ?_, fun c hc => ?_, fun c hc => ?_⟩ (fun s' f' hs => hQ s' f' (by omega))
  · by_cases cl : c < 25
    · rw [← p.1 c e cl h1 he]
      simp only [vT_at]
      repeat rw [if_neg (by omega)]
    · rcases (show c = 25 by omega) with rfl
      cases he; rfl
  · rw [← p.2.1 c hc]
    simp only [vT_at]
    repeat rw [if_neg (by omega)]
  · rw [← p.2.2 c hc]
    simp only [vT_at]
    repeat rw [if_neg (by omega)]
theorem r_init (s0 : f 24 = some (ob 10 [.int 0, .int 0, .int 0, .null, .null, .null, .null, .null, .null, .null, .null, .null, .null, .int 0, .null, .null, .int 0, .null, .int 0, .int 0, .int 0, .null, .int 0, .null])) (p : PR z 25 f) (hQ : ∀ s' f', s' ≤ s + 5485 → PR z 40 f' → f' 24 = some (ob 10 [.int 2, .int (-2), .int 0, .ref 25, .ref 26, .ref 27, .ref 28, .ref 29, .ref 30, .ref 31, .ref 32, .ref 33, .ref 34, .int 4, .ref 35, .ref 36, .int 0, .ref 37, .int 0, .int 0, .int 0, .ref 38, .int (-9), .ref 39]) → Q none (40, s', f')) : Call 110 [.ref 24] (25, s, f) Q := by
  unfold Call
  simp (disch := omega) only [MT, MT_0, MT_1, MT_2, MT_3, MT_4, MT_5, MT_6, MT_7, MT_8, MT_9, MT_10, MT_11, MT_12, rq_X10_init_0, rq_X10_init_1, rq_X10_init_4, rq_X10_init_5, rq_X10_init_6, rq_X10_init_9, rq_X10_init_10, rq_X10_init_12, xo_aload, xo_oinit, xo_const, xo_putf, xo_newi, xo_vret, Cnt_l, Cnt_r, Knt_v, Knt_n, run_ite, CCall, callOk, xrecv, initLo, nl, List.map_cons, List.map_nil, List.length_cons, List.length_nil, List.replicate, List.append_nil, List.nil_append, List.cons_append, List.getElem?_cons_zero, List.getElem?_cons_succ, List.set_cons_zero, List.set_cons_succ, List.take_succ_cons, List.take_zero, List.drop_succ_cons, List.drop_zero, List.reverse_cons, List.reverse_nil, List.getLast?_cons_cons, List.getLast?_singleton, List.all_cons, List.all_nil, List.sum_cons, List.sum_nil, Value.category, xcat1, xintV, Bool.cond_decide, cond_true, cond_false, ite_not, if_true, if_false, ite_self, beq_self_eq_true, Bool.and_true, Bool.true_and, Bool.and_self, decide_true, decide_false, true_and, and_true, and_self, not_false_eq_true, not_true_eq_false, Nat.reduceLeDiff, Nat.reduceAdd, Nat.reduceSub, Nat.reduceEqDiff, Nat.reduceLT, Nat.reduceBEq, ne_eq, hset_get, reduceIte, reduceCtorEq, Nat.le_refl, Nat.zero_le, Nat.reduceMul, or_tl, or_tr, i01, i10, bI_eq0, bI_eq1, bft, bI_z, bI_t, bI_f, bI_nar, nar0, nar1, s0, hnewT, hsetT, vT_at, Nat.reduceAdd]
  refine r_i0 rfl ⟨fun c e hc h1 he => ?_, fun c hc => ?_, fun c hc => ?_⟩ hQ
  · rw [← p.1 c e hc h1 he]
    simp only [vT_at]
    repeat rw [if_neg (by omega)]
  · rw [← p.2.1 c hc]
    simp only [vT_at]
    repeat rw [if_neg (by omega)]
  · rw [← p.2.2 c hc]
    simp only [vT_at]
    repeat rw [if_neg (by omega)]
end N
