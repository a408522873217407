/-! new objects: the class's own -/
def I0c : Nat → Nat → Int32 := fun c i => if c = 1 then (if i = 0 then 2 else if i = 1 then -2 else if i = 2 then 4 else 0) else if c = 9 then (if i = 1 then -9 else 0) else 0
def PN (z : Option AE) (n : Nat) (f : Nat → Option AE) : Prop := (∀ c e, c < n → ¬ c = 1 → csh I0c (fun _ _ => 0) (fun _ _ => none) c = some e → f c = some e) ∧ f 0 = z ∧ ∀ c, 24 ≤ c → f c = none
section N
variable {s : Nat} {f : Nat → Option AE} {Q : Option Value → Hp → Prop} {z : Option AE}
theorem x_i10 (s0 : f 1 = some (ob 9 [.int 2, .int (-2), .int 4, .ref 2, .ref 5, .ref 7, .ref 9, .ref 11, .ref 12, .ref 13, .ref 16, .ref 18, .ref 19])) (p : PN z 24 f) (hQ : ∀ s' f', s' ≤ s → PN z 24 f' → f' 1 = some (ob 9 [.int 2, .int (-2), .int 4, .ref 2, .ref 5, .ref 7, .ref 9, .ref 11, .ref 12, .ref 13, .ref 16, .ref 18, .ref 19]) → Q none (24, s', f')) : Run 63 124 [some (.ref 1)] [] (24, s, f) Q := by
  simp (disch := omega) only [rq_X9_init_124, xo_aload, xo_oinit, xo_const, xo_putf, xo_new, xo_dup, xo_newi, xo_vret, Cnt_l, Cnt_r, Knt_v, Knt_n, run_ite, CCall, callOk, xrecv, initLo, nl, List.map_cons, List.map_nil, List.length_cons, List.length_nil, List.replicate, List.append_nil, List.nil_append, List.cons_append, List.getElem?_cons_zero, List.getElem?_cons_succ, List.set_cons_zero, List.set_cons_succ, List.take_succ_cons, List.take_zero, List.drop_succ_cons, List.drop_zero, List.reverse_cons, List.reverse_nil, List.getLast?_cons_cons, List.getLast?_singleton, List.all_cons, List.all_nil, List.sum_cons, List.sum_nil, Value.category, xcat1, xintV, Bool.cond_decide, cond_true, cond_false, ite_not, if_true, if_false, ite_self, beq_self_eq_true, Bool.and_true, Bool.true_and, Bool.and_self, decide_true, decide_false, true_and, and_true, and_self, not_false_eq_true, not_true_eq_false, Nat.reduceLeDiff, Nat.reduceAdd, Nat.reduceSub, Nat.reduceEqDiff, Nat.reduceLT, Nat.reduceBEq, ne_eq, hset_get, reduceIte, reduceCtorEq, Nat.le_refl, Nat.zero_le, Nat.reduceMul, or_tl, or_tr, i01, i10, bI_eq0, bI_eq1, bft, bI_z, bI_t, bI_f, bI_nar, nar0, nar1]
  exact hQ _ _ (Nat.le_refl _) p s0
theorem x_i9 (s0 : f 1 = some (ob 9 [.int 2, .int (-2), .int 4, .ref 2, .ref 5, .ref 7, .ref 9, .ref 11, .ref 12, .ref 13, .ref 16, .ref 18, .null])) (p : PN z 19 f) (hQ : ∀ s' f', s' ≤ s + 139 → PN z 24 f' → f' 1 = some (ob 9 [.int 2, .int (-2), .int 4, .ref 2, .ref 5, .ref 7, .ref 9, .ref 11, .ref 12, .ref 13, .ref 16, .ref 18, .ref 19]) → Q none (24, s', f')) : Run 63 113 [some (.ref 1)] [] (19, s, f) Q := by
  simp (disch := omega) only [rq_X9_init_113, rq_X9_init_114, rq_X9_init_117, rq_X9_init_118, xo_aload, xo_oinit, xo_const, xo_putf, xo_new, xo_dup, xo_newi, xo_vret, Cnt_l, Cnt_r, Knt_v, Knt_n, run_ite, CCall, callOk, xrecv, initLo, nl, List.map_cons, List.map_nil, List.length_cons, List.length_nil, List.replicate, List.append_nil, List.nil_append, List.cons_append, List.getElem?_cons_zero, List.getElem?_cons_succ, List.set_cons_zero, List.set_cons_succ, List.take_succ_cons, List.take_zero, List.drop_succ_cons, List.drop_zero, List.reverse_cons, List.reverse_nil, List.getLast?_cons_cons, List.getLast?_singleton, List.all_cons, List.all_nil, List.sum_cons, List.sum_nil, Value.category, xcat1, xintV, Bool.cond_decide, cond_true, cond_false, ite_not, if_true, if_false, ite_self, beq_self_eq_true, Bool.and_true, Bool.true_and, Bool.and_self, decide_true, decide_false, true_and, and_true, and_self, not_false_eq_true, not_true_eq_false, Nat.reduceLeDiff, Nat.reduceAdd, Nat.reduceSub, Nat.reduceEqDiff, Nat.reduceLT, Nat.reduceBEq, ne_eq, hset_get, reduceIte, reduceCtorEq, Nat.le_refl, Nat.zero_le, Nat.reduceMul, or_tl, or_tr, i01, i10, bI_eq0, bI_eq1, bft, bI_z, bI_t, bI_f, bI_nar, nar0, nar1, s0, hnewT, hsetT, vT_at, Nat.reduceAdd]
  refine c_lessonsInit rfl (fun s' f' es e19 e20 e21 e22 e23 eo eh => ?_)
  have e1 := eo 1 (by omega)
  rw [vT_at, if_neg (by omega), s0] at e1
  simp (disch := omega) only [rq_X9_init_121, xo_aload, xo_oinit, xo_const, xo_putf, xo_new, xo_dup, xo_newi, xo_vret, Cnt_l, Cnt_r, Knt_v, Knt_n, run_ite, CCall, callOk, xrecv, initLo, nl, List.map_cons, List.map_nil, List.length_cons, List.length_nil, List.replicate, List.append_nil, List.nil_append, List.cons_append, List.getElem?_cons_zero, List.getElem?_cons_succ, List.set_cons_zero, List.set_cons_succ, List.take_succ_cons, List.take_zero, List.drop_succ_cons, List.drop_zero, List.reverse_cons, List.reverse_nil, List.getLast?_cons_cons, List.getLast?_singleton, List.all_cons, List.all_nil, List.sum_cons, List.sum_nil, Value.category, xcat1, xintV, Bool.cond_decide, cond_true, cond_false, ite_not, if_true, if_false, ite_self, beq_self_eq_true, Bool.and_true, Bool.true_and, Bool.and_self, decide_true, decide_false, true_and, and_true, and_self, not_false_eq_true, not_true_eq_false, Nat.reduceLeDiff, Nat.reduceAdd, Nat.reduceSub, Nat.reduceEqDiff, Nat.reduceLT, Nat.reduceBEq, ne_eq, hset_get, reduceIte, reduceCtorEq, Nat.le_refl, Nat.zero_le, Nat.reduceMul, or_tl, or_tr, i01, i10, bI_eq0, bI_eq1, bft, bI_z, bI_t, bI_f, bI_nar, nar0, nar1, e1, hnewT, hsetT, vT_at, Nat.reduceAdd]
  refine x_i10 rfl ⟨fun c e hc h1 he => ?_, ?_, fun c hc => ?_⟩ (fun s'' f'' hs => hQ s'' f'' (by omega))
  · rw [vT_at, if_neg h1]
    by_cases cl : c < 19
    · rw [eo c cl, vT_at, if_neg (by omega)]; exact p.1 c e cl h1 he
    · rcases (show c = 19 ∨ c = 20 ∨ c = 21 ∨ c = 22 ∨ c = 23 by omega) with rfl | rfl | rfl | rfl | rfl
      · cases he; exact e19
      · cases he; exact e20
      · cases he; exact e21
      · cases he; exact e22
      · cases he; exact e23
  · rw [vT_at, if_neg (by omega), eo 0 (by omega), vT_at, if_neg (by omega)]; exact p.2.1
  · rw [vT_at, if_neg (by omega), eh c hc, vT_at, if_neg (by omega)]; exact p.2.2 c hc
theorem x_i8 (s0 : f 1 = some (ob 9 [.int 2, .int (-2), .int 4, .ref 2, .ref 5, .ref 7, .ref 9, .ref 11, .ref 12, .ref 13, .ref 16, .null, .null])) (p : PN z 18 f) (hQ : ∀ s' f', s' ≤ s + 142 → PN z 24 f' → f' 1 = some (ob 9 [.int 2, .int (-2), .int 4, .ref 2, .ref 5, .ref 7, .ref 9, .ref 11, .ref 12, .ref 13, .ref 16, .ref 18, .ref 19]) → Q none (24, s', f')) : Run 63 102 [some (.ref 1)] [] (18, s, f) Q := by
  simp (disch := omega) only [rq_X9_init_102, rq_X9_init_103, rq_X9_init_106, rq_X9_init_107, xo_aload, xo_oinit, xo_const, xo_putf, xo_new, xo_dup, xo_newi, xo_vret, Cnt_l, Cnt_r, Knt_v, Knt_n, run_ite, CCall, callOk, xrecv, initLo, nl, List.map_cons, List.map_nil, List.length_cons, List.length_nil, List.replicate, List.append_nil, List.nil_append, List.cons_append, List.getElem?_cons_zero, List.getElem?_cons_succ, List.set_cons_zero, List.set_cons_succ, List.take_succ_cons, List.take_zero, List.drop_succ_cons, List.drop_zero, List.reverse_cons, List.reverse_nil, List.getLast?_cons_cons, List.getLast?_singleton, List.all_cons, List.all_nil, List.sum_cons, List.sum_nil, Value.category, xcat1, xintV, Bool.cond_decide, cond_true, cond_false, ite_not, if_true, if_false, ite_self, beq_self_eq_true, Bool.and_true, Bool.true_and, Bool.and_self, decide_true, decide_false, true_and, and_true, and_self, not_false_eq_true, not_true_eq_false, Nat.reduceLeDiff, Nat.reduceAdd, Nat.reduceSub, Nat.reduceEqDiff, Nat.reduceLT, Nat.reduceBEq, ne_eq, hset_get, reduceIte, reduceCtorEq, Nat.le_refl, Nat.zero_le, Nat.reduceMul, or_tl, or_tr, i01, i10, bI_eq0, bI_eq1, bft, bI_z, bI_t, bI_f, bI_nar, nar0, nar1, s0, hnewT, hsetT, vT_at, Nat.reduceAdd]
  refine Eq.mpr (c_fitInit (p := 18) rfl) ?_
  simp (disch := omega) only [rq_X9_init_110, xo_aload, xo_oinit, xo_const, xo_putf, xo_new, xo_dup, xo_newi, xo_vret, Cnt_l, Cnt_r, Knt_v, Knt_n, run_ite, CCall, callOk, xrecv, initLo, nl, List.map_cons, List.map_nil, List.length_cons, List.length_nil, List.replicate, List.append_nil, List.nil_append, List.cons_append, List.getElem?_cons_zero, List.getElem?_cons_succ, List.set_cons_zero, List.set_cons_succ, List.take_succ_cons, List.take_zero, List.drop_succ_cons, List.drop_zero, List.reverse_cons, List.reverse_nil, List.getLast?_cons_cons, List.getLast?_singleton, List.all_cons, List.all_nil, List.sum_cons, List.sum_nil, Value.category, xcat1, xintV, Bool.cond_decide, cond_true, cond_false, ite_not, if_true, if_false, ite_self, beq_self_eq_true, Bool.and_true, Bool.true_and, Bool.and_self, decide_true, decide_false, true_and, and_true, and_self, not_false_eq_true, not_true_eq_false, Nat.reduceLeDiff, Nat.reduceAdd, Nat.reduceSub, Nat.reduceEqDiff, Nat.reduceLT, Nat.reduceBEq, ne_eq, hset_get, reduceIte, reduceCtorEq, Nat.le_refl, Nat.zero_le, Nat.reduceMul, or_tl, or_tr, i01, i10, bI_eq0, bI_eq1, bft, bI_z, bI_t, bI_f, bI_nar, nar0, nar1, s0, hnewT, hsetT, vT_at, Nat.reduceAdd]
  refine x_i9 rfl ⟨fun c e hc h1 he => ?_, ?_, fun c hc => ?_⟩ (fun s' f' hs => hQ s' f' (by omega))
  · by_cases cl : c < 18
    · rw [← p.1 c e cl h1 he]
      simp only [vT_at]
      repeat rw [if_neg (by omega)]
    · rcases (show c = 18 by omega) with rfl <;> (cases he; rfl)
  · rw [← p.2.1]
    simp only [vT_at]
    repeat rw [if_neg (by omega)]
  · rw [← p.2.2 c hc]
    simp only [vT_at]
    repeat rw [if_neg (by omega)]
theorem x_i7 (s0 : f 1 = some (ob 9 [.int 2, .int (-2), .int 4, .ref 2, .ref 5, .ref 7, .ref 9, .ref 11, .ref 12, .ref 13, .null, .null, .null])) (p : PN z 16 f) (hQ : ∀ s' f', s' ≤ s + 210 → PN z 24 f' → f' 1 = some (ob 9 [.int 2, .int (-2), .int 4, .ref 2, .ref 5, .ref 7, .ref 9, .ref 11, .ref 12, .ref 13, .ref 16, .ref 18, .ref 19]) → Q none (24, s', f')) : Run 63 91 [some (.ref 1)] [] (16, s, f) Q := by
  simp (disch := omega) only [rq_X9_init_91, rq_X9_init_92, rq_X9_init_95, rq_X9_init_96, xo_aload, xo_oinit, xo_const, xo_putf, xo_new, xo_dup, xo_newi, xo_vret, Cnt_l, Cnt_r, Knt_v, Knt_n, run_ite, CCall, callOk, xrecv, initLo, nl, List.map_cons, List.map_nil, List.length_cons, List.length_nil, List.replicate, List.append_nil, List.nil_append, List.cons_append, List.getElem?_cons_zero, List.getElem?_cons_succ, List.set_cons_zero, List.set_cons_succ, List.take_succ_cons, List.take_zero, List.drop_succ_cons, List.drop_zero, List.reverse_cons, List.reverse_nil, List.getLast?_cons_cons, List.getLast?_singleton, List.all_cons, List.all_nil, List.sum_cons, List.sum_nil, Value.category, xcat1, xintV, Bool.cond_decide, cond_true, cond_false, ite_not, if_true, if_false, ite_self, beq_self_eq_true, Bool.and_true, Bool.true_and, Bool.and_self, decide_true, decide_false, true_and, and_true, and_self, not_false_eq_true, not_true_eq_false, Nat.reduceLeDiff, Nat.reduceAdd, Nat.reduceSub, Nat.reduceEqDiff, Nat.reduceLT, Nat.reduceBEq, ne_eq, hset_get, reduceIte, reduceCtorEq, Nat.le_refl, Nat.zero_le, Nat.reduceMul, or_tl, or_tr, i01, i10, bI_eq0, bI_eq1, bft, bI_z, bI_t, bI_f, bI_nar, nar0, nar1, s0, hnewT, hsetT, vT_at, Nat.reduceAdd]
  refine Eq.mpr (c_kindsInit (p := 16) rfl (by show ¬ 16 = 17; omega)) ?_
  simp (disch := omega) only [rq_X9_init_99, xo_aload, xo_oinit, xo_const, xo_putf, xo_new, xo_dup, xo_newi, xo_vret, Cnt_l, Cnt_r, Knt_v, Knt_n, run_ite, CCall, callOk, xrecv, initLo, nl, List.map_cons, List.map_nil, List.length_cons, List.length_nil, List.replicate, List.append_nil, List.nil_append, List.cons_append, List.getElem?_cons_zero, List.getElem?_cons_succ, List.set_cons_zero, List.set_cons_succ, List.take_succ_cons, List.take_zero, List.drop_succ_cons, List.drop_zero, List.reverse_cons, List.reverse_nil, List.getLast?_cons_cons, List.getLast?_singleton, List.all_cons, List.all_nil, List.sum_cons, List.sum_nil, Value.category, xcat1, xintV, Bool.cond_decide, cond_true, cond_false, ite_not, if_true, if_false, ite_self, beq_self_eq_true, Bool.and_true, Bool.true_and, Bool.and_self, decide_true, decide_false, true_and, and_true, and_self, not_false_eq_true, not_true_eq_false, Nat.reduceLeDiff, Nat.reduceAdd, Nat.reduceSub, Nat.reduceEqDiff, Nat.reduceLT, Nat.reduceBEq, ne_eq, hset_get, reduceIte, reduceCtorEq, Nat.le_refl, Nat.zero_le, Nat.reduceMul, or_tl, or_tr, i01, i10, bI_eq0, bI_eq1, bft, bI_z, bI_t, bI_f, bI_nar, nar0, nar1, s0, hnewT, hsetT, vT_at, Nat.reduceAdd]
  refine x_i8 rfl ⟨fun c e hc h1 he => ?_, ?_, fun c hc => ?_⟩ (fun s' f' hs => hQ s' f' (by omega))
  · by_cases cl : c < 16
    · rw [← p.1 c e cl h1 he]
      simp only [vT_at]
      repeat rw [if_neg (by omega)]
    · rcases (show c = 16 ∨ c = 17 by omega) with rfl | rfl <;> (cases he; rfl)
  · rw [← p.2.1]
    simp only [vT_at]
    repeat rw [if_neg (by omega)]
  · rw [← p.2.2 c hc]
    simp only [vT_at]
    repeat rw [if_neg (by omega)]
theorem x_i6 (s0 : f 1 = some (ob 9 [.int 2, .int (-2), .int 4, .ref 2, .ref 5, .ref 7, .ref 9, .ref 11, .ref 12, .null, .null, .null, .null])) (p : PN z 13 f) (hQ : ∀ s' f', s' ≤ s + 1269 → PN z 24 f' → f' 1 = some (ob 9 [.int 2, .int (-2), .int 4, .ref 2, .ref 5, .ref 7, .ref 9, .ref 11, .ref 12, .ref 13, .ref 16, .ref 18, .ref 19]) → Q none (24, s', f')) : Run 63 80 [some (.ref 1)] [] (13, s, f) Q := by
  simp (disch := omega) only [rq_X9_init_80, rq_X9_init_81, rq_X9_init_84, rq_X9_init_85, xo_aload, xo_oinit, xo_const, xo_putf, xo_new, xo_dup, xo_newi, xo_vret, Cnt_l, Cnt_r, Knt_v, Knt_n, run_ite, CCall, callOk, xrecv, initLo, nl, List.map_cons, List.map_nil, List.length_cons, List.length_nil, List.replicate, List.append_nil, List.nil_append, List.cons_append, List.getElem?_cons_zero, List.getElem?_cons_succ, List.set_cons_zero, List.set_cons_succ, List.take_succ_cons, List.take_zero, List.drop_succ_cons, List.drop_zero, List.reverse_cons, List.reverse_nil, List.getLast?_cons_cons, List.getLast?_singleton, List.all_cons, List.all_nil, List.sum_cons, List.sum_nil, Value.category, xcat1, xintV, Bool.cond_decide, cond_true, cond_false, ite_not, if_true, if_false, ite_self, beq_self_eq_true, Bool.and_true, Bool.true_and, Bool.and_self, decide_true, decide_false, true_and, and_true, and_self, not_false_eq_true, not_true_eq_false, Nat.reduceLeDiff, Nat.reduceAdd, Nat.reduceSub, Nat.reduceEqDiff, Nat.reduceLT, Nat.reduceBEq, ne_eq, hset_get, reduceIte, reduceCtorEq, Nat.le_refl, Nat.zero_le, Nat.reduceMul, or_tl, or_tr, i01, i10, bI_eq0, bI_eq1, bft, bI_z, bI_t, bI_f, bI_nar, nar0, nar1, s0, hnewT, hsetT, vT_at, Nat.reduceAdd]
  refine Eq.mpr (c_floodInit (p := 13) rfl (by show 13 < 14; omega)) ?_
  simp (disch := omega) only [rq_X9_init_88, xo_aload, xo_oinit, xo_const, xo_putf, xo_new, xo_dup, xo_newi, xo_vret, Cnt_l, Cnt_r, Knt_v, Knt_n, run_ite, CCall, callOk, xrecv, initLo, nl, List.map_cons, List.map_nil, List.length_cons, List.length_nil, List.replicate, List.append_nil, List.nil_append, List.cons_append, List.getElem?_cons_zero, List.getElem?_cons_succ, List.set_cons_zero, List.set_cons_succ, List.take_succ_cons, List.take_zero, List.drop_succ_cons, List.drop_zero, List.reverse_cons, List.reverse_nil, List.getLast?_cons_cons, List.getLast?_singleton, List.all_cons, List.all_nil, List.sum_cons, List.sum_nil, Value.category, xcat1, xintV, Bool.cond_decide, cond_true, cond_false, ite_not, if_true, if_false, ite_self, beq_self_eq_true, Bool.and_true, Bool.true_and, Bool.and_self, decide_true, decide_false, true_and, and_true, and_self, not_false_eq_true, not_true_eq_false, Nat.reduceLeDiff, Nat.reduceAdd, Nat.reduceSub, Nat.reduceEqDiff, Nat.reduceLT, Nat.reduceBEq, ne_eq, hset_get, reduceIte, reduceCtorEq, Nat.le_refl, Nat.zero_le, Nat.reduceMul, or_tl, or_tr, i01, i10, bI_eq0, bI_eq1, bft, bI_z, bI_t, bI_f, bI_nar, nar0, nar1, s0, hnewT, hsetT, vT_at, Nat.reduceAdd]
  refine x_i7 rfl ⟨fun c e hc h1 he => ?_, ?_, fun c hc => ?_⟩ (fun s' f' hs => hQ s' f' (by omega))
  · by_cases cl : c < 13
    · rw [← p.1 c e cl h1 he]
      simp only [vT_at]
      repeat rw [if_neg (by omega)]
    · rcases (show c = 13 ∨ c = 14 ∨ c = 15 by omega) with rfl | rfl | rfl <;> (cases he; rfl)
  · rw [← p.2.1]
    simp only [vT_at]
    repeat rw [if_neg (by omega)]
  · rw [← p.2.2 c hc]
    simp only [vT_at]
    repeat rw [if_neg (by omega)]
theorem x_i5 (s0 : f 1 = some (ob 9 [.int 2, .int (-2), .int 4, .ref 2, .ref 5, .ref 7, .ref 9, .ref 11, .null, .null, .null, .null, .null])) (p : PN z 12 f) (hQ : ∀ s' f', s' ≤ s + 1301 → PN z 24 f' → f' 1 = some (ob 9 [.int 2, .int (-2), .int 4, .ref 2, .ref 5, .ref 7, .ref 9, .ref 11, .ref 12, .ref 13, .ref 16, .ref 18, .ref 19]) → Q none (24, s', f')) : Run 63 72 [some (.ref 1)] [] (12, s, f) Q := by
  have i6 : ((32 : Int32) < 0) = False := by simp
  have t6 : ((32 : Int32)).toNatClampNeg = 32 := nq_cll_32
  simp (disch := omega) only [rq_X9_init_72, rq_X9_init_73, rq_X9_init_75, rq_X9_init_77, xo_aload, xo_oinit, xo_const, xo_putf, xo_new, xo_dup, xo_newi, xo_vret, Cnt_l, Cnt_r, Knt_v, Knt_n, run_ite, CCall, callOk, xrecv, initLo, nl, List.map_cons, List.map_nil, List.length_cons, List.length_nil, List.replicate, List.append_nil, List.nil_append, List.cons_append, List.getElem?_cons_zero, List.getElem?_cons_succ, List.set_cons_zero, List.set_cons_succ, List.take_succ_cons, List.take_zero, List.drop_succ_cons, List.drop_zero, List.reverse_cons, List.reverse_nil, List.getLast?_cons_cons, List.getLast?_singleton, List.all_cons, List.all_nil, List.sum_cons, List.sum_nil, Value.category, xcat1, xintV, Bool.cond_decide, cond_true, cond_false, ite_not, if_true, if_false, ite_self, beq_self_eq_true, Bool.and_true, Bool.true_and, Bool.and_self, decide_true, decide_false, true_and, and_true, and_self, not_false_eq_true, not_true_eq_false, Nat.reduceLeDiff, Nat.reduceAdd, Nat.reduceSub, Nat.reduceEqDiff, Nat.reduceLT, Nat.reduceBEq, ne_eq, hset_get, reduceIte, reduceCtorEq, Nat.le_refl, Nat.zero_le, Nat.reduceMul, or_tl, or_tr, i01, i10, bI_eq0, bI_eq1, bft, bI_z, bI_t, bI_f, bI_nar, nar0, nar1, s0, i6, t6, hnewT, hsetT, vT_at, Nat.reduceAdd]
  refine x_i6 rfl ⟨fun c e hc h1 he => ?_, ?_, fun c hc => ?_⟩ (fun s' f' hs => hQ s' f' (by omega))
  · by_cases cl : c < 12
    · rw [← p.1 c e cl h1 he]
      simp only [vT_at]
      repeat rw [if_neg (by omega)]
    · rcases (show c = 12 by omega) with rfl <;> (cases he; rfl)
  · rw [← p.2.1]
    simp only [vT_at]
    repeat rw [if_neg (by omega)]
  · rw [← p.2.2 c hc]
    simp only [vT_at]
    repeat rw [if_neg (by omega)]
theorem x_i4 (s0 : f 1 = some (ob 9 [.int 2, .int (-2), .int 4, .ref 2, .ref 5, .ref 7, .ref 9, .null, .null, .null, .null, .null, .null])) (p : PN z 11 f) (hQ : ∀ s' f', s' ≤ s + 1333 → PN z 24 f' → f' 1 = some (ob 9 [.int 2, .int (-2), .int 4, .ref 2, .ref 5, .ref 7, .ref 9, .ref 11, .ref 12, .ref 13, .ref 16, .ref 18, .ref 19]) → Q none (24, s', f')) : Run 63 64 [some (.ref 1)] [] (11, s, f) Q := by
  have i6 : ((32 : Int32) < 0) = False := by simp
  have t6 : ((32 : Int32)).toNatClampNeg = 32 := nq_cll_32
  simp (disch := omega) only [rq_X9_init_64, rq_X9_init_65, rq_X9_init_67, rq_X9_init_69, xo_aload, xo_oinit, xo_const, xo_putf, xo_new, xo_dup, xo_newi, xo_vret, Cnt_l, Cnt_r, Knt_v, Knt_n, run_ite, CCall, callOk, xrecv, initLo, nl, List.map_cons, List.map_nil, List.length_cons, List.length_nil, List.replicate, List.append_nil, List.nil_append, List.cons_append, List.getElem?_cons_zero, List.getElem?_cons_succ, List.set_cons_zero, List.set_cons_succ, List.take_succ_cons, List.take_zero, List.drop_succ_cons, List.drop_zero, List.reverse_cons, List.reverse_nil, List.getLast?_cons_cons, List.getLast?_singleton, List.all_cons, List.all_nil, List.sum_cons, List.sum_nil, Value.category, xcat1, xintV, Bool.cond_decide, cond_true, cond_false, ite_not, if_true, if_false, ite_self, beq_self_eq_true, Bool.and_true, Bool.true_and, Bool.and_self, decide_true, decide_false, true_and, and_true, and_self, not_false_eq_true, not_true_eq_false, Nat.reduceLeDiff, Nat.reduceAdd, Nat.reduceSub, Nat.reduceEqDiff, Nat.reduceLT, Nat.reduceBEq, ne_eq, hset_get, reduceIte, reduceCtorEq, Nat.le_refl, Nat.zero_le, Nat.reduceMul, or_tl, or_tr, i01, i10, bI_eq0, bI_eq1, bft, bI_z, bI_t, bI_f, bI_nar, nar0, nar1, s0, i6, t6, hnewT, hsetT, vT_at, Nat.reduceAdd]
  refine x_i5 rfl ⟨fun c e hc h1 he => ?_, ?_, fun c hc => ?_⟩ (fun s' f' hs => hQ s' f' (by omega))
  · by_cases cl : c < 11
    · rw [← p.1 c e cl h1 he]
      simp only [vT_at]
      repeat rw [if_neg (by omega)]
    · rcases (show c = 11 by omega) with rfl <;> (cases he; rfl)
  · rw [← p.2.1]
    simp only [vT_at]
    repeat rw [if_neg (by omega)]
  · rw [← p.2.2 c hc]
    simp only [vT_at]
    repeat rw [if_neg (by omega)]
theorem x_i3 (s0 : f 1 = some (ob 9 [.int 2, .int (-2), .int 4, .ref 2, .ref 5, .ref 7, .null, .null, .null, .null, .null, .null, .null])) (p : PN z 9 f) (hQ : ∀ s' f', s' ≤ s + 1399 → PN z 24 f' → f' 1 = some (ob 9 [.int 2, .int (-2), .int 4, .ref 2, .ref 5, .ref 7, .ref 9, .ref 11, .ref 12, .ref 13, .ref 16, .ref 18, .ref 19]) → Q none (24, s', f')) : Run 63 53 [some (.ref 1)] [] (9, s, f) Q := by
  simp (disch := omega) only [rq_X9_init_53, rq_X9_init_54, rq_X9_init_57, rq_X9_init_58, xo_aload, xo_oinit, xo_const, xo_putf, xo_new, xo_dup, xo_newi, xo_vret, Cnt_l, Cnt_r, Knt_v, Knt_n, run_ite, CCall, callOk, xrecv, initLo, nl, List.map_cons, List.map_nil, List.length_cons, List.length_nil, List.replicate, List.append_nil, List.nil_append, List.cons_append, List.getElem?_cons_zero, List.getElem?_cons_succ, List.set_cons_zero, List.set_cons_succ, List.take_succ_cons, List.take_zero, List.drop_succ_cons, List.drop_zero, List.reverse_cons, List.reverse_nil, List.getLast?_cons_cons, List.getLast?_singleton, List.all_cons, List.all_nil, List.sum_cons, List.sum_nil, Value.category, xcat1, xintV, Bool.cond_decide, cond_true, cond_false, ite_not, if_true, if_false, ite_self, beq_self_eq_true, Bool.and_true, Bool.true_and, Bool.and_self, decide_true, decide_false, true_and, and_true, and_self, not_false_eq_true, not_true_eq_false, Nat.reduceLeDiff, Nat.reduceAdd, Nat.reduceSub, Nat.reduceEqDiff, Nat.reduceLT, Nat.reduceBEq, ne_eq, hset_get, reduceIte, reduceCtorEq, Nat.le_refl, Nat.zero_le, Nat.reduceMul, or_tl, or_tr, i01, i10, bI_eq0, bI_eq1, bft, bI_z, bI_t, bI_f, bI_nar, nar0, nar1, s0, hnewT, hsetT, vT_at, Nat.reduceAdd]
  refine Eq.mpr (c_frameInit (p := 9) rfl (by show ¬ 9 = 10; omega)) ?_
  simp (disch := omega) only [rq_X9_init_61, xo_aload, xo_oinit, xo_const, xo_putf, xo_new, xo_dup, xo_newi, xo_vret, Cnt_l, Cnt_r, Knt_v, Knt_n, run_ite, CCall, callOk, xrecv, initLo, nl, List.map_cons, List.map_nil, List.length_cons, List.length_nil, List.replicate, List.append_nil, List.nil_append, List.cons_append, List.getElem?_cons_zero, List.getElem?_cons_succ, List.set_cons_zero, List.set_cons_succ, List.take_succ_cons, List.take_zero, List.drop_succ_cons, List.drop_zero, List.reverse_cons, List.reverse_nil, List.getLast?_cons_cons, List.getLast?_singleton, List.all_cons, List.all_nil, List.sum_cons, List.sum_nil, Value.category, xcat1, xintV, Bool.cond_decide, cond_true, cond_false, ite_not, if_true, if_false, ite_self, beq_self_eq_true, Bool.and_true, Bool.true_and, Bool.and_self, decide_true, decide_false, true_and, and_true, and_self, not_false_eq_true, not_true_eq_false, Nat.reduceLeDiff, Nat.reduceAdd, Nat.reduceSub, Nat.reduceEqDiff, Nat.reduceLT, Nat.reduceBEq, ne_eq, hset_get, reduceIte, reduceCtorEq, Nat.le_refl, Nat.zero_le, Nat.reduceMul, or_tl, or_tr, i01, i10, bI_eq0, bI_eq1, bft, bI_z, bI_t, bI_f, bI_nar, nar0, nar1, s0, hnewT, hsetT, vT_at, Nat.reduceAdd]
  refine x_i4 rfl ⟨fun c e hc h1 he => ?_, ?_, fun c hc => ?_⟩ (fun s' f' hs => hQ s' f' (by omega))
  · by_cases cl : c < 9
    · rw [← p.1 c e cl h1 he]
      simp only [vT_at]
      repeat rw [if_neg (by omega)]
    · rcases (show c = 9 ∨ c = 10 by omega) with rfl | rfl <;> (cases he; rfl)
  · rw [← p.2.1]
    simp only [vT_at]
    repeat rw [if_neg (by omega)]
  · rw [← p.2.2 c hc]
    simp only [vT_at]
    repeat rw [if_neg (by omega)]
theorem x_i2 (s0 : f 1 = some (ob 9 [.int 2, .int (-2), .int 4, .ref 2, .ref 5, .null, .null, .null, .null, .null, .null, .null, .null])) (p : PN z 7 f) (hQ : ∀ s' f', s' ≤ s + 1427 → PN z 24 f' → f' 1 = some (ob 9 [.int 2, .int (-2), .int 4, .ref 2, .ref 5, .ref 7, .ref 9, .ref 11, .ref 12, .ref 13, .ref 16, .ref 18, .ref 19]) → Q none (24, s', f')) : Run 63 42 [some (.ref 1)] [] (7, s, f) Q := by
  simp (disch := omega) only [rq_X9_init_42, rq_X9_init_43, rq_X9_init_46, rq_X9_init_47, xo_aload, xo_oinit, xo_const, xo_putf, xo_new, xo_dup, xo_newi, xo_vret, Cnt_l, Cnt_r, Knt_v, Knt_n, run_ite, CCall, callOk, xrecv, initLo, nl, List.map_cons, List.map_nil, List.length_cons, List.length_nil, List.replicate, List.append_nil, List.nil_append, List.cons_append, List.getElem?_cons_zero, List.getElem?_cons_succ, List.set_cons_zero, List.set_cons_succ, List.take_succ_cons, List.take_zero, List.drop_succ_cons, List.drop_zero, List.reverse_cons, List.reverse_nil, List.getLast?_cons_cons, List.getLast?_singleton, List.all_cons, List.all_nil, List.sum_cons, List.sum_nil, Value.category, xcat1, xintV, Bool.cond_decide, cond_true, cond_false, ite_not, if_true, if_false, ite_self, beq_self_eq_true, Bool.and_true, Bool.true_and, Bool.and_self, decide_true, decide_false, true_and, and_true, and_self, not_false_eq_true, not_true_eq_false, Nat.reduceLeDiff, Nat.reduceAdd, Nat.reduceSub, Nat.reduceEqDiff, Nat.reduceLT, Nat.reduceBEq, ne_eq, hset_get, reduceIte, reduceCtorEq, Nat.le_refl, Nat.zero_le, Nat.reduceMul, or_tl, or_tr, i01, i10, bI_eq0, bI_eq1, bft, bI_z, bI_t, bI_f, bI_nar, nar0, nar1, s0, hnewT, hsetT, vT_at, Nat.reduceAdd]
  refine Eq.mpr (c_shelfInit (p := 7) rfl (by show ¬ 7 = 8; omega)) ?_
  simp (disch := omega) only [rq_X9_init_50, xo_aload, xo_oinit, xo_const, xo_putf, xo_new, xo_dup, xo_newi, xo_vret, Cnt_l, Cnt_r, Knt_v, Knt_n, run_ite, CCall, callOk, xrecv, initLo, nl, List.map_cons, List.map_nil, List.length_cons, List.length_nil, List.replicate, List.append_nil, List.nil_append, List.cons_append, List.getElem?_cons_zero, List.getElem?_cons_succ, List.set_cons_zero, List.set_cons_succ, List.take_succ_cons, List.take_zero, List.drop_succ_cons, List.drop_zero, List.reverse_cons, List.reverse_nil, List.getLast?_cons_cons, List.getLast?_singleton, List.all_cons, List.all_nil, List.sum_cons, List.sum_nil, Value.category, xcat1, xintV, Bool.cond_decide, cond_true, cond_false, ite_not, if_true, if_false, ite_self, beq_self_eq_true, Bool.and_true, Bool.true_and, Bool.and_self, decide_true, decide_false, true_and, and_true, and_self, not_false_eq_true, not_true_eq_false, Nat.reduceLeDiff, Nat.reduceAdd, Nat.reduceSub, Nat.reduceEqDiff, Nat.reduceLT, Nat.reduceBEq, ne_eq, hset_get, reduceIte, reduceCtorEq, Nat.le_refl, Nat.zero_le, Nat.reduceMul, or_tl, or_tr, i01, i10, bI_eq0, bI_eq1, bft, bI_z, bI_t, bI_f, bI_nar, nar0, nar1, s0, hnewT, hsetT, vT_at, Nat.reduceAdd]
  refine x_i3 rfl ⟨fun c e hc h1 he => ?_, ?_, fun c hc => ?_⟩ (fun s' f' hs => hQ s' f' (by omega))
  · by_cases cl : c < 7
    · rw [← p.1 c e cl h1 he]
      simp only [vT_at]
      repeat rw [if_neg (by omega)]
    · rcases (show c = 7 ∨ c = 8 by omega) with rfl | rfl <;> (cases he; rfl)
  · rw [← p.2.1]
    simp only [vT_at]
    repeat rw [if_neg (by omega)]
  · rw [← p.2.2 c hc]
    simp only [vT_at]
    repeat rw [if_neg (by omega)]
theorem x_i1 (s0 : f 1 = some (ob 9 [.int 2, .int (-2), .int 4, .ref 2, .null, .null, .null, .null, .null, .null, .null, .null, .null])) (p : PN z 5 f) (hQ : ∀ s' f', s' ≤ s + 1435 → PN z 24 f' → f' 1 = some (ob 9 [.int 2, .int (-2), .int 4, .ref 2, .ref 5, .ref 7, .ref 9, .ref 11, .ref 12, .ref 13, .ref 16, .ref 18, .ref 19]) → Q none (24, s', f')) : Run 63 31 [some (.ref 1)] [] (5, s, f) Q := by
  simp (disch := omega) only [rq_X9_init_31, rq_X9_init_32, rq_X9_init_35, rq_X9_init_36, xo_aload, xo_oinit, xo_const, xo_putf, xo_new, xo_dup, xo_newi, xo_vret, Cnt_l, Cnt_r, Knt_v, Knt_n, run_ite, CCall, callOk, xrecv, initLo, nl, List.map_cons, List.map_nil, List.length_cons, List.length_nil, List.replicate, List.append_nil, List.nil_append, List.cons_append, List.getElem?_cons_zero, List.getElem?_cons_succ, List.set_cons_zero, List.set_cons_succ, List.take_succ_cons, List.take_zero, List.drop_succ_cons, List.drop_zero, List.reverse_cons, List.reverse_nil, List.getLast?_cons_cons, List.getLast?_singleton, List.all_cons, List.all_nil, List.sum_cons, List.sum_nil, Value.category, xcat1, xintV, Bool.cond_decide, cond_true, cond_false, ite_not, if_true, if_false, ite_self, beq_self_eq_true, Bool.and_true, Bool.true_and, Bool.and_self, decide_true, decide_false, true_and, and_true, and_self, not_false_eq_true, not_true_eq_false, Nat.reduceLeDiff, Nat.reduceAdd, Nat.reduceSub, Nat.reduceEqDiff, Nat.reduceLT, Nat.reduceBEq, ne_eq, hset_get, reduceIte, reduceCtorEq, Nat.le_refl, Nat.zero_le, Nat.reduceMul, or_tl, or_tr, i01, i10, bI_eq0, bI_eq1, bft, bI_z, bI_t, bI_f, bI_nar, nar0, nar1, s0, hnewT, hsetT, vT_at, Nat.reduceAdd]
  refine Eq.mpr (c_pageInit (p := 5) rfl (by show ¬ 5 = 6; omega)) ?_
  simp (disch := omega) only [rq_X9_init_39, xo_aload, xo_oinit, xo_const, xo_putf, xo_new, xo_dup, xo_newi, xo_vret, Cnt_l, Cnt_r, Knt_v, Knt_n, run_ite, CCall, callOk, xrecv, initLo, nl, List.map_cons, List.map_nil, List.length_cons, List.length_nil, List.replicate, List.append_nil, List.nil_append, List.cons_append, List.getElem?_cons_zero, List.getElem?_cons_succ, List.set_cons_zero, List.set_cons_succ, List.take_succ_cons, List.take_zero, List.drop_succ_cons, List.drop_zero, List.reverse_cons, List.reverse_nil, List.getLast?_cons_cons, List.getLast?_singleton, List.all_cons, List.all_nil, List.sum_cons, List.sum_nil, Value.category, xcat1, xintV, Bool.cond_decide, cond_true, cond_false, ite_not, if_true, if_false, ite_self, beq_self_eq_true, Bool.and_true, Bool.true_and, Bool.and_self, decide_true, decide_false, true_and, and_true, and_self, not_false_eq_true, not_true_eq_false, Nat.reduceLeDiff, Nat.reduceAdd, Nat.reduceSub, Nat.reduceEqDiff, Nat.reduceLT, Nat.reduceBEq, ne_eq, hset_get, reduceIte, reduceCtorEq, Nat.le_refl, Nat.zero_le, Nat.reduceMul, or_tl, or_tr, i01, i10, bI_eq0, bI_eq1, bft, bI_z, bI_t, bI_f, bI_nar, nar0, nar1, s0, hnewT, hsetT, vT_at, Nat.reduceAdd]
  refine x_i2 rfl ⟨fun c e hc h1 he => ?_, ?_, fun c hc => ?_⟩ (fun s' f' hs => hQ s' f' (by omega))
  · by_cases cl : c < 5
    · rw [← p.1 c e cl h1 he]
      simp only [vT_at]
      repeat rw [if_neg (by omega)]
    · rcases (show c = 5 ∨ c = 6 by omega) with rfl | rfl <;> (cases he; rfl)
  · rw [← p.2.1]
    simp only [vT_at]
    repeat rw [if_neg (by omega)]
  · rw [← p.2.2 c hc]
    simp only [vT_at]
    repeat rw [if_neg (by omega)]
theorem x_i0 (s0 : f 1 = some (ob 9 [.int 2, .int (-2), .int 4, .null, .null, .null, .null, .null, .null, .null, .null, .null, .null])) (p : PN z 2 f) (hQ : ∀ s' f', s' ≤ s + 1454 → PN z 24 f' → f' 1 = some (ob 9 [.int 2, .int (-2), .int 4, .ref 2, .ref 5, .ref 7, .ref 9, .ref 11, .ref 12, .ref 13, .ref 16, .ref 18, .ref 19]) → Q none (24, s', f')) : Run 63 20 [some (.ref 1)] [] (2, s, f) Q := by
  simp (disch := omega) only [rq_X9_init_20, rq_X9_init_21, rq_X9_init_24, rq_X9_init_25, xo_aload, xo_oinit, xo_const, xo_putf, xo_new, xo_dup, xo_newi, xo_vret, Cnt_l, Cnt_r, Knt_v, Knt_n, run_ite, CCall, callOk, xrecv, initLo, nl, List.map_cons, List.map_nil, List.length_cons, List.length_nil, List.replicate, List.append_nil, List.nil_append, List.cons_append, List.getElem?_cons_zero, List.getElem?_cons_succ, List.set_cons_zero, List.set_cons_succ, List.take_succ_cons, List.take_zero, List.drop_succ_cons, List.drop_zero, List.reverse_cons, List.reverse_nil, List.getLast?_cons_cons, List.getLast?_singleton, List.all_cons, List.all_nil, List.sum_cons, List.sum_nil, Value.category, xcat1, xintV, Bool.cond_decide, cond_true, cond_false, ite_not, if_true, if_false, ite_self, beq_self_eq_true, Bool.and_true, Bool.true_and, Bool.and_self, decide_true, decide_false, true_and, and_true, and_self, not_false_eq_true, not_true_eq_false, Nat.reduceLeDiff, Nat.reduceAdd, Nat.reduceSub, Nat.reduceEqDiff, Nat.reduceLT, Nat.reduceBEq, ne_eq, hset_get, reduceIte, reduceCtorEq, Nat.le_refl, Nat.zero_le, Nat.reduceMul, or_tl, or_tr, i01, i10, bI_eq0, bI_eq1, bft, bI_z, bI_t, bI_f, bI_nar, nar0, nar1, s0, hnewT, hsetT, vT_at, Nat.reduceAdd]
  refine Eq.mpr (c_lineInit (p := 2) rfl (by show 2 < 3; omega)) ?_
  simp (disch := omega) only [rq_X9_init_28, xo_aload, xo_oinit, xo_const, xo_putf, xo_new, xo_dup, xo_newi, xo_vret, Cnt_l, Cnt_r, Knt_v, Knt_n, run_ite, CCall, callOk, xrecv, initLo, nl, List.map_cons, List.map_nil, List.length_cons, List.length_nil, List.replicate, List.append_nil, List.nil_append, List.cons_append, List.getElem?_cons_zero, List.getElem?_cons_succ, List.set_cons_zero, List.set_cons_succ, List.take_succ_cons, List.take_zero, List.drop_succ_cons, List.drop_zero, List.reverse_cons, List.reverse_nil, List.getLast?_cons_cons, List.getLast?_singleton, List.all_cons, List.all_nil, List.sum_cons, List.sum_nil, Value.category, xcat1, xintV, Bool.cond_decide, cond_true, cond_false, ite_not, if_true, if_false, ite_self, beq_self_eq_true, Bool.and_true, Bool.true_and, Bool.and_self, decide_true, decide_false, true_and, and_true, and_self, not_false_eq_true, not_true_eq_false, Nat.reduceLeDiff, Nat.reduceAdd, Nat.reduceSub, Nat.reduceEqDiff, Nat.reduceLT, Nat.reduceBEq, ne_eq, hset_get, reduceIte, reduceCtorEq, Nat.le_refl, Nat.zero_le, Nat.reduceMul, or_tl, or_tr, i01, i10, bI_eq0, bI_eq1, bft, bI_z, bI_t, bI_f, bI_nar, nar0, nar1, s0, hnewT, hsetT, vT_at, Nat.reduceAdd]
  refine x_i1 rfl ⟨fun c e hc h1 he => ?_, ?_, fun c hc => ?_⟩ (fun s' f' hs => hQ s' f' (by omega))
  · by_cases cl : c < 2
    · rw [← p.1 c e cl h1 he]
      simp only [vT_at]
      repeat rw [if_neg (by omega)]
    · rcases (show c = 2 ∨ c = 3 ∨ c = 4 by omega) with rfl | rfl | rfl <;> (cases he; rfl)
  · rw [← p.2.1]
    simp only [vT_at]
    repeat rw [if_neg (by omega)]
  · rw [← p.2.2 c hc]
    simp only [vT_at]
    repeat rw [if_neg (by omega)]
theorem x_init (s0 : f 1 = some (ob 9 [.int 0, .int 0, .int 0, .null, .null, .null, .null, .null, .null, .null, .null, .null, .null])) (p : PN z 2 f) (hQ : ∀ s' f', s' ≤ s + 1454 → PN z 24 f' → f' 1 = some (ob 9 [.int 2, .int (-2), .int 4, .ref 2, .ref 5, .ref 7, .ref 9, .ref 11, .ref 12, .ref 13, .ref 16, .ref 18, .ref 19]) → Q none (24, s', f')) : Call 63 [.ref 1] (2, s, f) Q := by
  unfold Call
  simp (disch := omega) only [MT, MT_0, MT_1, MT_2, MT_3, MT_4, MT_5, MT_6, MT_7, MT_8, MT_9, MT_10, MT_11, MT_12, rq_X9_init_0, rq_X9_init_1, rq_X9_init_4, rq_X9_init_5, rq_X9_init_6, rq_X9_init_9, rq_X9_init_10, rq_X9_init_12, rq_X9_init_15, rq_X9_init_16, rq_X9_init_17, xo_aload, xo_oinit, xo_const, xo_putf, xo_new, xo_dup, xo_newi, xo_vret, Cnt_l, Cnt_r, Knt_v, Knt_n, run_ite, CCall, callOk, xrecv, initLo, nl, List.map_cons, List.map_nil, List.length_cons, List.length_nil, List.replicate, List.append_nil, List.nil_append, List.cons_append, List.getElem?_cons_zero, List.getElem?_cons_succ, List.set_cons_zero, List.set_cons_succ, List.take_succ_cons, List.take_zero, List.drop_succ_cons, List.drop_zero, List.reverse_cons, List.reverse_nil, List.getLast?_cons_cons, List.getLast?_singleton, List.all_cons, List.all_nil, List.sum_cons, List.sum_nil, Value.category, xcat1, xintV, Bool.cond_decide, cond_true, cond_false, ite_not, if_true, if_false, ite_self, beq_self_eq_true, Bool.and_true, Bool.true_and, Bool.and_self, decide_true, decide_false, true_and, and_true, and_self, not_false_eq_true, not_true_eq_false, Nat.reduceLeDiff, Nat.reduceAdd, Nat.reduceSub, Nat.reduceEqDiff, Nat.reduceLT, Nat.reduceBEq, ne_eq, hset_get, reduceIte, reduceCtorEq, Nat.le_refl, Nat.zero_le, Nat.reduceMul, or_tl, or_tr, i01, i10, bI_eq0, bI_eq1, bft, bI_z, bI_t, bI_f, bI_nar, nar0, nar1, s0, hnewT, hsetT, vT_at, Nat.reduceAdd]
  refine x_i0 rfl ⟨fun c e hc h1 he => ?_, ?_, fun c hc => ?_⟩ hQ
  · rw [← p.1 c e hc h1 he]
    simp only [vT_at]
    repeat rw [if_neg (by omega)]
  · rw [← p.2.1]
    simp only [vT_at]
    repeat rw [if_neg (by omega)]
  · rw [← p.2.2 c hc]
    simp only [vT_at]
    repeat rw [if_neg (by omega)]
end N
