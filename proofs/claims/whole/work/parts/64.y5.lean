/-! the class: keep -/
theorem STs.fr2 {h h' : Hp} {f : Nat → Option Nat} {d : PD} (s : STs h f d) (hf8 : ∀ j fs, 40 ≤ j → h.2.2 j = some (ob 8 fs) → h'.2.2 j = some (ob 8 fs)) (hfi : ∀ j n g, 40 ≤ j → h.2.2 j = some (ia 0 n g) → h'.2.2 j = some (ia 0 n g)) : STs h' f d := by
  refine ⟨s.1, fun k hk => ?_, s.2.2⟩
  obtain ⟨q, e, qx, qy, qr, s0, sx, sy, sr, b1, b2, b3, b4, b5⟩ := s.2.1 k hk
  exact ⟨q, e, qx, qy, qr, hf8 _ _ b1 s0, hfi _ _ _ b2 sx, hfi _ _ _ b3 sy, hfi _ _ _ b4 sr, b1, b2, b3, b4, b5⟩
section X
variable {h : Hp} {K : KK} {I : Nat → Nat → Int32} {A : Nat → Nat → Int32} {R : Nat → Nat → Option Nat} {P : Nat → Nat} {o : Nat} {Q : Option Value → Hp → Prop}
theorem CY.put (Y : CY h K I A R P o) {H : Hp} {n p pa c : Nat} {f' : Nat → Option Nat} (hn : n < 26) (h0 : 0 < (K.D 26).1)
    (C' : CH H (va_up I 7 (fun _ => nI c)) A (va_up R 8 (va_up (R 8) n (some p)))) (hc : cntL (va_up K.D n (K.D 26)) 26 = c) (c10 : c ≤ 10)
    (hp : 40 ≤ p) (hpa : 40 ≤ pa) (hne : ¬ p = pa) (p0 : H.2.2 p = some (ob 6 [.ref pa, .int (nI (K.D 26).1)])) (pr : H.2.2 pa = some (ra 3 6 f')) (hf' : ∀ k, k < 6 → f' k = R 6 k)
    (hf : ∀ j e, 40 ≤ j → ¬ j = p → ¬ j = pa → h.2.2 j = some e → H.2.2 j = some e)
    (hp8 : ∀ j fs, 40 ≤ j → h.2.2 j = some (ob 8 fs) → ¬ j = p ∧ ¬ j = pa) (hpi : ∀ j m g, 40 ≤ j → h.2.2 j = some (ia 0 m g) → ¬ j = p ∧ ¬ j = pa)
    (hpm : ∀ m q, m < 26 → ¬ m = n → R 8 m = some q → 40 ≤ q → 40 ≤ P m → ¬ q = p ∧ ¬ q = pa ∧ ¬ P m = p ∧ ¬ P m = pa)
    (hb : HB H) : CZ H (K.setD (va_up K.D n (K.D 26))) := by
  obtain ⟨C, a, ln, f, s1, S, L, dis, n1, n2, ho, _⟩ := Y
  have F8 : ∀ j fs, 40 ≤ j → h.2.2 j = some (ob 8 fs) → H.2.2 j = some (ob 8 fs) := fun j fs hj he => hf j _ hj (hp8 j fs hj he).1 (hp8 j fs hj he).2 he
  have Fi : ∀ j m g, 40 ≤ j → h.2.2 j = some (ia 0 m g) → H.2.2 j = some (ia 0 m g) := fun j m g hj he => hf j _ hj (hpi j m g hj he).1 (hpi j m g hj he).2 he
  have S2 := S.fr2 F8 Fi
  have S3 : STs H f' (K.D 26) := by
    have h6 := S2.1
    refine ⟨S2.1, fun k hk => ?_, fun k hk hk6 => ?_⟩
    · rw [hf' k (by omega)]; exact S2.2.1 k hk
    · rw [hf' k hk6]; exact S2.2.2 k hk hk6
  refine ⟨_, A, _, va_up P n pa, o, C', a, ln, f, ?_, ?_, fun m hm => ?_, fun m m' hm hm' hmm q1 q2 => ?_, ?_, ?_, ho, hb⟩
  · show I 5 1 = nI (va_up K.D n (K.D 26) 26).1
    rw [vD_ne _ _ (by omega)]; exact s1
  · show STs H (R 6) (va_up K.D n (K.D 26) 26)
    rw [vD_ne _ _ (by omega)]; exact S2
  · show LT H (va_up (R 8) n (some p) m) (va_up P n pa m) (va_up K.D n (K.D 26) m)
    by_cases e : m = n
    · subst e
      rw [vD_eq, vD_eq, vD_eq]
      exact Or.inr ⟨p, f', rfl, hp, hpa, hne, p0, pr, S3, h0⟩
    · rw [vD_ne _ _ e, vD_ne _ _ e, vD_ne _ _ e]
      rcases L m hm with ⟨hr, hd⟩ | ⟨q, g, hr, b1, b2, b3, q0, qr, ss, z⟩
      · exact Or.inl ⟨hr, hd⟩
      · obtain ⟨x1, x2, x3, x4⟩ := hpm m q hm e hr b1 b2
        exact Or.inr ⟨q, g, hr, b1, b2, b3, hf _ _ b1 x1 x2 q0, hf _ _ b2 x3 x4 qr, ss.fr2 F8 Fi, z⟩
  · have q1 : (va_up (R 8) n (some p) m).isSome = true := q1
    have q2 : (va_up (R 8) n (some p) m').isSome = true := q2
    have key : ∀ m, m < 26 → ¬ m = n → (va_up (R 8) n (some p) m).isSome = true → ¬ P m = pa := by
      intro m hm e q1
      rw [vD_ne _ _ e] at q1
      rcases L m hm with ⟨hr, hd⟩ | ⟨q, g, hr, b1, b2, _⟩
      · rw [hr] at q1; cases q1
      · exact (hpm m q hm e hr b1 b2).2.2.2
    by_cases e : m = n
    · have e' : ¬ m' = n := fun z => hmm (by rw [e, z])
      rw [e, vD_eq, vD_ne _ _ e']
      exact fun z => key m' hm' e' q2 z.symm
    · by_cases e' : m' = n
      · rw [e', vD_eq, vD_ne _ _ e]
        exact key m hm e q1
      · rw [vD_ne _ _ e] at q1
        rw [vD_ne _ _ e'] at q2
        rw [vD_ne _ _ e, vD_ne _ _ e']
        exact dis m m' hm hm' hmm q1 q2
  · show nI c = nI (cntL (va_up K.D n (K.D 26)) 26)
    rw [hc]
  · show cntL (va_up K.D n (K.D 26)) 26 ≤ 10
    rw [hc]; exact c10
/-- the sheet is cleared -/
theorem CY.clearSheet (Y : CY h K I A R P o) : CZ (hset (hset h 6 (ra 3 6 (gmix 6 (fun _ => none) (R 6)))) 5 (ob 6 [.ref 6, .int (nI 0)])) (K.setD (va_up K.D 26 (0, (K.D 26).2))) := by
  refine Y.sheet (d' := (0, (K.D 26).2)) ⟨Nat.zero_le _, fun k hk => absurd hk (Nat.not_lt_zero _), fun k _ hk6 => ?_⟩
  rw [gmix_lt hk6]
theorem x_keepOut (Z : CZ h K) (k : Int32) (h1 : wB k 0 25 = false) (hQ : OUT h K 0 0 (.int (-2)) Q) : Call 80 [.ref 1, .int k] h Q := by
  have hq := hQ h Z (FrC.rfl' h)
  unfold Call
  simp (disch := omega) only [MT, MT_0, MT_1, MT_2, MT_3, MT_4, MT_5, MT_6, MT_7, MT_8, MT_9, MT_10, MT_11, MT_12, rq_X9_keep_0, rq_X9_keep_1, rq_X9_keep_2, rq_X9_keep_4, rq_X9_keep_7, rq_X9_keep_10, rq_X9_keep_12, xo_iload, xo_const, xo_if1, xo_iret, xo_aload, xo_getf, Cnt_l, Cnt_r, Knt_v, Knt_n, run_ite, CCall, callOk, xrecv, initLo, nl, List.map_cons, List.map_nil, List.length_cons, List.length_nil, List.replicate, List.append_nil, List.nil_append, List.cons_append, List.getElem?_cons_zero, List.getElem?_cons_succ, List.set_cons_zero, List.set_cons_succ, List.take_succ_cons, List.take_zero, List.drop_succ_cons, List.drop_zero, List.reverse_cons, List.reverse_nil, List.getLast?_cons_cons, List.getLast?_singleton, List.all_cons, List.all_nil, List.sum_cons, List.sum_nil, Value.category, xcat1, xintV, Bool.cond_decide, cond_true, cond_false, ite_not, if_true, if_false, ite_self, beq_self_eq_true, Bool.and_true, Bool.true_and, Bool.and_self, decide_true, decide_false, true_and, and_true, and_self, not_false_eq_true, not_true_eq_false, Nat.reduceLeDiff, Nat.reduceAdd, Nat.reduceSub, Nat.reduceEqDiff, Nat.reduceLT, Nat.reduceBEq, ne_eq, hset_get, reduceIte, reduceCtorEq, Nat.le_refl, Nat.zero_le, Nat.reduceMul, or_tl, or_tr, i01, i10, bI_eq0, bI_eq1, bft, bI_z, bI_t, bI_f, bI_nar, nar0, nar1, c_within, h1]
  exact hq
theorem x_keep0 (Z : CZ h K) (k : Int32) (h1 : wB k 0 25 = true) (h0 : (K.D 26).1 = 0) (hQ : OUT h K 0 0 (.int (-3)) Q) : Call 80 [.ref 1, .int k] h Q := by
  have hq := hQ h Z (FrC.rfl' h)
  obtain ⟨I, A, R, P, o, Y⟩ := Z
  have c1 := Y.f1
  have c5 := Y.f5
  rw [h0] at c5
  unfold Call
  simp (disch := omega) only [MT, MT_0, MT_1, MT_2, MT_3, MT_4, MT_5, MT_6, MT_7, MT_8, MT_9, MT_10, MT_11, MT_12, rq_X9_keep_0, rq_X9_keep_1, rq_X9_keep_2, rq_X9_keep_4, rq_X9_keep_7, rq_X9_keep_10, rq_X9_keep_12, rq_X9_keep_13, rq_X9_keep_14, rq_X9_keep_17, rq_X9_keep_20, rq_X9_keep_23, rq_X9_keep_25, xo_iload, xo_const, xo_if1, xo_iret, xo_aload, xo_getf, Cnt_l, Cnt_r, Knt_v, Knt_n, run_ite, CCall, callOk, xrecv, initLo, nl, List.map_cons, List.map_nil, List.length_cons, List.length_nil, List.replicate, List.append_nil, List.nil_append, List.cons_append, List.getElem?_cons_zero, List.getElem?_cons_succ, List.set_cons_zero, List.set_cons_succ, List.take_succ_cons, List.take_zero, List.drop_succ_cons, List.drop_zero, List.reverse_cons, List.reverse_nil, List.getLast?_cons_cons, List.getLast?_singleton, List.all_cons, List.all_nil, List.sum_cons, List.sum_nil, Value.category, xcat1, xintV, Bool.cond_decide, cond_true, cond_false, ite_not, if_true, if_false, ite_self, beq_self_eq_true, Bool.and_true, Bool.true_and, Bool.and_self, decide_true, decide_false, true_and, and_true, and_self, not_false_eq_true, not_true_eq_false, Nat.reduceLeDiff, Nat.reduceAdd, Nat.reduceSub, Nat.reduceEqDiff, Nat.reduceLT, Nat.reduceBEq, ne_eq, hset_get, reduceIte, reduceCtorEq, Nat.le_refl, Nat.zero_le, Nat.reduceMul, or_tl, or_tr, i01, i10, bI_eq0, bI_eq1, bft, bI_z, bI_t, bI_f, bI_nar, nar0, nar1, c_within, h1, c1, c5, Bool.true_eq_false, show (nI 0 = 0) = True from eq_true rfl]
  exact hq
theorem x_keepFull (Z : CZ h K) {n : Nat} (hn : n < 26) (h0 : 0 < (K.D 26).1) (hd : (K.D n).1 = 0) (hc : cntL K.D 26 = 10) (hQ : OUT h K 0 0 (.int (-4)) Q) : Call 80 [.ref 1, .int (nI n)] h Q := by
  have hq := hQ h Z (FrC.rfl' h)
  obtain ⟨I, A, R, P, o, Y⟩ := Z
  have c1 := Y.f1
  have c5 := Y.f5
  have c7 := Y.f7
  rw [hc] at c7
  have h6 := Y.S.1
  have hw : wB (nI n) 0 25 = true := wB_in (n := 25) (by omega) (by omega)
  have n0 : ¬ (K.D 26).1 = 0 := by omega
  have hr : R 8 n = none := by
    rcases Y.L n hn with ⟨hr, _⟩ | ⟨_, _, _, _, _, _, _, _, _, z⟩
    · exact hr
    · omega
  unfold Call
  simp (disch := omega) only [MT, MT_0, MT_1, MT_2, MT_3, MT_4, MT_5, MT_6, MT_7, MT_8, MT_9, MT_10, MT_11, MT_12, rq_X9_keep_0, rq_X9_keep_1, rq_X9_keep_2, rq_X9_keep_4, rq_X9_keep_7, rq_X9_keep_10, rq_X9_keep_12, rq_X9_keep_13, rq_X9_keep_14, rq_X9_keep_17, rq_X9_keep_20, rq_X9_keep_23, rq_X9_keep_25, rq_X9_keep_26, rq_X9_keep_27, rq_X9_keep_30, rq_X9_keep_31, rq_X9_keep_32, xo_iload, xo_const, xo_if1, xo_iret, xo_aload, xo_getf, Cnt_l, Cnt_r, Knt_v, Knt_n, run_ite, CCall, callOk, xrecv, initLo, nl, List.map_cons, List.map_nil, List.length_cons, List.length_nil, List.replicate, List.append_nil, List.nil_append, List.cons_append, List.getElem?_cons_zero, List.getElem?_cons_succ, List.set_cons_zero, List.set_cons_succ, List.take_succ_cons, List.take_zero, List.drop_succ_cons, List.drop_zero, List.reverse_cons, List.reverse_nil, List.getLast?_cons_cons, List.getLast?_singleton, List.all_cons, List.all_nil, List.sum_cons, List.sum_nil, Value.category, xcat1, xintV, Bool.cond_decide, cond_true, cond_false, ite_not, if_true, if_false, ite_self, beq_self_eq_true, Bool.and_true, Bool.true_and, Bool.and_self, decide_true, decide_false, true_and, and_true, and_self, not_false_eq_true, not_true_eq_false, Nat.reduceLeDiff, Nat.reduceAdd, Nat.reduceSub, Nat.reduceEqDiff, Nat.reduceLT, Nat.reduceBEq, ne_eq, hset_get, reduceIte, reduceCtorEq, Nat.le_refl, Nat.zero_le, Nat.reduceMul, or_tl, or_tr, i01, i10, bI_eq0, bI_eq1, bft, bI_z, bI_t, bI_f, bI_nar, nar0, nar1, c_within, hw, c1, c5, Bool.true_eq_false, nq_eql_0, n0]
  simp (disch := omega) only [rq_X9_keep_35, xo_iload, xo_const, xo_if1, xo_iret, xo_aload, xo_getf, Cnt_l, Cnt_r, Knt_v, Knt_n, run_ite, CCall, callOk, xrecv, initLo, nl, List.map_cons, List.map_nil, List.length_cons, List.length_nil, List.replicate, List.append_nil, List.nil_append, List.cons_append, List.getElem?_cons_zero, List.getElem?_cons_succ, List.set_cons_zero, List.set_cons_succ, List.take_succ_cons, List.take_zero, List.drop_succ_cons, List.drop_zero, List.reverse_cons, List.reverse_nil, List.getLast?_cons_cons, List.getLast?_singleton, List.all_cons, List.all_nil, List.sum_cons, List.sum_nil, Value.category, xcat1, xintV, Bool.cond_decide, cond_true, cond_false, ite_not, if_true, if_false, ite_self, beq_self_eq_true, Bool.and_true, Bool.true_and, Bool.and_self, decide_true, decide_false, true_and, and_true, and_self, not_false_eq_true, not_true_eq_false, Nat.reduceLeDiff, Nat.reduceAdd, Nat.reduceSub, Nat.reduceEqDiff, Nat.reduceLT, Nat.reduceBEq, ne_eq, hset_get, reduceIte, reduceCtorEq, Nat.le_refl, Nat.zero_le, Nat.reduceMul, or_tl, or_tr, i01, i10, bI_eq0, bI_eq1, bft, bI_z, bI_t, bI_f, bI_nar, nar0, nar1, c7, c5, c_putFull c7 Y.1.c8 hn hr]
  simp (disch := omega) only [rq_X9_keep_38, rq_X9_keep_41, rq_X9_keep_43, xo_iload, xo_const, xo_if1, xo_iret, xo_aload, xo_getf, Cnt_l, Cnt_r, Knt_v, Knt_n, run_ite, CCall, callOk, xrecv, initLo, nl, List.map_cons, List.map_nil, List.length_cons, List.length_nil, List.replicate, List.append_nil, List.nil_append, List.cons_append, List.getElem?_cons_zero, List.getElem?_cons_succ, List.set_cons_zero, List.set_cons_succ, List.take_succ_cons, List.take_zero, List.drop_succ_cons, List.drop_zero, List.reverse_cons, List.reverse_nil, List.getLast?_cons_cons, List.getLast?_singleton, List.all_cons, List.all_nil, List.sum_cons, List.sum_nil, Value.category, xcat1, xintV, Bool.cond_decide, cond_true, cond_false, ite_not, if_true, if_false, ite_self, beq_self_eq_true, Bool.and_true, Bool.true_and, Bool.and_self, decide_true, decide_false, true_and, and_true, and_self, not_false_eq_true, not_true_eq_false, Nat.reduceLeDiff, Nat.reduceAdd, Nat.reduceSub, Nat.reduceEqDiff, Nat.reduceLT, Nat.reduceBEq, ne_eq, hset_get, reduceIte, reduceCtorEq, Nat.le_refl, Nat.zero_le, Nat.reduceMul, or_tl, or_tr, i01, i10, bI_eq0, bI_eq1, bft, bI_z, bI_t, bI_f, bI_nar, nar0, nar1]
  exact hq
end X
