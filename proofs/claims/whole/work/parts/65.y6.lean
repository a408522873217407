/-! the class: keep, where there is room -/
section X
variable {h : Hp} {K : KK} {I : Nat → Nat → Int32} {A : Nat → Nat → Int32} {R : Nat → Nat → Option Nat} {P : Nat → Nat} {o : Nat} {Q : Option Value → Hp → Prop}
theorem STs.ok2 {f g : Nat → Option Nat} {d : PD} (s : STs h f d) {p pa : Nat} {fs : List Value} (p0 : h.2.2 p = some (ob 6 fs)) (pr : h.2.2 pa = some (ra 3 6 g)) : ∀ k q, k < 6 → f k = some q → ¬ q = pa ∧ ∃ fs, h.2.2 q = some (ob 8 fs) := by
  intro k q hk hf
  by_cases h1 : k < d.1
  · obtain ⟨q', e, qx, qy, qr, s0, _⟩ := s.2.1 k h1
    rw [hf] at e
    cases e
    exact ⟨fun z => by rw [z, pr] at s0; simp at s0, _, s0⟩
  · rw [s.2.2 k (by omega) hk] at hf
    cases hf
/-- what is left of keep, once the letter is put -/
theorem l_keep {H : Hp} {D : Nat → PD} {k : Int32} {a b : Nat} (Z : CZ H (K.setD D)) (F : FrC h H a b) (hQ : OUT h (K.setD (va_up D 26 (0, (D 26).2))) a b (.int (nI (cntL D 26))) Q) : Run 80 38 [some (.ref 1), some (.int k)] [.int 1] H Q := by
  obtain ⟨I, A, R, P, o, Y⟩ := Z
  have c1 := Y.f1
  have c5 := Y.f5
  have c7 := Y.f7
  have Zc := Y.clearSheet
  simp (disch := omega) only [rq_X9_keep_38, rq_X9_keep_41, rq_X9_keep_43, rq_X9_keep_44, rq_X9_keep_45, xo_iload, xo_const, xo_if1, xo_iret, xo_aload, xo_getf, Cnt_l, Cnt_r, Knt_v, Knt_n, run_ite, CCall, callOk, xrecv, initLo, nl, List.map_cons, List.map_nil, List.length_cons, List.length_nil, List.replicate, List.append_nil, List.nil_append, List.cons_append, List.getElem?_cons_zero, List.getElem?_cons_succ, List.set_cons_zero, List.set_cons_succ, List.take_succ_cons, List.take_zero, List.drop_succ_cons, List.drop_zero, List.reverse_cons, List.reverse_nil, List.getLast?_cons_cons, List.getLast?_singleton, List.all_cons, List.all_nil, List.sum_cons, List.sum_nil, Value.category, xcat1, xintV, Bool.cond_decide, cond_true, cond_false, ite_not, if_true, if_false, ite_self, beq_self_eq_true, Bool.and_true, Bool.true_and, Bool.and_self, decide_true, decide_false, true_and, and_true, and_self, not_false_eq_true, not_true_eq_false, Nat.reduceLeDiff, Nat.reduceAdd, Nat.reduceSub, Nat.reduceEqDiff, Nat.reduceLT, Nat.reduceBEq, ne_eq, hset_get, reduceIte, reduceCtorEq, Nat.le_refl, Nat.zero_le, Nat.reduceMul, or_tl, or_tr, i01, i10, bI_eq0, bI_eq1, bft, bI_z, bI_t, bI_f, bI_nar, nar0, nar1, c1]
  simp (disch := omega) only [rq_X9_keep_48, xo_iload, xo_const, xo_if1, xo_iret, xo_aload, xo_getf, Cnt_l, Cnt_r, Knt_v, Knt_n, run_ite, CCall, callOk, xrecv, initLo, nl, List.map_cons, List.map_nil, List.length_cons, List.length_nil, List.replicate, List.append_nil, List.nil_append, List.cons_append, List.getElem?_cons_zero, List.getElem?_cons_succ, List.set_cons_zero, List.set_cons_succ, List.take_succ_cons, List.take_zero, List.drop_succ_cons, List.drop_zero, List.reverse_cons, List.reverse_nil, List.getLast?_cons_cons, List.getLast?_singleton, List.all_cons, List.all_nil, List.sum_cons, List.sum_nil, Value.category, xcat1, xintV, Bool.cond_decide, cond_true, cond_false, ite_not, if_true, if_false, ite_self, beq_self_eq_true, Bool.and_true, Bool.true_and, Bool.and_self, decide_true, decide_false, true_and, and_true, and_self, not_false_eq_true, not_true_eq_false, Nat.reduceLeDiff, Nat.reduceAdd, Nat.reduceSub, Nat.reduceEqDiff, Nat.reduceLT, Nat.reduceBEq, ne_eq, hset_get, reduceIte, reduceCtorEq, Nat.le_refl, Nat.zero_le, Nat.reduceMul, or_tl, or_tr, i01, i10, bI_eq0, bI_eq1, bft, bI_z, bI_t, bI_f, bI_nar, nar0, nar1, c5, c_pageClear (by omega : ¬ 5 = 6) c5 Y.1.c6]
  simp (disch := omega) only [rq_X9_keep_51, rq_X9_keep_52, rq_X9_keep_55, rq_X9_keep_58, xo_iload, xo_const, xo_if1, xo_iret, xo_aload, xo_getf, Cnt_l, Cnt_r, Knt_v, Knt_n, run_ite, CCall, callOk, xrecv, initLo, nl, List.map_cons, List.map_nil, List.length_cons, List.length_nil, List.replicate, List.append_nil, List.nil_append, List.cons_append, List.getElem?_cons_zero, List.getElem?_cons_succ, List.set_cons_zero, List.set_cons_succ, List.take_succ_cons, List.take_zero, List.drop_succ_cons, List.drop_zero, List.reverse_cons, List.reverse_nil, List.getLast?_cons_cons, List.getLast?_singleton, List.all_cons, List.all_nil, List.sum_cons, List.sum_nil, Value.category, xcat1, xintV, Bool.cond_decide, cond_true, cond_false, ite_not, if_true, if_false, ite_self, beq_self_eq_true, Bool.and_true, Bool.true_and, Bool.and_self, decide_true, decide_false, true_and, and_true, and_self, not_false_eq_true, not_true_eq_false, Nat.reduceLeDiff, Nat.reduceAdd, Nat.reduceSub, Nat.reduceEqDiff, Nat.reduceLT, Nat.reduceBEq, ne_eq, hset_get, reduceIte, reduceCtorEq, Nat.le_refl, Nat.zero_le, Nat.reduceMul, or_tl, or_tr, i01, i10, bI_eq0, bI_eq1, bft, bI_z, bI_t, bI_f, bI_nar, nar0, nar1, c1, c7]
  exact hQ _ Zc ((F.set (by omega) _).set (by omega) _)
theorem x_keepOld (Z : CZ h K) {n : Nat} (hn : n < 26) (h0 : 0 < (K.D 26).1) (hd : 0 < (K.D n).1) (hQ : OUT h (K.setD (va_up (va_up K.D n (K.D 26)) 26 (0, (K.D 26).2))) 0 0 (.int (nI (cntL K.D 26))) Q) : Call 80 [.ref 1, .int (nI n)] h Q := by
  obtain ⟨I, A, R, P, o, Y⟩ := Z
  have c1 := Y.f1
  have c5 := Y.f5
  have c7 := Y.f7
  have h6 := Y.S.1
  have hw : wB (nI n) 0 25 = true := wB_in (n := 25) (by omega) (by omega)
  have n0 : ¬ (K.D 26).1 = 0 := by omega
  have ec : cntL (va_up K.D n (K.D 26)) 26 = cntL K.D 26 := by
    have := cntL_set K.D (K.D 26) n 26 hn
    rw [if_pos hd, if_pos h0] at this
    omega
  rcases Y.L n hn with ⟨_, hz⟩ | ⟨p, f, hr, hp, hpa, hne, p0, pr, ss, _⟩
  · omega
  have er : va_up (R 8) n (some p) = R 8 := by
    funext j
    by_cases e : j = n
    · rw [e, vD_eq, hr]
    · rw [vD_ne _ _ e]
  have C1 := (Y.1.s8 (va_up (R 8) n (some p))).s7 (fun _ => nI (cntL K.D 26))
  have e8 : hset h 8 (ra 4 26 (va_up (R 8) n (some p))) = h := by rw [er]; exact hset_id Y.1.c8
  have e7 : hset h 7 (oc7 (fun _ => nI (cntL K.D 26))) = h := hset_id c7
  rw [e8, e7] at C1
  have Zp : CZ (hset (hset h (P n) (ra 3 6 (gmix 6 (R 6) f))) p (ob 6 [.ref (P n), .int (nI (K.D 26).1)])) (K.setD (va_up K.D n (K.D 26))) := by
    refine Y.put (pa := P n) hn h0 (C1.fr (fun c b1 b2 => by rw [hset_get, if_neg (by omega), hset_get, if_neg (by omega)])) ec Y.2.2.2.2.2.2.2.2.2.1 hp hpa hne (by rw [hset_get, if_pos rfl]) (by rw [hset_get, if_neg (fun z => hne z.symm), hset_get, if_pos rfl]) (fun k hk => gmix_lt hk) ?_ ?_ ?_ ?_ ?_
    · intro j e _ j1 j2 he
      rw [hset_get, if_neg j1, hset_get, if_neg j2]; exact he
    · intro j fs _ he
      exact ⟨fun z => by rw [z, p0] at he; simp at he, fun z => by rw [z, pr] at he; simp at he⟩
    · intro j m g _ he
      exact ⟨fun z => by rw [z, p0] at he; simp at he, fun z => by rw [z, pr] at he; simp at he⟩
    · intro m q hm e hq b1 b2
      rcases Y.L m hm with ⟨hr', _⟩ | ⟨q', g, hr', _, _, _, q0, qr, _, _⟩
      · rw [hr'] at hq; cases hq
      · rw [hr'] at hq
        cases hq
        have dis := Y.2.2.2.2.2.2.2.1 m n hm hn e (by rw [hr']; rfl) (by rw [hr]; rfl)
        refine ⟨fun z => ?_, fun z => by rw [z, pr] at q0; simp at q0, fun z => by rw [z, p0] at qr; simp at qr, dis⟩
        rw [z, p0] at q0
        simp at q0
        exact dis q0.1.symm
    · exact (Y.hb.set (Y.lt pr) _).set (Y.lt p0) _
  unfold Call
  simp (disch := omega) only [MT, MT_0, MT_1, MT_2, MT_3, MT_4, MT_5, MT_6, MT_7, MT_8, MT_9, MT_10, MT_11, MT_12, rq_X9_keep_0, rq_X9_keep_1, rq_X9_keep_2, rq_X9_keep_4, rq_X9_keep_7, rq_X9_keep_10, rq_X9_keep_12, rq_X9_keep_13, rq_X9_keep_14, rq_X9_keep_17, rq_X9_keep_20, rq_X9_keep_23, rq_X9_keep_25, rq_X9_keep_26, rq_X9_keep_27, rq_X9_keep_30, rq_X9_keep_31, rq_X9_keep_32, xo_iload, xo_const, xo_if1, xo_iret, xo_aload, xo_getf, Cnt_l, Cnt_r, Knt_v, Knt_n, run_ite, CCall, callOk, xrecv, initLo, nl, List.map_cons, List.map_nil, List.length_cons, List.length_nil, List.replicate, List.append_nil, List.nil_append, List.cons_append, List.getElem?_cons_zero, List.getElem?_cons_succ, List.set_cons_zero, List.set_cons_succ, List.take_succ_cons, List.take_zero, List.drop_succ_cons, List.drop_zero, List.reverse_cons, List.reverse_nil, List.getLast?_cons_cons, List.getLast?_singleton, List.all_cons, List.all_nil, List.sum_cons, List.sum_nil, Value.category, xcat1, xintV, Bool.cond_decide, cond_true, cond_false, ite_not, if_true, if_false, ite_self, beq_self_eq_true, Bool.and_true, Bool.true_and, Bool.and_self, decide_true, decide_false, true_and, and_true, and_self, not_false_eq_true, not_true_eq_false, Nat.reduceLeDiff, Nat.reduceAdd, Nat.reduceSub, Nat.reduceEqDiff, Nat.reduceLT, Nat.reduceBEq, ne_eq, hset_get, reduceIte, reduceCtorEq, Nat.le_refl, Nat.zero_le, Nat.reduceMul, or_tl, or_tr, i01, i10, bI_eq0, bI_eq1, bft, bI_z, bI_t, bI_f, bI_nar, nar0, nar1, c_within, hw, c1, c5, Bool.true_eq_false, nq_eql_0, n0]
  simp (disch := omega) only [rq_X9_keep_35, xo_iload, xo_const, xo_if1, xo_iret, xo_aload, xo_getf, Cnt_l, Cnt_r, Knt_v, Knt_n, run_ite, CCall, callOk, xrecv, initLo, nl, List.map_cons, List.map_nil, List.length_cons, List.length_nil, List.replicate, List.append_nil, List.nil_append, List.cons_append, List.getElem?_cons_zero, List.getElem?_cons_succ, List.set_cons_zero, List.set_cons_succ, List.take_succ_cons, List.take_zero, List.drop_succ_cons, List.drop_zero, List.reverse_cons, List.reverse_nil, List.getLast?_cons_cons, List.getLast?_singleton, List.all_cons, List.all_nil, List.sum_cons, List.sum_nil, Value.category, xcat1, xintV, Bool.cond_decide, cond_true, cond_false, ite_not, if_true, if_false, ite_self, beq_self_eq_true, Bool.and_true, Bool.true_and, Bool.and_self, decide_true, decide_false, true_and, and_true, and_self, not_false_eq_true, not_true_eq_false, Nat.reduceLeDiff, Nat.reduceAdd, Nat.reduceSub, Nat.reduceEqDiff, Nat.reduceLT, Nat.reduceBEq, ne_eq, hset_get, reduceIte, reduceCtorEq, Nat.le_refl, Nat.zero_le, Nat.reduceMul, or_tl, or_tr, i01, i10, bI_eq0, bI_eq1, bft, bI_z, bI_t, bI_f, bI_nar, nar0, nar1, c7, c5, c_putOld c7 Y.1.c8 hn hr hp hpa hne p0 pr c5 Y.1.c6 (Y.S.ok2 p0 pr)]
  refine l_keep Zp (((FrC.rfl' h).set (by omega) _).set (by omega) _) ?_
  rw [ec, show va_up K.D n (K.D 26) 26 = K.D 26 from vD_ne _ _ (by omega)]
  exact hQ
theorem x_keepNew (Z : CZ h K) (h40 : 40 ≤ h.1) {n : Nat} (hn : n < 26) (h0 : 0 < (K.D 26).1) (hd : (K.D n).1 = 0) (hc : cntL K.D 26 < 10) (hQ : OUT h (K.setD (va_up (va_up K.D n (K.D 26)) 26 (0, (K.D 26).2))) 2 8 (.int (nI (cntL K.D 26 + 1))) Q) : Call 80 [.ref 1, .int (nI n)] h Q := by
  obtain ⟨I, A, R, P, o, Y⟩ := Z
  have c1 := Y.f1
  have c5 := Y.f5
  have c7 := Y.f7
  have h6 := Y.S.1
  have hb := Y.hb
  have hw : wB (nI n) 0 25 = true := wB_in (n := 25) (by omega) (by omega)
  have n0 : ¬ (K.D 26).1 = 0 := by omega
  have ec : cntL (va_up K.D n (K.D 26)) 26 = cntL K.D 26 + 1 := by
    have := cntL_set K.D (K.D 26) n 26 hn
    rw [if_neg (by omega), if_pos h0] at this
    omega
  have hr : R 8 n = none := by
    rcases Y.L n hn with ⟨hr, _⟩ | ⟨_, _, _, _, _, _, _, _, _, z⟩
    · exact hr
    · omega
  generalize hcc : cntL K.D 26 = c at hc hQ ec c7
  have g0 : ∀ j, ¬ j = h.1 → ¬ j = h.1 + 1 → (hset (hnew (hnew h 2 (ob 6 [.null, .int 0])) 6 (ra 3 6 (fun _ => none))) h.1 (ob 6 [.ref (h.1 + 1), .int 0])).2.2 j = h.2.2 j := fun j j1 j2 => by
    rw [hset_get, if_neg j1, hnew_get, hnew_1, if_neg j2, hnew_get, if_neg j1]
  have C1 := ((Y.1.fr (h' := hset (hnew (hnew h 2 (ob 6 [.null, .int 0])) 6 (ra 3 6 (fun _ => none))) h.1 (ob 6 [.ref (h.1 + 1), .int 0])) (fun j b1 b2 => g0 j (by omega) (by omega))).s8 (va_up (R 8) n (some h.1))).s7 (fun _ => nI (c + 1))
  have g1 : ∀ j, ¬ j = h.1 → ¬ j = h.1 + 1 → ¬ j = 7 → ¬ j = 8 → (hset (hset (hPut h (R 8) n c) (h.1 + 1) (ra 3 6 (gmix 6 (R 6) (fun _ => none)))) h.1 (ob 6 [.ref (h.1 + 1), .int (nI (K.D 26).1)])).2.2 j = h.2.2 j := fun j j1 j2 j3 j4 => by
    rw [hset_get, if_neg j1, hset_get, if_neg j2, hset_get, if_neg j3, hset_get, if_neg j4]; exact g0 j j1 j2
  have hH1 : (hset (hset (hPut h (R 8) n c) (h.1 + 1) (ra 3 6 (gmix 6 (R 6) (fun _ => none)))) h.1 (ob 6 [.ref (h.1 + 1), .int (nI (K.D 26).1)])).1 = h.1 + 2 := rfl
  have hH2 : (hset (hset (hPut h (R 8) n c) (h.1 + 1) (ra 3 6 (gmix 6 (R 6) (fun _ => none)))) h.1 (ob 6 [.ref (h.1 + 1), .int (nI (K.D 26).1)])).2.1 = h.2.1 + 2 + 6 := rfl
  have Zp : CZ (hset (hset (hPut h (R 8) n c) (h.1 + 1) (ra 3 6 (gmix 6 (R 6) (fun _ => none)))) h.1 (ob 6 [.ref (h.1 + 1), .int (nI (K.D 26).1)])) (K.setD (va_up K.D n (K.D 26))) := by
    refine Y.put (pa := h.1 + 1) (p := h.1) (c := c + 1) hn h0 (C1.fr (fun j b1 b2 => by rw [hset_get, if_neg (by omega), hset_get, if_neg (by omega)])) ec (by omega) h40 (by omega) (by omega) (by rw [hset_get, if_pos rfl]) (by rw [hset_get, if_neg (by omega), hset_get, if_pos rfl]) (fun k hk => gmix_lt hk) ?_ ?_ ?_ ?_ ?_
    · intro j e j40 j1 j2 he
      rw [g1 j j1 j2 (by omega) (by omega)]; exact he
    · intro j fs _ he
      have := hb _ _ he
      exact ⟨by omega, by omega⟩
    · intro j m g _ he
      have := hb _ _ he
      exact ⟨by omega, by omega⟩
    · intro m q hm e hq b1 b2
      rcases Y.L m hm with ⟨hr', _⟩ | ⟨q', g, hr', _, _, _, q0, qr, _, _⟩
      · rw [hr'] at hq; cases hq
      · rw [hr'] at hq
        cases hq
        have y1 := hb _ _ q0
        have y2 := hb _ _ qr
        exact ⟨by omega, by omega, by omega, by omega⟩
    · intro j e he
      rw [hH1]
      by_cases j1 : j < h.1 + 2
      · exact j1
      · rw [g1 j (by omega) (by omega) (by omega) (by omega)] at he
        have := hb _ _ he
        omega
  have F : FrC h (hset (hset (hPut h (R 8) n c) (h.1 + 1) (ra 3 6 (gmix 6 (R 6) (fun _ => none)))) h.1 (ob 6 [.ref (h.1 + 1), .int (nI (K.D 26).1)])) 2 8 := ⟨by rw [hH1]; omega, by rw [hH2]; omega, by rw [hH1]; omega, fun j hj => g1 j (by omega) (by omega) (by omega) (by omega)⟩
  have ok : ∀ k q, k < 6 → R 6 k = some q → 40 ≤ q ∧ q < h.1 ∧ ∃ fs, h.2.2 q = some (ob 8 fs) := by
    intro k q hk hf
    by_cases h1 : k < (K.D 26).1
    · obtain ⟨q', e, qx, qy, qr, s0, _, _, _, b1, _⟩ := Y.S.2.1 k h1
      rw [hf] at e
      cases e
      exact ⟨b1, hb _ _ s0, _, s0⟩
    · rw [Y.S.2.2 k (by omega) hk] at hf
      cases hf
  unfold Call
  simp (disch := omega) only [MT, MT_0, MT_1, MT_2, MT_3, MT_4, MT_5, MT_6, MT_7, MT_8, MT_9, MT_10, MT_11, MT_12, rq_X9_keep_0, rq_X9_keep_1, rq_X9_keep_2, rq_X9_keep_4, rq_X9_keep_7, rq_X9_keep_10, rq_X9_keep_12, rq_X9_keep_13, rq_X9_keep_14, rq_X9_keep_17, rq_X9_keep_20, rq_X9_keep_23, rq_X9_keep_25, rq_X9_keep_26, rq_X9_keep_27, rq_X9_keep_30, rq_X9_keep_31, rq_X9_keep_32, xo_iload, xo_const, xo_if1, xo_iret, xo_aload, xo_getf, Cnt_l, Cnt_r, Knt_v, Knt_n, run_ite, CCall, callOk, xrecv, initLo, nl, List.map_cons, List.map_nil, List.length_cons, List.length_nil, List.replicate, List.append_nil, List.nil_append, List.cons_append, List.getElem?_cons_zero, List.getElem?_cons_succ, List.set_cons_zero, List.set_cons_succ, List.take_succ_cons, List.take_zero, List.drop_succ_cons, List.drop_zero, List.reverse_cons, List.reverse_nil, List.getLast?_cons_cons, List.getLast?_singleton, List.all_cons, List.all_nil, List.sum_cons, List.sum_nil, Value.category, xcat1, xintV, Bool.cond_decide, cond_true, cond_false, ite_not, if_true, if_false, ite_self, beq_self_eq_true, Bool.and_true, Bool.true_and, Bool.and_self, decide_true, decide_false, true_and, and_true, and_self, not_false_eq_true, not_true_eq_false, Nat.reduceLeDiff, Nat.reduceAdd, Nat.reduceSub, Nat.reduceEqDiff, Nat.reduceLT, Nat.reduceBEq, ne_eq, hset_get, reduceIte, reduceCtorEq, Nat.le_refl, Nat.zero_le, Nat.reduceMul, or_tl, or_tr, i01, i10, bI_eq0, bI_eq1, bft, bI_z, bI_t, bI_f, bI_nar, nar0, nar1, c_within, hw, c1, c5, Bool.true_eq_false, nq_eql_0, n0]
  simp (disch := omega) only [rq_X9_keep_35, xo_iload, xo_const, xo_if1, xo_iret, xo_aload, xo_getf, Cnt_l, Cnt_r, Knt_v, Knt_n, run_ite, CCall, callOk, xrecv, initLo, nl, List.map_cons, List.map_nil, List.length_cons, List.length_nil, List.replicate, List.append_nil, List.nil_append, List.cons_append, List.getElem?_cons_zero, List.getElem?_cons_succ, List.set_cons_zero, List.set_cons_succ, List.take_succ_cons, List.take_zero, List.drop_succ_cons, List.drop_zero, List.reverse_cons, List.reverse_nil, List.getLast?_cons_cons, List.getLast?_singleton, List.all_cons, List.all_nil, List.sum_cons, List.sum_nil, Value.category, xcat1, xintV, Bool.cond_decide, cond_true, cond_false, ite_not, if_true, if_false, ite_self, beq_self_eq_true, Bool.and_true, Bool.true_and, Bool.and_self, decide_true, decide_false, true_and, and_true, and_self, not_false_eq_true, not_true_eq_false, Nat.reduceLeDiff, Nat.reduceAdd, Nat.reduceSub, Nat.reduceEqDiff, Nat.reduceLT, Nat.reduceBEq, ne_eq, hset_get, reduceIte, reduceCtorEq, Nat.le_refl, Nat.zero_le, Nat.reduceMul, or_tl, or_tr, i01, i10, bI_eq0, bI_eq1, bft, bI_z, bI_t, bI_f, bI_nar, nar0, nar1, c7, c5, c_putNew h40 c7 Y.1.c8 hn hr hc c5 Y.1.c6 ok]
  refine l_keep Zp F ?_
  rw [ec, show va_up K.D n (K.D 26) 26 = K.D 26 from vD_ne _ _ (by omega)]
  exact hQ
end X
