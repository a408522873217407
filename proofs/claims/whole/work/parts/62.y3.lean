/-! the class: a stroke is lifted -/
def addS (d : PD) (n : Nat) (u v : Int32) (X Y W : Nat → Int32) : PD := (d.1 + 1, va_up d.2.1 d.1 n, va_up d.2.2.1 d.1 u, va_up d.2.2.2.1 d.1 v, va_up d.2.2.2.2.1 d.1 X, va_up d.2.2.2.2.2.1 d.1 Y, va_up d.2.2.2.2.2.2 d.1 W)
theorem STs.add {h : Hp} {f : Nat → Option Nat} {d : PD} (s : STs h f d) {q n : Nat} {u v : Int32} {X Y W : Nat → Int32} (h5 : d.1 < 6) (sk : SKd h q n u v X Y W) : STs h (va_up f d.1 (some q)) (addS d n u v X Y W) := by
  refine ⟨by show d.1 + 1 ≤ 6; omega, fun k hk => ?_, fun k hk hk6 => ?_⟩
  · have hk : k < d.1 + 1 := hk
    unfold addS
    dsimp only
    by_cases e : k = d.1
    · subst e
      rw [vD_eq, vD_eq, vD_eq, vD_eq, vD_eq, vD_eq, vD_eq]
      exact ⟨q, rfl, sk⟩
    · rw [vD_ne _ _ e, vD_ne _ _ e, vD_ne _ _ e, vD_ne _ _ e, vD_ne _ _ e, vD_ne _ _ e, vD_ne _ _ e]
      exact s.2.1 k (by omega)
  · have hk : d.1 + 1 ≤ k := hk
    rw [vD_ne _ _ (by omega)]
    exact s.2.2 k (by omega) hk6
section X
variable {h : Hp} {K : KK} {I : Nat → Nat → Int32} {A : Nat → Nat → Int32} {R : Nat → Nat → Option Nat} {P : Nat → Nat} {o : Nat} {Q : Option Value → Hp → Prop}
/-- more cells are made, and those that were there stay -/
theorem CY.grow (Y : CY h K I A R P o) {H : Hp} (hf : ∀ j e, h.2.2 j = some e → H.2.2 j = some e) (hb : HB H) : CY H K I A R P o := by
  obtain ⟨C, a, ln, f, s1, S, L, dis, n1, n2, ho, _⟩ := Y
  exact ⟨fun c e he => hf c e (C c e he), a, ln, f, s1, S.fr (fun j e _ he => hf j e he), fun n hn => (L n hn).fr (fun j e _ he => hf j e he), dis, n1, n2, ho, hb⟩
theorem x_lift0 (Z : CZ h K) (h0 : K.2.2.2.1 = 0) (hQ : OUT h K 0 0 (.int (-3)) Q) : Call 68 [.ref 1] h Q := by
  have hq := hQ h Z (FrC.rfl' h)
  obtain ⟨I, A, R, P, o, Y⟩ := Z
  have c1 := Y.f1
  have c2 := Y.f2
  rw [h0] at c2
  unfold Call
  simp (disch := omega) only [MT, MT_0, MT_1, MT_2, MT_3, MT_4, MT_5, MT_6, MT_7, MT_8, MT_9, MT_10, MT_11, MT_12, rq_X9_lift_0, rq_X9_lift_1, rq_X9_lift_4, rq_X9_lift_7, rq_X9_lift_10, rq_X9_lift_12, xo_aload, xo_getf, xo_if1, xo_const, xo_iret, xo_if2, xo_new, xo_dup, xo_bin, Cnt_l, Cnt_r, Knt_v, Knt_n, run_ite, CCall, callOk, xrecv, initLo, nl, List.map_cons, List.map_nil, List.length_cons, List.length_nil, List.replicate, List.append_nil, List.nil_append, List.cons_append, List.getElem?_cons_zero, List.getElem?_cons_succ, List.set_cons_zero, List.set_cons_succ, List.take_succ_cons, List.take_zero, List.drop_succ_cons, List.drop_zero, List.reverse_cons, List.reverse_nil, List.getLast?_cons_cons, List.getLast?_singleton, List.all_cons, List.all_nil, List.sum_cons, List.sum_nil, Value.category, xcat1, xintV, Bool.cond_decide, cond_true, cond_false, ite_not, if_true, if_false, ite_self, beq_self_eq_true, Bool.and_true, Bool.true_and, Bool.and_self, decide_true, decide_false, true_and, and_true, and_self, not_false_eq_true, not_true_eq_false, Nat.reduceLeDiff, Nat.reduceAdd, Nat.reduceSub, Nat.reduceEqDiff, Nat.reduceLT, Nat.reduceBEq, ne_eq, hset_get, reduceIte, reduceCtorEq, Nat.le_refl, Nat.zero_le, Nat.reduceMul, or_tl, or_tr, i01, i10, bI_eq0, bI_eq1, bft, bI_z, bI_t, bI_f, bI_nar, nar0, nar1, c1, c2, show (nI 0 = 0) = True from eq_true rfl]
  exact hq
theorem x_lift6 (Z : CZ h K) (h0 : ¬ K.2.2.2.1 = 0) (h6 : (K.D 26).1 = 6) (hQ : OUT h K 0 0 (.int (-4)) Q) : Call 68 [.ref 1] h Q := by
  have hq := hQ h Z (FrC.rfl' h)
  obtain ⟨I, A, R, P, o, Y⟩ := Z
  have c1 := Y.f1
  have c2 := Y.f2
  have c5 := Y.f5
  have l8 := Y.l8
  rw [h6] at c5
  unfold Call
  simp (disch := omega) only [MT, MT_0, MT_1, MT_2, MT_3, MT_4, MT_5, MT_6, MT_7, MT_8, MT_9, MT_10, MT_11, MT_12, rq_X9_lift_0, rq_X9_lift_1, rq_X9_lift_4, rq_X9_lift_7, rq_X9_lift_10, rq_X9_lift_12, rq_X9_lift_13, rq_X9_lift_14, rq_X9_lift_17, rq_X9_lift_20, rq_X9_lift_22, rq_X9_lift_25, rq_X9_lift_27, xo_aload, xo_getf, xo_if1, xo_const, xo_iret, xo_if2, xo_new, xo_dup, xo_bin, Cnt_l, Cnt_r, Knt_v, Knt_n, run_ite, CCall, callOk, xrecv, initLo, nl, List.map_cons, List.map_nil, List.length_cons, List.length_nil, List.replicate, List.append_nil, List.nil_append, List.cons_append, List.getElem?_cons_zero, List.getElem?_cons_succ, List.set_cons_zero, List.set_cons_succ, List.take_succ_cons, List.take_zero, List.drop_succ_cons, List.drop_zero, List.reverse_cons, List.reverse_nil, List.getLast?_cons_cons, List.getLast?_singleton, List.all_cons, List.all_nil, List.sum_cons, List.sum_nil, Value.category, xcat1, xintV, Bool.cond_decide, cond_true, cond_false, ite_not, if_true, if_false, ite_self, beq_self_eq_true, Bool.and_true, Bool.true_and, Bool.and_self, decide_true, decide_false, true_and, and_true, and_self, not_false_eq_true, not_true_eq_false, Nat.reduceLeDiff, Nat.reduceAdd, Nat.reduceSub, Nat.reduceEqDiff, Nat.reduceLT, Nat.reduceBEq, ne_eq, hset_get, reduceIte, reduceCtorEq, Nat.le_refl, Nat.zero_le, Nat.reduceMul, or_tl, or_tr, i01, i10, bI_eq0, bI_eq1, bft, bI_z, bI_t, bI_f, bI_nar, nar0, nar1, nq_eql_0, nq_ltl_6, c1, c2, c5, h0, Nat.lt_irrefl]
  exact hq
theorem x_lift (Z : CZ h K) (h40 : 40 ≤ h.1) {n uu vv : Nat} {x y : Nat → Nat} (en : K.2.2.2.1 = n) (hn1 : 1 ≤ n) (h5 : (K.D 26).1 < 6) (eu : K.1 = nI uu) (bu : uu ≤ 6) (ev : abI K.2.1 = nI vv) (bv : vv ≤ 6) (ex : ∀ j, j < n → K.2.2.2.2.1 j = nI (x j) ∧ x j < 32) (ey : ∀ j, j < n → K.2.2.2.2.2.1 j = nI (y j) ∧ y j < 32)
    (hQ : OUT h (K.1, K.2.1, K.2.2.1, 0, K.2.2.2.2.1, K.2.2.2.2.2.1, K.2.2.2.2.2.2.1, K.2.2.2.2.2.2.2.1, va_up K.D 26 (addS (K.D 26) n (nI uu) K.2.1 K.2.2.2.2.1 K.2.2.2.2.2.1 (cstrI n uu vv K.2.1 x y))) 4 54 (.int (nI (K.D 26).1)) Q) : Call 68 [.ref 1] h Q := by
  obtain ⟨I, A, R, P, o, Y⟩ := Z
  have c1 := Y.f1
  have c2 := Y.f2
  have c3 := Y.f3
  have c4 := Y.f4
  have c5 := Y.f5
  have l8 := Y.l8
  have hb := Y.hb
  rw [en] at c2 l8
  rw [eu] at c1
  have n0 : ¬ n = 0 := by omega
  have m1 : ¬ 1 = h.1 := by omega
  have m2 : ¬ 2 = h.1 := by omega
  have m3 : ¬ 3 = h.1 := by omega
  have m4 : ¬ 4 = h.1 := by omega
  have m5 : ¬ 5 = h.1 := by omega
  unfold Call
  simp (disch := omega) only [MT, MT_0, MT_1, MT_2, MT_3, MT_4, MT_5, MT_6, MT_7, MT_8, MT_9, MT_10, MT_11, MT_12, rq_X9_lift_0, rq_X9_lift_1, rq_X9_lift_4, rq_X9_lift_7, rq_X9_lift_10, rq_X9_lift_12, rq_X9_lift_13, rq_X9_lift_14, rq_X9_lift_17, rq_X9_lift_20, rq_X9_lift_22, rq_X9_lift_25, rq_X9_lift_27, rq_X9_lift_28, rq_X9_lift_29, rq_X9_lift_32, rq_X9_lift_35, rq_X9_lift_36, rq_X9_lift_37, rq_X9_lift_40, rq_X9_lift_41, rq_X9_lift_44, rq_X9_lift_45, xo_aload, xo_getf, xo_if1, xo_const, xo_iret, xo_if2, xo_new, xo_dup, xo_bin, Cnt_l, Cnt_r, Knt_v, Knt_n, run_ite, CCall, callOk, xrecv, initLo, nl, List.map_cons, List.map_nil, List.length_cons, List.length_nil, List.replicate, List.append_nil, List.nil_append, List.cons_append, List.getElem?_cons_zero, List.getElem?_cons_succ, List.set_cons_zero, List.set_cons_succ, List.take_succ_cons, List.take_zero, List.drop_succ_cons, List.drop_zero, List.reverse_cons, List.reverse_nil, List.getLast?_cons_cons, List.getLast?_singleton, List.all_cons, List.all_nil, List.sum_cons, List.sum_nil, Value.category, xcat1, xintV, Bool.cond_decide, cond_true, cond_false, ite_not, if_true, if_false, ite_self, beq_self_eq_true, Bool.and_true, Bool.true_and, Bool.and_self, decide_true, decide_false, true_and, and_true, and_self, not_false_eq_true, not_true_eq_false, Nat.reduceLeDiff, Nat.reduceAdd, Nat.reduceSub, Nat.reduceEqDiff, Nat.reduceLT, Nat.reduceBEq, ne_eq, hset_get, reduceIte, reduceCtorEq, Nat.le_refl, Nat.zero_le, Nat.reduceMul, or_tl, or_tr, i01, i10, bI_eq0, bI_eq1, bft, bI_z, bI_t, bI_f, bI_nar, nar0, nar1, nq_eql_0, nq_ltl_6, c1, c2, c5, n0, eq_true h5, hnew_get, m1, m2, m5]
  simp (disch := omega) only [rq_X9_lift_48, xo_aload, xo_getf, xo_if1, xo_const, xo_iret, xo_if2, xo_new, xo_dup, xo_bin, Cnt_l, Cnt_r, Knt_v, Knt_n, run_ite, CCall, callOk, xrecv, initLo, nl, List.map_cons, List.map_nil, List.length_cons, List.length_nil, List.replicate, List.append_nil, List.nil_append, List.cons_append, List.getElem?_cons_zero, List.getElem?_cons_succ, List.set_cons_zero, List.set_cons_succ, List.take_succ_cons, List.take_zero, List.drop_succ_cons, List.drop_zero, List.reverse_cons, List.reverse_nil, List.getLast?_cons_cons, List.getLast?_singleton, List.all_cons, List.all_nil, List.sum_cons, List.sum_nil, Value.category, xcat1, xintV, Bool.cond_decide, cond_true, cond_false, ite_not, if_true, if_false, ite_self, beq_self_eq_true, Bool.and_true, Bool.true_and, Bool.and_self, decide_true, decide_false, true_and, and_true, and_self, not_false_eq_true, not_true_eq_false, Nat.reduceLeDiff, Nat.reduceAdd, Nat.reduceSub, Nat.reduceEqDiff, Nat.reduceLT, Nat.reduceBEq, ne_eq, hset_get, reduceIte, reduceCtorEq, Nat.le_refl, Nat.zero_le, Nat.reduceMul, or_tl, or_tr, i01, i10, bI_eq0, bI_eq1, bft, bI_z, bI_t, bI_f, bI_nar, nar0, nar1, hnew_get]
  refine c_strokeInit (h := hnew h 6 (ob 8 [.int 0, .int 0, .int 0, .null, .null, .null])) (q := h.1) (X := K.2.2.2.2.1) (Y := K.2.2.2.2.2.1) (n := n) rfl (by omega) (by rw [hnew_get, if_pos rfl]) (by rw [hnew_get, if_neg m2]; exact c2) (by rw [hnew_get, if_neg m3]; exact c3) (by rw [hnew_get, if_neg m4]; exact c4) hn1 l8 ex ey ev bu bv _ ?_
  intro H e1 e2 q0 q2 q3 q1 fr
  have fr : ∀ j, j < h.1 ∨ h.1 + 4 ≤ j → H.2.2 j = h.2.2 j := fun j hj => by rw [fr j hj, hnew_get, if_neg (by omega)]
  have e2 : H.2.1 = h.2.1 + 54 := by rw [e2]; show h.2.1 + 6 + 48 = _; omega
  have hbH : HB H := by
    intro j e he
    by_cases hj : j < h.1 + 4
    · omega
    · rw [fr j (Or.inr (by omega))] at he
      have := hb j e he
      omega
  have YH := Y.grow (H := H) (fun j e he => by rw [fr j (Or.inl (hb j e he))]; exact he) hbH
  have sk : SKd H h.1 n (nI uu) K.2.1 K.2.2.2.2.1 K.2.2.2.2.2.1 (cstrI n uu vv K.2.1 x y) := ⟨h.1 + 2, h.1 + 3, h.1 + 1, q0, q2, q3, q1, h40, by omega, by omega, by omega, hn1, l8⟩
  have S' := YH.S.add h5 sk
  have Zs := YH.sheet S'
  have d1 := YH.f1
  have d2 := YH.f2
  have d5 := YH.f5
  rw [en] at d2
  simp (disch := omega) only [rq_X9_lift_51, xo_aload, xo_getf, xo_if1, xo_const, xo_iret, xo_if2, xo_new, xo_dup, xo_bin, Cnt_l, Cnt_r, Knt_v, Knt_n, run_ite, CCall, callOk, xrecv, initLo, nl, List.map_cons, List.map_nil, List.length_cons, List.length_nil, List.replicate, List.append_nil, List.nil_append, List.cons_append, List.getElem?_cons_zero, List.getElem?_cons_succ, List.set_cons_zero, List.set_cons_succ, List.take_succ_cons, List.take_zero, List.drop_succ_cons, List.drop_zero, List.reverse_cons, List.reverse_nil, List.getLast?_cons_cons, List.getLast?_singleton, List.all_cons, List.all_nil, List.sum_cons, List.sum_nil, Value.category, xcat1, xintV, Bool.cond_decide, cond_true, cond_false, ite_not, if_true, if_false, ite_self, beq_self_eq_true, Bool.and_true, Bool.true_and, Bool.and_self, decide_true, decide_false, true_and, and_true, and_self, not_false_eq_true, not_true_eq_false, Nat.reduceLeDiff, Nat.reduceAdd, Nat.reduceSub, Nat.reduceEqDiff, Nat.reduceLT, Nat.reduceBEq, ne_eq, hset_get, reduceIte, reduceCtorEq, Nat.le_refl, Nat.zero_le, Nat.reduceMul, or_tl, or_tr, i01, i10, bI_eq0, bI_eq1, bft, bI_z, bI_t, bI_f, bI_nar, nar0, nar1, d5, q0, c_pageAdd (by omega : ¬ 5 = 6) d5 YH.1.c6 q0 h5]
  simp (disch := omega) only [rq_X9_lift_54, rq_X9_lift_55, xo_aload, xo_getf, xo_if1, xo_const, xo_iret, xo_if2, xo_new, xo_dup, xo_bin, Cnt_l, Cnt_r, Knt_v, Knt_n, run_ite, CCall, callOk, xrecv, initLo, nl, List.map_cons, List.map_nil, List.length_cons, List.length_nil, List.replicate, List.append_nil, List.nil_append, List.cons_append, List.getElem?_cons_zero, List.getElem?_cons_succ, List.set_cons_zero, List.set_cons_succ, List.take_succ_cons, List.take_zero, List.drop_succ_cons, List.drop_zero, List.reverse_cons, List.reverse_nil, List.getLast?_cons_cons, List.getLast?_singleton, List.all_cons, List.all_nil, List.sum_cons, List.sum_nil, Value.category, xcat1, xintV, Bool.cond_decide, cond_true, cond_false, ite_not, if_true, if_false, ite_self, beq_self_eq_true, Bool.and_true, Bool.true_and, Bool.and_self, decide_true, decide_false, true_and, and_true, and_self, not_false_eq_true, not_true_eq_false, Nat.reduceLeDiff, Nat.reduceAdd, Nat.reduceSub, Nat.reduceEqDiff, Nat.reduceLT, Nat.reduceBEq, ne_eq, hset_get, reduceIte, reduceCtorEq, Nat.le_refl, Nat.zero_le, Nat.reduceMul, or_tl, or_tr, i01, i10, bI_eq0, bI_eq1, bft, bI_z, bI_t, bI_f, bI_nar, nar0, nar1, d1]
  obtain ⟨I', A', R', P', o', Y'⟩ := Zs
  have Zf := Y'.lineClear
  have d2' : (hset (hset H 6 (ra 3 6 (va_up (R 6) (K.D 26).1 (some h.1)))) 5 (ob 6 [.ref 6, .int (nI ((K.D 26).1 + 1))])).2.2 2 = some (ob 5 [.ref 3, .ref 4, .int (nI n)]) := d2
  simp (disch := omega) only [rq_X9_lift_58, xo_aload, xo_getf, xo_if1, xo_const, xo_iret, xo_if2, xo_new, xo_dup, xo_bin, Cnt_l, Cnt_r, Knt_v, Knt_n, run_ite, CCall, callOk, xrecv, initLo, nl, List.map_cons, List.map_nil, List.length_cons, List.length_nil, List.replicate, List.append_nil, List.nil_append, List.cons_append, List.getElem?_cons_zero, List.getElem?_cons_succ, List.set_cons_zero, List.set_cons_succ, List.take_succ_cons, List.take_zero, List.drop_succ_cons, List.drop_zero, List.reverse_cons, List.reverse_nil, List.getLast?_cons_cons, List.getLast?_singleton, List.all_cons, List.all_nil, List.sum_cons, List.sum_nil, Value.category, xcat1, xintV, Bool.cond_decide, cond_true, cond_false, ite_not, if_true, if_false, ite_self, beq_self_eq_true, Bool.and_true, Bool.true_and, Bool.and_self, decide_true, decide_false, true_and, and_true, and_self, not_false_eq_true, not_true_eq_false, Nat.reduceLeDiff, Nat.reduceAdd, Nat.reduceSub, Nat.reduceEqDiff, Nat.reduceLT, Nat.reduceBEq, ne_eq, hset_get, reduceIte, reduceCtorEq, Nat.le_refl, Nat.zero_le, Nat.reduceMul, or_tl, or_tr, i01, i10, bI_eq0, bI_eq1, bft, bI_z, bI_t, bI_f, bI_nar, nar0, nar1, d2, c_lineClear d2']
  simp (disch := omega) only [rq_X9_lift_61, rq_X9_lift_62, rq_X9_lift_65, rq_X9_lift_68, rq_X9_lift_69, rq_X9_lift_70, xo_aload, xo_getf, xo_if1, xo_const, xo_iret, xo_if2, xo_new, xo_dup, xo_bin, Cnt_l, Cnt_r, Knt_v, Knt_n, run_ite, CCall, callOk, xrecv, initLo, nl, List.map_cons, List.map_nil, List.length_cons, List.length_nil, List.replicate, List.append_nil, List.nil_append, List.cons_append, List.getElem?_cons_zero, List.getElem?_cons_succ, List.set_cons_zero, List.set_cons_succ, List.take_succ_cons, List.take_zero, List.drop_succ_cons, List.drop_zero, List.reverse_cons, List.reverse_nil, List.getLast?_cons_cons, List.getLast?_singleton, List.all_cons, List.all_nil, List.sum_cons, List.sum_nil, Value.category, xcat1, xintV, Bool.cond_decide, cond_true, cond_false, ite_not, if_true, if_false, ite_self, beq_self_eq_true, Bool.and_true, Bool.true_and, Bool.and_self, decide_true, decide_false, true_and, and_true, and_self, not_false_eq_true, not_true_eq_false, Nat.reduceLeDiff, Nat.reduceAdd, Nat.reduceSub, Nat.reduceEqDiff, Nat.reduceLT, Nat.reduceBEq, ne_eq, hset_get, reduceIte, reduceCtorEq, Nat.le_refl, Nat.zero_le, Nat.reduceMul, or_tl, or_tr, i01, i10, bI_eq0, bI_eq1, bft, bI_z, bI_t, bI_f, bI_nar, nar0, nar1, d1, nq_subl_1, Nat.add_sub_cancel]
  refine hQ _ Zf ?_
  have F0 : FrC h H 4 54 := ⟨by omega, by omega, by omega, fun c hc => fr c (Or.inl (by omega))⟩
  exact ((F0.set (by omega) _).set (by omega) _).set (by omega) _
end X
