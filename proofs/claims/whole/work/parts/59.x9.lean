/-! the class: letters forgotten and taken, lessons, limits -/
theorem cntL_set (D : Nat → PD) (d : PD) (n : Nat) : ∀ m, n < m → cntL (va_up D n d) m + (if 0 < (D n).1 then 1 else 0) = cntL D m + (if 0 < d.1 then 1 else 0)
  | 0, hm => absurd hm (Nat.not_lt_zero _)
  | m + 1, hm => by
    simp only [cntL]
    by_cases e : n = m
    · subst e
      rw [cntL_up D d n (Nat.le_refl _), vD_eq]
      omega
    · have := cntL_set D d n m (by omega)
      rw [vD_ne D d (fun z => e z.symm)]
      omega
/-- strokes of a page are strokes -/
theorem STs.ok {h : Hp} {f : Nat → Option Nat} {d : PD} (s : STs h f d) {c : Nat} (hc : c < 40) : ∀ k q, k < 6 → f k = some q → ¬ q = c ∧ ∃ fs, h.2.2 q = some (ob 8 fs) := by
  intro k q hk hf
  by_cases h1 : k < d.1
  · obtain ⟨q', e, qx, qy, qr, s0, _, _, _, b1, _⟩ := s.2.1 k h1
    rw [hf] at e
    cases e
    exact ⟨by omega, _, s0⟩
  · rw [s.2.2 k (by omega) hk] at hf
    cases hf
theorem STs.mix {h : Hp} {f g : Nat → Option Nat} {d : PD} (s : STs h f d) : STs h (gmix 6 f g) d := by
  have h6 := s.1
  refine ⟨s.1, fun k hk => ?_, fun k hk hk6 => ?_⟩
  · rw [gmix_lt (by omega)]; exact s.2.1 k hk
  · rw [gmix_lt hk6]; exact s.2.2 k hk hk6
section X
variable {h : Hp} {K : KK} {I : Nat → Nat → Int32} {A : Nat → Nat → Int32} {R : Nat → Nat → Option Nat} {P : Nat → Nat} {o : Nat} {Q : Option Value → Hp → Prop}
theorem CY.isl (Y : CY h K I A R P o) : ∀ n, n < 26 → (R 8 n).isSome = decide (0 < (K.D n).1) := fun n hn => by
  rcases Y.L n hn with ⟨hr, hd⟩ | ⟨p, f, hr, _, _, _, _, _, _, z⟩
  · rw [hr, hd]; rfl
  · rw [hr, decide_eq_true (by omega)]; rfl
theorem x_take (Z : CZ h K) (k : Int32) (hQ : OUT h (if lB K k = true then K.setD (va_up K.D 26 (K.D k.toNatClampNeg)) else K) 0 0 (.int (if lB K k = true then nI (K.D k.toNatClampNeg).1 else -1)) Q) : Call 81 [.ref 1, .int k] h Q := by
  have Z0 := Z
  obtain ⟨I, A, R, P, o, Y⟩ := Z
  have c1 := Y.f1
  have c5 := Y.f5
  have c7 := Y.f7
  unfold Call
  rcases lt_cases Y k with ⟨n, p, f, hn, rfl, hr, hp, hpa, hne, p0, pr, ss, z, hw, hlb⟩ | ⟨hnu, hlb⟩
  · rw [if_pos hlb, if_pos hlb, nq_cl (by omega)] at hQ
    have hq := hQ _ (Y.sheet (ss.mix (g := R 6))) (((FrC.rfl' h).set (by omega) _).set (by omega) _)
    simp (disch := omega) only [MT, MT_0, MT_1, MT_2, MT_3, MT_4, MT_5, MT_6, MT_7, MT_8, MT_9, MT_10, MT_11, MT_12, rq_X9_take_0, rq_X9_take_1, rq_X9_take_4, rq_X9_take_5, rq_X9_take_8, rq_X9_take_9, rq_X9_take_10, rq_X9_take_13, rq_X9_take_14, rq_X9_take_15, rq_X9_take_16, rq_X9_take_19, xo_aload, xo_getf, xo_iload, xo_astore, xo_null, xo_const, xo_iret, Cnt_l, Cnt_r, Knt_v, Knt_n, run_ite, CCall, callOk, xrecv, initLo, nl, List.map_cons, List.map_nil, List.length_cons, List.length_nil, List.replicate, List.append_nil, List.nil_append, List.cons_append, List.getElem?_cons_zero, List.getElem?_cons_succ, List.set_cons_zero, List.set_cons_succ, List.take_succ_cons, List.take_zero, List.drop_succ_cons, List.drop_zero, List.reverse_cons, List.reverse_nil, List.getLast?_cons_cons, List.getLast?_singleton, List.all_cons, List.all_nil, List.sum_cons, List.sum_nil, Value.category, xcat1, xintV, Bool.cond_decide, cond_true, cond_false, ite_not, if_true, if_false, ite_self, beq_self_eq_true, Bool.and_true, Bool.true_and, Bool.and_self, decide_true, decide_false, true_and, and_true, and_self, not_false_eq_true, not_true_eq_false, Nat.reduceLeDiff, Nat.reduceAdd, Nat.reduceSub, Nat.reduceEqDiff, Nat.reduceLT, Nat.reduceBEq, ne_eq, hset_get, reduceIte, reduceCtorEq, Nat.le_refl, Nat.zero_le, Nat.reduceMul, or_tl, or_tr, i01, i10, bI_eq0, bI_eq1, bft, bI_z, bI_t, bI_f, bI_nar, nar0, nar1, nq_cl, c1, c7, c_shelfAt c7 Y.1.c8, hw, hr, xav]
    simp (disch := omega) only [rq_X9_take_20, xo_aload, xo_getf, xo_iload, xo_astore, xo_null, xo_const, xo_iret, Cnt_l, Cnt_r, Knt_v, Knt_n, run_ite, CCall, callOk, xrecv, initLo, nl, List.map_cons, List.map_nil, List.length_cons, List.length_nil, List.replicate, List.append_nil, List.nil_append, List.cons_append, List.getElem?_cons_zero, List.getElem?_cons_succ, List.set_cons_zero, List.set_cons_succ, List.take_succ_cons, List.take_zero, List.drop_succ_cons, List.drop_zero, List.reverse_cons, List.reverse_nil, List.getLast?_cons_cons, List.getLast?_singleton, List.all_cons, List.all_nil, List.sum_cons, List.sum_nil, Value.category, xcat1, xintV, Bool.cond_decide, cond_true, cond_false, ite_not, if_true, if_false, ite_self, beq_self_eq_true, Bool.and_true, Bool.true_and, Bool.and_self, decide_true, decide_false, true_and, and_true, and_self, not_false_eq_true, not_true_eq_false, Nat.reduceLeDiff, Nat.reduceAdd, Nat.reduceSub, Nat.reduceEqDiff, Nat.reduceLT, Nat.reduceBEq, ne_eq, hset_get, reduceIte, reduceCtorEq, Nat.le_refl, Nat.zero_le, Nat.reduceMul, or_tl, or_tr, i01, i10, bI_eq0, bI_eq1, bft, bI_z, bI_t, bI_f, bI_nar, nar0, nar1, c5, p0, c_pageCopy (by omega : ¬ 5 = 6) (by omega : ¬ p = 6) (by omega : ¬ P n = 6) c5 Y.1.c6 p0 pr (ss.ok (by omega))]
    simp (disch := omega) only [rq_X9_take_23, rq_X9_take_24, rq_X9_take_27, rq_X9_take_30, xo_aload, xo_getf, xo_iload, xo_astore, xo_null, xo_const, xo_iret, Cnt_l, Cnt_r, Knt_v, Knt_n, run_ite, CCall, callOk, xrecv, initLo, nl, List.map_cons, List.map_nil, List.length_cons, List.length_nil, List.replicate, List.append_nil, List.nil_append, List.cons_append, List.getElem?_cons_zero, List.getElem?_cons_succ, List.set_cons_zero, List.set_cons_succ, List.take_succ_cons, List.take_zero, List.drop_succ_cons, List.drop_zero, List.reverse_cons, List.reverse_nil, List.getLast?_cons_cons, List.getLast?_singleton, List.all_cons, List.all_nil, List.sum_cons, List.sum_nil, Value.category, xcat1, xintV, Bool.cond_decide, cond_true, cond_false, ite_not, if_true, if_false, ite_self, beq_self_eq_true, Bool.and_true, Bool.true_and, Bool.and_self, decide_true, decide_false, true_and, and_true, and_self, not_false_eq_true, not_true_eq_false, Nat.reduceLeDiff, Nat.reduceAdd, Nat.reduceSub, Nat.reduceEqDiff, Nat.reduceLT, Nat.reduceBEq, ne_eq, hset_get, reduceIte, reduceCtorEq, Nat.le_refl, Nat.zero_le, Nat.reduceMul, or_tl, or_tr, i01, i10, bI_eq0, bI_eq1, bft, bI_z, bI_t, bI_f, bI_nar, nar0, nar1, c1]
    exact hq
  · rw [if_neg (by rw [hlb]; decide), if_neg (by rw [hlb]; decide)] at hQ
    simp (disch := omega) only [MT, MT_0, MT_1, MT_2, MT_3, MT_4, MT_5, MT_6, MT_7, MT_8, MT_9, MT_10, MT_11, MT_12, rq_X9_take_0, rq_X9_take_1, rq_X9_take_4, rq_X9_take_5, rq_X9_take_8, rq_X9_take_9, rq_X9_take_10, rq_X9_take_13, rq_X9_take_14, xo_aload, xo_getf, xo_iload, xo_astore, xo_null, xo_const, xo_iret, Cnt_l, Cnt_r, Knt_v, Knt_n, run_ite, CCall, callOk, xrecv, initLo, nl, List.map_cons, List.map_nil, List.length_cons, List.length_nil, List.replicate, List.append_nil, List.nil_append, List.cons_append, List.getElem?_cons_zero, List.getElem?_cons_succ, List.set_cons_zero, List.set_cons_succ, List.take_succ_cons, List.take_zero, List.drop_succ_cons, List.drop_zero, List.reverse_cons, List.reverse_nil, List.getLast?_cons_cons, List.getLast?_singleton, List.all_cons, List.all_nil, List.sum_cons, List.sum_nil, Value.category, xcat1, xintV, Bool.cond_decide, cond_true, cond_false, ite_not, if_true, if_false, ite_self, beq_self_eq_true, Bool.and_true, Bool.true_and, Bool.and_self, decide_true, decide_false, true_and, and_true, and_self, not_false_eq_true, not_true_eq_false, Nat.reduceLeDiff, Nat.reduceAdd, Nat.reduceSub, Nat.reduceEqDiff, Nat.reduceLT, Nat.reduceBEq, ne_eq, hset_get, reduceIte, reduceCtorEq, Nat.le_refl, Nat.zero_le, Nat.reduceMul, or_tl, or_tr, i01, i10, bI_eq0, bI_eq1, bft, bI_z, bI_t, bI_f, bI_nar, nar0, nar1, c1, c7, c_shelfAt c7 Y.1.c8, hnu]
    exact hQ h Z0 (FrC.rfl' h)
theorem CY.forget (Y : CY h K I A R P o) {n c : Nat} (hn : n < 26) (h0 : 0 < (K.D n).1) (hc : cntL K.D 26 = c + 1) : CZ (hset (hset h 8 (ra 4 26 (va_up (R 8) n none))) 7 (ob 7 [.ref 8, .int (nI c)])) (K.setD (va_up K.D n (0, (K.D n).2))) := by
  have C' := (Y.1.s8 (va_up (R 8) n none)).s7 (fun _ => nI c)
  have b := (Y.hb.set (Y.lt Y.1.c8) (ra 4 26 (va_up (R 8) n none))).set (Y.lt Y.1.c7) (oc7 (fun _ => nI c))
  have e1 := cntL_set K.D (0, (K.D n).2) n 26 hn
  rw [if_pos h0, if_neg (by show ¬ 0 < 0; omega)] at e1
  have e2 : cntL (va_up K.D n (0, (K.D n).2)) 26 = c := by omega
  obtain ⟨C, a, ln, f, s1, S, L, dis, n1, n2, ho, _⟩ := Y
  refine ⟨_, _, va_up R 8 (va_up (R 8) n none), P, o, C', a, ln, f, ?_, ?_, fun m hm => ?_, fun m m' hm hm' hne q1 q2 => ?_, ?_, ?_, ho, b⟩
  · show I 5 1 = nI (va_up K.D n (0, (K.D n).2) 26).1
    rw [vD_ne _ _ (by omega)]; exact s1
  · show STs _ (R 6) (va_up K.D n (0, (K.D n).2) 26)
    rw [vD_ne _ _ (by omega)]; exact (S.set (by omega) _).set (by omega) _
  · show LT _ (va_up (R 8) n none m) (P m) (va_up K.D n (0, (K.D n).2) m)
    by_cases e : m = n
    · subst e; rw [vD_eq, vD_eq]; exact Or.inl ⟨rfl, rfl⟩
    · rw [vD_ne _ _ e, vD_ne _ _ e]; exact ((L m hm).set (by omega) _).set (by omega) _
  · have q1 : (va_up (R 8) n none m).isSome = true := q1
    have q2 : (va_up (R 8) n none m').isSome = true := q2
    by_cases e : m = n
    · rw [e, vD_eq] at q1; cases q1
    · by_cases e' : m' = n
      · rw [e', vD_eq] at q2; cases q2
      · rw [vD_ne _ _ e] at q1
        rw [vD_ne _ _ e'] at q2
        exact dis m m' hm hm' hne q1 q2
  · show nI c = nI (cntL (va_up K.D n (0, (K.D n).2)) 26)
    rw [e2]
  · show cntL (va_up K.D n (0, (K.D n).2)) 26 ≤ 10
    rw [e2]; omega
theorem x_forget (Z : CZ h K) (k : Int32) (hQ : OUT h (if lB K k = true then K.setD (va_up K.D k.toNatClampNeg (0, (K.D k.toNatClampNeg).2)) else K) 0 0 (.int (if lB K k = true then nI (cntL K.D 26 - 1) else -1)) Q) : Call 82 [.ref 1, .int k] h Q := by
  have Z0 := Z
  obtain ⟨I, A, R, P, o, Y⟩ := Z
  have c1 := Y.f1
  have c7 := Y.f7
  unfold Call
  rcases lt_cases Y k with ⟨n, p, f, hn, rfl, hr, hp, hpa, hne, p0, pr, ss, z, hw, hlb⟩ | ⟨hnu, hlb⟩
  · rw [if_pos hlb, if_pos hlb, nq_cl (by omega)] at hQ
    have e1 := cntL_set K.D (0, (K.D n).2) n 26 hn
    rw [if_pos (by omega), if_neg (by show ¬ 0 < 0; omega)] at e1
    obtain ⟨c, hc⟩ : ∃ c, cntL K.D 26 = c + 1 := ⟨cntL K.D 26 - 1, by omega⟩
    have h10 : cntL K.D 26 ≤ 10 := Y.2.2.2.2.2.2.2.2.2.1
    have hq := hQ _ (Y.forget hn (by omega) hc) (((FrC.rfl' h).set (by omega) _).set (by omega) _)
    rw [hc] at c7 hq
    simp (disch := omega) only [MT, MT_0, MT_1, MT_2, MT_3, MT_4, MT_5, MT_6, MT_7, MT_8, MT_9, MT_10, MT_11, MT_12, rq_X9_forget_0, rq_X9_forget_1, rq_X9_forget_4, rq_X9_forget_5, rq_X9_forget_8, rq_X9_forget_11, rq_X9_forget_12, rq_X9_forget_13, rq_X9_forget_14, rq_X9_forget_17, xo_aload, xo_getf, xo_iload, xo_null, xo_const, xo_iret, Cnt_l, Cnt_r, Knt_v, Knt_n, run_ite, CCall, callOk, xrecv, initLo, nl, List.map_cons, List.map_nil, List.length_cons, List.length_nil, List.replicate, List.append_nil, List.nil_append, List.cons_append, List.getElem?_cons_zero, List.getElem?_cons_succ, List.set_cons_zero, List.set_cons_succ, List.take_succ_cons, List.take_zero, List.drop_succ_cons, List.drop_zero, List.reverse_cons, List.reverse_nil, List.getLast?_cons_cons, List.getLast?_singleton, List.all_cons, List.all_nil, List.sum_cons, List.sum_nil, Value.category, xcat1, xintV, Bool.cond_decide, cond_true, cond_false, ite_not, if_true, if_false, ite_self, beq_self_eq_true, Bool.and_true, Bool.true_and, Bool.and_self, decide_true, decide_false, true_and, and_true, and_self, not_false_eq_true, not_true_eq_false, Nat.reduceLeDiff, Nat.reduceAdd, Nat.reduceSub, Nat.reduceEqDiff, Nat.reduceLT, Nat.reduceBEq, ne_eq, hset_get, reduceIte, reduceCtorEq, Nat.le_refl, Nat.zero_le, Nat.reduceMul, or_tl, or_tr, i01, i10, bI_eq0, bI_eq1, bft, bI_z, bI_t, bI_f, bI_nar, nar0, nar1, nq_cl, c1, c7, c_shelfAt c7 Y.1.c8, hw, hr, xav]
    simp (disch := omega) only [rq_X9_forget_18, xo_aload, xo_getf, xo_iload, xo_null, xo_const, xo_iret, Cnt_l, Cnt_r, Knt_v, Knt_n, run_ite, CCall, callOk, xrecv, initLo, nl, List.map_cons, List.map_nil, List.length_cons, List.length_nil, List.replicate, List.append_nil, List.nil_append, List.cons_append, List.getElem?_cons_zero, List.getElem?_cons_succ, List.set_cons_zero, List.set_cons_succ, List.take_succ_cons, List.take_zero, List.drop_succ_cons, List.drop_zero, List.reverse_cons, List.reverse_nil, List.getLast?_cons_cons, List.getLast?_singleton, List.all_cons, List.all_nil, List.sum_cons, List.sum_nil, Value.category, xcat1, xintV, Bool.cond_decide, cond_true, cond_false, ite_not, if_true, if_false, ite_self, beq_self_eq_true, Bool.and_true, Bool.true_and, Bool.and_self, decide_true, decide_false, true_and, and_true, and_self, not_false_eq_true, not_true_eq_false, Nat.reduceLeDiff, Nat.reduceAdd, Nat.reduceSub, Nat.reduceEqDiff, Nat.reduceLT, Nat.reduceBEq, ne_eq, hset_get, reduceIte, reduceCtorEq, Nat.le_refl, Nat.zero_le, Nat.reduceMul, or_tl, or_tr, i01, i10, bI_eq0, bI_eq1, bft, bI_z, bI_t, bI_f, bI_nar, nar0, nar1, c7, c_shelfRemove c7 Y.1.c8 hn hr (by omega)]
    simp (disch := omega) only [rq_X9_forget_21, rq_X9_forget_22, rq_X9_forget_25, rq_X9_forget_28, xo_aload, xo_getf, xo_iload, xo_null, xo_const, xo_iret, Cnt_l, Cnt_r, Knt_v, Knt_n, run_ite, CCall, callOk, xrecv, initLo, nl, List.map_cons, List.map_nil, List.length_cons, List.length_nil, List.replicate, List.append_nil, List.nil_append, List.cons_append, List.getElem?_cons_zero, List.getElem?_cons_succ, List.set_cons_zero, List.set_cons_succ, List.take_succ_cons, List.take_zero, List.drop_succ_cons, List.drop_zero, List.reverse_cons, List.reverse_nil, List.getLast?_cons_cons, List.getLast?_singleton, List.all_cons, List.all_nil, List.sum_cons, List.sum_nil, Value.category, xcat1, xintV, Bool.cond_decide, cond_true, cond_false, ite_not, if_true, if_false, ite_self, beq_self_eq_true, Bool.and_true, Bool.true_and, Bool.and_self, decide_true, decide_false, true_and, and_true, and_self, not_false_eq_true, not_true_eq_false, Nat.reduceLeDiff, Nat.reduceAdd, Nat.reduceSub, Nat.reduceEqDiff, Nat.reduceLT, Nat.reduceBEq, ne_eq, hset_get, reduceIte, reduceCtorEq, Nat.le_refl, Nat.zero_le, Nat.reduceMul, or_tl, or_tr, i01, i10, bI_eq0, bI_eq1, bft, bI_z, bI_t, bI_f, bI_nar, nar0, nar1, c1]
    exact hq
  · rw [if_neg (by rw [hlb]; decide), if_neg (by rw [hlb]; decide)] at hQ
    simp (disch := omega) only [MT, MT_0, MT_1, MT_2, MT_3, MT_4, MT_5, MT_6, MT_7, MT_8, MT_9, MT_10, MT_11, MT_12, rq_X9_forget_0, rq_X9_forget_1, rq_X9_forget_4, rq_X9_forget_5, rq_X9_forget_8, rq_X9_forget_11, rq_X9_forget_12, xo_aload, xo_getf, xo_iload, xo_null, xo_const, xo_iret, Cnt_l, Cnt_r, Knt_v, Knt_n, run_ite, CCall, callOk, xrecv, initLo, nl, List.map_cons, List.map_nil, List.length_cons, List.length_nil, List.replicate, List.append_nil, List.nil_append, List.cons_append, List.getElem?_cons_zero, List.getElem?_cons_succ, List.set_cons_zero, List.set_cons_succ, List.take_succ_cons, List.take_zero, List.drop_succ_cons, List.drop_zero, List.reverse_cons, List.reverse_nil, List.getLast?_cons_cons, List.getLast?_singleton, List.all_cons, List.all_nil, List.sum_cons, List.sum_nil, Value.category, xcat1, xintV, Bool.cond_decide, cond_true, cond_false, ite_not, if_true, if_false, ite_self, beq_self_eq_true, Bool.and_true, Bool.true_and, Bool.and_self, decide_true, decide_false, true_and, and_true, and_self, not_false_eq_true, not_true_eq_false, Nat.reduceLeDiff, Nat.reduceAdd, Nat.reduceSub, Nat.reduceEqDiff, Nat.reduceLT, Nat.reduceBEq, ne_eq, hset_get, reduceIte, reduceCtorEq, Nat.le_refl, Nat.zero_le, Nat.reduceMul, or_tl, or_tr, i01, i10, bI_eq0, bI_eq1, bft, bI_z, bI_t, bI_f, bI_nar, nar0, nar1, c1, c7, c_shelfAt c7 Y.1.c8, hnu]
    exact hQ h Z0 (FrC.rfl' h)
theorem x_lesson (Z : CZ h K) (k w : Int32) (hQ : ∀ (r : Nat → Option Nat) g1 g2 o nk, (∀ n, n < 26 → (r n).isSome = decide (0 < (K.D n).1)) → OUT h K 0 0 (.int (if wB k 0 9 = true ∧ wB w 0 1 = true then if w = 0 ∨ (lsF K.D r K.2.2.1 (k.toNatClampNeg + 1) (-9, 0, (g1, 0), nk, (g2, o))).1 = -9 then (lsF K.D r K.2.2.1 (k.toNatClampNeg + 1) (-9, 0, (g1, 0), nk, (g2, o))).1 else (lsF K.D r K.2.2.1 (k.toNatClampNeg + 1) (-9, 0, (g1, 0), nk, (g2, o))).2.2.2.1 else -2)) Q) : Call 89 [.ref 1, .int k, .int w] h Q := by
  have Z0 := Z
  obtain ⟨I, A, R, P, o, Y⟩ := Z
  have hQ := hQ (R 8) (A 21) (A 23) o (I 19 2) Y.isl
  have c1 := Y.f1
  have c7 := Y.f7
  have c19 := Y.1.c19
  unfold Call
  by_cases h1 : wB k 0 9 = true
  · by_cases h2 : wB w 0 1 = true
    · rw [if_pos ⟨h1, h2⟩] at hQ
      obtain ⟨m, hm, rfl⟩ := wB_lit (n := 9) (by omega) h1
      rw [nq_cl (by omega)] at hQ
      simp (disch := omega) only [MT, MT_0, MT_1, MT_2, MT_3, MT_4, MT_5, MT_6, MT_7, MT_8, MT_9, MT_10, MT_11, MT_12, rq_X9_lesson_0, rq_X9_lesson_1, rq_X9_lesson_2, rq_X9_lesson_4, rq_X9_lesson_7, rq_X9_lesson_10, rq_X9_lesson_11, rq_X9_lesson_12, rq_X9_lesson_13, rq_X9_lesson_16, rq_X9_lesson_19, rq_X9_lesson_21, rq_X9_lesson_22, rq_X9_lesson_23, rq_X9_lesson_26, rq_X9_lesson_27, rq_X9_lesson_28, rq_X9_lesson_31, rq_X9_lesson_32, xo_iload, xo_const, xo_if1, xo_iret, xo_aload, xo_getf, xo_istore, xo_if2, xo_goto, Cnt_l, Cnt_r, Knt_v, Knt_n, run_ite, CCall, callOk, xrecv, initLo, nl, List.map_cons, List.map_nil, List.length_cons, List.length_nil, List.replicate, List.append_nil, List.nil_append, List.cons_append, List.getElem?_cons_zero, List.getElem?_cons_succ, List.set_cons_zero, List.set_cons_succ, List.take_succ_cons, List.take_zero, List.drop_succ_cons, List.drop_zero, List.reverse_cons, List.reverse_nil, List.getLast?_cons_cons, List.getLast?_singleton, List.all_cons, List.all_nil, List.sum_cons, List.sum_nil, Value.category, xcat1, xintV, Bool.cond_decide, cond_true, cond_false, ite_not, if_true, if_false, ite_self, beq_self_eq_true, Bool.and_true, Bool.true_and, Bool.and_self, decide_true, decide_false, true_and, and_true, and_self, not_false_eq_true, not_true_eq_false, Nat.reduceLeDiff, Nat.reduceAdd, Nat.reduceSub, Nat.reduceEqDiff, Nat.reduceLT, Nat.reduceBEq, ne_eq, hset_get, reduceIte, reduceCtorEq, Nat.le_refl, Nat.zero_le, Nat.reduceMul, or_tl, or_tr, i01, i10, bI_eq0, bI_eq1, bft, bI_z, bI_t, bI_f, bI_nar, nar0, nar1, c1, c_within, h1, h2, Bool.true_eq_false]
      simp (disch := omega) only [rq_X9_lesson_35, xo_iload, xo_const, xo_if1, xo_iret, xo_aload, xo_getf, xo_istore, xo_if2, xo_goto, Cnt_l, Cnt_r, Knt_v, Knt_n, run_ite, CCall, callOk, xrecv, initLo, nl, List.map_cons, List.map_nil, List.length_cons, List.length_nil, List.replicate, List.append_nil, List.nil_append, List.cons_append, List.getElem?_cons_zero, List.getElem?_cons_succ, List.set_cons_zero, List.set_cons_succ, List.take_succ_cons, List.take_zero, List.drop_succ_cons, List.drop_zero, List.reverse_cons, List.reverse_nil, List.getLast?_cons_cons, List.getLast?_singleton, List.all_cons, List.all_nil, List.sum_cons, List.sum_nil, Value.category, xcat1, xintV, Bool.cond_decide, cond_true, cond_false, ite_not, if_true, if_false, ite_self, beq_self_eq_true, Bool.and_true, Bool.true_and, Bool.and_self, decide_true, decide_false, true_and, and_true, and_self, not_false_eq_true, not_true_eq_false, Nat.reduceLeDiff, Nat.reduceAdd, Nat.reduceSub, Nat.reduceEqDiff, Nat.reduceLT, Nat.reduceBEq, ne_eq, hset_get, reduceIte, reduceCtorEq, Nat.le_refl, Nat.zero_le, Nat.reduceMul, or_tl, or_tr, i01, i10, bI_eq0, bI_eq1, bft, bI_z, bI_t, bI_f, bI_nar, nar0, nar1, c19, c7]
      generalize hR : lsF K.D (R 8) K.2.2.1 (m + 1) (-9, 0, (A 21, 0), I 19 2, (A 23, o)) = R2 at hQ
      refine c_lessonAt Y.1 Y.L K.2.2.1 hm Y.2.2.2.2.2.2.2.2.2.2.1 _ R2 hR ?_
      have hq := hQ _ (Z0.ls R2.2.2.2.1 R2.2.2.1 R2.2.2.2.2) ((FrC.rfl' h).ls _ _ _)
      by_cases h3 : w = 0
      · rw [if_pos (Or.inl h3)] at hq
        simp (disch := omega) only [rq_X9_lesson_38, rq_X9_lesson_39, rq_X9_lesson_40, rq_X9_lesson_43, rq_X9_lesson_44, rq_X9_lesson_46, rq_X9_lesson_49, rq_X9_lesson_50, rq_X9_lesson_53, rq_X9_lesson_54, rq_X9_lesson_57, rq_X9_lesson_60, xo_iload, xo_const, xo_if1, xo_iret, xo_aload, xo_getf, xo_istore, xo_if2, xo_goto, Cnt_l, Cnt_r, Knt_v, Knt_n, run_ite, CCall, callOk, xrecv, initLo, nl, List.map_cons, List.map_nil, List.length_cons, List.length_nil, List.replicate, List.append_nil, List.nil_append, List.cons_append, List.getElem?_cons_zero, List.getElem?_cons_succ, List.set_cons_zero, List.set_cons_succ, List.take_succ_cons, List.take_zero, List.drop_succ_cons, List.drop_zero, List.reverse_cons, List.reverse_nil, List.getLast?_cons_cons, List.getLast?_singleton, List.all_cons, List.all_nil, List.sum_cons, List.sum_nil, Value.category, xcat1, xintV, Bool.cond_decide, cond_true, cond_false, ite_not, if_true, if_false, ite_self, beq_self_eq_true, Bool.and_true, Bool.true_and, Bool.and_self, decide_true, decide_false, true_and, and_true, and_self, not_false_eq_true, not_true_eq_false, Nat.reduceLeDiff, Nat.reduceAdd, Nat.reduceSub, Nat.reduceEqDiff, Nat.reduceLT, Nat.reduceBEq, ne_eq, hset_get, reduceIte, reduceCtorEq, Nat.le_refl, Nat.zero_le, Nat.reduceMul, or_tl, or_tr, i01, i10, bI_eq0, bI_eq1, bft, bI_z, bI_t, bI_f, bI_nar, nar0, nar1, eq_true h3]
        exact hq
      · by_cases h4 : R2.1 = -9
        · rw [if_pos (Or.inr h4)] at hq
          simp (disch := omega) only [rq_X9_lesson_38, rq_X9_lesson_39, rq_X9_lesson_40, rq_X9_lesson_43, rq_X9_lesson_44, rq_X9_lesson_46, rq_X9_lesson_49, rq_X9_lesson_50, rq_X9_lesson_53, rq_X9_lesson_54, rq_X9_lesson_57, rq_X9_lesson_60, xo_iload, xo_const, xo_if1, xo_iret, xo_aload, xo_getf, xo_istore, xo_if2, xo_goto, Cnt_l, Cnt_r, Knt_v, Knt_n, run_ite, CCall, callOk, xrecv, initLo, nl, List.map_cons, List.map_nil, List.length_cons, List.length_nil, List.replicate, List.append_nil, List.nil_append, List.cons_append, List.getElem?_cons_zero, List.getElem?_cons_succ, List.set_cons_zero, List.set_cons_succ, List.take_succ_cons, List.take_zero, List.drop_succ_cons, List.drop_zero, List.reverse_cons, List.reverse_nil, List.getLast?_cons_cons, List.getLast?_singleton, List.all_cons, List.all_nil, List.sum_cons, List.sum_nil, Value.category, xcat1, xintV, Bool.cond_decide, cond_true, cond_false, ite_not, if_true, if_false, ite_self, beq_self_eq_true, Bool.and_true, Bool.true_and, Bool.and_self, decide_true, decide_false, true_and, and_true, and_self, not_false_eq_true, not_true_eq_false, Nat.reduceLeDiff, Nat.reduceAdd, Nat.reduceSub, Nat.reduceEqDiff, Nat.reduceLT, Nat.reduceBEq, ne_eq, hset_get, reduceIte, reduceCtorEq, Nat.le_refl, Nat.zero_le, Nat.reduceMul, or_tl, or_tr, i01, i10, bI_eq0, bI_eq1, bft, bI_z, bI_t, bI_f, bI_nar, nar0, nar1, h3, eq_true h4]
          exact hq
        · rw [if_neg (fun z => z.elim h3 h4)] at hq
          simp (disch := omega) only [rq_X9_lesson_38, rq_X9_lesson_39, rq_X9_lesson_40, rq_X9_lesson_43, rq_X9_lesson_44, rq_X9_lesson_46, rq_X9_lesson_49, rq_X9_lesson_50, rq_X9_lesson_53, rq_X9_lesson_54, rq_X9_lesson_57, rq_X9_lesson_60, xo_iload, xo_const, xo_if1, xo_iret, xo_aload, xo_getf, xo_istore, xo_if2, xo_goto, Cnt_l, Cnt_r, Knt_v, Knt_n, run_ite, CCall, callOk, xrecv, initLo, nl, List.map_cons, List.map_nil, List.length_cons, List.length_nil, List.replicate, List.append_nil, List.nil_append, List.cons_append, List.getElem?_cons_zero, List.getElem?_cons_succ, List.set_cons_zero, List.set_cons_succ, List.take_succ_cons, List.take_zero, List.drop_succ_cons, List.drop_zero, List.reverse_cons, List.reverse_nil, List.getLast?_cons_cons, List.getLast?_singleton, List.all_cons, List.all_nil, List.sum_cons, List.sum_nil, Value.category, xcat1, xintV, Bool.cond_decide, cond_true, cond_false, ite_not, if_true, if_false, ite_self, beq_self_eq_true, Bool.and_true, Bool.true_and, Bool.and_self, decide_true, decide_false, true_and, and_true, and_self, not_false_eq_true, not_true_eq_false, Nat.reduceLeDiff, Nat.reduceAdd, Nat.reduceSub, Nat.reduceEqDiff, Nat.reduceLT, Nat.reduceBEq, ne_eq, hset_get, reduceIte, reduceCtorEq, Nat.le_refl, Nat.zero_le, Nat.reduceMul, or_tl, or_tr, i01, i10, bI_eq0, bI_eq1, bft, bI_z, bI_t, bI_f, bI_nar, nar0, nar1, h3, h4, c1]
          exact hq
    · rw [if_neg (fun z => h2 z.2)] at hQ
      simp (disch := omega) only [MT, MT_0, MT_1, MT_2, MT_3, MT_4, MT_5, MT_6, MT_7, MT_8, MT_9, MT_10, MT_11, MT_12, rq_X9_lesson_0, rq_X9_lesson_1, rq_X9_lesson_2, rq_X9_lesson_4, rq_X9_lesson_7, rq_X9_lesson_10, rq_X9_lesson_11, rq_X9_lesson_12, rq_X9_lesson_13, rq_X9_lesson_16, rq_X9_lesson_19, rq_X9_lesson_21, xo_iload, xo_const, xo_if1, xo_iret, xo_aload, xo_getf, xo_istore, xo_if2, xo_goto, Cnt_l, Cnt_r, Knt_v, Knt_n, run_ite, CCall, callOk, xrecv, initLo, nl, List.map_cons, List.map_nil, List.length_cons, List.length_nil, List.replicate, List.append_nil, List.nil_append, List.cons_append, List.getElem?_cons_zero, List.getElem?_cons_succ, List.set_cons_zero, List.set_cons_succ, List.take_succ_cons, List.take_zero, List.drop_succ_cons, List.drop_zero, List.reverse_cons, List.reverse_nil, List.getLast?_cons_cons, List.getLast?_singleton, List.all_cons, List.all_nil, List.sum_cons, List.sum_nil, Value.category, xcat1, xintV, Bool.cond_decide, cond_true, cond_false, ite_not, if_true, if_false, ite_self, beq_self_eq_true, Bool.and_true, Bool.true_and, Bool.and_self, decide_true, decide_false, true_and, and_true, and_self, not_false_eq_true, not_true_eq_false, Nat.reduceLeDiff, Nat.reduceAdd, Nat.reduceSub, Nat.reduceEqDiff, Nat.reduceLT, Nat.reduceBEq, ne_eq, hset_get, reduceIte, reduceCtorEq, Nat.le_refl, Nat.zero_le, Nat.reduceMul, or_tl, or_tr, i01, i10, bI_eq0, bI_eq1, bft, bI_z, bI_t, bI_f, bI_nar, nar0, nar1, c_within, h1, Bool.eq_false_iff.mpr h2, Bool.true_eq_false]
      exact hQ h Z0 (FrC.rfl' h)
  · rw [if_neg (fun z => h1 z.1)] at hQ
    simp (disch := omega) only [MT, MT_0, MT_1, MT_2, MT_3, MT_4, MT_5, MT_6, MT_7, MT_8, MT_9, MT_10, MT_11, MT_12, rq_X9_lesson_0, rq_X9_lesson_1, rq_X9_lesson_2, rq_X9_lesson_4, rq_X9_lesson_7, rq_X9_lesson_10, rq_X9_lesson_11, rq_X9_lesson_12, rq_X9_lesson_13, rq_X9_lesson_16, rq_X9_lesson_19, rq_X9_lesson_21, xo_iload, xo_const, xo_if1, xo_iret, xo_aload, xo_getf, xo_istore, xo_if2, xo_goto, Cnt_l, Cnt_r, Knt_v, Knt_n, run_ite, CCall, callOk, xrecv, initLo, nl, List.map_cons, List.map_nil, List.length_cons, List.length_nil, List.replicate, List.append_nil, List.nil_append, List.cons_append, List.getElem?_cons_zero, List.getElem?_cons_succ, List.set_cons_zero, List.set_cons_succ, List.take_succ_cons, List.take_zero, List.drop_succ_cons, List.drop_zero, List.reverse_cons, List.reverse_nil, List.getLast?_cons_cons, List.getLast?_singleton, List.all_cons, List.all_nil, List.sum_cons, List.sum_nil, Value.category, xcat1, xintV, Bool.cond_decide, cond_true, cond_false, ite_not, if_true, if_false, ite_self, beq_self_eq_true, Bool.and_true, Bool.true_and, Bool.and_self, decide_true, decide_false, true_and, and_true, and_self, not_false_eq_true, not_true_eq_false, Nat.reduceLeDiff, Nat.reduceAdd, Nat.reduceSub, Nat.reduceEqDiff, Nat.reduceLT, Nat.reduceBEq, ne_eq, hset_get, reduceIte, reduceCtorEq, Nat.le_refl, Nat.zero_le, Nat.reduceMul, or_tl, or_tr, i01, i10, bI_eq0, bI_eq1, bft, bI_z, bI_t, bI_f, bI_nar, nar0, nar1, c_within, Bool.eq_false_iff.mpr h1]
    exact hQ h Z0 (FrC.rfl' h)
end X
