/-! the law: its loop and its start -/
theorem and63 (z : Int32) : ∃ t : Nat, t < 64 ∧ z &&& 63 = nI t := by
  obtain ⟨n, _, rfl⟩ := zof z
  refine ⟨n % 64, Nat.mod_lt _ (by omega), ?_⟩
  rw [show (63 : Int32) = nI 63 from rfl, nI_and]
  congr 1
  exact Nat.and_two_pow_sub_one_eq_mod n 6
theorem cmp4 {i N : Nat} (hi : i ≤ 4000) (hN : N ≤ 4000) : (nI i > Int32.ofNat N - 4) = (N < i + 4) := by
  show (nI i > nI N - 4) = (N < i + 4)
  apply propext
  rw [gt_iff_lt, Int32.lt_iff_toInt_lt, fb_subI (by rw [nI_lo (by omega), show (4 : Int32).toInt = 4 from rfl]; omega) (by rw [nI_lo (by omega), show (4 : Int32).toInt = 4 from rfl]; omega), nI_lo (by omega), nI_lo (by omega), show (4 : Int32).toInt = 4 from rfl]
  omega
section L
variable {h : Hp} {K : KK} {I A : Nat → Nat → Int32} {Q : Option Value → Hp → Prop} {N i : Nat} {F : Nat → Int32}
theorem lw_case (W : WI h K I A) (c0 : h.2.2 0 = some (ia 2 N F)) (hi : i + 4 ≤ N) (hN : N ≤ 2048) (hq : ∀ h', NEXT h h' → Run 196 1088 [some (.ref 0), some (.ref 1), some (.ref 24), some (.int (nI i))] [] h' Q) : Run 196 (xtab 32 1056 0 33 #[152, 185, 208, 241, 254, 267, 280, 313, 356, 390, 413, 436, 479, 512, 525, 558, 581, 604, 627, 650, 673, 706, 729, 772, 805, 828, 861, 884, 907, 930, 963, 996, 1020, 1033] (F i &&& 63)) [some (.ref 0), some (.ref 1), some (.ref 24), some (.int (nI i))] [] h Q := by
  obtain ⟨t, ht, et⟩ := and63 (F i)
  rw [et]
  by_cases h33 : t ≤ 33
  · rcases (show t = 0 ∨ t = 1 ∨ t = 2 ∨ t = 3 ∨ t = 4 ∨ t = 5 ∨ t = 6 ∨ t = 7 ∨ t = 8 ∨ t = 9 ∨ t = 10 ∨ t = 11 ∨ t = 12 ∨ t = 13 ∨ t = 14 ∨ t = 15 ∨ t = 16 ∨ t = 17 ∨ t = 18 ∨ t = 19 ∨ t = 20 ∨ t = 21 ∨ t = 22 ∨ t = 23 ∨ t = 24 ∨ t = 25 ∨ t = 26 ∨ t = 27 ∨ t = 28 ∨ t = 29 ∨ t = 30 ∨ t = 31 ∨ t = 32 ∨ t = 33 by omega) with rfl | rfl | rfl | rfl | rfl | rfl | rfl | rfl | rfl | rfl | rfl | rfl | rfl | rfl | rfl | rfl | rfl | rfl | rfl | rfl | rfl | rfl | rfl | rfl | rfl | rfl | rfl | rfl | rfl | rfl | rfl | rfl | rfl | rfl
    · exact lw_c0 W c0 hi hN hq
    · exact lw_c1 W c0 hi hN hq
    · exact lw_c2 W c0 hi hN hq
    · exact lw_c3 W c0 hi hN hq
    · exact lw_c4 W c0 hi hN hq
    · exact lw_c5 W c0 hi hN hq
    · exact lw_c6 W c0 hi hN hq
    · exact lw_c7 W c0 hi hN hq
    · exact lw_c8 W c0 hi hN hq
    · exact lw_c9 W c0 hi hN hq
    · exact lw_c10 W c0 hi hN hq
    · exact lw_c11 W c0 hi hN hq
    · exact lw_c12 W c0 hi hN hq
    · exact lw_c13 W c0 hi hN hq
    · exact lw_c14 W c0 hi hN hq
    · exact lw_c15 W c0 hi hN hq
    · exact lw_c16 W c0 hi hN hq
    · exact lw_c17 W c0 hi hN hq
    · exact lw_c18 W c0 hi hN hq
    · exact lw_c19 W c0 hi hN hq
    · exact lw_c20 W c0 hi hN hq
    · exact lw_c21 W c0 hi hN hq
    · exact lw_c22 W c0 hi hN hq
    · exact lw_c23 W c0 hi hN hq
    · exact lw_c24 W c0 hi hN hq
    · exact lw_c25 W c0 hi hN hq
    · exact lw_c26 W c0 hi hN hq
    · exact lw_c27 W c0 hi hN hq
    · exact lw_c28 W c0 hi hN hq
    · exact lw_c29 W c0 hi hN hq
    · exact lw_c30 W c0 hi hN hq
    · exact lw_c31 W c0 hi hN hq
    · exact lw_c32 W c0 hi hN hq
    · exact lw_c33 W c0 hi hN hq
  · have e := xtab_n 32 1056 (n := 33) #[152, 185, 208, 241, 254, 267, 280, 313, 356, 390, 413, 436, 479, 512, 525, 558, 581, 604, 627, 650, 673, 706, 729, 772, 805, 828, 861, 884, 907, 930, 963, 996, 1020, 1033] (w := nI t) (by omega) (by
      have := wB_pred (j := t) (n := 34) (by omega) (by omega)
      rw [show (nI 34 - 1 : Int32) = nI 33 from rfl] at this
      rw [this]; simp; omega)
    have e : xtab 32 1056 0 33 #[152, 185, 208, 241, 254, 267, 280, 313, 356, 390, 413, 436, 479, 512, 525, 558, 581, 604, 627, 650, 673, 706, 729, 772, 805, 828, 861, 884, 907, 930, 963, 996, 1020, 1033] (nI t) = 1088 := e
    rw [e]
    exact hq h ⟨⟨K, I, A, W⟩, by omega, by omega, rfl⟩
theorem lw_loop (hN : N ≤ 2048) : ∀ m i h K I A, WI h K I A → h.2.2 0 = some (ia 2 N F) → i ≤ N + 4 → N < i + 4 * m + 4 → (∀ h', h'.1 ≤ h.1 + 4 * m → h'.2.1 ≤ h.2.1 + 54 * m → Q (some (.int 1)) h') → Run 196 18 [some (.ref 0), some (.ref 1), some (.ref 24), some (.int (nI i))] [] h Q := by
  intro m
  induction m with
  | zero =>
    intro i h K I A W c0 hi hm hQ
    have hlt : N < i + 4 := by omega
    have hq := hQ h (by omega) (by omega)
    rw [rq_L_law_18]
    simp (disch := omega) only [rq_L_law_19, rq_L_law_20, rq_L_law_21, rq_L_law_22, rq_L_law_23, rq_L_law_1094, rq_L_law_1095, xo_new, xo_dup, xo_astore, xo_const, xo_istore, xo_iload, xo_aload, xo_alen, xo_bin, xo_if2, xo_iald, xo_sw, xo_zret, xo_lcmp, xo_if1, xo_iinc, xo_goto, Cnt_l, Cnt_r, Knt_v, Knt_n, run_ite, CCall, callOk, xrecv, initLo, nl, List.map_cons, List.map_nil, List.length_cons, List.length_nil, List.replicate, List.append_nil, List.nil_append, List.cons_append, List.getElem?_cons_zero, List.getElem?_cons_succ, List.set_cons_zero, List.set_cons_succ, List.take_succ_cons, List.take_zero, List.drop_succ_cons, List.drop_zero, List.reverse_cons, List.reverse_nil, List.getLast?_cons_cons, List.getLast?_singleton, List.all_cons, List.all_nil, List.sum_cons, List.sum_nil, Value.category, xcat1, xintV, Bool.cond_decide, cond_true, cond_false, ite_not, if_true, if_false, ite_self, beq_self_eq_true, Bool.and_true, Bool.true_and, Bool.and_self, decide_true, decide_false, true_and, and_true, and_self, not_false_eq_true, not_true_eq_false, Nat.reduceLeDiff, Nat.reduceAdd, Nat.reduceSub, Nat.reduceEqDiff, Nat.reduceLT, Nat.reduceBEq, ne_eq, hset_get, reduceIte, reduceCtorEq, Nat.le_refl, Nat.zero_le, Nat.reduceMul, or_tl, or_tr, i01, i10, bI_eq0, bI_eq1, bft, bI_z, bI_t, bI_f, bI_nar, nar0, nar1, c0, cmp4, eq_true hlt]
    exact hq
  | succ m ih =>
    intro i h K I A W c0 hi hm hQ
    by_cases hlt : N < i + 4
    · have hq := hQ h (by omega) (by omega)
      rw [rq_L_law_18]
      simp (disch := omega) only [rq_L_law_19, rq_L_law_20, rq_L_law_21, rq_L_law_22, rq_L_law_23, rq_L_law_1094, rq_L_law_1095, xo_new, xo_dup, xo_astore, xo_const, xo_istore, xo_iload, xo_aload, xo_alen, xo_bin, xo_if2, xo_iald, xo_sw, xo_zret, xo_lcmp, xo_if1, xo_iinc, xo_goto, Cnt_l, Cnt_r, Knt_v, Knt_n, run_ite, CCall, callOk, xrecv, initLo, nl, List.map_cons, List.map_nil, List.length_cons, List.length_nil, List.replicate, List.append_nil, List.nil_append, List.cons_append, List.getElem?_cons_zero, List.getElem?_cons_succ, List.set_cons_zero, List.set_cons_succ, List.take_succ_cons, List.take_zero, List.drop_succ_cons, List.drop_zero, List.reverse_cons, List.reverse_nil, List.getLast?_cons_cons, List.getLast?_singleton, List.all_cons, List.all_nil, List.sum_cons, List.sum_nil, Value.category, xcat1, xintV, Bool.cond_decide, cond_true, cond_false, ite_not, if_true, if_false, ite_self, beq_self_eq_true, Bool.and_true, Bool.true_and, Bool.and_self, decide_true, decide_false, true_and, and_true, and_self, not_false_eq_true, not_true_eq_false, Nat.reduceLeDiff, Nat.reduceAdd, Nat.reduceSub, Nat.reduceEqDiff, Nat.reduceLT, Nat.reduceBEq, ne_eq, hset_get, reduceIte, reduceCtorEq, Nat.le_refl, Nat.zero_le, Nat.reduceMul, or_tl, or_tr, i01, i10, bI_eq0, bI_eq1, bft, bI_z, bI_t, bI_f, bI_nar, nar0, nar1, c0, cmp4, eq_true hlt]
      exact hq
    · have cs := lw_case (Q := Q) (i := i) W c0 (by omega) hN (fun h' nx => by
        obtain ⟨⟨K', I', A', W'⟩, n1, n2, n0⟩ := nx
        simp (disch := omega) only [rq_L_law_1088, rq_L_law_1091, xo_new, xo_dup, xo_astore, xo_const, xo_istore, xo_iload, xo_aload, xo_alen, xo_bin, xo_if2, xo_iald, xo_sw, xo_zret, xo_lcmp, xo_if1, xo_iinc, xo_goto, Cnt_l, Cnt_r, Knt_v, Knt_n, run_ite, CCall, callOk, xrecv, initLo, nl, List.map_cons, List.map_nil, List.length_cons, List.length_nil, List.replicate, List.append_nil, List.nil_append, List.cons_append, List.getElem?_cons_zero, List.getElem?_cons_succ, List.set_cons_zero, List.set_cons_succ, List.take_succ_cons, List.take_zero, List.drop_succ_cons, List.drop_zero, List.reverse_cons, List.reverse_nil, List.getLast?_cons_cons, List.getLast?_singleton, List.all_cons, List.all_nil, List.sum_cons, List.sum_nil, Value.category, xcat1, xintV, Bool.cond_decide, cond_true, cond_false, ite_not, if_true, if_false, ite_self, beq_self_eq_true, Bool.and_true, Bool.true_and, Bool.and_self, decide_true, decide_false, true_and, and_true, and_self, not_false_eq_true, not_true_eq_false, Nat.reduceLeDiff, Nat.reduceAdd, Nat.reduceSub, Nat.reduceEqDiff, Nat.reduceLT, Nat.reduceBEq, ne_eq, hset_get, reduceIte, reduceCtorEq, Nat.le_refl, Nat.zero_le, Nat.reduceMul, or_tl, or_tr, i01, i10, bI_eq0, bI_eq1, bft, bI_z, bI_t, bI_f, bI_nar, nar0, nar1, nq_add, nq_mul, nq_sub, nq_cl, ↓nq_in, nq_nin, nq_lt, nq_le, nq_ge, nq_gt, nq_eq, nq_addl_4, nq_ladd_4, nq_lmul_4, nq_mull_4, nq_subl_4, nq_cll_4, ↓nq_inl_4, nq_ltl_4, nq_lel_4, nq_gel_4, nq_gtl_4, nq_eql_4]
        exact ih (i + 4) h' K' I' A' W' (by rw [n0]; exact c0) (by omega) (by omega) (fun h'' a b => hQ h'' (by omega) (by omega)))
      rw [rq_L_law_18]
      simp (disch := omega) only [rq_L_law_19, rq_L_law_20, rq_L_law_21, rq_L_law_22, rq_L_law_23, rq_L_law_26, rq_L_law_27, rq_L_law_28, rq_L_law_29, rq_L_law_31, rq_L_law_32, xo_new, xo_dup, xo_astore, xo_const, xo_istore, xo_iload, xo_aload, xo_alen, xo_bin, xo_if2, xo_iald, xo_sw, xo_zret, xo_lcmp, xo_if1, xo_iinc, xo_goto, Cnt_l, Cnt_r, Knt_v, Knt_n, run_ite, CCall, callOk, xrecv, initLo, nl, List.map_cons, List.map_nil, List.length_cons, List.length_nil, List.replicate, List.append_nil, List.nil_append, List.cons_append, List.getElem?_cons_zero, List.getElem?_cons_succ, List.set_cons_zero, List.set_cons_succ, List.take_succ_cons, List.take_zero, List.drop_succ_cons, List.drop_zero, List.reverse_cons, List.reverse_nil, List.getLast?_cons_cons, List.getLast?_singleton, List.all_cons, List.all_nil, List.sum_cons, List.sum_nil, Value.category, xcat1, xintV, Bool.cond_decide, cond_true, cond_false, ite_not, if_true, if_false, ite_self, beq_self_eq_true, Bool.and_true, Bool.true_and, Bool.and_self, decide_true, decide_false, true_and, and_true, and_self, not_false_eq_true, not_true_eq_false, Nat.reduceLeDiff, Nat.reduceAdd, Nat.reduceSub, Nat.reduceEqDiff, Nat.reduceLT, Nat.reduceBEq, ne_eq, hset_get, reduceIte, reduceCtorEq, Nat.le_refl, Nat.zero_le, Nat.reduceMul, or_tl, or_tr, i01, i10, bI_eq0, bI_eq1, bft, bI_z, bI_t, bI_f, bI_nar, nar0, nar1, nq_add, nq_mul, nq_sub, nq_cl, ↓nq_in, nq_nin, nq_lt, nq_le, nq_ge, nq_gt, nq_eq, c0, cmp4, hlt]
      exact cs
end L
/-- nothing is there yet -/
def D0 : Nat → PD := fun _ => (0, fun _ => 0, fun _ => 0, fun _ => 0, fun _ _ => 0, fun _ _ => 0, fun _ _ => 0)
def K0 : KK := (2, -2, 4, 0, fun _ => 0, fun _ => 0, -9, fun _ => 0, D0)
theorem cnt_D0 : ∀ n, cntL D0 n = 0
  | 0 => rfl
  | n + 1 => by
    rw [cntL, cnt_D0 n, if_neg (show ¬ 0 < (D0 n).1 from Nat.lt_irrefl 0)]
theorem DR_0 : DR K0 I0m (fun _ _ => 0) := by
  refine ⟨⟨rfl, rfl, rfl, by unfold IR; decide, by unfold IR; decide, by decide⟩, ⟨rfl, by show 0 ≤ 8; omega, fun j hj => absurd hj (Nat.not_lt_zero j), fun j hj => absurd hj (Nat.not_lt_zero (j + 1))⟩, ⟨rfl, Or.inl rfl, fun n j hn e _ => absurd (show nI n = -9 from e.symm) (n9 (by omega))⟩, ⟨fun g _ => ⟨rfl, by show (0 : Int32).toNatClampNeg ≤ 6; decide⟩, fun g k _ hk => absurd hk (Nat.not_lt_zero k)⟩, fun g _ => ⟨rfl, fun k hk => absurd hk (Nat.not_lt_zero k)⟩⟩
theorem WI_0 {s : Nat} {f f1 : Nat → Option AE} {z : Option AE} (p : PN z 24 f1) (e1 : f1 1 = some (ob 9 [.int 2, .int (-2), .int 4, .ref 2, .ref 5, .ref 7, .ref 9, .ref 11, .ref 12, .ref 13, .ref 16, .ref 18, .ref 19])) (q : PR f1 40 f) (e24 : f 24 = some (oc24 (I0m 24))) : WI (40, s, f) K0 I0m (fun _ _ => 0) := by
  refine ⟨⟨I0c, fun _ _ => 0, fun _ _ => none, fun _ => 0, 0, ?_, ⟨rfl, rfl, rfl⟩, ⟨rfl, by show 0 ≤ 8; omega, rfl, rfl⟩, ⟨rfl, rfl⟩, rfl, ⟨Nat.zero_le _, fun k hk => absurd hk (Nat.not_lt_zero k), fun _ _ _ => rfl⟩, fun n _ => Or.inl ⟨rfl, rfl⟩, fun n m _ _ _ hs => absurd hs (by simp), ?_, ?_, rfl, ?_⟩, ?_, DR_0, Nat.le_refl _⟩
  · intro c e he
    have hc := csh_lt he
    show f c = some e
    rw [q.2.1 c hc]
    by_cases c1 : c = 1
    · subst c1; rw [e1]; exact he
    · exact p.1 c e hc c1 he
  · show (0 : Int32) = nI (cntL D0 26)
    rw [cnt_D0]; rfl
  · show cntL D0 26 ≤ 10
    rw [cnt_D0]; omega
  · intro j e he
    have he' : f j = some e := he
    show j < 40
    apply Nat.lt_of_not_le
    intro hj
    rw [q.2.2 j hj] at he'
    exact absurd he' (by simp)
  · intro c e he
    have hc := msh_in he
    show f c = some e
    by_cases c1 : c = 24
    · subst c1; rw [e24]; exact he
    · exact q.1 c e hc.2 c1 he
section L
variable {Q : Option Value → Hp → Prop} {N : Nat} {F : Nat → Int32}
theorem lw_all (hN : N ≤ 2048) {s : Nat} {f : Nat → Option AE} (f0 : f 0 = some (ia 2 N F)) (fe : ∀ c, 1 ≤ c → f c = none) (hQ : ∀ h', h'.1 ≤ 2100 → h'.2.1 ≤ s + 40000 → Q (some (.int 1)) h') : Call 196 [.ref 0] (1, s, f) Q := by
  unfold Call
  simp (disch := omega) only [MT, MT_0, MT_1, MT_2, MT_3, MT_4, MT_5, MT_6, MT_7, MT_8, MT_9, MT_10, MT_11, MT_12, rq_L_law_0, rq_L_law_3, rq_L_law_4, xo_new, xo_dup, xo_astore, xo_const, xo_istore, xo_iload, xo_aload, xo_alen, xo_bin, xo_if2, xo_iald, xo_sw, xo_zret, xo_lcmp, xo_if1, xo_iinc, xo_goto, Cnt_l, Cnt_r, Knt_v, Knt_n, run_ite, CCall, callOk, xrecv, initLo, nl, List.map_cons, List.map_nil, List.length_cons, List.length_nil, List.replicate, List.append_nil, List.nil_append, List.cons_append, List.getElem?_cons_zero, List.getElem?_cons_succ, List.set_cons_zero, List.set_cons_succ, List.take_succ_cons, List.take_zero, List.drop_succ_cons, List.drop_zero, List.reverse_cons, List.reverse_nil, List.getLast?_cons_cons, List.getLast?_singleton, List.all_cons, List.all_nil, List.sum_cons, List.sum_nil, Value.category, xcat1, xintV, Bool.cond_decide, cond_true, cond_false, ite_not, if_true, if_false, ite_self, beq_self_eq_true, Bool.and_true, Bool.true_and, Bool.and_self, decide_true, decide_false, true_and, and_true, and_self, not_false_eq_true, not_true_eq_false, Nat.reduceLeDiff, Nat.reduceAdd, Nat.reduceSub, Nat.reduceEqDiff, Nat.reduceLT, Nat.reduceBEq, ne_eq, hset_get, reduceIte, reduceCtorEq, Nat.le_refl, Nat.zero_le, Nat.reduceMul, or_tl, or_tr, i01, i10, bI_eq0, bI_eq1, bft, bI_z, bI_t, bI_f, bI_nar, nar0, nar1, hnewT, hsetT, vT_at, Nat.reduceAdd]
  refine x_init (z := f 0) rfl ⟨fun c e hc h1 he => ?_, ?_, fun c hc => ?_⟩ (fun s1 f1 hs1 p1 e1 => ?_)
  · have : c = 0 := by omega
    subst this
    exact absurd he (by simp [csh])
  · exact vD_ne _ _ (by omega)
  · rw [vD_ne _ _ (by omega)]; exact fe c (by omega)
  · simp (disch := omega) only [rq_L_law_7, rq_L_law_8, rq_L_law_11, rq_L_law_12, xo_new, xo_dup, xo_astore, xo_const, xo_istore, xo_iload, xo_aload, xo_alen, xo_bin, xo_if2, xo_iald, xo_sw, xo_zret, xo_lcmp, xo_if1, xo_iinc, xo_goto, Cnt_l, Cnt_r, Knt_v, Knt_n, run_ite, CCall, callOk, xrecv, initLo, nl, List.map_cons, List.map_nil, List.length_cons, List.length_nil, List.replicate, List.append_nil, List.nil_append, List.cons_append, List.getElem?_cons_zero, List.getElem?_cons_succ, List.set_cons_zero, List.set_cons_succ, List.take_succ_cons, List.take_zero, List.drop_succ_cons, List.drop_zero, List.reverse_cons, List.reverse_nil, List.getLast?_cons_cons, List.getLast?_singleton, List.all_cons, List.all_nil, List.sum_cons, List.sum_nil, Value.category, xcat1, xintV, Bool.cond_decide, cond_true, cond_false, ite_not, if_true, if_false, ite_self, beq_self_eq_true, Bool.and_true, Bool.true_and, Bool.and_self, decide_true, decide_false, true_and, and_true, and_self, not_false_eq_true, not_true_eq_false, Nat.reduceLeDiff, Nat.reduceAdd, Nat.reduceSub, Nat.reduceEqDiff, Nat.reduceLT, Nat.reduceBEq, ne_eq, hset_get, reduceIte, reduceCtorEq, Nat.le_refl, Nat.zero_le, Nat.reduceMul, or_tl, or_tr, i01, i10, bI_eq0, bI_eq1, bft, bI_z, bI_t, bI_f, bI_nar, nar0, nar1, hnewT, hsetT, vT_at, Nat.reduceAdd]
    refine r_init (z := f1) rfl ⟨fun c e hc h1 he => ?_, fun c hc => vD_ne _ _ (by omega), fun c hc => ?_⟩ (fun s2 f2 hs2 p2 e2 => ?_)
    · have := msh_in he; omega
    · rw [vD_ne _ _ (by omega)]; exact p1.2.2 c (by omega)
    · have W : WI (40, s2, f2) K0 I0m (fun _ _ => 0) := WI_0 p1 e1 p2 e2
      have z0 : f2 0 = some (ia 2 N F) := by rw [p2.2.1 0 (by omega), p1.2.1, f0]
      have lp := lw_loop (Q := Q) hN 512 0 (40, s2, f2) _ _ _ W z0 (by omega) (by omega) (fun h' a b => hQ h' (by show h'.1 ≤ 2100; have a' : h'.1 ≤ 40 + 4 * 512 := a; omega) (by have b' : h'.2.1 ≤ s2 + 54 * 512 := b; omega))
      simp (disch := omega) only [rq_L_law_15, rq_L_law_16, rq_L_law_17, xo_new, xo_dup, xo_astore, xo_const, xo_istore, xo_iload, xo_aload, xo_alen, xo_bin, xo_if2, xo_iald, xo_sw, xo_zret, xo_lcmp, xo_if1, xo_iinc, xo_goto, Cnt_l, Cnt_r, Knt_v, Knt_n, run_ite, CCall, callOk, xrecv, initLo, nl, List.map_cons, List.map_nil, List.length_cons, List.length_nil, List.replicate, List.append_nil, List.nil_append, List.cons_append, List.getElem?_cons_zero, List.getElem?_cons_succ, List.set_cons_zero, List.set_cons_succ, List.take_succ_cons, List.take_zero, List.drop_succ_cons, List.drop_zero, List.reverse_cons, List.reverse_nil, List.getLast?_cons_cons, List.getLast?_singleton, List.all_cons, List.all_nil, List.sum_cons, List.sum_nil, Value.category, xcat1, xintV, Bool.cond_decide, cond_true, cond_false, ite_not, if_true, if_false, ite_self, beq_self_eq_true, Bool.and_true, Bool.true_and, Bool.and_self, decide_true, decide_false, true_and, and_true, and_self, not_false_eq_true, not_true_eq_false, Nat.reduceLeDiff, Nat.reduceAdd, Nat.reduceSub, Nat.reduceEqDiff, Nat.reduceLT, Nat.reduceBEq, ne_eq, hset_get, reduceIte, reduceCtorEq, Nat.le_refl, Nat.zero_le, Nat.reduceMul, or_tl, or_tr, i01, i10, bI_eq0, bI_eq1, bft, bI_z, bI_t, bI_f, bI_nar, nar0, nar1]
      exact lp
end L
