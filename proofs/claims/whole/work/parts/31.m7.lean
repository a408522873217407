/-! the reference: pieces -/
def inkAt (g : Nat → Int32) (c : Nat) : Bool := inB g (c % 32) (c / 32)
def nbr (cor : Bool) (c d : Nat) : Option Nat := if 1 ≤ c % 32 + d % 3 ∧ c % 32 + d % 3 ≤ 32 ∧ 1 ≤ c / 32 + d / 3 ∧ c / 32 + d / 3 ≤ 32 ∧ (cor = true ∨ c % 32 + d % 3 = c % 32 + 1 ∨ c / 32 + d / 3 = c / 32 + 1) then some (32 * (c / 32 + d / 3 - 1) + (c % 32 + d % 3 - 1)) else none
abbrev MB : Type := (Nat → Int32) × (Nat → Int32) × Nat
def visM (g : Nat → Int32) (oi : Bool) (st : MB) (o : Option Nat) : MB := match o with
  | none => st
  | some b => if st.2.1 b = 0 ∧ inkAt g b = oi then (upd st.1 st.2.2 (nI b), upd st.2.1 b 1, st.2.2 + 1) else st
def procM (g : Nat → Int32) (oi : Bool) (c : Nat) (st : MB) : Nat → MB
  | 0 => st
  | d + 1 => visM g oi (procM g oi c st d) (nbr oi c d)
def brdB (c : Nat) : Bool := decide (c % 32 = 0 ∨ c / 32 = 0 ∨ c % 32 = 31 ∨ c / 32 = 31)
def bfsM (g : Nat → Int32) (oi : Bool) : Nat → Nat → MB → Bool → MB × Bool
  | 0, _, st, b => (st, b)
  | n + 1, k, st, b => if k < st.2.2 then bfsM g oi n (k + 1) (procM g oi (st.1 k).toNatClampNeg st 9) (b || brdB (st.1 k).toNatClampNeg) else (st, b)
/-- how many of the first n are 0 -/
def cntZ (f : Nat → Int32) : Nat → Nat
  | 0 => 0
  | n + 1 => cntZ f n + if f n = 0 then 1 else 0
theorem cntZ_le (f : Nat → Int32) : ∀ n, cntZ f n ≤ n
  | 0 => Nat.le_refl 0
  | n + 1 => by
    have := cntZ_le f n
    simp only [cntZ]
    split <;> omega
theorem cntZ_pos {f : Nat → Int32} : ∀ {n b : Nat}, b < n → f b = 0 → 1 ≤ cntZ f n
  | 0, _, h, _ => absurd h (Nat.not_lt_zero _)
  | n + 1, b, h, h0 => by
    simp only [cntZ]
    by_cases hb : b = n
    · subst hb; rw [if_pos h0]; omega
    · have := cntZ_pos (f := f) (n := n) (b := b) (by omega) h0
      omega
theorem cntZ_upd {f : Nat → Int32} : ∀ {n b : Nat}, b < n → f b = 0 → cntZ (upd f b 1) n + 1 = cntZ f n
  | 0, _, h, _ => absurd h (Nat.not_lt_zero _)
  | n + 1, b, h, h0 => by
    simp only [cntZ]
    by_cases hb : b = n
    · subst hb
      have e : ∀ m, m ≤ b → cntZ (upd f b 1) m = cntZ f m := by
        intro m
        induction m with
        | zero => intro _; rfl
        | succ m ih =>
          intro hm
          simp only [cntZ]
          rw [ih (by omega), upd_ne _ _ (by omega)]
      rw [e b (Nat.le_refl _), upd_self, if_pos h0, if_neg (by decide)]
    · have := cntZ_upd (f := f) (n := n) (b := b) (by omega) h0
      rw [upd_ne _ _ (Ne.symm hb)]
      omega
/-- the queue holds places, and has room for all that is left -/
def QOK (st : MB) : Prop := cntZ st.2.1 1024 + st.2.2 ≤ 1024 ∧ ∀ j, j < st.2.2 → ∃ c, c < 1024 ∧ st.1 j = nI c
theorem nbr_lt {cor : Bool} {c d b : Nat} (h : nbr cor c d = some b) : b < 1024 := by
  unfold nbr at h
  split at h
  · cases h; omega
  · cases h
theorem visM_ok {g : Nat → Int32} {oi : Bool} {st : MB} {o : Option Nat} (ho : ∀ b, o = some b → b < 1024) (q : QOK st) : QOK (visM g oi st o) := by
  unfold visM
  split
  · exact q
  · rename_i b
    have hb := ho b rfl
    split
    · rename_i hc
      refine ⟨?_, fun j hj => ?_⟩
      · have := cntZ_upd hb hc.1
        have := q.1
        dsimp only
        omega
      · dsimp only at hj ⊢
        by_cases e : j = st.2.2
        · subst e; exact ⟨b, hb, upd_self _ _ _⟩
        · rw [upd_ne _ _ e]; exact q.2 j (by omega)
    · exact q
theorem procM_ok {g : Nat → Int32} {oi : Bool} {c : Nat} {st : MB} (q : QOK st) : ∀ d, QOK (procM g oi c st d)
  | 0 => q
  | d + 1 => visM_ok (fun _ hb => nbr_lt hb) (procM_ok q d)
section MM
variable {h : Hp} {I : Nat → Nat → Int32} {A : Nat → Nat → Int32}
theorem m_isInk (M : MH h I A) (Q : Option Value → Hp → Prop) {c : Nat} (hc : c < 1024) : Call 150 [.ref 24, .int (nI c)] h Q = Q (some (.int (bI (inkAt (A 33) c)))) h := by
  have hc2 : c / 32 < 32 := by omega
  unfold Call inkAt inB
  simp (disch := omega) only [MT, MT_0, MT_1, MT_2, MT_3, MT_4, MT_5, MT_6, MT_7, MT_8, MT_9, MT_10, MT_11, MT_12, rq_X10_isInk_0, rq_X10_isInk_1, rq_X10_isInk_4, rq_X10_isInk_5, rq_X10_isInk_7, rq_X10_isInk_8, rq_X10_isInk_9, rq_X10_isInk_10, rq_X10_isInk_12, rq_X10_isInk_13, rq_X10_isInk_14, rq_X10_isInk_15, rq_X10_isInk_16, rq_X10_isInk_17, rq_X10_isInk_20, rq_X10_isInk_21, rq_X10_isInk_24, rq_X10_isInk_25, xo_aload, xo_getf, xo_iload, xo_const, xo_div, xo_iald, xo_bin, xo_if2, xo_goto, xo_zret, Cnt_l, Cnt_r, Knt_v, Knt_n, run_ite, CCall, callOk, xrecv, initLo, nl, List.map_cons, List.map_nil, List.length_cons, List.length_nil, List.replicate, List.append_nil, List.nil_append, List.cons_append, List.getElem?_cons_zero, List.getElem?_cons_succ, List.set_cons_zero, List.set_cons_succ, List.take_succ_cons, List.take_zero, List.drop_succ_cons, List.drop_zero, List.reverse_cons, List.reverse_nil, List.getLast?_cons_cons, List.getLast?_singleton, List.all_cons, List.all_nil, List.sum_cons, List.sum_nil, Value.category, xcat1, xintV, Bool.cond_decide, cond_true, cond_false, ite_not, if_true, if_false, ite_self, beq_self_eq_true, Bool.and_true, Bool.true_and, Bool.and_self, decide_true, decide_false, true_and, and_true, and_self, not_false_eq_true, not_true_eq_false, Nat.reduceLeDiff, Nat.reduceAdd, Nat.reduceSub, Nat.reduceEqDiff, Nat.reduceLT, Nat.reduceBEq, ne_eq, hset_get, reduceIte, reduceCtorEq, Nat.le_refl, Nat.zero_le, Nat.reduceMul, or_tl, or_tr, i01, i10, bI_eq0, bI_eq1, bft, bI_z, bI_t, bI_f, bI_nar, nar0, nar1, nq_add, nq_mul, nq_sub, nq_cl, ↓nq_in, nq_nin, nq_lt, nq_le, nq_ge, nq_gt, nq_eq, nq_addl_32, nq_ladd_32, nq_lmul_32, nq_mull_32, nq_subl_32, nq_cll_32, ↓nq_inl_32, nq_ltl_32, nq_lel_32, nq_gel_32, nq_gtl_32, nq_eql_32, nq_div_32, ↓nq_rem_32, M.c24, M.c33, show ¬ (32 : Int32) = 0 by decide]
  by_cases h1 : (A 33 (c / 32) >>> (nI (c % 32) &&& 31)) &&& 1 = 1 <;> simp [h1, bI]
end MM
