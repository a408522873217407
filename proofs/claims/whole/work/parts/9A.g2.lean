/-! lessons; likest; letters counted; common divisors -/
theorem isL_iff {A : Nat → Nat → Int32} (K : MOK A) {n : Nat} (hn : n < 26) : isL A (nI n) = decide (0 < cA A n) := by
  unfold isL
  have h := K.1 n (by omega)
  rw [nq_cl (by omega), h.1]
  have w : wB (nI n) 0 25 = true := by
    have := wB_pred (j := n) (n := 26) (by omega) (by omega)
    rw [show (nI 26 - 1 : Int32) = 25 from rfl] at this
    rw [this]; simp [hn]
  rw [w, Bool.true_and]
  congr 1
  rw [gt_iff_lt, show (0 : Int32) = nI 0 from rfl, zlt (by omega) (by omega)]
theorem AllR.cnt {D : Nat → PD} {A : Nat → Nat → Int32} (r : AllR D A) {n : Nat} (hn : n < 27) : (D n).1 = cA A n := (r n hn).1
theorem letters_eq {D : Nat → PD} {A : Nat → Nat → Int32} (K : MOK A) (r : AllR D A) : lettersV A = nI (cntL D 26) ∧ cntT (fun g => isL A (nI g)) 26 = cntL D 26 := by
  have : ∀ n, n ≤ 26 → cntT (fun g => isL A (nI g)) n = cntL D n := by
    intro n
    induction n with
    | zero => intro _; rfl
    | succ n ih =>
      intro hn
      rw [cntT, cntL, ih (by omega), isL_iff K (by omega), r.cnt (by omega)]
      by_cases h : 0 < cA A n <;> simp [h]
  have e := this 26 (by omega)
  refine ⟨?_, e⟩
  unfold lettersV
  rw [sumN_bI, e]
/-- likest -/
theorem lk_eq {D : Nat → PD} {A : Nat → Nat → Int32} (K : MOK A) (r : AllR D A) (g : Nat → Int32) (s : LKt) (t : ML) (h1 : s.1 = t.1) (h2 : s.2.1 = t.2.1) : ∀ n, n ≤ 26 → (lkF (gthF (D 26) (zeroF g) 6) D s n).1 = (mlF A t n).1 ∧ (lkF (gthF (D 26) (zeroF g) 6) D s n).2.1 = (mlF A t n).2.1
  | 0, _ => ⟨h1, h2⟩
  | n + 1, hn => by
    obtain ⟨e1, e2⟩ := lk_eq K r g s t h1 h2 n (by omega)
    rw [lkF, mlF, isL_iff K (by omega), r.cnt (by omega)]
    have c6 : ∀ n, n < 27 → cA A n ≤ 6 := fun n hn => (K.1 n hn).2
    by_cases hc : 0 < cA A n
    · rw [if_pos hc, if_pos (decide_eq_true hc)]
      unfold lk1 ml1
      have f : fitC2 (apC (gthF (D 26) (zeroF g) 6) (gthF (D n) (zeroF (lkF (gthF (D 26) (zeroF g) 6) D s n).2.2.1) 6)) (1025, (lkF (gthF (D 26) (zeroF g) 6) D s n).2.2.2.2.1, (lkF (gthF (D 26) (zeroF g) 6) D s n).2.2.2.2.2) 7 = fitA A n (mlF A t n).2.2.1 (mlF A t n).2.2.2.1 (-9, (mlF A t n).2.2.2.2.2.1, (mlF A t n).2.2.2.2.2.2) := by
        unfold fitA
        apply fit_eq
        · intro y hy; exact (r 26 (by omega)).ink (c6 26 (by omega)) _ _ hy
        · intro y hy; rw [gmix_lt hy]; exact (r n (by omega)).ink (c6 n (by omega)) _ _ hy
      dsimp only
      rw [f, e1, e2]
      split <;> exact ⟨by first | rfl | exact e1, by first | rfl | exact e2⟩
    · rw [if_neg hc, if_neg (by rw [decide_eq_false hc]; decide)]
      exact ⟨e1, e2⟩
/-- the next letter to be taught -/
theorem nx_eq {D : Nat → PD} {A : Nat → Nat → Int32} (K : MOK A) (r : AllR D A) {ro : Nat → Option Nat} (hr : ∀ n, n < 26 → (ro n).isSome = decide (0 < (D n).1)) {lim t nk : Int32} {kn own st : KS} {tau : Nat → Int32} (m : SM kn st) (ht : ∀ g, g < 26 → biC t g = decide (¬ tau g = 0)) : ∀ n, n ≤ 26 → (nxF D ro t lim kn (-9, nk, own) n).1 = (bst (ltB A tau) (nkV A lim st) n).1 ∧ (¬ (bst (ltB A tau) (nkV A lim st) n).1 = -9 → (nxF D ro t lim kn (-9, nk, own) n).2.1 = (bst (ltB A tau) (nkV A lim st) n).2)
  | 0, _ => ⟨rfl, fun h => absurd rfl h⟩
  | n + 1, hn => by
    obtain ⟨e1, e2⟩ := nx_eq K r hr (nk := nk) (own := own) (lim := lim) m ht n (by omega)
    rw [nxF, bst, hr n (by omega), ht n (by omega)]
    unfold ltB
    rw [isL_iff K (by omega), r.cnt (by omega)]
    have hP : (decide (0 < cA A n) = true ∧ decide (¬ tau n = 0) = false) = ((decide (0 < cA A n) && decide (tau n = 0)) = true) := by
      apply propext
      rw [Bool.and_eq_true]
      by_cases a : tau n = 0 <;> simp [a]
    rw [show (fun g => isL A (nI g) && decide (tau g = 0)) = ltB A tau from rfl]
    simp only [hP]
    by_cases hc : (decide (0 < cA A n) && decide (tau n = 0)) = true
    · rw [if_pos hc, if_pos hc]
      unfold nx1
      rw [new_eq m (r n (by omega)) lim, e1]
      by_cases h9 : (bst (ltB A tau) (nkV A lim st) n).1 = -9
      · rw [if_pos (Or.inl h9), if_pos (Or.inl h9)]
        exact ⟨rfl, fun _ => rfl⟩
      · rw [e2 h9]
        by_cases hl : nkV A lim st n < (bst (ltB A tau) (nkV A lim st) n).2
        · rw [if_pos (Or.inr hl), if_pos (Or.inr hl)]
          exact ⟨rfl, fun _ => rfl⟩
        · rw [if_neg (fun z => z.elim h9 hl), if_neg (fun z => z.elim h9 hl)]
          exact ⟨rfl, fun _ => rfl⟩
    · rw [if_neg hc, if_neg hc]
      exact ⟨e1, e2⟩
theorem ls_eq {D : Nat → PD} {A : Nat → Nat → Int32} (K : MOK A) (r : AllR D A) {ro : Nat → Option Nat} (hr : ∀ n, n < 26 → (ro n).isSome = decide (0 < (D n).1)) {lim : Int32} {f : Nat → Int32} : ∀ m n (s : LSn), SM s.2.2.1 (lesK A lim f n).1 → (∀ g, g < 26 → biC s.2.1 g = decide (¬ (lesK A lim f n).2 g = 0)) → n ≤ cntL D 26 → (n + m + 1 ≤ cntL D 26 → (lsF D ro lim (m + 1) s).1 = nI (lesI A lim f (n + m)) ∧ (lsF D ro lim (m + 1) s).2.2.2.1 = lesM A lim f (n + m)) ∧ (cntL D 26 < n + m + 1 → (lsF D ro lim (m + 1) s).1 = -9)
  | m, n, s, sm, ht, hn => by
    have ec := (letters_eq K r).2
    have lo := lesK_ok K (lim := lim) (f := f) n (by rw [ec]; exact hn)
    have nx := nx_eq K r hr (nk := s.2.2.2.1) (own := s.2.2.2.2) (lim := lim) sm ht 26 (by omega)
    rw [ec] at lo
    by_cases hlt : n < cntL D 26
    · have it := its_ok (A := A) (lim := lim) (st := (lesK A lim f n).1) (t := (lesK A lim f n).2) (by omega)
      have en : (nxF D ro s.2.1 lim s.2.2.1 (-9, s.2.2.2.1, s.2.2.2.2) 26).1 = nI (lesI A lim f n) := nx.1.trans it.2.2
      have hl26 : lesI A lim f n < 26 := it.1
      have eb : (nxF D ro s.2.1 lim s.2.2.1 (-9, s.2.2.2.1, s.2.2.2.2) 26).2.1 = lesM A lim f n := by
        have q9 : ¬ (bst (ltB A (lesK A lim f n).2) (nkV A lim (lesK A lim f n).1) 26).1 = -9 := by rw [it.2.2]; exact nI_ne9 (by omega)
        rw [nx.2 q9]
        rcases bst_in (ltB A (lesK A lim f n).2) (nkV A lim (lesK A lim f n).1) 26 (by omega) with z | ⟨g, hg, _, e1, e2⟩
        · exact absurd z.1 q9
        · rw [e2]
          have : itsN A lim (lesK A lim f n).1 (lesK A lim f n).2 = g := by unfold itsN; rw [e1, nq_cl (by omega)]
          unfold lesM lesI
          rw [this]
      have lt : ltB A (lesK A lim f n).2 (lesI A lim f n) = true := it.2.1
      have hsome : 0 < (D (lesI A lim f n)).1 := by
        unfold ltB at lt
        rw [Bool.and_eq_true, isL_iff K hl26, decide_eq_true_iff] at lt
        rw [r.cnt (by omega)]; exact lt.1
      have at1 : atB ro (nI (lesI A lim f n)) = true := by
        unfold atB
        rw [nq_cl (by omega), hr _ hl26, decide_eq_true hsome, Bool.and_true]
        have := wB_pred (j := lesI A lim f n) (n := 26) (by omega) (by omega)
        rw [show (nI 26 - 1 : Int32) = 25 from rfl] at this
        rw [this]; simp [hl26]
      have e : lsF D ro lim (m + 1) s = lsF D ro lim m (nI (lesI A lim f n), s.2.1 ||| (1 <<< (nI (lesI A lim f n) &&& 31)), addP (D (lesI A lim f n)) lim s.2.2.1, lesM A lim f n, (nxF D ro s.2.1 lim s.2.2.1 (-9, s.2.2.2.1, s.2.2.2.2) 26).2.2) := by
        rw [lsF, en, if_pos at1, nq_cl (by omega), ← eb]
      rw [e]
      cases m with
      | zero =>
        refine ⟨fun _ => ⟨rfl, rfl⟩, fun h => by omega⟩
      | succ m =>
        have ih := ls_eq K r hr m (n + 1) (nI (lesI A lim f n), s.2.1 ||| (1 <<< (nI (lesI A lim f n) &&& 31)), addP (D (lesI A lim f n)) lim s.2.2.1, lesM A lim f n, (nxF D ro s.2.1 lim s.2.2.1 (-9, s.2.2.2.1, s.2.2.2.2) 26).2.2) (sm.add (r _ (by omega)) lim) (by
          intro g hg
          show biC (s.2.1 ||| (1 <<< (nI (lesI A lim f n) &&& 31))) g = decide (¬ upd (lesK A lim f n).2 (lesI A lim f n) 1 g = 0)
          have h0 := ht g hg
          rw [biC_bt _ (by omega)] at h0 ⊢
          rw [b_or, h0, one_bt (by omega) (by omega)]
          simp only [upd]
          by_cases eg : g = lesI A lim f n
          · have : ¬ (1 : Int32) = 0 := by decide
            simp [eg, this]
          · simp [eg]) (by omega)
        refine ⟨fun h => ?_, fun h => ?_⟩
        · have := ih.1 (by omega)
          rw [show n + 1 + m = n + (m + 1) by omega] at this
          exact this
        · exact ih.2 (by omega)
    · have en : n = cntL D 26 := by omega
      have z : (bst (ltB A (lesK A lim f n).2) (nkV A lim (lesK A lim f n).1) 26).1 = -9 := by
        rcases bst_in (ltB A (lesK A lim f n).2) (nkV A lim (lesK A lim f n).1) 26 (by omega) with z | ⟨g, hg, hp, _, _⟩
        · exact z.1
        · have c0 : cntT (ltB A (lesK A lim f n).2) 26 = 0 := by omega
          have : ∀ n, cntT (ltB A (lesK A lim f n).2) n = cntT (ltB A (lesK A lim f n).2) n := fun _ => rfl
          have pos : ∀ (p : Nat → Bool) n g, g < n → p g = true → 1 ≤ cntT p n := by
            intro p n g
            induction n with
            | zero => intro h; omega
            | succ n ih =>
              intro h hp
              rw [cntT]
              by_cases e : g = n
              · subst e; rw [if_pos hp]; omega
              · have := ih (by omega) hp; omega
          have := pos _ 26 g hg hp
          omega
      have e9 : (nxF D ro s.2.1 lim s.2.2.1 (-9, s.2.2.2.1, s.2.2.2.2) 26).1 = -9 := nx.1.trans z
      refine ⟨fun h => by omega, fun _ => ?_⟩
      have at0 : ¬ atB ro (-9) = true := by
        unfold atB
        rw [show wB (-9) 0 25 = false from by decide]; simp
      rw [lsF, e9, if_neg at0]
