/-! pairs of calls: steps, kinds, pieces -/
theorem wr_n (dx dy u v lim : Int32) : ∃ k : Nat, k ≤ 1 ∧ wrF dx dy u v lim = nI k := by
  unfold wrF
  split
  · exact ⟨1, by omega, rfl⟩
  · exact ⟨0, by omega, rfl⟩
theorem STR.cw {d : PD} {k : Nat} {A : Nat → Nat → Int32} {a : Nat} (s : STR d k A a) {u v : Int32} (hu : IR u (-6) 6) (hv : IR v (-6) 6) (lim : Int32) : cwC (d.2.1 k) (d.2.2.2.2.1 k) (d.2.2.2.2.2.1 k) u v lim = wrA A a u v lim := by
  rw [s.1, cw_eq s.2.2.2.2.2.2.1 hu hv]; rfl
theorem STR.cwP {d : PD} {k : Nat} {A : Nat → Nat → Int32} {a : Nat} (s : STR d k A a) (lim : Int32) : cwP d lim k = wrA A a (A 29 a) (A 30 a) lim := by
  have i := s.2.2.2.2.2.1
  show cwC _ _ _ (d.2.2.1 k) (d.2.2.2.1 k) lim = _
  rw [s.2.2.2.1, s.2.2.2.2.1]
  exact s.cw (ir_wk i.1 (by omega) (by omega)) i.2.1 lim
theorem STR.srt {d : PD} {k : Nat} {A : Nat → Nat → Int32} {a : Nat} (s : STR d k A a) {j : Nat} (hj : j + 1 < pA A a) (lim : Int32) : srtC d k j lim = sortF (dxA A a j) (dyA A a j) (A 29 a) (A 30 a) lim := by
  have i := s.2.2.2.2.2.1
  have e := so_eq s.2.2.2.2.2.2.1 (ir_wk i.1 (by omega) (by omega)) i.2.1 lim hj
  show sortC _ _ (d.2.2.1 k) (d.2.2.2.1 k) lim = _
  rw [s.2.2.2.1, s.2.2.2.2.1]
  exact e
theorem stB_eq {n : Nat} (h1 : 1 ≤ n) (h8 : n ≤ 8) (i : Int32) : stB n i = wB i 0 (nI n - 2) := by
  unfold stB wB
  have e1 : (nI n - 1).toInt = (n : Int) - 1 := by
    rw [fb_subI (by rw [nI_lo (by omega), show (1 : Int32).toInt = 1 from rfl]; omega) (by rw [nI_lo (by omega), show (1 : Int32).toInt = 1 from rfl]; omega), nI_lo (by omega)]; rfl
  have e2 : (nI n - 2).toInt = (n : Int) - 2 := by
    rw [fb_subI (by rw [nI_lo (by omega), show (2 : Int32).toInt = 2 from rfl]; omega) (by rw [nI_lo (by omega), show (2 : Int32).toInt = 2 from rfl]; omega), nI_lo (by omega)]; rfl
  congr 1
  simp only [Int32.lt_iff_toInt_lt, Int32.le_iff_toInt_le, e1, e2, show (0 : Int32).toInt = 0 from rfl]
  apply propext
  omega
section P
variable {h : Hp} {K : KK} {I A : Nat → Nat → Int32}
theorem p_wrong (W : WI h K I A) : PAIR 77 143 [] h := by
  have D := W.2.2.1
  refine mk0 W (.int (allW A (I 24 13))) (fun Q hq => x_wrong W.1 ?_) (fun h' M' Q hq => by rw [m_wrong M' D.2.2.2.1]; exact hq.id M') D
  have e : sumN (cwP (K.D 26) K.2.2.1) (K.D 26).1 = allW A (I 24 13) := by
    unfold allW
    rw [D.2.2.2.2.cnt (by omega), D.1.2.2.1]
    apply sumN_cong
    intro k hk
    exact ((D.2.2.2.2 26 (by omega)).2 k (by rw [D.2.2.2.2.cnt (by omega)]; exact hk)).cwP _
  rw [e]; exact hq
theorem p_sort (W : WI h K I A) (k i : Int32) : PAIR 76 140 [.int k, .int i] h := by
  have D := W.2.2.1
  have mk := D.2.2.2.1
  cases s : skB K k
  · have hs : ¬ stpB A k i = true := by
      unfold stpB
      rw [show wB k 0 (A 27 26 - 1) = skB K k from (skB_eq D k).symm, s]; simp
    exact mk0 W (.int (-1)) (fun Q hq => x_sort W.1 k i (by rw [if_neg (fun z => by rw [s] at z; exact absurd z.1 (by decide))]; exact hq)) (fun h' M' Q hq => by rw [m_sort M' mk, if_neg hs]; exact hq.id M') D
  · obtain ⟨j, hj, h6, rfl, st, hm, ej⟩ := D.st s
    have e28 : A 28 (156 + j) = nI (pA A (156 + j)) := (mk.2 26 j (by omega) hj).1
    have es : stpB A (nI j) i = wB i 0 (nI (pA A (156 + j)) - 2) := by
      unfold stpB
      rw [show wB (nI j) 0 (A 27 26 - 1) = true from hm, ej, e28, Bool.true_and]
    have eb := stB_eq st.2.1 st.2.2.1 i
    by_cases c : wB i 0 (nI (pA A (156 + j)) - 2) = true
    · obtain ⟨m, hm2, rfl⟩ := wB_n2 (by have := st.2.2.1; omega) c
      have em : (nI m).toNatClampNeg = m := nq_cl (by have := st.2.2.1; omega)
      exact mk0 W (.int (sortF (dxA A (156 + j) m) (dyA A (156 + j) m) (A 29 (156 + j)) (A 30 (156 + j)) (I 24 13))) (fun Q hq => x_sort W.1 (nI j) (nI m) (by rw [ej, st.1, eb, if_pos ⟨s, c⟩, em, st.srt hm2, D.1.2.2.1]; exact hq)) (fun h' M' Q hq => by rw [m_sort M' mk, es, if_pos c, ej, em]; exact hq.id M') D
    · exact mk0 W (.int (-1)) (fun Q hq => x_sort W.1 (nI j) i (by rw [ej, st.1, eb, if_neg (fun z => c z.2)]; exact hq)) (fun h' M' Q hq => by rw [m_sort M' mk, es, if_neg c]; exact hq.id M') D
theorem p_ofStroke (W : WI h K I A) (k w : Int32) : PAIR 70 119 [.int k, .int w] h := by
  have D := W.2.2.1
  have mk := D.2.2.2.1
  refine mk0 W (.int (if mskB A k = true then if w = 0 then A 28 (156 + k.toNatClampNeg) else if w = 1 then A 29 (156 + k.toNatClampNeg) else if w = 2 then A 30 (156 + k.toNatClampNeg) else if w = 3 then kindA A (I 24 13) (156 + k.toNatClampNeg) / 16384 else if w = 4 then wrA A (156 + k.toNatClampNeg) (A 29 (156 + k.toNatClampNeg)) (A 30 (156 + k.toNatClampNeg)) (I 24 13) else -2 else -1)) (fun Q hq => x_ofStroke W.1 k w ?_) (fun h' M' Q hq => r_ofStroke M' mk k w hq) D
  rw [← skB_eq D] at hq
  cases s : skB K k
  · rw [s] at hq; exact hq
  · obtain ⟨j, hj, h6, rfl, st, hm, ej⟩ := D.st s
    have e28 : A 28 (156 + j) = nI (pA A (156 + j)) := (mk.2 26 j (by omega) hj).1
    rw [s, if_pos rfl, ej] at hq
    rw [if_pos rfl, ej]
    cases c : wB w 0 4
    · have g0 : ¬ w = 0 := fun z => by rw [z] at c; exact absurd c (by decide)
      have g1 : ¬ w = 1 := fun z => by rw [z] at c; exact absurd c (by decide)
      have g2 : ¬ w = 2 := fun z => by rw [z] at c; exact absurd c (by decide)
      have g3 : ¬ w = 3 := fun z => by rw [z] at c; exact absurd c (by decide)
      have g4 : ¬ w = 4 := fun z => by rw [z] at c; exact absurd c (by decide)
      rw [if_neg g0, if_neg g1, if_neg g2, if_neg g3, if_neg g4] at hq
      exact hq
    · obtain ⟨i, hi, rfl⟩ := wB_lit (n := 4) (by omega) c
      rw [if_pos rfl, nq_cl (by omega)]
      rcases (show i = 0 ∨ i = 1 ∨ i = 2 ∨ i = 3 ∨ i = 4 by omega) with rfl | rfl | rfl | rfl | rfl
      · rw [if_pos (show nI 0 = 0 from rfl), e28, ← st.1] at hq; exact hq
      · rw [if_neg (show ¬ nI 1 = 0 by decide), if_pos (show nI 1 = 1 from rfl), ← st.2.2.2.1] at hq; exact hq
      · rw [if_neg (show ¬ nI 2 = 0 by decide), if_neg (show ¬ nI 2 = 1 by decide), if_pos (show nI 2 = 2 from rfl), ← st.2.2.2.2.1] at hq; exact hq
      · rw [if_neg (show ¬ nI 3 = 0 by decide), if_neg (show ¬ nI 3 = 1 by decide), if_neg (show ¬ nI 3 = 2 by decide), if_pos (show nI 3 = 3 from rfl), ← D.1.2.2.1, ← (st.kr K.2.2.1).len] at hq; exact hq
      · rw [if_neg (show ¬ nI 4 = 0 by decide), if_neg (show ¬ nI 4 = 1 by decide), if_neg (show ¬ nI 4 = 2 by decide), if_neg (show ¬ nI 4 = 3 by decide), if_pos (show nI 4 = 4 from rfl), ← D.1.2.2.1, ← st.cwP K.2.2.1] at hq; exact hq
theorem lo_ok {d : PD} {k : Nat} {a j : Nat} (s : STR d k A a) (hj : j + 1 < pA A a) : ∃ x y : Nat, x < 2147483648 ∧ y < 1073741824 ∧ upA A a j = nI x ∧ loA A a j = nI y ∧ ¬ y = 0 := by
  have i := s.2.2.2.2.2.1
  have se := s.2.2.2.2.2.2.1
  have dd := se.d hj
  have e1 := se j (by omega)
  have e2 := se (j + 1) hj
  rw [e1.1, e1.2.1, e2.1, e2.2.1] at dd
  have dx : IR (dxA A a j) (-31) 31 := dd.1
  have dy : IR (dyA A a j) (-31) 31 := dd.2
  have t := twist_ir dx dy (ir_wk i.1 (by omega) (by omega)) i.2.1
  have up := upC_ir dx dy (ir_wk i.1 (by omega) (by omega)) i.2.1
  have lo := ir_dot dx dx dy dy (by omega) (by omega) (by omega)
  have tt : (upC (dxA A a j) (dyA A a j) (A 29 a) (A 30 a)).toInt ≥ 0 ∧ (upC (dxA A a j) (dyA A a j) (A 29 a) (A 30 a)).toInt ≤ 553536 := by
    rw [up]
    generalize (dxA A a j * A 30 a - dyA A a j * A 29 a) = z at *
    have h1 := t.2.1
    have h2 := t.2.2
    have q1 : (z.toInt * z.toInt).natAbs ≤ 372 * 372 := by rw [Int.natAbs_mul]; exact Nat.mul_le_mul (by omega) (by omega)
    have q2 : 0 ≤ z.toInt * z.toInt := by rw [← Int.natAbs_mul_self]; omega
    rw [Int.mul_assoc]
    omega
  obtain ⟨x, hx, ex⟩ := ir_nat (z := upC (dxA A a j) (dyA A a j) (A 29 a) (A 30 a)) (b := 553536) ⟨tt.1, tt.2⟩
  have ll : 0 < (loA A a j).toInt ∧ (loA A a j).toInt ≤ 1922 := by
    have l1 : (loA A a j).toInt = (dxA A a j).toInt * (dxA A a j).toInt + (dyA A a j).toInt * (dyA A a j).toInt := lo.1
    refine ⟨?_, lo.2.2⟩
    rw [l1]
    apply sq_pos
    intro z
    apply i.2.2.2 j hj
    have zx := toInt0.mpr z.1
    have zy := toInt0.mpr z.2
    unfold dxA at zx
    unfold dyA at zy
    constructor
    · have : A 31 (8 * a + j + 1) - A 31 (8 * a + j) + A 31 (8 * a + j) = 0 + A 31 (8 * a + j) := by rw [zx]
      rw [Int32.sub_add_cancel, Int32.zero_add] at this
      exact this
    · have : A 32 (8 * a + j + 1) - A 32 (8 * a + j) + A 32 (8 * a + j) = 0 + A 32 (8 * a + j) := by rw [zy]
      rw [Int32.sub_add_cancel, Int32.zero_add] at this
      exact this
  obtain ⟨y, hy, ey⟩ := ir_nat (z := loA A a j) (b := 1922) ⟨by omega, ll.2⟩
  refine ⟨x, y, by omega, by omega, ex, ey, fun z => ?_⟩
  rw [ey, z] at ll
  exact absurd ll.1 (by decide)
theorem p_thick (W : WI h K I A) (k i w : Int32) : PAIR 75 138 [.int k, .int i, .int w] h := by
  have D := W.2.2.1
  have mk := D.2.2.2.1
  cases s : skB K k
  · have hs : ¬ stpB A k i = true := by
      unfold stpB
      rw [show wB k 0 (A 27 26 - 1) = skB K k from (skB_eq D k).symm, s]; simp
    exact mk0 W (.int (-1)) (fun Q hq => x_thick W.1 k i w (by rw [if_neg (fun z => by rw [s] at z; exact absurd z.1 (by decide))]; exact hq)) (fun h' M' Q hq => r_thick M' mk k i w (N := 64) (fun z => absurd z hs) (by rw [if_neg hs]; exact hq)) D
  · obtain ⟨j, hj, h6, rfl, st, hm, ej⟩ := D.st s
    have e28 : A 28 (156 + j) = nI (pA A (156 + j)) := (mk.2 26 j (by omega) hj).1
    have es : stpB A (nI j) i = wB i 0 (nI (pA A (156 + j)) - 2) := by
      unfold stpB
      rw [show wB (nI j) 0 (A 27 26 - 1) = true from hm, ej, e28, Bool.true_and]
    have eb := stB_eq st.2.1 st.2.2.1 i
    by_cases c : wB i 0 (nI (pA A (156 + j)) - 2) = true
    · obtain ⟨m, hm2, rfl⟩ := wB_n2 (by have := st.2.2.1; omega) c
      have em : (nI m).toNatClampNeg = m := nq_cl (by have := st.2.2.1; omega)
      obtain ⟨x, y, hx, hy, ex, ey, y0⟩ := lo_ok st hm2
      have ge : gcdEnds 64 (upA A (156 + j) m) (loA A (156 + j) m) := by rw [ex, ey]; exact ge_64 hx hy
      have gn : ¬ gcdF 64 (upA A (156 + j) m) (loA A (156 + j) m) = 0 := gcd_n0 64 _ _ ge (fun z => by
        have := z.2
        rw [ey] at this
        exact y0 ((zinj (a := y) (b := 0) (by omega) (by omega)).mp this))
      have ec : thkC (K.D 26) j m w = (if w = 0 then upA A (156 + j) m else loA A (156 + j) m) / gcdF 64 (upA A (156 + j) m) (loA A (156 + j) m) := by
        have se := st.2.2.2.2.2.2.1
        have e1 := se m (by omega)
        have e2 := se (m + 1) hm2
        unfold thkC
        dsimp only
        rw [e1.1, e1.2.1, e2.1, e2.2.1, st.2.2.2.1, st.2.2.2.2.1]
        exact if_neg gn
      exact mk0 W (.int (if wB w 0 1 = true then (if w = 0 then upA A (156 + j) m else loA A (156 + j) m) / gcdF 64 (upA A (156 + j) m) (loA A (156 + j) m) else -2)) (fun Q hq => x_thick W.1 (nI j) (nI m) w (by rw [ej, st.1, eb, if_pos ⟨s, c⟩, em, ec]; exact hq)) (fun h' M' Q hq => r_thick M' mk (nI j) (nI m) w (N := 64) (fun _ => by rw [ej, em]; exact ⟨ge, gn⟩) (by rw [es, if_pos c, ej, em]; exact hq)) D
    · exact mk0 W (.int (-1)) (fun Q hq => x_thick W.1 (nI j) i w (by rw [ej, st.1, eb, if_neg (fun z => c z.2)]; exact hq)) (fun h' M' Q hq => r_thick M' mk (nI j) i w (N := 64) (fun z => by rw [es] at z; exact absurd z c) (by rw [es, if_neg c]; exact hq)) D
theorem p_pieces (W : WI h K I A) (w : Int32) : PAIR 79 153 [.int w] h := by
  have D := W.2.2.1
  obtain ⟨N, hN⟩ : ∃ N, N = 1024 := ⟨_, rfl⟩
  have z0 : ∀ y, y < 32 → gthF (K.D 26) (zeroF (fun _ => 0)) 6 y = inkG A 26 (fun _ => 0) y := D.ik (by omega) (fun _ => 0) (fun _ => 0)
  refine mk0 W (.int (if w = 0 then (cpC N (gthF (K.D 26) (zeroF (fun _ => 0)) 6) (fun _ => 0, fun _ => 0, 0)).2 else if w = 1 then (ccC N (gthF (K.D 26) (zeroF (fun _ => 0)) 6) (fun _ => 0, fun _ => 0, 0)).2 else -2)) (fun Q hq => x_pieces hN W.1 w (fun g s => ?_)) (fun h' M' Q hq => r_pieces M' D.2.2.2.1 w (fun g qf df => ?_)) D
  · rw [pieces_eq hN (D.ik (by omega) g (fun _ => 0)) s (fun _ => 0) (fun _ => 0), counters_eq hN (D.ik (by omega) g (fun _ => 0)) s (fun _ => 0) (fun _ => 0)]
    rw [pieces_eq hN z0 _ (fun _ => 0) (fun _ => 0), counters_eq hN z0 _ (fun _ => 0) (fun _ => 0)] at hq
    exact hq
  · rw [pieces_eq hN (D.ik (by omega) (fun _ => 0) g) _ qf df, counters_eq hN (D.ik (by omega) (fun _ => 0) g) _ qf df] at hq
    exact hq
end P
