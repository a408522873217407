/-! pairs of calls: frame, ink, strokes -/
section P
variable {h : Hp} {K : KK} {I A : Nat → Nat → Int32}
theorem DR.six (D : DR K I A) {gr : Nat} (hg : gr < 27) : cA A gr ≤ 6 := (D.2.2.2.1.1 gr hg).2
theorem DR.ik (D : DR K I A) {gr : Nat} (hg : gr < 27) (g g' : Nat → Int32) : ∀ y, y < 32 → gthF (K.D gr) (zeroF g) 6 y = inkG A gr g' y := fun y hy => (D.2.2.2.2 gr hg).ink (D.six hg) g g' hy
theorem DR.im (D : DR K I A) {gr : Nat} (hg : gr < 27) (g g' : Nat → Int32) : ∀ y, y < 32 → inkG A gr g y = inkG A gr g' y := fun y hy => (D.ik hg g g y hy).symm.trans (D.ik hg g g' y hy)
theorem DR.st (D : DR K I A) {k : Int32} (hk : skB K k = true) : ∃ j : Nat, j < cA A 26 ∧ j < 6 ∧ k = nI j ∧ STR (K.D 26) j A (156 + j) ∧ mskB A k = true ∧ k.toNatClampNeg = j := by
  have h1 := hk
  rw [skB_eq D] at h1
  obtain ⟨j, hj, h6, e⟩ := msk_ex D.2.2.2.1 h1
  exact ⟨j, hj, h6, e, (D.2.2.2.2 26 (by omega)).2 j (by rw [D.2.2.2.2.cnt (by omega)]; exact hj), h1, by rw [e, nq_cl (by omega)]⟩
theorem n8i {n m : Nat} (hn : n ≤ 64) (hm : m ≤ 64) (e : nI n = nI m) : n = m := (zinj (by omega) (by omega)).mp e
theorem p_frame (W : WI h K I A) (n : Int32) : PAIR 92 182 [.int n] h := by
  obtain ⟨d1, d2, ⟨fl, flr, fr⟩, d4, d5⟩ := W.2.2.1
  by_cases c1 : n > 64
  · exact mk0 W (.int (-2)) (fun Q hq => x_frame W.1 n (by rw [if_pos c1, if_pos c1]; exact hq)) (fun h' M' Q hq => r_frameBig M' c1 hq) W.2.2.1
  · by_cases c2 : n < 0
    · exact mk0 W (.int (-14)) (fun Q hq => x_frame W.1 n (by rw [if_neg c1, if_neg c1, if_pos c2, if_pos c2]; exact hq)) (fun h' M' Q hq => r_frameNeg M' c1 c2 hq) W.2.2.1
    · obtain ⟨m, hm, rfl⟩ := ir_nat (z := n) (b := 64) (by
        rw [gt_iff_lt, Int32.lt_iff_toInt_lt, show (64 : Int32).toInt = 64 from rfl] at c1
        rw [Int32.lt_iff_toInt_lt, show (0 : Int32).toInt = 0 from rfl] at c2
        unfold IR; omega)
      refine mk0 (I' := va_up I 24 (va_up (I 24) 22 (nI m))) (A' := va_up A 39 (gmix m (fun _ => 0) (A 39))) W (.int (nI m)) (fun Q hq => x_frame W.1 (nI m) (by rw [if_neg c1, if_neg c1, if_neg c2, if_neg c2]; exact hq)) (fun h' M' Q hq => r_frame M' hm hq) ?_
      refine ⟨d1, d2, ⟨rfl, Or.inr ⟨m, hm, rfl⟩, ?_⟩, d4, d5⟩
      intro n j hn e hj
      have e' : nI m = nI n := e
      have := n8i hm hn e'
      show gmix 64 (fun _ => 0) K.2.2.2.2.2.2.2.1 j = gmix m (fun _ => 0) (A 39) j
      rw [gmix_lt (by omega), gmix_lt (by omega)]
theorem fl_ok (D : DR K I A) {i : Int32} (c : faultV (I 24 22) i = 0) : ∃ n j : Nat, n ≤ 64 ∧ j < n ∧ I 24 22 = nI n ∧ i = nI j ∧ i.toNatClampNeg = j := by
  obtain ⟨d1, d2, ⟨fl, flr, fr⟩, d4, d5⟩ := D
  rcases flr with z | ⟨n, hn, z⟩
  · unfold faultV at c; rw [if_pos z] at c; exact absurd c (by decide)
  · unfold faultV at c
    rw [z, if_neg (n9 (by omega))] at c
    have hw : wB i 0 (nI n - 1) = true := by
      cases hw : wB i 0 (nI n - 1)
      · rw [hw] at c; exact absurd c (by decide)
      · rfl
    obtain ⟨j, hj, e⟩ := wB_n (by omega) hw
    exact ⟨n, j, hn, hj, z, e, by rw [e, nq_cl (by omega)]⟩
theorem DR.row (D : DR K I A) {n j : Nat} (hn : n ≤ 64) (hj : j < n) (e : I 24 22 = nI n) (z : Int32) : DR (K.fr K.2.2.2.2.2.2.1 (upd K.2.2.2.2.2.2.2.1 j z)) I (va_up A 39 (upd (A 39) j z)) := by
  obtain ⟨d1, d2, ⟨fl, flr, fr⟩, d4, d5⟩ := D
  refine ⟨d1, d2, ⟨fl, flr, ?_⟩, d4, d5⟩
  intro m i hm em hi
  show upd K.2.2.2.2.2.2.2.1 j z i = upd (A 39) j z i
  by_cases ei : i = j
  · simp only [upd, if_pos ei]
  · simp only [upd, if_neg ei]; exact fr m i hm em hi
theorem p_roll (W : WI h K I A) (i n : Int32) : PAIR 94 185 [.int i, .int n] h := by
  have D := W.2.2.1
  obtain ⟨d1, d2, ⟨fl, flr, fr⟩, d4, d5⟩ := W.2.2.1
  by_cases c1 : wB n 0 31 = true
  · by_cases c2 : faultV (I 24 22) i = 0
    · obtain ⟨m, j, hm, hj, em, rfl, ej⟩ := fl_ok D c2
      have er := fr m j hm em hj
      refine mk0 (A' := va_up A 39 (upd (A 39) j ((A 39 j).toUInt32 >>> (n.toUInt32 &&& Int32.toUInt32 31)).toInt32)) W (.int (bitc ((A 39 j).toUInt32 >>> (n.toUInt32 &&& Int32.toUInt32 31)).toInt32)) (fun Q hq => x_roll W.1 (by rw [fl]; exact flr) (nI j) n (by rw [fl, flt_eq, if_pos ⟨c1, c2⟩, if_pos c1, if_pos c2, ej, er, bcI_bitc, ← fl]; exact hq)) (fun h' M' Q hq => r_roll M' flr (nI j) n (by rw [if_pos ⟨c1, c2⟩, if_pos c1, if_pos c2, ej]; exact hq)) (D.row hm hj em _)
    · exact mk0 W (.int (faultV (I 24 22) i)) (fun Q hq => x_roll W.1 (by rw [fl]; exact flr) i n (by rw [fl, flt_eq, if_neg (fun z => c2 z.2), if_pos c1, if_neg c2]; exact hq)) (fun h' M' Q hq => r_roll M' flr i n (by rw [if_neg (fun z => c2 z.2), if_pos c1, if_neg c2]; exact hq)) D
  · exact mk0 W (.int (-2)) (fun Q hq => x_roll W.1 (by rw [fl]; exact flr) i n (by rw [if_neg (fun z => c1 z.1), if_neg c1]; exact hq)) (fun h' M' Q hq => r_roll M' flr i n (by rw [if_neg (fun z => c1 z.1), if_neg c1]; exact hq)) D
theorem p_shoot (W : WI h K I A) (i y : Int32) : PAIR 93 184 [.int i, .int y] h := by
  have D := W.2.2.1
  obtain ⟨d1, d2, ⟨fl, flr, fr⟩, d4, d5⟩ := W.2.2.1
  by_cases c1 : wB y 0 31 = true
  · obtain ⟨r, hr, er⟩ := wB_n (n := 32) (by omega) c1
    have er' : y.toNatClampNeg = r := by rw [er, nq_cl (by omega)]
    by_cases c2 : faultV (I 24 22) i = 0
    · obtain ⟨m, j, hm, hj, em, rfl, ej⟩ := fl_ok D c2
      refine mk0 (A' := va_up A 39 (upd (A 39) j (inkG A 26 (fun _ => 0) r))) W (.int (bitc (inkG A 26 (fun _ => 0) r))) (fun Q hq => x_shoot W.1 (by rw [fl]; exact flr) (nI j) y (by
        intro g
        rw [fl, flt_eq, if_pos ⟨c1, c2⟩, if_pos c1, if_pos c2, ej, er', bcI_bitc, D.ik (by omega) g (fun _ => 0) r hr, ← fl]; exact hq)) (fun h' M' Q hq => r_shoot M' d4 flr (nI j) y (by
        intro g
        rw [if_pos ⟨c1, c2⟩, if_pos c1, if_pos c2, ej, er', D.im (by omega) g (fun _ => 0) r hr]; exact hq)) (D.row hm hj em _)
    · exact mk0 W (.int (faultV (I 24 22) i)) (fun Q hq => x_shoot W.1 (by rw [fl]; exact flr) i y (by intro g; rw [fl, flt_eq, if_neg (fun z => c2 z.2), if_pos c1, if_neg c2]; exact hq)) (fun h' M' Q hq => r_shoot M' d4 flr i y (by intro g; rw [if_neg (fun z => c2 z.2), if_pos c1, if_neg c2]; exact hq)) D
  · exact mk0 W (.int (-2)) (fun Q hq => x_shoot W.1 (by rw [fl]; exact flr) i y (by intro g; rw [if_neg (fun z => c1 z.1), if_neg c1]; exact hq)) (fun h' M' Q hq => r_shoot M' d4 flr i y (by intro g; rw [if_neg (fun z => c1 z.1), if_neg c1]; exact hq)) D
theorem p_area (W : WI h K I A) (k : Int32) : PAIR 73 132 [.int k] h := by
  have D := W.2.2.1
  have mk := D.2.2.2.1
  by_cases c : k = -1
  · subst c
    exact mk0 W (.int (sumN (fun y => bitc (inkG A 26 (fun _ => 0) y)) 32)) (fun Q hq => x_areaAll W.1 (fun g => by rw [cb_eq (D.ik (by omega) g (fun _ => 0))]; exact hq)) (fun h' M' Q hq => r_areaAll M' mk (fun g => by
      rw [sumN_cong (g := fun y => bitc (inkG A 26 (fun _ => 0) y)) (fun y hy => by rw [D.im (by omega) g (fun _ => 0) y hy])]; exact hq)) D
  · cases s : skB K k
    · exact mk0 W (.int (-1)) (fun Q hq => x_area W.1 c (by rw [s]; exact hq)) (fun h' M' Q hq => r_areaNo M' c (by rw [← skB_eq D]; exact s) hq) D
    · obtain ⟨j, hj, h6, rfl, st, _, ej⟩ := D.st s
      exact mk0 W (.int (sumN (fun y => bitc (inkS A (156 + j) (fun _ => 0) y)) 32)) (fun Q hq => x_area W.1 c (by rw [s, if_pos rfl, ej, cb_eq (fun y hy => st.row (fun _ => 0) hy)]; exact hq)) (fun h' M' Q hq => r_area M' mk hj (fun g => by
        rw [sumN_cong (g := fun y => bitc (inkS A (156 + j) (fun _ => 0) y)) (fun y hy => by rw [← st.row g hy, ← st.row (fun _ => 0) hy])]; exact hq)) D
theorem p_ink (W : WI h K I A) (k y : Int32) : PAIRL 72 131 [.int k, .int y] h := by
  have D := W.2.2.1
  have mk := D.2.2.2.1
  by_cases c : k = -1
  · subst c
    refine mk0L W (.long (if wB y 0 31 = true then (inkG A 26 (fun _ => 0) y.toNatClampNeg).toInt64 &&& 4294967295 else -2)) (fun Q hq => x_inkAll W.1 y (fun g => ?_)) (fun h' M' Q hq => r_inkAll M' mk y (fun g => ?_)) D
    · by_cases c1 : wB y 0 31 = true
      · obtain ⟨r, hr, rfl⟩ := wB_n (n := 32) (by omega) c1
        rw [nq_cl (by omega)] at hq ⊢
        rw [D.ik (by omega) g (fun _ => 0) r hr]; exact hq
      · rw [if_neg c1] at hq ⊢; exact hq
    · by_cases c1 : wB y 0 31 = true
      · obtain ⟨r, hr, rfl⟩ := wB_n (n := 32) (by omega) c1
        rw [nq_cl (by omega)] at hq ⊢
        rw [D.im (by omega) g (fun _ => 0) r hr]; exact hq
      · rw [if_neg c1] at hq ⊢; exact hq
  · cases s : skB K k
    · exact mk0L W (.long (-1)) (fun Q hq => x_ink W.1 c y (by rw [s]; exact hq)) (fun h' M' Q hq => r_inkNo M' c (by rw [← skB_eq D]; exact s) y hq) D
    · obtain ⟨j, hj, h6, rfl, st, _, ej⟩ := D.st s
      refine mk0L W (.long (if wB y 0 31 = true then (inkS A (156 + j) (fun _ => 0) y.toNatClampNeg).toInt64 &&& 4294967295 else -2)) (fun Q hq => x_ink W.1 c y ?_) (fun h' M' Q hq => r_ink M' mk hj y (fun g => ?_)) D
      · rw [s, if_pos rfl, ej]
        by_cases c1 : wB y 0 31 = true
        · obtain ⟨r, hr, rfl⟩ := wB_n (n := 32) (by omega) c1
          rw [nq_cl (by omega)] at hq ⊢
          rw [st.row (fun _ => 0) hr]; exact hq
        · rw [if_neg c1] at hq ⊢; exact hq
      · by_cases c1 : wB y 0 31 = true
        · obtain ⟨r, hr, rfl⟩ := wB_n (n := 32) (by omega) c1
          rw [nq_cl (by omega)] at hq ⊢
          rw [← st.row g hr, st.row (fun _ => 0) hr]; exact hq
        · rw [if_neg c1] at hq ⊢; exact hq
theorem p_place (W : WI h K I A) (k i w : Int32) : PAIR 71 120 [.int k, .int i, .int w] h := by
  have D := W.2.2.1
  have mk := D.2.2.2.1
  refine mk0 W (.int (if mskB A k = true ∧ wB i 0 (A 28 (156 + k.toNatClampNeg) - 1) = true then if w = 0 then A 31 (8 * (156 + k.toNatClampNeg) + i.toNatClampNeg) else if w = 1 then A 32 (8 * (156 + k.toNatClampNeg) + i.toNatClampNeg) else -2 else -1)) (fun Q hq => x_place W.1 k i w ?_) (fun h' M' Q hq => r_place M' mk k i w hq) D
  rw [← skB_eq D] at hq
  cases s : skB K k
  · rw [s, if_neg (fun z => absurd z.1 (by decide))] at hq
    rw [if_neg (fun z => absurd z.1 (by decide))]; exact hq
  · obtain ⟨j, hj, h6, rfl, st, _, ej⟩ := D.st s
    have e28 : A 28 (156 + j) = nI (pA A (156 + j)) := (mk.2 26 j (by omega) hj).1
    rw [s, ej, e28] at hq
    rw [ej, st.1]
    by_cases c : wB i 0 (nI (pA A (156 + j)) - 1) = true
    · obtain ⟨m, hm, rfl⟩ := wB_n (by have := st.2.2.1; omega) c
      rw [nq_cl (by have := st.2.2.1; omega)] at hq ⊢
      have se := st.2.2.2.2.2.2.1 m hm
      rw [se.1, se.2.1]; exact hq
    · rw [if_neg (fun z => c z.2)] at hq ⊢; exact hq
theorem p_undo (W : WI h K I A) : PAIR 69 117 [] h := by
  have D := W.2.2.1
  obtain ⟨d1, d2, d3, mk, ar⟩ := W.2.2.1
  have e27 := (mk.1 26 (by omega)).1
  have h6 := (mk.1 26 (by omega)).2
  have ec := ar.cnt (n := 26) (by omega)
  cases hc : (K.D 26).1 with
  | zero =>
    rw [hc] at ec
    exact mk0 W (.int (-3)) (fun Q hq => x_undo0 W.1 hc hq) (fun h' M' Q hq => r_undo0 M' (by rw [e27, ← ec]; rfl) hq) D
  | succ c =>
    rw [hc] at ec
    have em : A 27 26 - 1 = nI c := by rw [e27, ← ec, show (1 : Int32) = nI 1 from rfl, nI_sub (by omega)]; rfl
    refine mk0 (I' := I) (A' := va_up A 27 (upd (A 27) 26 (nI c))) W (.int (nI c)) (fun Q hq => x_undo W.1 hc hq) (fun h' M' Q hq => r_undo M' (by rw [e27, ← ec]; intro z; exact absurd ((zinj (a := c + 1) (b := 0) (by omega) (by omega)).mp z) (by omega)) (by rw [em]; exact hq)) ?_
    have cN : ∀ g, cA (va_up A 27 (upd (A 27) 26 (nI c))) g = if g = 26 then c else cA A g := by
      intro g
      show (upd (A 27) 26 (nI c) g).toNatClampNeg = _
      by_cases e : g = 26
      · simp only [upd, if_pos e]; exact nq_cl (by omega)
      · simp only [upd, if_neg e]; rfl
    refine ⟨d1, d2, d3, ⟨fun g hg => ?_, fun g k hg hk => ?_⟩, fun g hg => ?_⟩
    · rw [cN g]
      show upd (A 27) 26 (nI c) g = _ ∧ _
      by_cases e : g = 26
      · simp only [upd, if_pos e]; exact ⟨trivial, by omega⟩
      · simp only [upd, if_neg e]; exact mk.1 g hg
    · rw [cN g] at hk
      by_cases e : g = 26
      · rw [if_pos e] at hk; subst e; exact mk.2 26 k (by omega) (by omega)
      · rw [if_neg e] at hk; exact mk.2 g k hg hk
    · show SR (va_up K.D 26 (c, (K.D 26).2) g) _ g
      by_cases e : g = 26
      · subst e
        rw [vD_eq]
        refine ⟨by rw [cN 26, if_pos rfl], fun k hk => ?_⟩
        have hk' : k < c := hk
        exact (ar 26 (by omega)).2 k (by rw [hc]; omega)
      · rw [vD_ne _ _ e]
        refine ⟨by rw [cN g, if_neg e]; exact (ar g hg).1, fun k hk => (ar g hg).2 k hk⟩
end P
