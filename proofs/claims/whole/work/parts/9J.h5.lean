/-! pairs of calls: strokes are moved -/
theorem strI_cong {n : Nat} (hn : 1 ≤ n) (u v : Int32) {X Y X' Y' : Nat → Int32} (g : Nat → Int32) (hs : ∀ j, j < n → X j = X' j ∧ Y j = Y' j) {y : Nat} (hy : y < 32) : strI n u v X Y g y = strI n u v X' Y' g y := by
  apply b_ext
  intro x hx
  rw [strI_bt _ _ _ _ _ _ hx hy, strI_bt _ _ _ _ _ _ hx hy, sB_cong hn u v x y hs]
theorem STR.move {d d' : PD} {k k' : Nat} {A A' : Nat → Nat → Int32} {a a' : Nat} (s : STR d k A a) (h28 : A' 28 a' = A 28 a) (h29 : A' 29 a' = A 29 a) (h30 : A' 30 a' = A 30 a) (h31 : ∀ j, j < 8 → A' 31 (8 * a' + j) = A 31 (8 * a + j)) (h32 : ∀ j, j < 8 → A' 32 (8 * a' + j) = A 32 (8 * a + j)) (e1 : d'.2.1 k' = d.2.1 k) (e2 : d'.2.2.1 k' = d.2.2.1 k) (e3 : d'.2.2.2.1 k' = d.2.2.2.1 k) (e4 : d'.2.2.2.2.1 k' = d.2.2.2.2.1 k) (e5 : d'.2.2.2.2.2.1 k' = d.2.2.2.2.2.1 k) (e6 : d'.2.2.2.2.2.2 k' = d.2.2.2.2.2.2 k) : STR d' k' A' a' := by
  have hp : pA A' a' = pA A a := by unfold pA; rw [h28]
  obtain ⟨s1, s2, s3, s4, s5, s6, s7, s8⟩ := s
  unfold STR
  rw [hp, h29, h30, e1, e2, e3, e4, e5, e6]
  refine ⟨s1, s2, s3, s4, s5, ⟨s6.1, s6.2.1, s6.2.2.1, fun j hj => ?_⟩, fun j hj => ?_, fun y hy => ?_⟩
  · have := s6.2.2.2 j hj
    rw [show 8 * a' + j + 1 = 8 * a' + (j + 1) from rfl, h31 j (by omega), h31 (j + 1) (by omega), h32 j (by omega), h32 (j + 1) (by omega)]
    exact this
  · have := s7 j hj
    show d.2.2.2.2.1 k j = A' 31 (8 * a' + j) ∧ d.2.2.2.2.2.1 k j = A' 32 (8 * a' + j) ∧ _
    rw [h31 j (by omega), h32 j (by omega)]; exact this
  · rw [s8 y hy]
    exact strI_cong s2 _ _ _ (fun j hj => ⟨(h31 j (by omega)).symm, (h32 j (by omega)).symm⟩) hy
section P
variable {h : Hp} {K : KK} {I A : Nat → Nat → Int32}
theorem DR.less (D : DR K I A) {g c : Nat} (hg : g < 27) (hc : c ≤ cA A g) : DR (K.setD (va_up K.D g (c, (K.D g).2))) I (va_up A 27 (upd (A 27) g (nI c))) := by
  obtain ⟨d1, d2, d3, mk, ar⟩ := D
  have h6 := (mk.1 g hg).2
  have cN : ∀ x, cA (va_up A 27 (upd (A 27) g (nI c))) x = if x = g then c else cA A x := by
    intro x
    show (upd (A 27) g (nI c) x).toNatClampNeg = _
    by_cases e : x = g
    · simp only [upd, if_pos e]; exact nq_cl (by omega)
    · simp only [upd, if_neg e]; rfl
  refine ⟨d1, d2, d3, ⟨fun x hx => ?_, fun x k hx hk => ?_⟩, fun x hx => ?_⟩
  · rw [cN x]
    show upd (A 27) g (nI c) x = _ ∧ _
    by_cases e : x = g
    · simp only [upd, if_pos e]; exact ⟨trivial, by omega⟩
    · simp only [upd, if_neg e]; exact mk.1 x hx
  · rw [cN x] at hk
    by_cases e : x = g
    · rw [if_pos e] at hk; subst e; exact mk.2 x k hx (by omega)
    · rw [if_neg e] at hk; exact mk.2 x k hx hk
  · show SR (va_up K.D g (c, (K.D g).2) x) _ x
    by_cases e : x = g
    · subst e
      rw [vD_eq]
      refine ⟨by rw [cN x, if_pos rfl], fun k hk => ?_⟩
      have hk' : k < c := hk
      exact (ar x hx).2 k (by rw [(ar x hx).1]; omega)
    · rw [vD_ne _ _ e]
      refine ⟨by rw [cN x, if_neg e]; exact (ar x hx).1, fun k hk => (ar x hx).2 k hk⟩
theorem DR.copy (D : DR K I A) {a b : Nat} (ha : a < 27) (hb : b < 27) : DR (K.setD (va_up K.D b (K.D a))) I (cpA A a b) := by
  obtain ⟨d1, d2, d3, mk, ar⟩ := D
  have cN : ∀ x, cA (cpA A a b) x = if x = b then cA A a else cA A x := by
    intro x
    show (upd (A 27) b (A 27 a) x).toNatClampNeg = _
    by_cases e : x = b
    · simp only [upd, if_pos e]; rfl
    · simp only [upd, if_neg e]; rfl
  have f6 : ∀ (f : Nat → Int32) x k, k < 6 → cpF f a b 6 6 (6 * x + k) = if x = b then f (6 * a + k) else f (6 * x + k) := by
    intro f x k hk
    unfold cpF
    by_cases e : x = b
    · rw [if_pos e, if_pos (by omega)]; congr 1; omega
    · rw [if_neg e, if_neg (by omega)]
  have f48 : ∀ (f : Nat → Int32) x k j, k < 6 → j < 8 → cpF f a b 48 48 (8 * (6 * x + k) + j) = if x = b then f (8 * (6 * a + k) + j) else f (8 * (6 * x + k) + j) := by
    intro f x k j hk hj
    unfold cpF
    by_cases e : x = b
    · rw [if_pos e, if_pos (by omega)]; congr 1; omega
    · rw [if_neg e, if_neg (by omega)]
  have pN : ∀ x k, k < 6 → pA (cpA A a b) (6 * x + k) = if x = b then pA A (6 * a + k) else pA A (6 * x + k) := by
    intro x k hk
    show (cpF (A 28) a b 6 6 (6 * x + k)).toNatClampNeg = _
    rw [f6 _ _ _ hk]
    split <;> rfl
  refine ⟨d1, d2, d3, ⟨fun x hx => ?_, fun x k hx hk => ?_⟩, fun x hx => ?_⟩
  · rw [cN x]
    show upd (A 27) b (A 27 a) x = _ ∧ _
    by_cases e : x = b
    · simp only [upd, if_pos e]; exact mk.1 a ha
    · simp only [upd, if_neg e]; exact mk.1 x hx
  · rw [cN x] at hk
    have hk6 : k < 6 := by
      split at hk
      · have := (mk.1 a ha).2; omega
      · have := (mk.1 x hx).2; omega
    rw [pN x k hk6]
    show cpF (A 28) a b 6 6 (6 * x + k) = _ ∧ _
    rw [f6 _ _ _ hk6]
    by_cases e : x = b
    · rw [if_pos e] at hk; simp only [if_pos e]; exact mk.2 a k ha hk
    · rw [if_neg e] at hk; simp only [if_neg e]; exact mk.2 x k hx hk
  · show SR (va_up K.D b (K.D a) x) _ x
    by_cases e : x = b
    · subst e
      rw [vD_eq]
      refine ⟨by rw [cN x, if_pos rfl]; exact (ar a ha).1, fun k hk => ?_⟩
      have k6 : k < 6 := by have := (mk.1 a ha).2; rw [(ar a ha).1] at hk; omega
      refine ((ar a ha).2 k hk).move ?_ ?_ ?_ ?_ ?_ rfl rfl rfl rfl rfl rfl
      · show cpF (A 28) a x 6 6 (6 * x + k) = _; rw [f6 _ _ _ k6, if_pos rfl]
      · show cpF (A 29) a x 6 6 (6 * x + k) = _; rw [f6 _ _ _ k6, if_pos rfl]
      · show cpF (A 30) a x 6 6 (6 * x + k) = _; rw [f6 _ _ _ k6, if_pos rfl]
      · intro j hj; show cpF (A 31) a x 48 48 (8 * (6 * x + k) + j) = _; rw [f48 _ _ _ _ k6 hj, if_pos rfl]
      · intro j hj; show cpF (A 32) a x 48 48 (8 * (6 * x + k) + j) = _; rw [f48 _ _ _ _ k6 hj, if_pos rfl]
    · rw [vD_ne _ _ e]
      refine ⟨by rw [cN x, if_neg e]; exact (ar x hx).1, fun k hk => ?_⟩
      have k6 : k < 6 := by have := (mk.1 x hx).2; rw [(ar x hx).1] at hk; omega
      refine ((ar x hx).2 k hk).move ?_ ?_ ?_ ?_ ?_ rfl rfl rfl rfl rfl rfl
      · show cpF (A 28) a b 6 6 (6 * x + k) = _; rw [f6 _ _ _ k6, if_neg e]
      · show cpF (A 29) a b 6 6 (6 * x + k) = _; rw [f6 _ _ _ k6, if_neg e]
      · show cpF (A 30) a b 6 6 (6 * x + k) = _; rw [f6 _ _ _ k6, if_neg e]
      · intro j hj; show cpF (A 31) a b 48 48 (8 * (6 * x + k) + j) = _; rw [f48 _ _ _ _ k6 hj, if_neg e]
      · intro j hj; show cpF (A 32) a b 48 48 (8 * (6 * x + k) + j) = _; rw [f48 _ _ _ _ k6 hj, if_neg e]
theorem p_take (W : WI h K I A) (k : Int32) : PAIR 81 158 [.int k] h := by
  have D := W.2.2.1
  have mk := D.2.2.2.1
  cases s : isL A k
  · exact mk0 W (.int (-1)) (fun Q hq => x_take W.1 k (by rw [lB_eq D, s]; exact hq)) (fun h' M' Q hq => r_take M' k (by rw [s]; exact hq)) D
  · obtain ⟨n, hn, rfl, en⟩ := isL_x s
    have e27 : cpA A n 26 27 26 = nI (K.D n).1 := by
      show upd (A 27) 26 (A 27 n) 26 = _
      simp only [upd, if_true]
      rw [(mk.1 n (by omega)).1, D.2.2.2.2.cnt (by omega)]
    exact mk0 W (.int (nI (K.D n).1)) (fun Q hq => x_take W.1 (nI n) (by rw [lB_eq D, s, if_pos rfl, if_pos rfl, en]; exact hq)) (fun h' M' Q hq => r_take M' (nI n) (by rw [s, if_pos rfl, if_pos rfl, en, e27]; exact hq)) (D.copy (by omega) (by omega))
theorem p_forget (W : WI h K I A) (k : Int32) : PAIR 82 159 [.int k] h := by
  have D := W.2.2.1
  have mk := D.2.2.2.1
  cases s : isL A k
  · exact mk0 W (.int (-1)) (fun Q hq => x_forget W.1 k (by rw [lB_eq D, s]; exact hq)) (fun h' M' Q hq => r_forget M' k (by rw [s]; exact hq)) D
  · obtain ⟨n, hn, rfl, en⟩ := isL_x s
    have hp : 0 < (K.D n).1 := by
      rw [isL_iff mk hn] at s
      rw [D.2.2.2.2.cnt (by omega)]; exact of_decide_eq_true s
    have DL := D.less (g := n) (c := 0) (by omega) (Nat.zero_le _)
    have el := (letters_eq DL.2.2.2.1 DL.2.2.2.2).1
    have cs := cntL_set K.D (0, (K.D n).2) n 26 hn
    rw [if_pos hp, if_neg (by show ¬ 0 < 0; omega)] at cs
    have e0 : (K.setD (va_up K.D n (0, (K.D n).2))).D = va_up K.D n (0, (K.D n).2) := rfl
    rw [e0, show cntL (va_up K.D n (0, (K.D n).2)) 26 = cntL K.D 26 - 1 by omega] at el
    exact mk0 W (.int (nI (cntL K.D 26 - 1))) (fun Q hq => x_forget W.1 (nI n) (by rw [lB_eq D, s, if_pos rfl, if_pos rfl, en]; exact hq)) (fun h' M' Q hq => r_forget M' (nI n) (by rw [s, if_pos rfl, if_pos rfl, en]; have el' := el; rw [show (nI 0 : Int32) = 0 from rfl] at el'; rw [el']; exact hq)) DL
theorem CZ.ten (Z : CZ h K) : cntL K.D 26 ≤ 10 := by
  obtain ⟨I, A, R, P, o, Y⟩ := Z
  exact Y.2.2.2.2.2.2.2.2.2.1
theorem p_keep (W : WI h K I A) (k : Int32) : PAIR 80 157 [.int k] h := by
  have D := W.2.2.1
  have mk := D.2.2.2.1
  cases c : wB k 0 25
  · exact mk0 W (.int (-2)) (fun Q hq => x_keepOut W.1 k c hq) (fun h' M' Q hq => r_keepOut M' c hq) D
  · have e27 := (mk.1 26 (by omega)).1
    have ec := D.2.2.2.2.cnt (n := 26) (by omega)
    by_cases z : (K.D 26).1 = 0
    · exact mk0 W (.int (-3)) (fun Q hq => x_keep0 W.1 k c z hq) (fun h' M' Q hq => r_keep0 M' c (by rw [e27, ← ec, z]; rfl) hq) D
    · obtain ⟨n, hn, rfl⟩ := wB_n (n := 26) (by omega) c
      have n0 : ¬ A 27 26 = 0 := by
        have c6 := (mk.1 26 (by omega)).2
        rw [e27, ← ec]
        intro q
        exact z ((zinj (a := (K.D 26).1) (b := 0) (by omega) (by omega)).mp q)
      have ten := W.1.ten
      have el := (letters_eq mk D.2.2.2.2).1
      have D1 := D.copy (a := 26) (b := n) (by omega) (by omega)
      have D2 := D1.less (g := 26) (c := 0) (by omega) (Nat.zero_le _)
      have e0 : (K.setD (va_up K.D n (K.D 26))).D 26 = K.D 26 := vD_ne _ _ (by omega)
      have eK : (K.setD (va_up K.D n (K.D 26))).setD (va_up (K.setD (va_up K.D n (K.D 26))).D 26 (0, ((K.setD (va_up K.D n (K.D 26))).D 26).2)) = K.setD (va_up (va_up K.D n (K.D 26)) 26 (0, (K.D 26).2)) := by rw [e0]
      rw [eK] at D2
      have el2 := (letters_eq D2.2.2.2.1 D2.2.2.2.2).1
      have e3 : (K.setD (va_up (va_up K.D n (K.D 26)) 26 (0, (K.D 26).2))).D = va_up (va_up K.D n (K.D 26)) 26 (0, (K.D 26).2) := rfl
      rw [e3, cntL_up _ _ 26 (Nat.le_refl _)] at el2
      have cs := cntL_set K.D (K.D 26) n 26 hn
      rw [if_pos (show 0 < (K.D 26).1 by omega)] at cs
      have isl := isL_iff mk hn
      by_cases o : 0 < (K.D n).1
      · have il : isL A (nI n) = true := by rw [isl, ← D.2.2.2.2.cnt (by omega)]; exact decide_eq_true o
        rw [if_pos o] at cs
        rw [show cntL (va_up K.D n (K.D 26)) 26 = cntL K.D 26 by omega] at el2
        exact mk0 W (.int (nI (cntL K.D 26))) (fun Q hq => x_keepOld W.1 hn (by omega) o hq) (fun h' M' Q hq => r_keep M' hn n0 (Or.inl il) (by have e := el2; rw [show (nI 0 : Int32) = 0 from rfl] at e; rw [e]; exact hq)) D2
      · have il : isL A (nI n) = false := by rw [isl, ← D.2.2.2.2.cnt (by omega)]; exact decide_eq_false o
        have d0 : (K.D n).1 = 0 := by omega
        by_cases f : cntL K.D 26 = 10
        · exact mk0 W (.int (-4)) (fun Q hq => x_keepFull W.1 hn (by omega) d0 f hq) (fun h' M' Q hq => r_keepFull M' c n0 il (by rw [el, f]; rfl) hq) D
        · rw [if_neg o] at cs
          rw [show cntL (va_up K.D n (K.D 26)) 26 = cntL K.D 26 + 1 by omega] at el2
          exact mk_pair W (.int (nI (cntL K.D 26 + 1))) (by omega) (by omega) (fun Q hq => x_keepNew W.1 W.2.2.2 hn (by omega) d0 (by omega) hq) (fun h' M' Q hq => r_keep M' hn n0 (Or.inr (by rw [el]; intro q; exact f ((zinj (a := cntL K.D 26) (b := 10) (by omega) (by omega)).mp q))) (by have e := el2; rw [show (nI 0 : Int32) = 0 from rfl] at e; rw [e]; exact hq)) D2
end P
