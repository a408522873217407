/-! pairs of calls: kinds, shifts, names, lessons, best nib -/
theorem ksA_le (A : Nat → Nat → Int32) (K : MOK A) (lim : Int32) (g : Nat → Int32) : ∀ n, n ≤ 27 → (allKs A lim (g, 0) n).2 ≤ 6 * n
  | 0, _ => Nat.le_refl _
  | n + 1, hn => by
    have ih := ksA_le A K lim g n (by omega)
    have := addKs_le (fun k => kindA A lim (6 * n + k)) (allKs A lim (g, 0) n) (cA A n)
    have c6 := (K.1 n (by omega)).2
    rw [allKs]
    omega
section P
variable {h : Hp} {K : KK} {I A : Nat → Nat → Int32}
theorem p_kind (W : WI h K I A) (k : Int32) : PAIR 85 168 [.int k] h := by
  have D := W.2.2.1
  have mk := D.2.2.2.1
  have hle : ∀ g, (allKs A (I 24 13) (g, 0) 27).2 ≤ 162 := fun g => ksA_le A mk _ g 27 (by omega)
  have sm : ∀ g g', SM (allC K g) (allKs A (I 24 13) (g', 0) 27) := fun g g' => by rw [← D.1.2.2.1]; exact all_SM D.2.2.2.2 K.2.2.1 g g'
  cases s : skB K k
  · exact mk0 W (.int (-1)) (fun Q hq => x_kind W.1 k (fun g => by rw [s]; exact hq)) (fun h' M' Q hq => r_kind M' mk k hle (fun g => by rw [← skB_eq D, s]; exact hq)) D
  · obtain ⟨j, hj, h6, rfl, st, hm, ej⟩ := D.st s
    have kr : KR (kcP (K.D 26) j K.2.2.1) (kindA A (I 24 13) (156 + j)) := by rw [← D.1.2.2.1]; exact st.kr K.2.2.1
    refine mk0 W (.int (sumN (fun i => bI (decide ((allC K (fun _ => 0)).1 i < kcP (K.D 26) j K.2.2.1))) (allC K (fun _ => 0)).2)) (fun Q hq => x_kind W.1 (nI j) (fun g => ?_)) (fun h' M' Q hq => r_kind M' mk (nI j) hle (fun g => ?_)) D
    · rw [s, if_pos rfl, ej, (sm g (fun _ => 0)).before kr]
      rw [(sm (fun _ => 0) (fun _ => 0)).before kr] at hq
      exact hq
    · rw [hm, if_pos rfl, ej]
      rw [(sm (fun _ => 0) g).before kr] at hq
      exact hq
theorem p_many (W : WI h K I A) (w : Int32) : PAIR 97 189 [.int w] h := by
  have D := W.2.2.1
  have mk := D.2.2.2.1
  have sm : ∀ g g', SM (allC K g) (allKs A (I 24 13) (g', 0) 27) := fun g g' => by rw [← D.1.2.2.1]; exact all_SM D.2.2.2.2 K.2.2.1 g g'
  refine mk0 W (.int (if w = 0 then I 24 2 else if w = 1 then A 27 26 else if w = 2 then stepsV A else if w = 3 then lettersV A else if w = 4 then nI (allKs A (I 24 13) (fun _ => 0, 0) 27).2 else if w = 5 then I 24 13 else -2)) (fun Q hq => x_many W.1 w (fun g => ?_)) (fun h' M' Q hq => r_many M' mk w (fun g => ?_)) D
  · cases c : wB w 0 5
    · have g0 : ¬ w = 0 := fun z => by rw [z] at c; exact absurd c (by decide)
      have g1 : ¬ w = 1 := fun z => by rw [z] at c; exact absurd c (by decide)
      have g2 : ¬ w = 2 := fun z => by rw [z] at c; exact absurd c (by decide)
      have g3 : ¬ w = 3 := fun z => by rw [z] at c; exact absurd c (by decide)
      have g4 : ¬ w = 4 := fun z => by rw [z] at c; exact absurd c (by decide)
      have g5 : ¬ w = 5 := fun z => by rw [z] at c; exact absurd c (by decide)
      rw [if_neg g0, if_neg g1, if_neg g2, if_neg g3, if_neg g4, if_neg g5] at hq
      exact hq
    · obtain ⟨i, hi, rfl⟩ := wB_lit (n := 5) (by omega) c
      rw [if_pos rfl, nq_cl (by omega)]
      have e27 : A 27 26 = nI (K.D 26).1 := by rw [(mk.1 26 (by omega)).1, D.2.2.2.2.cnt (by omega)]
      rcases (show i = 0 ∨ i = 1 ∨ i = 2 ∨ i = 3 ∨ i = 4 ∨ i = 5 by omega) with rfl | rfl | rfl | rfl | rfl | rfl
      · rw [if_pos (show nI 0 = 0 from rfl), D.2.1.1] at hq; exact hq
      · rw [if_neg (show ¬ nI 1 = 0 by decide), if_pos (show nI 1 = 1 from rfl), e27] at hq; exact hq
      · have e : stepsV A = sumN (fun k => nI ((K.D 26).2.1 k) - 1) (K.D 26).1 := by
          unfold stepsV
          rw [D.2.2.2.2.cnt (by omega)]
          apply sumN_cong
          intro k hk
          have e28 : A 28 (156 + k) = nI (pA A (156 + k)) := (mk.2 26 k (by omega) hk).1
          rw [e28, ((D.2.2.2.2 26 (by omega)).2 k (by rw [D.2.2.2.2.cnt (by omega)]; exact hk)).1]
        rw [if_neg (show ¬ nI 2 = 0 by decide), if_neg (show ¬ nI 2 = 1 by decide), if_pos (show nI 2 = 2 from rfl), e] at hq; exact hq
      · rw [if_neg (show ¬ nI 3 = 0 by decide), if_neg (show ¬ nI 3 = 1 by decide), if_neg (show ¬ nI 3 = 2 by decide), if_pos (show nI 3 = 3 from rfl), (letters_eq mk D.2.2.2.2).1] at hq; exact hq
      · rw [if_neg (show ¬ nI 4 = 0 by decide), if_neg (show ¬ nI 4 = 1 by decide), if_neg (show ¬ nI 4 = 2 by decide), if_neg (show ¬ nI 4 = 3 by decide), if_pos (show nI 4 = 4 from rfl), ← (sm g (fun _ => 0)).card] at hq; exact hq
      · rw [if_neg (show ¬ nI 5 = 0 by decide), if_neg (show ¬ nI 5 = 1 by decide), if_neg (show ¬ nI 5 = 2 by decide), if_neg (show ¬ nI 5 = 3 by decide), if_neg (show ¬ nI 5 = 4 by decide), if_pos (show nI 5 = 5 from rfl), ← D.1.2.2.1] at hq; exact hq
  · rw [← (sm (fun _ => 0) g).card, (sm (fun _ => 0) (fun _ => 0)).card]; exact hq
theorem isL_x {k : Int32} (hk : isL A k = true) : ∃ n : Nat, n < 26 ∧ k = nI n ∧ k.toNatClampNeg = n := by
  have : wB k 0 25 = true := by unfold isL at hk; rw [Bool.and_eq_true] at hk; exact hk.1
  obtain ⟨n, hn, e⟩ := wB_n (n := 26) (by omega) this
  exact ⟨n, hn, e, by rw [e, nq_cl (by omega)]⟩
theorem p_apart (W : WI h K I A) (k a b : Int32) : PAIR 86 172 [.int k, .int a, .int b] h := by
  have D := W.2.2.1
  have mk := D.2.2.2.1
  cases s : isL A k
  · exact mk0 W (.int (-1)) (fun Q hq => x_apart W.1 k a b (fun g g2 => by rw [lB_eq D, s]; exact hq)) (fun h' M' Q hq => r_apart M' mk k a b (fun f g => by rw [s]; exact hq)) D
  · obtain ⟨n, hn, rfl, en⟩ := isL_x s
    refine mk0 W (.int (if wB a (-31) 31 = true ∧ wB b (-31) 31 = true then apC (gthF (K.D 26) (zeroF (fun _ => 0)) 6) (gthF (K.D n) (zeroF (fun _ => 0)) 6) a b else -2)) (fun Q hq => x_apart W.1 (nI n) a b (fun g g2 => ?_)) (fun h' M' Q hq => r_apart M' mk (nI n) a b (fun f g => ?_)) D
    · rw [lB_eq D, s, if_pos rfl, en, ap_eq (D.ik (by omega) g (fun _ => 0)) (D.ik (by omega) g2 (fun _ => 0))]
      rw [ap_eq (D.ik (by omega) (fun _ => 0) (fun _ => 0)) (D.ik (by omega) (fun _ => 0) (fun _ => 0))] at hq
      exact hq
    · rw [s, if_pos rfl, en]
      rw [ap_eq (g := inkG A 26 (inkG A n g)) (f := gmix 32 (inkG A n g) f) (D.ik (by omega) (fun _ => 0) _) (fun y hy => by rw [gmix_lt hy]; exact D.ik (by omega) _ _ y hy)] at hq
      exact hq
theorem p_fit (W : WI h K I A) (k w : Int32) : PAIR 87 174 [.int k, .int w] h := by
  have D := W.2.2.1
  have mk := D.2.2.2.1
  cases s : isL A k
  · exact mk0 W (.int (-1)) (fun Q hq => x_fit W.1 k w (fun g g2 x y => by rw [lB_eq D, s]; exact hq)) (fun h' M' Q hq => r_fit M' mk k w (fun f g x y => by rw [s]; exact hq)) D
  · obtain ⟨n, hn, rfl, en⟩ := isL_x s
    generalize hT : fitC (apV (inkG A 26 (fun _ => 0)) (inkG A n (fun _ => 0))) (-9, 0, 0) 7 = T
    have ec : ∀ g g2 x y, fitC2 (apC (gthF (K.D 26) (zeroF g) 6) (gthF (K.D n) (zeroF g2) 6)) (1025, x, y) 7 = T := fun g g2 x y => by
      rw [← hT]; exact fit_eq (D.ik (by omega) _ _) (D.ik (by omega) _ _) x y 0 0
    have em : ∀ f g x y, fitA A n f g (-9, x, y) = T := fun f g x y => by
      rw [← ec (fun _ => 0) (fun _ => 0) 0 0]
      unfold fitA
      exact (fit_eq (D.ik (by omega) _ _) (fun y hy => by rw [gmix_lt hy]; exact D.ik (by omega) _ _ y hy) 0 0 x y).symm
    exact mk0 W (.int (if wB w 0 2 = true then if w = 0 then T.1 else if w = 1 then T.2.1 else T.2.2 else -2)) (fun Q hq => x_fit W.1 (nI n) w (fun g g2 x y => by rw [lB_eq D, s, if_pos rfl, en, ec]; exact hq)) (fun h' M' Q hq => r_fit M' mk (nI n) w (fun f g x y => by rw [s, if_pos rfl, en, em]; exact hq)) D
theorem p_likest (W : WI h K I A) (w : Int32) : PAIR 88 175 [.int w] h := by
  have D := W.2.2.1
  have mk := D.2.2.2.1
  have e : ∀ g g2 ft f g' s, (lkF (gthF (K.D 26) (zeroF g) 6) K.D (-9, -9, g2, ft) 26).1 = (mlF A (-9, -9, f, g', s) 26).1 ∧ (lkF (gthF (K.D 26) (zeroF g) 6) K.D (-9, -9, g2, ft) 26).2.1 = (mlF A (-9, -9, f, g', s) 26).2.1 := fun g g2 ft f g' s => lk_eq mk D.2.2.2.2 g _ _ rfl rfl 26 (by omega)
  generalize h1 : (mlF A (-9, -9, fun _ => 0, fun _ => 0, (0, 0, 0)) 26).1 = a
  generalize h2 : (mlF A (-9, -9, fun _ => 0, fun _ => 0, (0, 0, 0)) 26).2.1 = b
  have ec : ∀ g g2 ft, (lkF (gthF (K.D 26) (zeroF g) 6) K.D (-9, -9, g2, ft) 26).1 = a ∧ (lkF (gthF (K.D 26) (zeroF g) 6) K.D (-9, -9, g2, ft) 26).2.1 = b := fun g g2 ft => by
    rw [← h1, ← h2]; exact e g g2 ft _ _ _
  have em : ∀ f g s, (mlF A (-9, -9, f, g, s) 26).1 = a ∧ (mlF A (-9, -9, f, g, s) 26).2.1 = b := fun f g s => by
    have := e (fun _ => 0) (fun _ => 0) (0, 0, 0) f g s
    rw [← this.1, ← this.2]; exact ec _ _ _
  exact mk0 W (.int (if wB w 0 1 = true then if w = 0 then a else b else -2)) (fun Q hq => x_likest W.1 w (fun g g2 ft => by rw [(ec g g2 ft).1, (ec g g2 ft).2]; exact hq)) (fun h' M' Q hq => r_likest M' mk w (fun f g s => by rw [(em f g s).1, (em f g s).2]; exact hq)) D
theorem p_name (W : WI h K I A) (k : Int32) : PAIR 83 160 [.int k] h := by
  have D := W.2.2.1
  refine mk0 W (.int (if wB k 0 9 = true then nmM (fun j => isL A (nI j)) 26 0 k else -2)) (fun Q hq => x_name W.1 k (fun r hr => ?_)) (fun h' M' Q hq => r_name M' k hq) D
  have e := nm_eq (g := fun j => (r j).isSome) (p := fun j => isL A (nI j)) k 26 0 0 (fun j _ hj => by
    show (r j).isSome = isL A (nI j)
    rw [hr j (by omega), isL_iff D.2.2.2.1 (by omega), D.2.2.2.2.cnt (by omega)])
  rw [show (nI 0 : Int32) = 0 from rfl, Int32.sub_zero] at e
  rw [e]; exact hq
theorem p_bestLimit (W : WI h K I A) (w : Int32) : PAIR 91 181 [.int w] h := by
  have D := W.2.2.1
  have mk := D.2.2.2.1
  cases c : wB w 0 1
  · exact mk0 W (.int (-2)) (fun Q hq => x_bestLimit W.1 w (by rw [c]; exact hq)) (fun h' M' Q hq => r_bestLimitNo M' c hq) D
  · have e := bl_eq (W := fun l => sumN (cwP (K.D 26) l) (K.D 26).1) (W' := allW A) (fun l => by
      show sumN (cwP (K.D 26) l) (K.D 26).1 = _
      unfold allW
      rw [D.2.2.2.2.cnt (by omega)]
      apply sumN_cong
      intro k hk
      exact ((D.2.2.2.2 26 (by omega)).2 k (by rw [D.2.2.2.2.cnt (by omega)]; exact hk)).cwP _) 19
    exact mk0 W (.int (if w = 0 then blF (allW A) 19 else allW A (blF (allW A) 19))) (fun Q hq => x_bestLimit W.1 w (by rw [c, if_pos rfl, e.1, e.2]; exact hq)) (fun h' M' Q hq => m_bestLimit M' mk Q w c (hq.id M')) D
theorem p_bestNib (W : WI h K I A) (w : Int32) : PAIR 90 180 [.int w] h := by
  have D := W.2.2.1
  have mk := D.2.2.2.1
  have hN := nb_eq (W := fun u v => sumN (cwN (K.D 26) u v K.2.2.1) (K.D 26).1) (W' := wbV A (I 24 13)) (fun i j hi hj => by
    have iu : IR (nI i) (-6) 6 := by unfold IR; rw [nI_lo (by omega)]; omega
    have iv : IR (d6 j) (-6) 6 := by
      unfold IR d6
      rw [fb_subI (by rw [nI_lo (by omega), show (6 : Int32).toInt = 6 from rfl]; omega) (by rw [nI_lo (by omega), show (6 : Int32).toInt = 6 from rfl]; omega), nI_lo (by omega), show (6 : Int32).toInt = 6 from rfl]; omega
    constructor
    · show sumN (cwN (K.D 26) (nI i) (d6 j) K.2.2.1) (K.D 26).1 = _
      unfold wbV
      rw [D.2.2.2.2.cnt (by omega), ← D.1.2.2.1]
      apply sumN_cong
      intro k hk
      exact ((D.2.2.2.2 26 (by omega)).2 k (by rw [D.2.2.2.2.cnt (by omega)]; exact hk)).cw iu iv _
    · unfold wbV
      have c6 := (mk.1 26 (by omega)).2
      obtain ⟨k, hk, e⟩ := sumN_rng (f := fun k => wrA A (156 + k) (nI i) (d6 j) (I 24 13)) (b := 7) (n := cA A 26) (fun k hk => by
        have p8 := (mk.2 26 k (by omega) hk).2.2
        obtain ⟨m, hm, e⟩ := sumN_rng (f := fun q => wrF (dxA A (156 + k) q) (dyA A (156 + k) q) (nI i) (d6 j) (I 24 13)) (b := 1) (n := pA A (156 + k) - 1) (fun q _ => wr_n _ _ _ _ _)
        have p8' : pA A (156 + k) ≤ 8 := p8
        exact ⟨m, by omega, e⟩)
      have : cA A 26 * 7 ≤ 42 := by omega
      exact ⟨k, by omega, e⟩) 6 (by omega)
  have h7 := hN.1
  simp only [Nat.reduceAdd] at h7
  cases c : wB w 0 2
  · exact mk0 W (.int (-2)) (fun Q hq => x_bestNib W.1 w _ h7 (by rw [c]; exact hq)) (fun h' M' Q hq => r_bestNibNo M' c hq) D
  · generalize hT : nibC (wbV A (I 24 13)) (0, 0, -9) 7 = T at h7
    exact mk0 W (.int (if w = 0 then T.1 else if w = 1 then T.2.1 else T.2.2)) (fun Q hq => x_bestNib W.1 w _ h7 (by rw [c, if_pos rfl]; exact hq)) (fun h' M' Q hq => m_bestNib M' mk Q w c (by rw [hT]; exact hq.id M')) D
theorem p_lesson (W : WI h K I A) (k w : Int32) : PAIR 89 178 [.int k, .int w] h := by
  have D := W.2.2.1
  have mk := D.2.2.2.1
  by_cases c : wB k 0 9 = true ∧ wB w 0 1 = true
  · obtain ⟨kk, hk, rfl⟩ := wB_lit (n := 9) (by omega) c.1
    have ek : (nI kk).toNatClampNeg = kk := nq_cl (by omega)
    have el := (letters_eq mk D.2.2.2.2).2
    have ls : ∀ (r : Nat → Option Nat) g1 g2 o nk f, (∀ n, n < 26 → (r n).isSome = decide (0 < (K.D n).1)) → (kk + 1 ≤ cntL K.D 26 → (lsF K.D r K.2.2.1 (kk + 1) (-9, 0, (g1, 0), nk, (g2, o))).1 = nI (lesI A K.2.2.1 f kk) ∧ (lsF K.D r K.2.2.1 (kk + 1) (-9, 0, (g1, 0), nk, (g2, o))).2.2.2.1 = lesM A K.2.2.1 f kk) ∧ (cntL K.D 26 < kk + 1 → (lsF K.D r K.2.2.1 (kk + 1) (-9, 0, (g1, 0), nk, (g2, o))).1 = -9) := by
      intro r g1 g2 o nk f hr
      have := ls_eq mk D.2.2.2.2 hr (lim := K.2.2.1) (f := f) kk 0 (-9, 0, (g1, 0), nk, (g2, o)) ⟨dis_0 g1, dis_0 f, fun c hc => absurd hc (ins_0 _ _), fun c hc => absurd hc (ins_0 _ _)⟩ (fun g hg => by
        show biC 0 g = decide (¬ (0 : Int32) = 0)
        rw [biC_bt _ (by omega), b_0]; simp) (Nat.zero_le _)
      rw [Nat.zero_add] at this
      exact this
    by_cases hl : kk < cntL K.D 26
    · have ex : ∀ f, nI (lesI A K.2.2.1 f kk) = nI (lesI A K.2.2.1 (fun _ => 0) kk) ∧ lesM A K.2.2.1 f kk = lesM A K.2.2.1 (fun _ => 0) kk := by
        intro f
        have hr : ∀ n, n < 26 → ((fun n => if 0 < (K.D n).1 then some 0 else none : Nat → Option Nat) n).isSome = decide (0 < (K.D n).1) := by
          intro n _
          by_cases q : 0 < (K.D n).1 <;> simp [q]
        have a := (ls _ (fun _ => 0) (fun _ => 0) 0 0 f hr).1 (by omega)
        have b := (ls _ (fun _ => 0) (fun _ => 0) 0 0 (fun _ => 0) hr).1 (by omega)
        exact ⟨a.1.symm.trans b.1, a.2.symm.trans b.2⟩
      have l26 : lesI A K.2.2.1 (fun _ => 0) kk < 26 := by
        have lo := lesK_ok mk (lim := K.2.2.1) (f := fun _ => 0) kk (by rw [el]; omega)
        rw [el] at lo
        exact (its_ok (by omega)).1
      refine mk0 W (.int (if w = 0 then nI (lesI A K.2.2.1 (fun _ => 0) kk) else lesM A K.2.2.1 (fun _ => 0) kk)) (fun Q hq => x_lesson W.1 (nI kk) w (fun r g1 g2 o nk hr => ?_)) (fun h' M' Q hq => r_lesson M' mk (nI kk) w (fun f0 => ?_)) D
      · obtain ⟨e1, e2⟩ := (ls r g1 g2 o nk (fun _ => 0) hr).1 (by omega)
        rw [if_pos c, ek, e1, e2]
        by_cases hw : w = 0
        · rw [if_pos hw] at hq; rw [if_pos (Or.inl hw)]; exact hq
        · rw [if_neg hw] at hq; rw [if_neg (fun z => z.elim hw (nI_ne9 (by omega)))]; exact hq
      · rw [if_pos c, ek, el, if_pos hl, ← D.1.2.2.1, (ex f0).1, (ex f0).2]; exact hq
    · refine mk0 W (.int (-9)) (fun Q hq => x_lesson W.1 (nI kk) w (fun r g1 g2 o nk hr => ?_)) (fun h' M' Q hq => r_lesson M' mk (nI kk) w (fun f0 => ?_)) D
      · have e := (ls r g1 g2 o nk (fun _ => 0) hr).2 (by omega)
        rw [if_pos c, ek, e, if_pos (Or.inr rfl)]; exact hq
      · rw [if_pos c, ek, el, if_neg hl]; exact hq
  · exact mk0 W (.int (-2)) (fun Q hq => x_lesson W.1 k w (fun r g1 g2 o nk hr => by rw [if_neg c]; exact hq)) (fun h' M' Q hq => r_lesson M' mk k w (fun f0 => by rw [if_neg c]; exact hq)) D
end P
