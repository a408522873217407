/-! pairs of calls: nib, line, limit, frame -/
theorem wB_ir {z a b : Int32} (h : wB z a b = true) : IR z a.toInt b.toInt := by
  unfold wB at h
  have h := of_decide_eq_true h
  simp only [Int32.le_iff_toInt_le] at h
  exact h
theorem skB_eq {K : KK} {I A : Nat → Nat → Int32} (D : DR K I A) (k : Int32) : skB K k = mskB A k := by
  unfold skB mskB
  rw [(D.2.2.2.1.1 26 (by omega)).1, D.2.2.2.2.cnt (by omega)]
theorem lB_eq {K : KK} {I A : Nat → Nat → Int32} (D : DR K I A) (k : Int32) : lB K k = isL A k := by
  cases hw : wB k 0 25
  · unfold lB isL; rw [hw, Bool.false_and, Bool.false_and]
  · obtain ⟨n, hn, rfl⟩ := wB_n (n := 26) (by omega) hw
    rw [isL_iff D.2.2.2.1 hn]
    unfold lB
    rw [hw, Bool.true_and, nq_cl (by omega), D.2.2.2.2.cnt (by omega)]
theorem mk0 {mi mi' : Nat} {args : List Value} {h : Hp} {K K' : KK} {I A I' A' : Nat → Nat → Int32} (W : WI h K I A) (v : Value) (hx : ∀ Q, OUT h K' 0 0 v Q → Call mi (.ref 1 :: args) h Q) (hr : ∀ h', MH h' I A → ∀ Q, MOUT h' I' A' v Q → Call mi' (.ref 24 :: args) h' Q) (hd : DR K' I' A') (hv : ∃ w : Int32, v = .int w := by exact ⟨_, rfl⟩) : PAIR mi mi' args h := mk_pair W v (Nat.zero_le _) (Nat.zero_le _) hx hr hd hv
theorem mk0L {mi mi' : Nat} {args : List Value} {h : Hp} {K K' : KK} {I A I' A' : Nat → Nat → Int32} (W : WI h K I A) (v : Value) (hx : ∀ Q, OUT h K' 0 0 v Q → Call mi (.ref 1 :: args) h Q) (hr : ∀ h', MH h' I A → ∀ Q, MOUT h' I' A' v Q → Call mi' (.ref 24 :: args) h' Q) (hd : DR K' I' A') (hv : ∃ w : Int64, v = .long w := by exact ⟨_, rfl⟩) : PAIRL mi mi' args h := by
  obtain ⟨w, rfl⟩ := hv
  exact ⟨w, mk_pairv W _ (Nat.zero_le _) (Nat.zero_le _) hx hr hd⟩
section P
variable {h : Hp} {K : KK} {I A : Nat → Nat → Int32}
theorem p_ofNib (W : WI h K I A) (w : Int32) : PAIR 65 113 [.int w] h :=
  mk0 W (.int (if w = 0 then K.1 else if w = 1 then K.2.1 else -2)) (fun Q hq => x_ofNib W.1 w hq) (fun h' M' Q hq => by
    have := hq.id M'
    rw [W.2.2.1.1.1, W.2.2.1.1.2.1] at this
    rw [m_ofNib M']; exact this) W.2.2.1
theorem p_nib (W : WI h K I A) (u v : Int32) : PAIR 64 112 [.int u, .int v] h := by
  by_cases c : wB u 0 6 = true ∧ wB v (-6) 6 = true
  · by_cases z : u = 0 ∧ v = 0
    · exact mk0 W (.int (-3)) (fun Q hq => x_nib W.1 u v (by rw [if_pos c, if_pos c, if_pos z, if_pos z]; exact hq)) (fun h' M' Q hq => by rw [m_nib M', if_neg (fun y => y c), if_pos z]; exact hq.id M') W.2.2.1
    · refine mk0 (I' := va_up I 24 (va_up (va_up (I 24) 0 u) 1 v)) (A' := A) W (.int 1) (fun Q hq => x_nib W.1 u v (by rw [if_pos c, if_pos c, if_neg z, if_neg z]; exact hq)) (fun h' M' Q hq => by
        rw [m_nib M', if_neg (fun y => y c), if_neg z]
        exact hq _ _ _ (M'.s24 _) (PM.rfl' _ _) ((FrM.rfl' h').set (by omega) _)) ?_
      obtain ⟨d1, d2, d3, d4, d5⟩ := W.2.2.1
      exact ⟨⟨rfl, rfl, d1.2.2.1, wB_ir c.1, wB_ir c.2, z⟩, d2, d3, d4, d5⟩
  · exact mk0 W (.int (-2)) (fun Q hq => x_nib W.1 u v (by rw [if_neg c, if_neg c]; exact hq)) (fun h' M' Q hq => by rw [m_nib M', if_pos c]; exact hq.id M') W.2.2.1
theorem p_limit (W : WI h K I A) (v : Int32) : PAIR 74 133 [.int v] h := by
  by_cases c : wB v 1 20 = true
  · refine mk0 (I' := va_up I 24 (va_up (I 24) 13 v)) (A' := A) W (.int K.2.2.1) (fun Q hq => x_limit W.1 v (by rw [if_pos c, if_pos c]; exact hq)) (fun h' M' Q hq => r_limit M' v (fun z => by rw [c] at z; exact absurd z (by decide)) (fun _ => by
        rw [← W.2.2.1.1.2.2.1]
        exact hq _ _ _ (M'.s24 _) (PM.rfl' _ _) ((FrM.rfl' h').set (by omega) _))) ?_
    obtain ⟨d1, d2, d3, d4, d5⟩ := W.2.2.1
    exact ⟨⟨d1.1, d1.2.1, rfl, d1.2.2.2⟩, d2, d3, d4, d5⟩
  · exact mk0 W (.int (-2)) (fun Q hq => x_limit W.1 v (by rw [if_neg c, if_neg c]; exact hq)) (fun h' M' Q hq => r_limit M' v (fun _ => hq) (fun z => absurd z c)) W.2.2.1
theorem p_drop (W : WI h K I A) : PAIR 67 115 [] h := by
  refine mk0 (I' := va_up I 24 (va_up (I 24) 2 0)) (A' := A) W (.int (nI K.2.2.2.1)) (fun Q hq => x_drop W.1 hq) (fun h' M' Q hq => by
    rw [m_drop M', W.2.2.1.2.1.1]
    exact hq _ _ _ (M'.s24 _) (PM.rfl' _ _) ((FrM.rfl' h').set (by omega) _)) ?_
  obtain ⟨d1, d2, d3, d4, d5⟩ := W.2.2.1
  exact ⟨d1, ⟨rfl, by show 0 ≤ 8; omega, fun j hj => absurd hj (Nat.not_lt_zero j), fun j hj => absurd hj (Nat.not_lt_zero (j + 1))⟩, d3, d4, d5⟩
theorem end_eq {n : Nat} {X Y X' Y' : Nat → Int32} (s : SE n X Y X' Y') (x y : Int32) : endB n X Y x y = endB n X' Y' x y := by
  unfold endB
  by_cases h : 0 < n
  · have := s (n - 1) (by omega)
    rw [this.1, this.2.1]
  · simp [h]
theorem p_point (W : WI h K I A) (x y : Int32) : PAIR 66 114 [.int x, .int y] h := by
  obtain ⟨d1, ⟨ln, l8, se, dis⟩, d3, d4, d5⟩ := W.2.2.1
  have ee := end_eq se x y
  by_cases c : wB x 0 31 = true ∧ wB y 0 31 = true
  · cases e : endB K.2.2.2.1 K.2.2.2.2.1 K.2.2.2.2.2.1 x y
    · rw [e] at ee
      by_cases l : K.2.2.2.1 < 8
      · refine mk0 (I' := va_up I 24 (va_up (I 24) 2 (nI (K.2.2.2.1 + 1)))) (A' := va_up (va_up A 25 (upd (A 25) K.2.2.2.1 x)) 26 (upd (A 26) K.2.2.2.1 y)) W (.int (nI (K.2.2.2.1 + 1))) (fun Q hq => x_point W.1 x y (by rw [if_pos ⟨c.1, c.2, e, l⟩, if_pos c, if_neg (by rw [e]; decide), if_pos l]; exact hq)) (fun h' M' Q hq => r_point M' ln l8 x y (fun z => absurd c z) (fun _ z => by rw [← ee] at z; exact absurd z (by decide)) (fun _ _ z => by omega) (fun _ _ _ => hq)) ?_
        refine ⟨d1, ⟨rfl, by show K.2.2.2.1 + 1 ≤ 8; omega, ?_, ?_⟩, d3, d4, d5⟩
        · intro j hj
          have hj' : j < K.2.2.2.1 + 1 := hj
          show upd K.2.2.2.2.1 K.2.2.2.1 x j = upd (A 25) K.2.2.2.1 x j ∧ upd K.2.2.2.2.2.1 K.2.2.2.1 y j = upd (A 26) K.2.2.2.1 y j ∧ IR (upd K.2.2.2.2.1 K.2.2.2.1 x j) 0 31 ∧ IR (upd K.2.2.2.2.2.1 K.2.2.2.1 y j) 0 31
          by_cases ej : j = K.2.2.2.1
          · simp only [upd, if_pos ej]; exact ⟨trivial, trivial, wB_ir c.1, wB_ir c.2⟩
          · simp only [upd, if_neg ej]; exact se j (by omega)
        · intro j hj
          have hj' : j + 1 < K.2.2.2.1 + 1 := hj
          show ¬ (upd K.2.2.2.2.1 K.2.2.2.1 x (j + 1) = upd K.2.2.2.2.1 K.2.2.2.1 x j ∧ upd K.2.2.2.2.2.1 K.2.2.2.1 y (j + 1) = upd K.2.2.2.2.2.1 K.2.2.2.1 y j)
          by_cases ej : j + 1 = K.2.2.2.1
          · simp only [upd, if_pos ej, if_neg (show ¬ j = K.2.2.2.1 by omega)]
            intro z
            unfold endB at e
            have := of_decide_eq_false e
            exact this ⟨by omega, by rw [← ej]; exact z.1.symm, by rw [← ej]; exact z.2.symm⟩
          · simp only [upd, if_neg ej, if_neg (show ¬ j = K.2.2.2.1 by omega)]
            exact dis j (by omega)
      · exact mk0 W (.int (-4)) (fun Q hq => x_point W.1 x y (by rw [if_neg (fun z => l z.2.2.2), if_pos c, if_neg (by rw [e]; decide), if_neg l]; exact hq)) (fun h' M' Q hq => r_point M' ln l8 x y (fun z => absurd c z) (fun _ z => by rw [← ee] at z; exact absurd z (by decide)) (fun _ _ _ => hq) (fun _ _ z => absurd z l)) W.2.2.1
    · rw [e] at ee
      exact mk0 W (.int (-3)) (fun Q hq => x_point W.1 x y (by rw [if_neg (fun z => by rw [e] at z; exact absurd z.2.2.1 (by decide)), if_pos c, if_pos e]; exact hq)) (fun h' M' Q hq => r_point M' ln l8 x y (fun z => absurd c z) (fun _ _ => hq) (fun _ z => by rw [← ee] at z; exact absurd z (by decide)) (fun _ z => by rw [← ee] at z; exact absurd z (by decide))) W.2.2.1
  · exact mk0 W (.int (-2)) (fun Q hq => x_point W.1 x y (by rw [if_neg (fun z => c ⟨z.1, z.2.1⟩), if_neg c]; exact hq)) (fun h' M' Q hq => r_point M' ln l8 x y (fun _ => hq) (fun z => absurd z c) (fun z => absurd z c) (fun z => absurd z c)) W.2.2.1
theorem p_spoil (W : WI h K I A) : PAIR 96 187 [] h := by
  obtain ⟨d1, d2, ⟨fl, flr, fr⟩, d4, d5⟩ := W.2.2.1
  refine mk0 (I' := va_up I 24 (va_up (I 24) 22 (-9))) (A' := A) W (.int K.2.2.2.2.2.2.1) (fun Q hq => x_spoil W.1 hq) (fun h' M' Q hq => r_spoil M' (by rw [← fl]; exact hq)) ?_
  refine ⟨d1, d2, ⟨rfl, Or.inl rfl, fun n j hn e _ => ?_⟩, d4, d5⟩
  exact absurd (show nI n = -9 from e.symm) (n9 (by omega))
theorem flt_eq (l i : Int32) : cFault l i = faultV l i := rfl
theorem p_seen (W : WI h K I A) (i : Int32) : PAIRL 95 186 [.int i] h := by
  obtain ⟨d1, d2, ⟨fl, flr, fr⟩, d4, d5⟩ := W.2.2.1
  refine mk0L W (.long (if faultV (I 24 22) i = 0 then (A 39 i.toNatClampNeg).toInt64 &&& 4294967295 else (faultV (I 24 22) i).toInt64)) (fun Q hq => x_seen W.1 (by rw [fl]; exact flr) i (by
    rw [fl, flt_eq]
    by_cases c : faultV (I 24 22) i = 0
    · rw [if_pos c] at hq ⊢
      rcases flr with z | ⟨n, hn, z⟩
      · unfold faultV at c; rw [if_pos z] at c; exact absurd c (by decide)
      · have c' := c
        unfold faultV at c'
        rw [z, if_neg (n9 (by omega))] at c'
        have hw : wB i 0 (nI n - 1) = true := by
          cases hw : wB i 0 (nI n - 1)
          · rw [hw] at c'; exact absurd c' (by decide)
          · rfl
        obtain ⟨j, hj, rfl⟩ := wB_n (by omega) hw
        rw [nq_cl (by omega)] at hq ⊢
        rw [fr n j hn z hj]; exact hq
    · rw [if_neg c] at hq ⊢; exact hq)) (fun h' M' Q hq => r_seen M' flr i hq) W.2.2.1
end P
