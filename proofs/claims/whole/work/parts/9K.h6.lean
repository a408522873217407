/-! pairs of calls: lift, letters, joins -/
theorem abI_ex {v : Int32} (h : IR v (-6) 6) : ∃ vv : Nat, vv ≤ 6 ∧ abI v = nI vv := by
  unfold abI
  have h1 := h.1
  have h2 := h.2
  split
  · rename_i hz
    rw [Int32.le_iff_toInt_le, show (0 : Int32).toInt = 0 from rfl] at hz
    exact ir_nat (b := 6) ⟨hz, h.2⟩
  · rename_i hz
    rw [Int32.le_iff_toInt_le, show (0 : Int32).toInt = 0 from rfl] at hz
    apply ir_nat (b := 6)
    unfold IR
    rw [fb_subI (by rw [show (0 : Int32).toInt = 0 from rfl]; omega) (by rw [show (0 : Int32).toInt = 0 from rfl]; omega), show (0 : Int32).toInt = 0 from rfl]
    omega
theorem ir_xy {z : Int32} (h : IR z 0 31) : z = nI z.toInt.toNat ∧ z.toInt.toNat < 32 := by
  have h1 := h.1
  have h2 := h.2
  refine ⟨?_, by omega⟩
  apply Int32.toInt_inj.mp
  rw [nI_lo (by omega)]
  omega
theorem lnF_in (f X : Nat → Int32) (a n : Nat) {j : Nat} (hj : j < n) : lnF f a X n (8 * a + j) = X j := by
  unfold lnF
  rw [if_pos (by omega)]
  congr 1
  omega
theorem lnF_out (f X : Nat → Int32) {a a' n j : Nat} (hn : n ≤ 8) (hj : j < 8) (ha : ¬ a' = a) : lnF f a X n (8 * a' + j) = f (8 * a' + j) := by
  unfold lnF
  rw [if_neg (by omega)]
section P
variable {h : Hp} {K : KK} {I A : Nat → Nat → Int32}
theorem DR.lift (D : DR K I A) {n uu vv : Nat} (en : K.2.2.2.1 = n) (hn1 : 1 ≤ n) (h5 : (K.D 26).1 < 6) (eu : K.1 = nI uu) (bu : uu ≤ 6) (ev : abI K.2.1 = nI vv) (bv : vv ≤ 6) : DR (K.1, K.2.1, K.2.2.1, 0, K.2.2.2.2.1, K.2.2.2.2.2.1, K.2.2.2.2.2.2.1, K.2.2.2.2.2.2.2.1, va_up K.D 26 (addS (K.D 26) n (nI uu) K.2.1 K.2.2.2.2.1 K.2.2.2.2.2.1 (cstrI n uu vv K.2.1 (fun j => (K.2.2.2.2.1 j).toInt.toNat) (fun j => (K.2.2.2.2.2.1 j).toInt.toNat)))) (va_up I 24 (va_up (I 24) 2 0)) (lfA A (K.D 26).1 n (I 24 0) (I 24 1)) := by
  obtain ⟨d1, ⟨ln, l8, se, dis⟩, d3, mk, ar⟩ := D
  have ec := ar.cnt (n := 26) (by omega)
  rw [en] at l8 se dis
  generalize hc : (K.D 26).1 = c at *
  have cN : ∀ x, cA (lfA A c n (I 24 0) (I 24 1)) x = if x = 26 then c + 1 else cA A x := by
    intro x
    show (upd (A 27) 26 (nI (c + 1)) x).toNatClampNeg = _
    by_cases e : x = 26
    · simp only [upd, if_pos e]; exact nq_cl (by omega)
    · simp only [upd, if_neg e]; rfl
  have n8 : (nI n).toNatClampNeg = n := nq_cl (by omega)
  have pN : ∀ x, pA (lfA A c n (I 24 0) (I 24 1)) x = if x = 156 + c then n else pA A x := by
    intro x
    show (upd (A 28) (156 + c) (nI n) x).toNatClampNeg = _
    by_cases e : x = 156 + c
    · simp only [upd, if_pos e]; exact n8
    · simp only [upd, if_neg e]; rfl
  have old : ∀ {d d' : PD} {k k' a : Nat}, STR d k A a → ¬ a = 156 + c → d'.2.1 k' = d.2.1 k → d'.2.2.1 k' = d.2.2.1 k → d'.2.2.2.1 k' = d.2.2.2.1 k → d'.2.2.2.2.1 k' = d.2.2.2.2.1 k → d'.2.2.2.2.2.1 k' = d.2.2.2.2.2.1 k → d'.2.2.2.2.2.2 k' = d.2.2.2.2.2.2 k → STR d' k' (lfA A c n (I 24 0) (I 24 1)) a := by
    intro d d' k k' a s ne e1 e2 e3 e4 e5 e6
    refine s.move ?_ ?_ ?_ ?_ ?_ e1 e2 e3 e4 e5 e6
    · show upd (A 28) (156 + c) (nI n) a = _; simp only [upd, if_neg ne]
    · show upd (A 29) (156 + c) (I 24 0) a = _; simp only [upd, if_neg ne]
    · show upd (A 30) (156 + c) (I 24 1) a = _; simp only [upd, if_neg ne]
    · intro j hj; exact lnF_out (A 31) (A 25) l8 hj ne
    · intro j hj; exact lnF_out (A 32) (A 26) l8 hj ne
  refine ⟨d1, ⟨rfl, by show 0 ≤ 8; omega, fun j hj => absurd hj (Nat.not_lt_zero j), fun j hj => absurd hj (Nat.not_lt_zero (j + 1))⟩, d3, ⟨fun x hx => ?_, fun x k hx hk => ?_⟩, fun x hx => ?_⟩
  · rw [cN x]
    show upd (A 27) 26 (nI (c + 1)) x = _ ∧ _
    by_cases e : x = 26
    · simp only [upd, if_pos e]; exact ⟨trivial, by omega⟩
    · simp only [upd, if_neg e]; exact mk.1 x hx
  · rw [cN x] at hk
    rw [pN]
    show upd (A 28) (156 + c) (nI n) (6 * x + k) = _ ∧ _
    by_cases e : x = 26
    · subst e
      rw [if_pos rfl] at hk
      by_cases ek : k = c
      · have q : 6 * 26 + k = 156 + c := by omega
        simp only [upd, if_pos q]; exact ⟨trivial, hn1, l8⟩
      · have q : ¬ 6 * 26 + k = 156 + c := by omega
        simp only [upd, if_neg q]; exact mk.2 26 k hx (by omega)
    · rw [if_neg e] at hk
      have := (mk.1 x hx).2
      have q : ¬ 6 * x + k = 156 + c := by omega
      simp only [upd, if_neg q]; exact mk.2 x k hx hk
  · show SR (va_up K.D 26 _ x) _ x
    by_cases e : x = 26
    · subst e
      rw [vD_eq]
      refine ⟨by rw [cN 26, if_pos rfl]; show (K.D 26).1 + 1 = c + 1; rw [hc], fun k hk => ?_⟩
      have hk' : k < c + 1 := by have : k < (K.D 26).1 + 1 := hk; rw [hc] at this; exact this
      by_cases ek : k = c
      · subst ek
        have q : 6 * 26 + k = 156 + k := by omega
        rw [q]
        unfold STR addS
        rw [hc, pN, if_pos rfl]
        have a29 : lfA A k n (I 24 0) (I 24 1) 29 (156 + k) = K.1 := by
          show upd (A 29) (156 + k) (I 24 0) (156 + k) = _
          simp only [upd, if_true]; exact d1.1.symm
        have a30 : lfA A k n (I 24 0) (I 24 1) 30 (156 + k) = K.2.1 := by
          show upd (A 30) (156 + k) (I 24 1) (156 + k) = _
          simp only [upd, if_true]; exact d1.2.1.symm
        have a31 : ∀ j, j < n → lfA A k n (I 24 0) (I 24 1) 31 (8 * (156 + k) + j) = A 25 j := fun j hj => lnF_in (A 31) (A 25) (156 + k) n hj
        have a32 : ∀ j, j < n → lfA A k n (I 24 0) (I 24 1) 32 (8 * (156 + k) + j) = A 26 j := fun j hj => lnF_in (A 32) (A 26) (156 + k) n hj
        rw [a29, a30]
        simp only [vD_eq]
        refine ⟨trivial, hn1, l8, eu.symm, trivial, ⟨d1.2.2.2.1, d1.2.2.2.2.1, d1.2.2.2.2.2, fun j hj => ?_⟩, fun j hj => ?_, fun y hy => ?_⟩
        · rw [show 8 * (156 + k) + j + 1 = 8 * (156 + k) + (j + 1) from rfl, a31 j (by omega), a31 (j + 1) hj, a32 j (by omega), a32 (j + 1) hj]
          have := dis j hj
          rw [(se j (by omega)).1, (se j (by omega)).2.1, (se (j + 1) hj).1, (se (j + 1) hj).2.1] at this
          exact this
        · have := se j hj
          show _ = lfA A k n (I 24 0) (I 24 1) 31 (8 * (156 + k) + j) ∧ _ = lfA A k n (I 24 0) (I 24 1) 32 (8 * (156 + k) + j) ∧ _
          rw [a31 j hj, a32 j hj]; exact this
        · rw [cstrI_ok (X := K.2.2.2.2.1) (Y := K.2.2.2.2.2.1) hn1 bu ev bv d1.2.2.2.2.1 (by rw [← eu]; exact d1.2.2.2.2.2) (fun j hj => ir_xy (se j hj).2.2.1) (fun j hj => ir_xy (se j hj).2.2.2) hy, ← eu]
          exact strI_cong hn1 _ _ _ (fun j hj => ⟨by rw [a31 j hj]; exact (se j hj).1, by rw [a32 j hj]; exact (se j hj).2.1⟩) hy
      · have ne : ¬ k = (K.D 26).1 := by rw [hc]; exact ek
        refine old ((ar 26 hx).2 k (by rw [hc]; omega)) (by omega) ?_ ?_ ?_ ?_ ?_ ?_ <;> exact vD_ne _ _ ne
    · rw [vD_ne _ _ e]
      refine ⟨by rw [cN x, if_neg e]; exact (ar x hx).1, fun k hk => ?_⟩
      have k6 : k < 6 := by have := (mk.1 x hx).2; rw [(ar x hx).1] at hk; omega
      exact old ((ar x hx).2 k hk) (by omega) rfl rfl rfl rfl rfl rfl
theorem p_lift (W : WI h K I A) : PAIR 68 116 [] h := by
  have D := W.2.2.1
  have mk := D.2.2.2.1
  have ln := D.2.1.1
  have l8 := D.2.1.2.1
  have ec := D.2.2.2.2.cnt (n := 26) (by omega)
  have e27 := (mk.1 26 (by omega)).1
  have c6 := (mk.1 26 (by omega)).2
  by_cases z : K.2.2.2.1 = 0
  · exact mk0 W (.int (-3)) (fun Q hq => x_lift0 W.1 z hq) (fun h' M' Q hq => r_lift0 M' (by rw [ln, z]; rfl) hq) D
  · by_cases s : (K.D 26).1 = 6
    · exact mk0 W (.int (-4)) (fun Q hq => x_lift6 W.1 z s hq) (fun h' M' Q hq => r_lift6 M' (by rw [ln]; intro q; exact z ((zinj (a := K.2.2.2.1) (b := 0) (by omega) (by omega)).mp q)) (by rw [e27, ← ec, s]; rfl) hq) D
    · obtain ⟨uu, bu, eu⟩ := ir_nat (b := 6) D.1.2.2.2.1
      obtain ⟨vv, bv, ev⟩ := abI_ex D.1.2.2.2.2.1
      have se := D.2.1.2.2.1
      exact mk_pair W (.int (nI (K.D 26).1)) (by omega) (by omega) (fun Q hq => x_lift W.1 W.2.2.2 rfl (by omega) (by omega) eu bu ev bv (fun j hj => ir_xy (se j hj).2.2.1) (fun j hj => ir_xy (se j hj).2.2.2) hq) (fun h' M' Q hq => r_lift M' (n := K.2.2.2.1) (c := (K.D 26).1) ln (by omega) l8 (by rw [e27, ec]) (by omega) hq) (D.lift rfl (by omega) (by omega) eu bu ev bv)
end P
