/-! a stroke's ink, row by row -/
theorem cst_ok {uu vv : Nat} {v : Int32} {x y : Nat → Nat} {i j : Nat} (bu : uu ≤ 6) (ev : abI v = nI vv) (bv : vv ≤ 6) (h4 : IR v (-6) 6) (hw : ¬ (nI uu = 0 ∧ v = 0)) (xi : x i < 32) (xj : x j < 32) (yi : y i < 32) (yj : y j < 32) {g g' : Nat → Int32} {r : Nat} (hr : r < 32) (hg : g r = g' r) : cstepF uu vv v x y i j g r = stepF (nI uu) v (nI (x j) - nI (x i)) (nI (y j) - nI (y i)) (nI (x i)) (nI (y i)) g' r := by
  have nr : ∀ {n : Nat}, n < 32 → IR (nI n) 0 31 := fun {n} hn => by unfold IR; rw [nI_lo (by omega)]; omega
  have nt : ∀ {n : Nat}, n < 32 → (nI n).toInt = n := fun {n} hn => nI_lo (by omega)
  have d1 := ir_sub (nr xj) (nr xi)
  have d2 := ir_sub (nr yj) (nr yi)
  have h3 : IR (nI uu) 0 6 := by unfold IR; rw [nt (by omega)]; omega
  have evv : ((v.toInt.natAbs : Nat) : Int) = vv := by
    have e : (nI vv).toInt = vv := nt (by omega)
    rw [← ev] at e
    unfold abI at e
    split at e
    · rename_i hz
      rw [Int32.le_iff_toInt_le, show (0 : Int32).toInt = 0 from rfl] at hz
      omega
    · rename_i hz
      rw [Int32.le_iff_toInt_le, show (0 : Int32).toInt = 0 from rfl] at hz
      rw [fb_subI (by rw [show (0 : Int32).toInt = 0 from rfl]; have := h4.1; omega) (by rw [show (0 : Int32).toInt = 0 from rfl]; have := h4.1; omega), show (0 : Int32).toInt = 0 from rfl] at e
      omega
  have d3 := ir_sub (nr hr) (nr yi)
  unfold cstepF boxF stepF
  rw [gmix_lt hr]
  apply b_ext
  intro c hc
  have d4 := ir_sub (nr hc) (nr xi)
  rw [rowN_bt _ _ 32 (by omega) hc, ← hg]
  have ce := cov_eq d1.2 d2.2 h3 h4 d4.2 d3.2 hw
  have cb := cov_box d1.2 d2.2 h3 h4 d4.2 d3.2 hw
  rw [d1.1, d2.1, d3.1, d4.1, nt xi, nt xj, nt yi, nt yj, nt hr, nt hc, nt (show uu < 32 by omega), evv] at cb
  have hcv : covS (nI uu) v (nI (x j) - nI (x i)) (nI (y j) - nI (y i)) (nI (x i)) (nI (y i)) c r = covM (nI uu) v (nI (x j) - nI (x i)) (nI (y j) - nI (y i)) (nI c - nI (x i)) (nI r - nI (y i)) := rfl
  rw [hcv]
  simp only [hc, decide_true, Bool.true_and]
  by_cases h : covM (nI uu) v (nI (x j) - nI (x i)) (nI (y j) - nI (y i)) (nI c - nI (x i)) (nI r - nI (y i)) = true
  · have q := cb h
    have qT : min (y i) (y j) - vv ≤ r ∧ r ≤ min 31 (max (y i) (y j) + vv) := by omega
    have qL : min (x i) (x j) - uu ≤ c ∧ c ≤ min 31 (max (x i) (x j) + uu) := by omega
    rw [if_pos qT, rowN_bt _ _ _ (by omega) hc, h]
    unfold bxB
    dsimp only
    rw [ce, h]
    simp only [qL.1, qL.2, decide_true, and_self, Bool.true_and, Bool.and_true]
    rw [decide_eq_true (by omega : c < min 31 (max (x i) (x j) + uu) + 1)]
  · have h := Bool.eq_false_iff.mpr h
    rw [h, Bool.or_false]
    split
    · rw [rowN_bt _ _ _ (by omega) hc]
      unfold bxB
      dsimp only
      rw [ce, h]
      simp
    · rfl
/-- is a place covered by one of the first k steps? -/
def strB (u v : Int32) (X Y : Nat → Int32) (x y : Nat) : Nat → Bool
  | 0 => false
  | k + 1 => strB u v X Y x y k || covS u v (X (k + 1) - X k) (Y (k + 1) - Y k) (X k) (Y k) x y
def sB (n : Nat) (u v : Int32) (X Y : Nat → Int32) (x y : Nat) : Bool := if n = 1 then covS u v 0 0 (X 0) (Y 0) x y else strB u v X Y x y (n - 1)
theorem step_bt (u v dx dy x0 y0 : Int32) (g : Nat → Int32) {x y : Nat} (hx : x < 32) (hy : y < 32) : bt (stepF u v dx dy x0 y0 g y) x = (bt (g y) x || covS u v dx dy x0 y0 x y) := by
  unfold stepF
  rw [gmix_lt hy, rowN_bt _ _ 32 (by omega) hx]
  simp [hx]
theorem strF_bt (u v : Int32) (X Y g : Nat → Int32) {x y : Nat} (hx : x < 32) (hy : y < 32) : ∀ k, bt (strF u v X Y g k y) x = (bt (g y) x || strB u v X Y x y k)
  | 0 => by simp [strF, strB]
  | k + 1 => by rw [strF, step_bt _ _ _ _ _ _ _ hx hy, strF_bt u v X Y g hx hy k, strB, Bool.or_assoc]
theorem strI_bt (n : Nat) (u v : Int32) (X Y g : Nat → Int32) {x y : Nat} (hx : x < 32) (hy : y < 32) : bt (strI n u v X Y g y) x = (bt (g y) x || sB n u v X Y x y) := by
  unfold strI sB
  split
  · rw [step_bt _ _ _ _ _ _ _ hx hy]
  · rw [strF_bt _ _ _ _ _ hx hy]
theorem strB_cong (u v : Int32) {X Y X' Y' : Nat → Int32} (x y : Nat) : ∀ k, (∀ j, j ≤ k → X j = X' j ∧ Y j = Y' j) → strB u v X Y x y k = strB u v X' Y' x y k
  | 0, _ => rfl
  | k + 1, h => by rw [strB, strB, strB_cong u v x y k (fun j hj => h j (by omega)), (h k (by omega)).1, (h k (by omega)).2, (h (k + 1) (by omega)).1, (h (k + 1) (by omega)).2]
theorem sB_cong {n : Nat} (hn : 1 ≤ n) (u v : Int32) {X Y X' Y' : Nat → Int32} (x y : Nat) (h : ∀ j, j < n → X j = X' j ∧ Y j = Y' j) : sB n u v X Y x y = sB n u v X' Y' x y := by
  unfold sB
  rw [(h 0 (by omega)).1, (h 0 (by omega)).2, strB_cong u v x y (n - 1) (fun j hj => h j (by omega))]
theorem cstrF_ok {uu vv : Nat} {v : Int32} {x y : Nat → Nat} {X Y : Nat → Int32} (bu : uu ≤ 6) (ev : abI v = nI vv) (bv : vv ≤ 6) (h4 : IR v (-6) 6) (hw : ¬ (nI uu = 0 ∧ v = 0)) {r : Nat} (hr : r < 32) {g g' : Nat → Int32} (hg : g r = g' r) : ∀ k, (∀ j, j ≤ k → X j = nI (x j) ∧ x j < 32) → (∀ j, j ≤ k → Y j = nI (y j) ∧ y j < 32) → cstrF uu vv v x y g k r = strF (nI uu) v X Y g' k r
  | 0, _, _ => hg
  | k + 1, hx, hy => by
    have ih := cstrF_ok bu ev bv h4 hw hr hg k (fun j hj => hx j (by omega)) (fun j hj => hy j (by omega))
    rw [cstrF, strF, (hx k (by omega)).1, (hx (k + 1) (by omega)).1, (hy k (by omega)).1, (hy (k + 1) (by omega)).1]
    exact cst_ok bu ev bv h4 hw (hx k (by omega)).2 (hx (k + 1) (by omega)).2 (hy k (by omega)).2 (hy (k + 1) (by omega)).2 hr ih
theorem cstrI_ok {n uu vv : Nat} {v : Int32} {x y : Nat → Nat} {X Y : Nat → Int32} (hn : 1 ≤ n) (bu : uu ≤ 6) (ev : abI v = nI vv) (bv : vv ≤ 6) (h4 : IR v (-6) 6) (hw : ¬ (nI uu = 0 ∧ v = 0)) (hx : ∀ j, j < n → X j = nI (x j) ∧ x j < 32) (hy : ∀ j, j < n → Y j = nI (y j) ∧ y j < 32) {r : Nat} (hr : r < 32) : cstrI n uu vv v x y r = strI n (nI uu) v X Y (fun _ => 0) r := by
  unfold cstrI strI
  by_cases h1 : n = 1
  · subst h1
    simp only [if_true]
    show cstepF uu vv v x y 0 0 (fun _ => 0) r = _
    rw [cst_ok bu ev bv h4 hw (hx 0 (by omega)).2 (hx 0 (by omega)).2 (hy 0 (by omega)).2 (hy 0 (by omega)).2 hr (g' := fun _ => 0) rfl, (hx 0 (by omega)).1, (hy 0 (by omega)).1, Int32.sub_self, Int32.sub_self]
  · rw [if_neg h1, if_neg h1]
    exact cstrF_ok bu ev bv h4 hw hr rfl (n - 1) (fun j hj => hx j (by omega)) (fun j hj => hy j (by omega))
