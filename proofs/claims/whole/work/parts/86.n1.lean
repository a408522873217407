/-! the kinds of a step -/
/-- z as a whole number, between bounds -/
def IR (z : Int32) (a b : Int) : Prop := a ≤ z.toInt ∧ z.toInt ≤ b
theorem nI_lo {n : Nat} (h : n < 2147483648) : (nI n).toInt = n := nI_toInt h
theorem ir_sub {x y : Int32} (hx : IR x 0 31) (hy : IR y 0 31) : (x - y).toInt = x.toInt - y.toInt ∧ IR (x - y) (-31) 31 := by
  unfold IR at *
  have e := fb_subI (x := x) (y := y) (by omega) (by omega)
  exact ⟨e, by omega, by omega⟩
theorem ir_mul {x y : Int32} {a b : Int} (hx : IR x (-a) a) (hy : IR y (-b) b) (h0 : 0 ≤ a) (h1 : 0 ≤ b) (h2 : a * b < 2147483648) : (x * y).toInt = x.toInt * y.toInt ∧ IR (x * y) (-(a * b)) (a * b) := by
  have l : ∀ p q : Int, -a ≤ p → p ≤ a → -b ≤ q → q ≤ b → -(a * b) ≤ p * q ∧ p * q ≤ a * b := by
    intro p q p1 p2 q1 q2
    have k : (p * q).natAbs ≤ (a * b).natAbs := by
      rw [Int.natAbs_mul, Int.natAbs_mul]
      exact Nat.mul_le_mul (by omega) (by omega)
    have : 0 ≤ a * b := Int.mul_nonneg h0 h1
    omega
  have := l x.toInt y.toInt hx.1 hx.2 hy.1 hy.2
  have e := fb_mulI (x := x) (y := y) (by omega) (by omega)
  exact ⟨e, by unfold IR; omega⟩
theorem ir_sub2 {x y : Int32} {a b : Int} (hx : IR x (-a) a) (hy : IR y (-b) b) (h : a + b < 2147483648) : (x - y).toInt = x.toInt - y.toInt ∧ IR (x - y) (-(a + b)) (a + b) := by
  unfold IR at *
  have e := fb_subI (x := x) (y := y) (by omega) (by omega)
  exact ⟨e, by omega, by omega⟩
theorem ir_add2 {x y : Int32} {a b : Int} (hx : IR x (-a) a) (hy : IR y (-b) b) (h : a + b < 2147483648) : (x + y).toInt = x.toInt + y.toInt ∧ IR (x + y) (-(a + b)) (a + b) := by
  unfold IR at *
  have e := fb_addI (x := x) (y := y) (by omega) (by omega)
  exact ⟨e, by omega, by omega⟩
theorem ir_wk {x : Int32} {a b c d : Int} (h : IR x a b) (h1 : c ≤ a) (h2 : b ≤ d) : IR x c d := ⟨by have := h.1; omega, by have := h.2; omega⟩
theorem toInt0 {z : Int32} : z = 0 ↔ z.toInt = 0 := ⟨fun h => by rw [h]; rfl, fun h => Int32.toInt_inj.mp h⟩
theorem twist_ir {dx dy u v : Int32} (h1 : IR dx (-31) 31) (h2 : IR dy (-31) 31) (h3 : IR u (-6) 6) (h4 : IR v (-6) 6) : (dx * v - dy * u).toInt = dx.toInt * v.toInt - dy.toInt * u.toInt ∧ IR (dx * v - dy * u) (-372) 372 := by
  have m1 := ir_mul h1 h4 (by omega) (by omega) (by omega)
  have m2 := ir_mul h2 h3 (by omega) (by omega) (by omega)
  have m3 := ir_sub2 m1.2 m2.2 (by omega)
  rw [m3.1, m1.1, m2.1]
  exact ⟨rfl, m3.2⟩
theorem upC_ir {dx dy u v : Int32} (h1 : IR dx (-31) 31) (h2 : IR dy (-31) 31) (h3 : IR u (-6) 6) (h4 : IR v (-6) 6) : (upC dx dy u v).toInt = 4 * (dx * v - dy * u).toInt * (dx * v - dy * u).toInt := by
  have t := twist_ir h1 h2 h3 h4
  have m1 := ir_mul (x := 4) (a := 4) (by unfold IR; decide) t.2 (by omega) (by omega) (by omega)
  have m2 := ir_mul m1.2 t.2 (by omega) (by omega) (by omega)
  unfold upC
  rw [m2.1, m1.1]
  rfl
theorem upC_0 {dx dy u v : Int32} (h1 : IR dx (-31) 31) (h2 : IR dy (-31) 31) (h3 : IR u (-6) 6) (h4 : IR v (-6) 6) : upC dx dy u v = 0 ↔ dx * v - dy * u = 0 := by
  rw [toInt0, upC_ir h1 h2 h3 h4, toInt0]
  constructor
  · intro h
    rcases Int.mul_eq_zero.mp h with h | h
    · omega
    · exact h
  · intro h; rw [h]; rfl
theorem sort_eq {dx dy u v : Int32} (h1 : IR dx (-31) 31) (h2 : IR dy (-31) 31) (h3 : IR u (-6) 6) (h4 : IR v (-6) 6) (lim : Int32) : sortC dx dy u v lim = sortF dx dy u v lim := by
  unfold sortC sortF
  by_cases h : dx * v - dy * u = 0
  · rw [if_pos h, if_pos ((upC_0 h1 h2 h3 h4).mpr h)]
  · rw [if_neg h, if_neg (fun z => h ((upC_0 h1 h2 h3 h4).mp z))]
    rfl
theorem wr_eq {dx dy u v : Int32} (h1 : IR dx (-31) 31) (h2 : IR dy (-31) 31) (h3 : IR u (-6) 6) (h4 : IR v (-6) 6) (lim : Int32) : bI (wrC dx dy u v lim) = wrF dx dy u v lim := by
  unfold wrC wrF
  rw [sort_eq h1 h2 h3 h4]
  by_cases e0 : dy = 0
  · have a : ¬ (0 : Int32) > 0 := by decide
    have b : ¬ (0 : Int32) < 0 := by decide
    simp [e0, bI, a, b]
  · rw [if_neg e0]
    have n0 : ¬ dy.toInt = 0 := fun z => e0 (toInt0.mpr z)
    by_cases e1 : dy ≤ 0
    · have a : ¬ dy > 0 := by rw [gt_iff_lt, jlt]; exact e1
      have b : dy < 0 := by simp only [Int32.lt_iff_toInt_lt, Int32.le_iff_toInt_le, show (0 : Int32).toInt = 0 from rfl] at *; omega
      by_cases e2 : sortF dx dy u v lim = 2 <;> simp [e1, a, b, e2, bI]
    · have a : dy > 0 := by rw [gt_iff_lt, ← jle]; exact e1
      have b : ¬ dy < 0 := by simp only [gt_iff_lt, Int32.lt_iff_toInt_lt, Int32.le_iff_toInt_le, show (0 : Int32).toInt = 0 from rfl] at *; omega
      by_cases e2 : sortF dx dy u v lim = 2 <;> simp [e1, a, b, e2, bI]
/-- a stroke of the class beside one of the reference -/
def SE (n : Nat) (X Y X' Y' : Nat → Int32) : Prop := ∀ j, j < n → X j = X' j ∧ Y j = Y' j ∧ IR (X j) 0 31 ∧ IR (Y j) 0 31
theorem SE.d {n : Nat} {X Y X' Y' : Nat → Int32} (s : SE n X Y X' Y') {i : Nat} (hi : i + 1 < n) : IR (X (i + 1) - X i) (-31) 31 ∧ IR (Y (i + 1) - Y i) (-31) 31 := by
  have a := s i (by omega)
  have b := s (i + 1) hi
  exact ⟨(ir_sub b.2.2.1 a.2.2.1).2, (ir_sub b.2.2.2 a.2.2.2).2⟩
theorem cw_eq {n : Nat} {X Y X' Y' : Nat → Int32} (s : SE n X Y X' Y') {u v : Int32} (h3 : IR u (-6) 6) (h4 : IR v (-6) 6) (lim : Int32) : cwC n X Y u v lim = sumN (fun i => wrF (X' (i + 1) - X' i) (Y' (i + 1) - Y' i) u v lim) (n - 1) := by
  unfold cwC
  apply sumN_cong
  intro i hi
  have d := s.d (i := i) (by omega)
  have a := s i (by omega)
  have b := s (i + 1) (by omega)
  rw [wr_eq d.1 d.2 h3 h4, a.1, a.2.1, b.1, b.2.1]
theorem so_eq {n : Nat} {X Y X' Y' : Nat → Int32} (s : SE n X Y X' Y') {u v : Int32} (h3 : IR u (-6) 6) (h4 : IR v (-6) 6) (lim : Int32) {i : Nat} (hi : i + 1 < n) : soC X Y u v lim i = sortF (X' (i + 1) - X' i) (Y' (i + 1) - Y' i) u v lim := by
  unfold soC
  have d := s.d hi
  have a := s i (by omega)
  have b := s (i + 1) (by omega)
  rw [sort_eq d.1 d.2 h3 h4, a.1, a.2.1, b.1, b.2.1]
