/-! which places a step covers: the words of the two programs -/
theorem ir_cross {p q r s : Int32} {a b : Int} (h1 : IR p (-a) a) (h2 : IR q (-b) b) (h3 : IR r (-a) a) (h4 : IR s (-b) b) (ha : 0 ≤ a) (hb : 0 ≤ b) (hab : a * b < 100000) : (p * q - r * s).toInt = p.toInt * q.toInt - r.toInt * s.toInt ∧ IR (p * q - r * s) (-(a * b + a * b)) (a * b + a * b) := by
  have m1 := ir_mul h1 h2 ha hb (by omega)
  have m2 := ir_mul h3 h4 ha hb (by omega)
  have m3 := ir_sub2 m1.2 m2.2 (by omega)
  rw [m3.1, m1.1, m2.1]
  exact ⟨rfl, m3.2⟩
theorem ir_dot {p q r s : Int32} {a b : Int} (h1 : IR p (-a) a) (h2 : IR q (-b) b) (h3 : IR r (-a) a) (h4 : IR s (-b) b) (ha : 0 ≤ a) (hb : 0 ≤ b) (hab : a * b < 100000) : (p * q + r * s).toInt = p.toInt * q.toInt + r.toInt * s.toInt ∧ IR (p * q + r * s) (-(a * b + a * b)) (a * b + a * b) := by
  have m1 := ir_mul h1 h2 ha hb (by omega)
  have m2 := ir_mul h3 h4 ha hb (by omega)
  have m3 := ir_add2 m1.2 m2.2 (by omega)
  rw [m3.1, m1.1, m2.1]
  exact ⟨rfl, m3.2⟩
theorem ir_neg {z : Int32} {a : Int} (h : IR z (-a) a) (ha : a < 2147483648) : (-z).toInt = -z.toInt := fb_negI (by have := h.1; omega)
theorem sz_i {z : Int32} {a : Int} (h : IR z (-a) a) (ha : a < 2147483648) : (sz z).toInt = z.toInt.natAbs := by
  unfold sz
  by_cases hz : z < 0
  · rw [if_pos hz, ir_neg h ha]
    rw [Int32.lt_iff_toInt_lt, show (0 : Int32).toInt = 0 from rfl] at hz
    omega
  · rw [if_neg hz]
    rw [Int32.lt_iff_toInt_lt, show (0 : Int32).toInt = 0 from rfl] at hz
    omega
section C
variable {u v dx dy x y : Int32} (h1 : IR dx (-31) 31) (h2 : IR dy (-31) 31) (h3 : IR u (-6) 6) (h4 : IR v (-6) 6) (h5 : IR x (-31) 31) (h6 : IR y (-31) 31)
theorem covM_i : (IR dx (-31) 31) → (IR dy (-31) 31) → (IR u (-6) 6) → (IR v (-6) 6) → (IR x (-31) 31) → (IR y (-31) 31) → (covM u v dx dy x y = true ↔ iM u.toInt v.toInt dx.toInt dy.toInt x.toInt y.toInt) := by
  intro h1 h2 h3 h4 h5 h6
  have T := ir_cross h1 h4 h2 h3 (by omega) (by omega) (by omega)
  have Aa := ir_cross h5 h4 h6 h3 (by omega) (by omega) (by omega)
  have B := ir_cross h1 h6 h2 h5 (by omega) (by omega) (by omega)
  have E := ir_dot h1 h3 h2 h4 (by omega) (by omega) (by omega)
  have P := ir_dot h5 h3 h6 h4 (by omega) (by omega) (by omega)
  have W := ir_dot h3 h3 h4 h4 (by omega) (by omega) (by omega)
  have PD := ir_dot h5 h1 h6 h2 (by omega) (by omega) (by omega)
  have DD := ir_dot h1 h1 h2 h2 (by omega) (by omega) (by omega)
  have xv := ir_mul h5 h4 (by omega) (by omega) (by omega)
  have yu := ir_mul h6 h3 (by omega) (by omega) (by omega)
  have sT := sz_i T.2 (by omega)
  have sB := sz_i B.2 (by omega)
  have sE := sz_i E.2 (by omega)
  have sP := sz_i P.2 (by omega)
  have isE : IR (sz (dx * u + dy * v)) (-372) 372 := by have := E.2; unfold IR at *; omega
  have nE := ir_neg isE (by omega)
  have aE := ir_add2 DD.2 isE (by omega)
  have eq1 : (x * v = y * u) = (x.toInt * v.toInt = y.toInt * u.toInt) := by rw [← xv.1, ← yu.1]; exact propext Int32.toInt_inj.symm
  have eB : (dx * y - dy * x = 0) = (dx.toInt * y.toInt - dy.toInt * x.toInt = 0) := by rw [← B.1]; exact propext toInt0
  have eT : (dx * v - dy * u = 0) = (dx.toInt * v.toInt - dy.toInt * u.toInt = 0) := by rw [← T.1]; exact propext toInt0
  have ex : (dx = 0) = (dx.toInt = 0) := propext toInt0
  have ey : (dy = 0) = (dy.toInt = 0) := propext toInt0
  unfold covM upB iM
  simp only [Int32.lt_iff_toInt_lt, Int32.le_iff_toInt_le, aE.1, nE, sT, sB, sE, sP, T.1, Aa.1, B.1, E.1, P.1, W.1, PD.1, DD.1, eq1, eB, eT, ex, ey, show (0 : Int32).toInt = 0 from rfl]
  by_cases c1 : dx.toInt * v.toInt - dy.toInt * u.toInt = 0
  · by_cases c2 : dx.toInt = 0 ∧ dy.toInt = 0
    · simp [c1, c2]
    · simp [c1, c2]
  · by_cases c3 : 0 < dx.toInt * v.toInt - dy.toInt * u.toInt
    · generalize dx.toInt * v.toInt - dy.toInt * u.toInt = t at c1 c3 ⊢
      generalize x.toInt * v.toInt - y.toInt * u.toInt = a
      generalize dx.toInt * y.toInt - dy.toInt * x.toInt = b
      simp [c1, c3]
    · generalize dx.toInt * v.toInt - dy.toInt * u.toInt = t at c1 c3 ⊢
      generalize x.toInt * v.toInt - y.toInt * u.toInt = a
      generalize dx.toInt * y.toInt - dy.toInt * x.toInt = b
      simp [c1, c3]
theorem covC_i : (IR dx (-31) 31) → (IR dy (-31) 31) → (IR u (-6) 6) → (IR v (-6) 6) → (IR x (-31) 31) → (IR y (-31) 31) → (covC u v dx dy x y = true ↔ iC u.toInt v.toInt dx.toInt dy.toInt x.toInt y.toInt) := by
  intro h1 h2 h3 h4 h5 h6
  have T := ir_cross h1 h4 h2 h3 (by omega) (by omega) (by omega)
  have Aa := ir_cross h5 h4 h6 h3 (by omega) (by omega) (by omega)
  have B := ir_cross h1 h6 h2 h5 (by omega) (by omega) (by omega)
  have E := ir_dot h1 h3 h2 h4 (by omega) (by omega) (by omega)
  have P := ir_dot h5 h3 h6 h4 (by omega) (by omega) (by omega)
  have W := ir_dot h3 h3 h4 h4 (by omega) (by omega) (by omega)
  have nT := ir_neg T.2 (by omega)
  have iT : IR (-(dx * v - dy * u)) (-372) 372 := by have := T.2; unfold IR at *; omega
  have nnT := ir_neg iT (by omega)
  have nA := ir_neg Aa.2 (by omega)
  have eA : (x * v - y * u = 0) = (x.toInt * v.toInt - y.toInt * u.toInt = 0) := by rw [← Aa.1]; exact propext toInt0
  have eT : (dx * v - dy * u = 0) = (dx.toInt * v.toInt - dy.toInt * u.toInt = 0) := by rw [← T.1]; exact propext toInt0
  have z0 : IR (0 : Int32) (-372) 372 := by unfold IR; decide
  have a0 := ir_add2 z0 W.2 (by omega)
  have s0 := ir_sub2 z0 W.2 (by omega)
  have aE := ir_add2 E.2 W.2 (by omega)
  have sE := ir_sub2 E.2 W.2 (by omega)
  unfold covC lineB iC
  by_cases c1 : dx.toInt * v.toInt - dy.toInt * u.toInt = 0
  · by_cases c2 : 0 ≤ dx.toInt * u.toInt + dy.toInt * v.toInt
    · have c3 : mnI 0 (dx * u + dy * v) = 0 := by unfold mnI; rw [if_neg]; rw [Int32.lt_iff_toInt_lt, E.1, show (0 : Int32).toInt = 0 from rfl]; omega
      have c4 : (mxI 0 (dx * u + dy * v)) = dx * u + dy * v := by
        unfold mxI; split
        · rfl
        · rename_i hh
          rw [Int32.lt_iff_toInt_lt, E.1, show (0 : Int32).toInt = 0 from rfl] at hh
          exact (toInt0.mpr (by rw [E.1]; omega)).symm
      have c5 : ¬ dx.toInt * u.toInt + dy.toInt * v.toInt < 0 := by omega
      rw [c3, c4]
      simp only [wB, Int32.lt_iff_toInt_lt, Int32.le_iff_toInt_le, ge_iff_le, s0.1, aE.1, T.1, Aa.1, B.1, E.1, P.1, W.1, eA, eT, show (0 : Int32).toInt = 0 from rfl]
      simp [c1, c2, c5]
    · have c5 : dx.toInt * u.toInt + dy.toInt * v.toInt < 0 := by omega
      have c3 : mnI 0 (dx * u + dy * v) = dx * u + dy * v := by unfold mnI; rw [if_pos]; rw [Int32.lt_iff_toInt_lt, E.1, show (0 : Int32).toInt = 0 from rfl]; omega
      have c4 : (mxI 0 (dx * u + dy * v)) = 0 := by unfold mxI; rw [if_neg]; rw [Int32.lt_iff_toInt_lt, E.1, show (0 : Int32).toInt = 0 from rfl]; omega
      rw [c3, c4]
      simp only [wB, Int32.lt_iff_toInt_lt, Int32.le_iff_toInt_le, ge_iff_le, sE.1, a0.1, T.1, Aa.1, B.1, E.1, P.1, W.1, eA, eT, show (0 : Int32).toInt = 0 from rfl]
      simp [c1, c2, c5]
  · simp only [wB, Int32.lt_iff_toInt_lt, Int32.le_iff_toInt_le, ge_iff_le, nnT, nT, nA, T.1, Aa.1, B.1, E.1, P.1, W.1, eA, eT, show (0 : Int32).toInt = 0 from rfl]
    by_cases c3 : 0 ≤ dx.toInt * v.toInt - dy.toInt * u.toInt
    · have c4 : ¬ dx.toInt * v.toInt - dy.toInt * u.toInt < 0 := by omega
      generalize dx.toInt * v.toInt - dy.toInt * u.toInt = t at c1 c3 c4 ⊢
      generalize x.toInt * v.toInt - y.toInt * u.toInt = a
      generalize dx.toInt * y.toInt - dy.toInt * x.toInt = b
      simp [c1, c3, c4]
    · have c4 : dx.toInt * v.toInt - dy.toInt * u.toInt < 0 := by omega
      generalize dx.toInt * v.toInt - dy.toInt * u.toInt = t at c1 c3 c4 ⊢
      generalize x.toInt * v.toInt - y.toInt * u.toInt = a
      generalize dx.toInt * y.toInt - dy.toInt * x.toInt = b
      simp [c1, c3, c4]
end C
theorem cov_eq {u v dx dy x y : Int32} (h1 : IR dx (-31) 31) (h2 : IR dy (-31) 31) (h3 : IR u 0 6) (h4 : IR v (-6) 6) (h5 : IR x (-31) 31) (h6 : IR y (-31) 31) (hw : ¬ (u = 0 ∧ v = 0)) : covC u v dx dy x y = covM u v dx dy x y := by
  have h3' : IR u (-6) 6 := ir_wk h3 (by omega) (by omega)
  have hw' : ¬ (u.toInt = 0 ∧ v.toInt = 0) := fun z => hw ⟨toInt0.mpr z.1, toInt0.mpr z.2⟩
  have := (covM_i h1 h2 h3' h4 h5 h6).trans ((iM_iC hw').trans (covC_i h1 h2 h3' h4 h5 h6).symm)
  exact (Bool.eq_iff_iff.mpr this).symm
theorem cov_box {u v dx dy x y : Int32} (h1 : IR dx (-31) 31) (h2 : IR dy (-31) 31) (h3 : IR u 0 6) (h4 : IR v (-6) 6) (h5 : IR x (-31) 31) (h6 : IR y (-31) 31) (hw : ¬ (u = 0 ∧ v = 0)) (h : covM u v dx dy x y = true) : (min 0 dx.toInt - u.toInt ≤ x.toInt ∧ x.toInt ≤ max 0 dx.toInt + u.toInt) ∧ (min 0 dy.toInt - v.toInt.natAbs ≤ y.toInt ∧ y.toInt ≤ max 0 dy.toInt + v.toInt.natAbs) := by
  have h3' : IR u (-6) 6 := ir_wk h3 (by omega) (by omega)
  have hw' : ¬ (u.toInt = 0 ∧ v.toInt = 0) := fun z => hw ⟨toInt0.mpr z.1, toInt0.mpr z.2⟩
  exact iM_box h3.1 ((covM_i h1 h2 h3' h4 h5 h6).mp h) hw'
