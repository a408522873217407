/-! the ink of a sheet or letter; how the two states answer to each other -/
def gB (f : Nat → Bool) : Nat → Bool
  | 0 => false
  | k + 1 => gB f k || f k
theorem gB_cut {f f' : Nat → Bool} {c : Nat} (h1 : ∀ k, k < c → f k = f' k) (h2 : ∀ k, c ≤ k → f k = false) : ∀ m, gB f m = gB f' (min m c)
  | 0 => by rw [show min 0 c = 0 by omega]; rfl
  | m + 1 => by
    rw [gB, gB_cut h1 h2 m]
    by_cases h : m < c
    · rw [show min (m + 1) c = m + 1 by omega, show min m c = m by omega, gB, h1 m h]
    · rw [h2 m (by omega), show min (m + 1) c = min m c by omega, Bool.or_false]
/-- a stroke of the class is one of the reference -/
def STR (d : PD) (k : Nat) (A : Nat → Nat → Int32) (a : Nat) : Prop :=
  d.2.1 k = pA A a ∧ 1 ≤ pA A a ∧ pA A a ≤ 8 ∧ d.2.2.1 k = A 29 a ∧ d.2.2.2.1 k = A 30 a ∧ (IR (A 29 a) 0 6 ∧ IR (A 30 a) (-6) 6 ∧ ¬ (A 29 a = 0 ∧ A 30 a = 0) ∧ ∀ j, j + 1 < pA A a → ¬ (A 31 (8 * a + j + 1) = A 31 (8 * a + j) ∧ A 32 (8 * a + j + 1) = A 32 (8 * a + j))) ∧ SE (pA A a) (d.2.2.2.2.1 k) (d.2.2.2.2.2.1 k) (fun j => A 31 (8 * a + j)) (fun j => A 32 (8 * a + j)) ∧ ∀ y, y < 32 → d.2.2.2.2.2.2 k y = strI (pA A a) (A 29 a) (A 30 a) (fun j => A 31 (8 * a + j)) (fun j => A 32 (8 * a + j)) (fun _ => 0) y
/-- a sheet or letter of the class is one of the reference -/
def SR (d : PD) (A : Nat → Nat → Int32) (gr : Nat) : Prop := d.1 = cA A gr ∧ ∀ k, k < d.1 → STR d k A (6 * gr + k)
theorem zero_bt (g : Nat → Int32) {y : Nat} (hy : y < 32) (x : Nat) : bt (zeroF g y) x = false := by
  unfold zeroF; rw [gmix_lt hy, b_0]
theorem gth_bt (d : PD) (g : Nat → Int32) {x y : Nat} (hy : y < 32) : ∀ m, bt (gthF d g m y) x = (bt (g y) x || gB (fun k => decide (k < d.1) && bt (d.2.2.2.2.2.2 k y) x) m)
  | 0 => by simp [gthF, gB]
  | m + 1 => by
    have ih := gth_bt d g (x := x) hy m
    rw [gthF, gB]
    split
    · rename_i h
      rw [gmix_lt hy, b_or, ih, decide_eq_true h, Bool.true_and, Bool.or_assoc]
    · rename_i h
      rw [ih, decide_eq_false h, Bool.false_and, Bool.or_false]
theorem grp_bt (A : Nat → Nat → Int32) (gr : Nat) (g : Nat → Int32) {x y : Nat} (hx : x < 32) (hy : y < 32) : ∀ m, bt (grpF A gr g m y) x = (bt (g y) x || gB (fun k => sB (pA A (6 * gr + k)) (A 29 (6 * gr + k)) (A 30 (6 * gr + k)) (fun j => A 31 (8 * (6 * gr + k) + j)) (fun j => A 32 (8 * (6 * gr + k) + j)) x y) m)
  | 0 => by simp [grpF, gB]
  | m + 1 => by
    have ih := grp_bt A gr g hx hy m
    rw [grpF, gB, stA, strI_bt _ _ _ _ _ _ hx hy, ih, Bool.or_assoc]
theorem STR.row {d : PD} {k : Nat} {A : Nat → Nat → Int32} {a : Nat} (s : STR d k A a) (g : Nat → Int32) {y : Nat} (hy : y < 32) : d.2.2.2.2.2.2 k y = inkS A a g y := by
  rw [s.2.2.2.2.2.2.2 y hy]
  unfold inkS stA
  apply b_ext
  intro x hx
  rw [strI_bt _ _ _ _ _ _ hx hy, strI_bt _ _ _ _ _ _ hx hy, zero_bt g hy, b_0]
theorem SR.ink {d : PD} {A : Nat → Nat → Int32} {gr : Nat} (s : SR d A gr) (h6 : cA A gr ≤ 6) (g g' : Nat → Int32) {y : Nat} (hy : y < 32) : gthF d (zeroF g) 6 y = inkG A gr g' y := by
  unfold inkG
  apply b_ext
  intro x hx
  rw [gth_bt d _ hy, grp_bt A gr _ hx hy, zero_bt _ hy, zero_bt _ hy, Bool.false_or, Bool.false_or]
  rw [gB_cut (f' := fun k => sB (pA A (6 * gr + k)) (A 29 (6 * gr + k)) (A 30 (6 * gr + k)) (fun j => A 31 (8 * (6 * gr + k) + j)) (fun j => A 32 (8 * (6 * gr + k) + j)) x y) (c := cA A gr) ?_ ?_ 6, show min 6 (cA A gr) = cA A gr by omega]
  · intro k hk
    have hk' : k < d.1 := by rw [s.1]; exact hk
    rw [decide_eq_true hk', Bool.true_and, (s.2 k hk').2.2.2.2.2.2.2 y hy, strI_bt _ _ _ _ _ _ hx hy, b_0, Bool.false_or]
  · intro k hk
    rw [decide_eq_false (by rw [s.1]; omega), Bool.false_and]
