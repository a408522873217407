/-! which places a step covers: whole numbers -/
def iM (u v dx dy x y : Int) : Prop :=
  (¬ dx * v - dy * u = 0 ∧ (0 < dx * v - dy * u → 0 ≤ x * v - y * u ∧ x * v - y * u ≤ dx * v - dy * u) ∧ (¬ 0 < dx * v - dy * u → x * v - y * u ≤ 0 ∧ dx * v - dy * u ≤ x * v - y * u) ∧ (dx * y - dy * x).natAbs ≤ (dx * v - dy * u).natAbs) ∨
  (dx * v - dy * u = 0 ∧ (dx = 0 ∧ dy = 0) ∧ x * v = y * u ∧ ((x * u + y * v).natAbs : Int) ≤ u * u + v * v) ∨
  (dx * v - dy * u = 0 ∧ ¬ (dx = 0 ∧ dy = 0) ∧ dx * y - dy * x = 0 ∧ -((dx * u + dy * v).natAbs : Int) ≤ x * dx + y * dy ∧ x * dx + y * dy ≤ dx * dx + dy * dy + (dx * u + dy * v).natAbs)
def iC (u v dx dy x y : Int) : Prop :=
  (dx * v - dy * u = 0 ∧ x * v - y * u = 0 ∧ (0 ≤ dx * u + dy * v → -(u * u + v * v) ≤ x * u + y * v ∧ x * u + y * v ≤ dx * u + dy * v + (u * u + v * v)) ∧ (dx * u + dy * v < 0 → dx * u + dy * v - (u * u + v * v) ≤ x * u + y * v ∧ x * u + y * v ≤ u * u + v * v)) ∨
  (¬ dx * v - dy * u = 0 ∧ (0 ≤ dx * v - dy * u → (0 ≤ x * v - y * u ∧ x * v - y * u ≤ dx * v - dy * u) ∧ -(dx * v - dy * u) ≤ dx * y - dy * x ∧ dx * y - dy * x ≤ dx * v - dy * u) ∧ (dx * v - dy * u < 0 → (0 ≤ -(x * v - y * u) ∧ -(x * v - y * u) ≤ -(dx * v - dy * u)) ∧ dx * v - dy * u ≤ dx * y - dy * x ∧ dx * y - dy * x ≤ -(dx * v - dy * u)))
theorem sq_pos {u v : Int} (h : ¬ (u = 0 ∧ v = 0)) : 0 < u * u + v * v := by
  have a : 0 ≤ u * u := by rw [← Int.natAbs_mul_self]; omega
  have b : 0 ≤ v * v := by rw [← Int.natAbs_mul_self]; omega
  by_cases hu : u = 0
  · have hv : ¬ v = 0 := fun z => h ⟨hu, z⟩
    have : ¬ v * v = 0 := fun z => hv (by rcases Int.mul_eq_zero.mp z with z | z <;> exact z)
    omega
  · have : ¬ u * u = 0 := fun z => hu (by rcases Int.mul_eq_zero.mp z with z | z <;> exact z)
    omega
/-- along the nib: both ways of saying it -/
theorem par_iff {u v dx dy x y : Int} (hw : ¬ (u = 0 ∧ v = 0)) (hd : ¬ (dx = 0 ∧ dy = 0)) (ht : dx * v - dy * u = 0) : dx * y - dy * x = 0 ↔ x * v - y * u = 0 := by
  have e1 : (x * v - y * u) * dx + (dx * y - dy * x) * u = x * (dx * v - dy * u) := by grind
  have e2 : (x * v - y * u) * dy + (dx * y - dy * x) * v = y * (dx * v - dy * u) := by grind
  rw [ht, Int.mul_zero] at e1 e2
  constructor
  · intro h
    rw [h] at e1 e2
    simp only [Int.zero_mul, Int.add_zero] at e1 e2
    rcases Int.mul_eq_zero.mp e1 with z | z
    · exact z
    · rcases Int.mul_eq_zero.mp e2 with z2 | z2
      · exact z2
      · exact absurd ⟨z, z2⟩ hd
  · intro h
    rw [h] at e1 e2
    simp only [Int.zero_mul, Int.zero_add] at e1 e2
    rcases Int.mul_eq_zero.mp e1 with z | z
    · exact z
    · rcases Int.mul_eq_zero.mp e2 with z2 | z2
      · exact z2
      · exact absurd ⟨z, z2⟩ hw
theorem mul_le_iff {a b c : Int} (h : 0 < a) : a * b ≤ a * c ↔ b ≤ c := ⟨fun z => Int.le_of_mul_le_mul_left z h, fun z => Int.mul_le_mul_of_nonneg_left z (by omega)⟩
theorem par_rng {u v dx dy x y : Int} (hw : ¬ (u = 0 ∧ v = 0)) (hd : ¬ (dx = 0 ∧ dy = 0)) (ht : dx * v - dy * u = 0) (ha : x * v - y * u = 0) :
    (-((dx * u + dy * v).natAbs : Int) ≤ x * dx + y * dy ∧ x * dx + y * dy ≤ dx * dx + dy * dy + (dx * u + dy * v).natAbs) ↔
    ((0 ≤ dx * u + dy * v → -(u * u + v * v) ≤ x * u + y * v ∧ x * u + y * v ≤ dx * u + dy * v + (u * u + v * v)) ∧ (dx * u + dy * v < 0 → dx * u + dy * v - (u * u + v * v) ≤ x * u + y * v ∧ x * u + y * v ≤ u * u + v * v)) := by
  have W := sq_pos hw
  have e1 : (u * u + v * v) * (x * dx + y * dy) = (x * u + y * v) * (dx * u + dy * v) := by
    have : (x*dx+y*dy)*(u*u+v*v) = (x*u+y*v)*(dx*u+dy*v) + (x*v-y*u)*(dx*v-dy*u) := by grind
    rw [ha, Int.zero_mul, Int.add_zero] at this
    rw [← this, Int.mul_comm]
  have e2 : (u * u + v * v) * (dx * dx + dy * dy) = (dx * u + dy * v) * (dx * u + dy * v) := by
    have : (dx*dx+dy*dy)*(u*u+v*v) = (dx*u+dy*v)*(dx*u+dy*v) + (dx*v-dy*u)*(dx*v-dy*u) := by grind
    rw [ht, Int.zero_mul, Int.add_zero] at this
    rw [← this, Int.mul_comm]
  have e0 : ¬ dx * u + dy * v = 0 := by
    intro z
    rw [z, Int.mul_zero] at e2
    have := sq_pos hd
    rcases Int.mul_eq_zero.mp e2 with q | q <;> omega
  generalize hW : u * u + v * v = w at *
  generalize hE : dx * u + dy * v = e at *
  generalize hP : x * u + y * v = p at *
  generalize hD : x * dx + y * dy = q at *
  generalize hS : dx * dx + dy * dy = s at *
  clear hW hE hP hD hS ht ha
  rw [← mul_le_iff W, ← mul_le_iff (b := q) W, Int.mul_add, e1, e2]
  by_cases he : 0 < e
  · have k1 : ((e.natAbs : Nat) : Int) = e := by omega
    rw [k1]
    have r1 : w * -e ≤ p * e ↔ -w ≤ p := by
      rw [← mul_le_iff (b := -w) (c := p) he]; clear e1 e2; constructor <;> intro h <;> grind
    have r2 : p * e ≤ e * e + w * e ↔ p ≤ e + w := by
      rw [← mul_le_iff (b := p) (c := e + w) he]; clear e1 e2; constructor <;> intro h <;> grind
    rw [r1, r2]
    constructor
    · intro h; exact ⟨fun _ => h, fun h2 => by omega⟩
    · intro h; exact h.1 (by omega)
  · have hn : 0 < -e := by omega
    have k1 : ((e.natAbs : Nat) : Int) = -e := by omega
    rw [k1]
    have r1 : w * -(-e) ≤ p * e ↔ p ≤ w := by
      rw [← mul_le_iff (b := p) (c := w) hn]; clear e1 e2; constructor <;> intro h <;> grind
    have r2 : p * e ≤ e * e + w * -e ↔ e - w ≤ p := by
      rw [← mul_le_iff (b := e - w) (c := p) hn]; clear e1 e2; constructor <;> intro h <;> grind
    rw [r1, r2]
    constructor
    · intro h; exact ⟨fun _ => by omega, fun h2 => ⟨h.2, h.1⟩⟩
    · intro h; have := h.2 (by omega); exact ⟨this.2, this.1⟩
theorem iM_iC {u v dx dy x y : Int} (hw : ¬ (u = 0 ∧ v = 0)) : iM u v dx dy x y ↔ iC u v dx dy x y := by
  unfold iM iC
  by_cases ht : dx * v - dy * u = 0
  · by_cases hd : dx = 0 ∧ dy = 0
    · obtain ⟨rfl, rfl⟩ := hd
      simp only [Int.zero_mul, Int.sub_self, Int.add_zero, true_and, not_true_eq_false, false_and, or_false, false_or, and_self, and_true]
      generalize u * u + v * v = w
      generalize x * u + y * v = p
      generalize x * v = a
      generalize y * u = b
      omega
    · simp only [ht, hd, true_and, not_true_eq_false, false_and, false_or, or_false, not_false_eq_true]
      rw [par_iff hw hd ht]
      constructor
      · intro h; exact ⟨h.1, (par_rng hw hd ht h.1).mp h.2⟩
      · intro h; exact ⟨h.1, (par_rng hw hd ht h.1).mpr h.2⟩
  · simp only [ht, false_and, or_false, false_or, not_false_eq_true, true_and]
    generalize dx * v - dy * u = t at *
    generalize x * v - y * u = a
    generalize dx * y - dy * x = b
    omega
/-- what is covered lies near the step -/
theorem iM_box {u v dx dy x y : Int} (hu : 0 ≤ u) (h : iM u v dx dy x y) (hw : ¬ (u = 0 ∧ v = 0)) : (min 0 dx - u ≤ x ∧ x ≤ max 0 dx + u) ∧ (min 0 dy - v.natAbs ≤ y ∧ y ≤ max 0 dy + v.natAbs) := by
  have hc := (iM_iC hw).mp h
  unfold iC at hc
  rcases hc with ⟨ht, ha, h1, h2⟩ | ⟨ht, h1, h2⟩
  · have W := sq_pos hw
    have e1 : (u * u + v * v) * x = (x * u + y * v) * u + (x * v - y * u) * v := by grind
    have e2 : (u * u + v * v) * y = (x * u + y * v) * v - (x * v - y * u) * u := by grind
    have e3 : (u * u + v * v) * dx = (dx * u + dy * v) * u + (dx * v - dy * u) * v := by grind
    have e4 : (u * u + v * v) * dy = (dx * u + dy * v) * v - (dx * v - dy * u) * u := by grind
    rw [ha, Int.zero_mul] at e1 e2
    rw [ht, Int.zero_mul] at e3 e4
    simp only [Int.add_zero, Int.sub_zero] at e1 e2 e3 e4
    generalize hW : u * u + v * v = w at *
    generalize hE : dx * u + dy * v = e at *
    generalize hP : x * u + y * v = p at *
    clear hW hE hP
    have nn : 0 ≤ w * u := Int.mul_nonneg (by omega) hu
    by_cases he : 0 ≤ e
    · obtain ⟨b1, b2⟩ := h1 he
      have c1 := Int.mul_le_mul_of_nonneg_right b1 hu
      have c2 := Int.mul_le_mul_of_nonneg_right b2 hu
      have d0 : 0 ≤ e * u := Int.mul_nonneg he hu
      have hdx : 0 ≤ dx := by rw [← mul_le_iff W]; omega
      refine ⟨⟨?_, ?_⟩, ?_⟩
      · have : -u ≤ x := by rw [← mul_le_iff W]; grind
        omega
      · have : x ≤ dx + u := by rw [← mul_le_iff W]; grind
        omega
      · by_cases hv : 0 ≤ v
        · have c1 := Int.mul_le_mul_of_nonneg_right b1 hv
          have c2 := Int.mul_le_mul_of_nonneg_right b2 hv
          have d0 : 0 ≤ e * v := Int.mul_nonneg he hv
          have hdy : 0 ≤ dy := by rw [← mul_le_iff W]; omega
          have k1 : -v ≤ y := by rw [← mul_le_iff W]; grind
          have k2 : y ≤ dy + v := by rw [← mul_le_iff W]; grind
          omega
        · have hv' : 0 ≤ -v := by omega
          have c1 := Int.mul_le_mul_of_nonneg_right b1 hv'
          have c2 := Int.mul_le_mul_of_nonneg_right b2 hv'
          have d0 : 0 ≤ e * -v := Int.mul_nonneg he hv'
          have hdy : dy ≤ 0 := by rw [← mul_le_iff W]; grind
          have k1 : dy + v ≤ y := by rw [← mul_le_iff W]; grind
          have k2 : y ≤ -v := by rw [← mul_le_iff W]; grind
          omega
    · obtain ⟨b1, b2⟩ := h2 (by omega)
      have he' : 0 ≤ -e := by omega
      have c1 := Int.mul_le_mul_of_nonneg_right b1 hu
      have c2 := Int.mul_le_mul_of_nonneg_right b2 hu
      have d0 : 0 ≤ -e * u := Int.mul_nonneg he' hu
      have hdx : dx ≤ 0 := by rw [← mul_le_iff W]; grind
      refine ⟨⟨?_, ?_⟩, ?_⟩
      · have : dx - u ≤ x := by rw [← mul_le_iff W]; grind
        omega
      · have : x ≤ u := by rw [← mul_le_iff W]; grind
        omega
      · by_cases hv : 0 ≤ v
        · have c1 := Int.mul_le_mul_of_nonneg_right b1 hv
          have c2 := Int.mul_le_mul_of_nonneg_right b2 hv
          have d0 : 0 ≤ -e * v := Int.mul_nonneg he' hv
          have hdy : dy ≤ 0 := by rw [← mul_le_iff W]; grind
          have k1 : dy - v ≤ y := by rw [← mul_le_iff W]; grind
          have k2 : y ≤ v := by rw [← mul_le_iff W]; grind
          omega
        · have hv' : 0 ≤ -v := by omega
          have c1 := Int.mul_le_mul_of_nonneg_right b1 hv'
          have c2 := Int.mul_le_mul_of_nonneg_right b2 hv'
          have d0 : 0 ≤ -e * -v := Int.mul_nonneg he' hv'
          have hdy : 0 ≤ dy := by rw [← mul_le_iff W]; grind
          have k1 : v ≤ y := by rw [← mul_le_iff W]; grind
          have k2 : y ≤ dy - v := by rw [← mul_le_iff W]; grind
          omega
  · have e1 : (dx * v - dy * u) * x = (x * v - y * u) * dx + (dx * y - dy * x) * u := by grind
    have e2 : (dx * v - dy * u) * y = (x * v - y * u) * dy + (dx * y - dy * x) * v := by grind
    generalize dx * v - dy * u = t at *
    generalize x * v - y * u = a at *
    generalize dx * y - dy * x = b at *
    have key : ∀ t a b : Int, 0 < t → 0 ≤ a → a ≤ t → -t ≤ b → b ≤ t → ∀ (d w z : Int), t * z = a * d + b * w → min 0 d - w.natAbs ≤ z ∧ z ≤ max 0 d + w.natAbs := by
      intro t a b h0 h1 h2 h3 h4 d w z hz
      have k1 : a * d ≤ t * max 0 d := by
        by_cases hd : 0 ≤ d
        · rw [show max 0 d = d by omega]; exact Int.mul_le_mul_of_nonneg_right h2 hd
        · rw [show max 0 d = 0 by omega]
          have := Int.mul_nonneg h1 (show 0 ≤ -d by omega)
          grind
      have k2 : t * min 0 d ≤ a * d := by
        by_cases hd : 0 ≤ d
        · rw [show min 0 d = 0 by omega]
          have := Int.mul_nonneg h1 hd
          grind
        · rw [show min 0 d = d by omega]
          have := Int.mul_nonneg (show 0 ≤ t - a by omega) (show 0 ≤ -d by omega)
          grind
      have k3 : b * w ≤ t * w.natAbs ∧ -(t * w.natAbs) ≤ b * w := by
        by_cases hwn : 0 ≤ w
        · rw [show ((w.natAbs : Nat) : Int) = w by omega]
          have q1 := Int.mul_nonneg (show 0 ≤ t - b by omega) hwn
          have q2 := Int.mul_nonneg (show 0 ≤ b + t by omega) hwn
          constructor <;> grind
        · rw [show ((w.natAbs : Nat) : Int) = -w by omega]
          have q1 := Int.mul_nonneg (show 0 ≤ t - b by omega) (show 0 ≤ -w by omega)
          have q2 := Int.mul_nonneg (show 0 ≤ b + t by omega) (show 0 ≤ -w by omega)
          constructor <;> grind
      generalize min 0 d = mn at *
      generalize max 0 d = mx at *
      generalize ((w.natAbs : Nat) : Int) = ww at *
      constructor
      · rw [← mul_le_iff h0]; grind
      · rw [← mul_le_iff h0]; grind
    by_cases hp : 0 < t
    · obtain ⟨⟨a1, a2⟩, b1, b2⟩ := h1 (by omega)
      have r1 := key t a b hp a1 a2 b1 b2 dx u x e1
      have r2 := key t a b hp a1 a2 b1 b2 dy v y e2
      rw [show ((u.natAbs : Nat) : Int) = u by omega] at r1
      exact ⟨r1, r2⟩
    · obtain ⟨⟨a1, a2⟩, b1, b2⟩ := h2 (by omega)
      have r1 := key (-t) (-a) (-b) (by omega) a1 a2 (by omega) (by omega) dx u x (by grind)
      have r2 := key (-t) (-a) (-b) (by omega) a1 a2 (by omega) (by omega) dy v y (by grind)
      rw [show ((u.natAbs : Nat) : Int) = u by omega] at r1
      exact ⟨r1, r2⟩
