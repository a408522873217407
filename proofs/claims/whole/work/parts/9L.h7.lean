/-! pairs of calls: what a letter is like; joins -/
theorem gB_iff (f : Nat → Bool) : ∀ n, gB f n = true ↔ ∃ k, k < n ∧ f k = true
  | 0 => by simp [gB]
  | n + 1 => by
    rw [gB, Bool.or_eq_true, gB_iff f n]
    constructor
    · rintro (⟨k, h1, h2⟩ | h)
      · exact ⟨k, by omega, h2⟩
      · exact ⟨n, by omega, h⟩
    · rintro ⟨k, h1, h2⟩
      by_cases e : k = n
      · subst e; exact Or.inr h2
      · exact Or.inl ⟨k, by omega, h2⟩
theorem orF_bt (W : Nat → Int32) (x : Nat) : ∀ n, bt (orF W n) x = gB (fun y => bt (W y) x) n
  | 0 => by rw [orF, gB, b_0]
  | n + 1 => by rw [orF, gB, b_or, orF_bt W x n]
theorem col_eq {W g : Nat → Int32} (hW : ∀ y, y < 32 → W y = g y) {x : Nat} (hx : x < 32) : biC (orF W 32) x = colB g x := by
  rw [biC_bt _ hx, orF_bt]
  apply Bool.eq_iff_iff.mpr
  unfold colB
  rw [gB_iff, anyB_iff]
  constructor
  · rintro ⟨y, hy, e⟩; exact ⟨y, by omega, by omega, by rw [inB_bt _ _ hx, ← hW y hy]; exact e⟩
  · rintro ⟨y, _, hy, e⟩; exact ⟨y, by omega, by rw [inB_bt _ _ hx, ← hW y (by omega)] at e; exact e⟩
theorem least_cong {p q : Nat → Bool} (h : ∀ x, x < 32 → p x = q x) : ∀ m, m ≤ 32 → leastF p m = leastF q m
  | 0, _ => rfl
  | m + 1, hm => by rw [leastF, leastF, h (31 - m) (by omega), least_cong h m (by omega)]
theorem great_cong {p q : Nat → Bool} (h : ∀ x, x < 32 → p x = q x) : ∀ m, m ≤ 32 → greatF p m = greatF q m
  | 0, _ => rfl
  | m + 1, hm => by rw [greatF, greatF, h m (by omega), great_cong h m (by omega)]
theorem meet_cong {f g f' g' : Nat → Int32} (h1 : ∀ y, y < 32 → f y = f' y) (h2 : ∀ y, y < 32 → g y = g' y) : ∀ m, m ≤ 32 → meetB f g m = meetB f' g' m
  | 0, _ => rfl
  | m + 1, hm => by rw [meetB, meetB, h1 (31 - m) (by omega), h2 (31 - m) (by omega), meet_cong h1 h2 m (by omega)]
section P
variable {h : Hp} {K : KK} {I A : Nat → Nat → Int32}
theorem ol_eq {N : Nat} (hN : N = 1024) (D : DR K I A) {n : Nat} (hn : n < 26) (g g2 g' qf df f : Nat → Int32) (s : FS) {i : Nat} (hi : i ≤ 6) : olF N (K.D n) K.2.2.1 g g2 s i = olM A (I 24 13) n g' qf df f (nI i) := by
  have mk := D.2.2.2.1
  have hW := D.ik (gr := n) (by omega) g g'
  unfold olM
  rcases (show i = 0 ∨ i = 1 ∨ i = 2 ∨ i = 3 ∨ i = 4 ∨ i = 5 ∨ i = 6 by omega) with rfl | rfl | rfl | rfl | rfl | rfl | rfl
  · rw [if_pos (show nI 0 = 0 from rfl), (mk.1 n (by omega)).1, ← D.2.2.2.2.cnt (by omega)]; rfl
  · rw [if_neg (show ¬ nI 1 = 0 by decide), if_pos (show nI 1 = 1 from rfl)]
    exact cb_eq hW
  · rw [if_neg (show ¬ nI 2 = 0 by decide), if_neg (show ¬ nI 2 = 1 by decide), if_pos (show nI 2 = 2 from rfl)]
    exact pieces_eq hN hW s qf df
  · rw [if_neg (show ¬ nI 3 = 0 by decide), if_neg (show ¬ nI 3 = 1 by decide), if_neg (show ¬ nI 3 = 2 by decide), if_pos (show nI 3 = 3 from rfl)]
    exact counters_eq hN hW s qf df
  · rw [if_neg (show ¬ nI 4 = 0 by decide), if_neg (show ¬ nI 4 = 1 by decide), if_neg (show ¬ nI 4 = 2 by decide), if_neg (show ¬ nI 4 = 3 by decide), if_pos (show nI 4 = 4 from rfl), ← D.1.2.2.1, ← (one_SM (D.2.2.2.2 n (by omega)) K.2.2.1 g2 f).card]; rfl
  · rw [if_neg (show ¬ nI 5 = 0 by decide), if_neg (show ¬ nI 5 = 1 by decide), if_neg (show ¬ nI 5 = 2 by decide), if_neg (show ¬ nI 5 = 3 by decide), if_neg (show ¬ nI 5 = 4 by decide), if_pos (show nI 5 = 5 from rfl)]
    exact least_cong (fun x hx => col_eq hW hx) 32 (by omega)
  · rw [if_neg (show ¬ nI 6 = 0 by decide), if_neg (show ¬ nI 6 = 1 by decide), if_neg (show ¬ nI 6 = 2 by decide), if_neg (show ¬ nI 6 = 3 by decide), if_neg (show ¬ nI 6 = 4 by decide), if_neg (show ¬ nI 6 = 5 by decide), if_pos (show nI 6 = 6 from rfl)]
    exact great_cong (fun x hx => col_eq hW hx) 32 (by omega)
theorem p_ofLetter (W : WI h K I A) (k w : Int32) : PAIR 84 167 [.int k, .int w] h := by
  have D := W.2.2.1
  have mk := D.2.2.2.1
  obtain ⟨N, hN⟩ : ∃ N, N = 1024 := ⟨_, rfl⟩
  cases s : isL A k
  · exact mk0 W (.int (-1)) (fun Q hq => x_ofLetter hN W.1 k w (fun g g2 t => by rw [lB_eq D, s]; exact hq)) (fun h' M' Q hq => r_ofLetterNo M' s hq) D
  · obtain ⟨n, hn, rfl, en⟩ := isL_x s
    cases c : wB w 0 6
    · refine mk0 W (.int (-2)) (fun Q hq => x_ofLetter hN W.1 (nI n) w (fun g g2 t => by rw [lB_eq D, s, if_pos rfl, c]; exact hq)) (fun h' M' Q hq => r_ofLetter M' mk hn s w (fun g qf df f => ?_)) D
      have g0 : ¬ w = 0 := fun z => by rw [z] at c; exact absurd c (by decide)
      have g1 : ¬ w = 1 := fun z => by rw [z] at c; exact absurd c (by decide)
      have g2 : ¬ w = 2 := fun z => by rw [z] at c; exact absurd c (by decide)
      have g3 : ¬ w = 3 := fun z => by rw [z] at c; exact absurd c (by decide)
      have g4 : ¬ w = 4 := fun z => by rw [z] at c; exact absurd c (by decide)
      have g5 : ¬ w = 5 := fun z => by rw [z] at c; exact absurd c (by decide)
      have g6 : ¬ w = 6 := fun z => by rw [z] at c; exact absurd c (by decide)
      unfold olM
      rw [if_neg g0, if_neg g1, if_neg g2, if_neg g3, if_neg g4, if_neg g5, if_neg g6]; exact hq
    · obtain ⟨i, hi, rfl⟩ := wB_lit (n := 6) (by omega) c
      have ei : (nI i).toNatClampNeg = i := nq_cl (by omega)
      generalize hv : olF N (K.D n) K.2.2.1 (fun _ => 0) (fun _ => 0) (fun _ => 0, fun _ => 0, 0) i = v
      have em : ∀ g qf df f, olM A (I 24 13) n g qf df f (nI i) = v := fun g qf df f => by rw [← hv]; exact (ol_eq hN D hn _ _ _ _ _ _ _ hi).symm
      exact mk0 W (.int v) (fun Q hq => x_ofLetter hN W.1 (nI n) (nI i) (fun g g2 t => by rw [lB_eq D, s, if_pos rfl, c, if_pos rfl, en, ei, ol_eq hN D hn g g2 (fun _ => 0) (fun _ => 0) (fun _ => 0) (fun _ => 0) t hi, em]; exact hq)) (fun h' M' Q hq => r_ofLetter M' mk hn s (nI i) (fun g qf df f => by rw [em]; exact hq)) D
theorem DR.mxy (D : DR K I A) : MXY A := by
  intro g k j hg hk hj
  have s := (D.2.2.2.2 g hg).2 k (by rw [D.2.2.2.2.cnt hg]; exact hk)
  have e := s.2.2.2.2.2.2.1 j hj
  rw [e.1, e.2.1] at e
  obtain ⟨x, hx, ex⟩ := ir_nat (b := 31) e.2.2.1
  obtain ⟨y, hy, ey⟩ := ir_nat (b := 31) e.2.2.2
  exact ⟨x, y, by omega, by omega, ex, ey⟩
theorem DR.pin (D : DR K I A) : PIN (K.D 26) := by
  intro k j hk hj
  have s := (D.2.2.2.2 26 (by omega)).2 k hk
  rw [s.1] at hj
  have e := s.2.2.2.2.2.2.1 j hj
  obtain ⟨x, hx, ex⟩ := ir_nat (b := 31) e.2.2.1
  obtain ⟨y, hy, ey⟩ := ir_nat (b := 31) e.2.2.2
  exact ⟨x, y, by omega, by omega, ex, ey⟩
theorem STR.en {d : PD} {k : Nat} (s : STR d k A (156 + k)) : d.2.2.2.2.1 k 0 = A 31 (8 * (156 + k)) ∧ d.2.2.2.2.2.1 k 0 = A 32 (8 * (156 + k)) ∧ d.2.2.2.2.1 k (d.2.1 k - 1) = A 31 (endP A k) ∧ d.2.2.2.2.2.1 k (d.2.1 k - 1) = A 32 (endP A k) ∧ (A 31 (8 * (156 + k))).toNatClampNeg < 32 ∧ (A 32 (8 * (156 + k))).toNatClampNeg < 32 ∧ (A 31 (endP A k)).toNatClampNeg < 32 ∧ (A 32 (endP A k)).toNatClampNeg < 32 := by
  have se := s.2.2.2.2.2.2.1
  have a := se 0 (by have := s.2.1; omega)
  have b := se (pA A (156 + k) - 1) (by have := s.2.1; omega)
  have cl : ∀ {z : Int32}, IR z 0 31 → z.toNatClampNeg < 32 := fun {z} hz => by
    obtain ⟨x, hx, e⟩ := ir_nat (b := 31) hz
    rw [e, nq_cl (by omega)]; omega
  have a1 : d.2.2.2.2.1 k 0 = A 31 (8 * (156 + k)) := a.1
  have a2 : d.2.2.2.2.2.1 k 0 = A 32 (8 * (156 + k)) := a.2.1
  have b1 : d.2.2.2.2.1 k (pA A (156 + k) - 1) = A 31 (endP A k) := b.1
  have b2 : d.2.2.2.2.2.1 k (pA A (156 + k) - 1) = A 32 (endP A k) := b.2.1
  rw [s.1]
  exact ⟨a1, a2, b1, b2, by rw [← a1]; exact cl a.2.2.1, by rw [← a2]; exact cl a.2.2.2, by rw [← b1]; exact cl b.2.2.1, by rw [← b2]; exact cl b.2.2.2⟩
theorem jn_eq {d : PD} {k l : Nat} (sk : STR d k A (156 + k)) (sl : STR d l A (156 + l)) (g f : Nat → Int32) : jnC d k l = joinV A g f k l := by
  obtain ⟨k1, k2, k3, k4, b1, b2, b3, b4⟩ := sk.en
  obtain ⟨l1, l2, l3, l4, c1, c2, c3, c4⟩ := sl.en
  have e1 : shC d k l = shareB A k l := by
    unfold shC shareB alikeB
    rw [k1, k2, k3, k4, l1, l2, l3, l4]
    apply Bool.eq_iff_iff.mpr
    simp only [Bool.or_eq_true, decide_eq_true_iff]
    constructor
    · rintro ((⟨x, y⟩ | ⟨x, y⟩) | (⟨x, y⟩ | ⟨x, y⟩))
      · exact Or.inl ⟨x.symm, y.symm⟩
      · exact Or.inr (Or.inl ⟨x.symm, y.symm⟩)
      · exact Or.inr (Or.inr (Or.inl ⟨x.symm, y.symm⟩))
      · exact Or.inr (Or.inr (Or.inr ⟨x.symm, y.symm⟩))
    · rintro (⟨x, y⟩ | ⟨x, y⟩ | ⟨x, y⟩ | ⟨x, y⟩)
      · exact Or.inl (Or.inl ⟨x.symm, y.symm⟩)
      · exact Or.inl (Or.inr ⟨x.symm, y.symm⟩)
      · exact Or.inr (Or.inl ⟨x.symm, y.symm⟩)
      · exact Or.inr (Or.inr ⟨x.symm, y.symm⟩)
  have e2 : ∀ g, eiC d k l = endsB A k (inkS A (156 + l) g) := by
    intro g
    unfold eiC endsB xA yA
    rw [k1, k2, k3, k4, inC_bt _ _ b1, inC_bt _ _ b3, inB_bt _ _ b1, inB_bt _ _ b3, sl.row g b2, sl.row g b4]
  have e3 : ∀ g, eiC d l k = endsB A l (inkS A (156 + k) g) := by
    intro g
    unfold eiC endsB xA yA
    rw [l1, l2, l3, l4, inC_bt _ _ c1, inC_bt _ _ c3, inB_bt _ _ c1, inB_bt _ _ c3, sk.row g c2, sk.row g c4]
  unfold jnC joinV
  rw [e1, e2 g, e3 (inkS A (156 + l) g)]
  have e4 : meetB (d.2.2.2.2.2.2 k) (d.2.2.2.2.2.2 l) 32 = meetB (gmix 32 (inkS A (156 + k) (inkS A (156 + k) (inkS A (156 + l) g))) f) (inkS A (156 + l) (inkS A (156 + k) (inkS A (156 + k) (inkS A (156 + l) g)))) 32 :=
    meet_cong (fun y hy => by rw [gmix_lt hy]; exact sk.row _ hy) (fun y hy => sl.row _ hy) 32 (by omega)
  rw [e4]
theorem p_join (W : WI h K I A) (k l : Int32) : PAIR 78 149 [.int k, .int l] h := by
  have D := W.2.2.1
  have mk := D.2.2.2.1
  by_cases c : skB K k = true ∧ skB K l = true
  · obtain ⟨i, hi, hi6, ei, si, hmi, ci⟩ := D.st c.1
    obtain ⟨j, hj, hj6, ej, sj, hmj, cj⟩ := D.st c.2
    by_cases e : k = l
    · subst e
      exact mk0 W (.int (-3)) (fun Q hq => x_join W.1 D.pin k k (by rw [if_pos c, if_pos rfl]; exact hq)) (fun h' M' Q hq => r_joinSame M' hmi hq) D
    · have ne : i ≠ j := fun z => e (by rw [ei, ej, z])
      subst ei
      subst ej
      exact mk0 W (.int (jnC (K.D 26) i j)) (fun Q hq => x_join W.1 D.pin (nI i) (nI j) (by rw [if_pos c, if_neg e, ci, cj]; exact hq)) (fun h' M' Q hq => r_join M' mk D.mxy hi hj ne (fun g f => by rw [← jn_eq si sj g f]; exact hq)) D
  · exact mk0 W (.int (-1)) (fun Q hq => x_join W.1 D.pin k l (by rw [if_neg c]; exact hq)) (fun h' M' Q hq => r_joinNo M' (by rw [← skB_eq D, ← skB_eq D]; exact c) hq) D
end P
