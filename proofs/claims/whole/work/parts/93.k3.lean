/-! the kinds of all strokes -/
theorem addP_eq (d : PD) (lim : Int32) (st : KS) : addP d lim st = addKs (fun k => kcP d k lim) st d.1 := rfl
theorem ins_addP (d : PD) (lim : Int32) (st : KS) (w : Int32) : Ins (addP d lim st) w ↔ Ins st w ∨ ∃ k, k < d.1 ∧ kcP d k lim = w := ins_adds _ _ _ _
theorem ins_addL (D : Nat → PD) (lim : Int32) (st : KS) (w : Int32) : ∀ n, Ins (addL D lim st n) w ↔ Ins st w ∨ ∃ g k, g < n ∧ k < (D g).1 ∧ kcP (D g) k lim = w
  | 0 => by simp [addL]
  | n + 1 => by
    rw [addL, ins_addP, ins_addL D lim st w n]
    constructor
    · rintro ((h | ⟨g, k, h1, h2, h3⟩) | ⟨k, h2, h3⟩)
      · exact Or.inl h
      · exact Or.inr ⟨g, k, by omega, h2, h3⟩
      · exact Or.inr ⟨n, k, by omega, h2, h3⟩
    · rintro (h | ⟨g, k, h1, h2, h3⟩)
      · exact Or.inl (Or.inl h)
      · by_cases e : g = n
        · subst e; exact Or.inr ⟨k, h2, h3⟩
        · exact Or.inl (Or.inr ⟨g, k, by omega, h2, h3⟩)
theorem dis_addL (D : Nat → PD) (lim : Int32) {st : KS} (d : Dis st) : ∀ n, Dis (addL D lim st n)
  | 0 => d
  | n + 1 => dis_adds _ (dis_addL D lim d n) _
theorem ins_allKs (A : Nat → Nat → Int32) (lim : Int32) (st : KS) (w : Int32) : ∀ n, Ins (allKs A lim st n) w ↔ Ins st w ∨ ∃ g k, g < n ∧ k < cA A g ∧ kindA A lim (6 * g + k) = w
  | 0 => by simp [allKs]
  | n + 1 => by
    rw [allKs, ins_adds, ins_allKs A lim st w n]
    constructor
    · rintro ((h | ⟨g, k, h1, h2, h3⟩) | ⟨k, h2, h3⟩)
      · exact Or.inl h
      · exact Or.inr ⟨g, k, by omega, h2, h3⟩
      · exact Or.inr ⟨n, k, by omega, h2, h3⟩
    · rintro (h | ⟨g, k, h1, h2, h3⟩)
      · exact Or.inl (Or.inl h)
      · by_cases e : g = n
        · subst e; exact Or.inr ⟨k, h2, h3⟩
        · exact Or.inl (Or.inr ⟨g, k, by omega, h2, h3⟩)
theorem dis_allKs (A : Nat → Nat → Int32) (lim : Int32) {st : KS} (d : Dis st) : ∀ n, Dis (allKs A lim st n)
  | 0 => d
  | n + 1 => dis_adds _ (dis_allKs A lim d n) _
/-- all strokes of all groups answer to each other -/
def AllR (D : Nat → PD) (A : Nat → Nat → Int32) : Prop := ∀ g, g < 27 → SR (D g) A g
theorem all_SM {D : Nat → PD} {A : Nat → Nat → Int32} (r : AllR D A) (lim : Int32) (g g' : Nat → Int32) : SM (addL D lim (addP (D 26) lim (g, 0)) 26) (allKs A lim (g', 0) 27) := by
  have hin : ∀ c, Ins (addL D lim (addP (D 26) lim (g, 0)) 26) c ↔ ∃ a k, a < 27 ∧ k < (D a).1 ∧ kcP (D a) k lim = c := by
    intro c
    rw [ins_addL, ins_addP]
    constructor
    · rintro ((h | ⟨k, h2, h3⟩) | ⟨a, k, h1, h2, h3⟩)
      · exact absurd h (ins_0 g c)
      · exact ⟨26, k, by omega, h2, h3⟩
      · exact ⟨a, k, by omega, h2, h3⟩
    · rintro ⟨a, k, h1, h2, h3⟩
      by_cases e : a = 26
      · subst e; exact Or.inl (Or.inr ⟨k, h2, h3⟩)
      · exact Or.inr ⟨a, k, by omega, h2, h3⟩
  refine ⟨dis_addL D lim (dis_adds _ (dis_0 g) _) 26, dis_allKs A lim (dis_0 g') 27, ?_, ?_⟩
  · intro c hc
    obtain ⟨a, k, h1, h2, rfl⟩ := (hin c).mp hc
    exact ⟨_, ((r a h1).2 k h2).kr lim, (ins_allKs _ _ _ _ _).mpr (Or.inr ⟨a, k, h1, by rw [← (r a h1).1]; exact h2, rfl⟩)⟩
  · intro w hw
    rcases (ins_allKs _ _ _ _ _).mp hw with h | ⟨a, k, h1, h2, rfl⟩
    · exact absurd h (ins_0 g' w)
    · have h2' : k < (D a).1 := by rw [(r a h1).1]; exact h2
      exact ⟨_, ((r a h1).2 k h2').kr lim, (hin _).mpr ⟨a, k, h1, h2', rfl⟩⟩
theorem one_SM {d : PD} {A : Nat → Nat → Int32} {a : Nat} (r : SR d A a) (lim : Int32) (g g' : Nat → Int32) : SM (addP d lim (g, 0)) (addKs (fun k => kindA A lim (6 * a + k)) (g', 0) (cA A a)) := by
  refine ⟨dis_adds _ (dis_0 g) _, dis_adds _ (dis_0 g') _, ?_, ?_⟩
  · intro c hc
    rcases (ins_addP _ _ _ _).mp hc with h | ⟨k, h2, rfl⟩
    · exact absurd h (ins_0 g c)
    · exact ⟨_, (r.2 k h2).kr lim, (ins_adds _ _ _ _).mpr (Or.inr ⟨k, by rw [← r.1]; exact h2, rfl⟩)⟩
  · intro w hw
    rcases (ins_adds _ _ _ _).mp hw with h | ⟨k, h2, rfl⟩
    · exact absurd h (ins_0 g' w)
    · have h2' : k < d.1 := by rw [r.1]; exact h2
      exact ⟨_, (r.2 k h2').kr lim, (ins_addP _ _ _ _).mpr (Or.inr ⟨k, h2', rfl⟩)⟩
/-- more is added on both sides -/
theorem SM.add {s t : KS} (m : SM s t) {d : PD} {A : Nat → Nat → Int32} {a : Nat} (r : SR d A a) (lim : Int32) : SM (addP d lim s) (addKs (fun k => kindA A lim (6 * a + k)) t (cA A a)) := by
  obtain ⟨d1, d2, m1, m2⟩ := m
  refine ⟨dis_adds _ d1 _, dis_adds _ d2 _, ?_, ?_⟩
  · intro c hc
    rcases (ins_addP _ _ _ _).mp hc with h | ⟨k, h2, rfl⟩
    · obtain ⟨w, kr, iw⟩ := m1 c h
      exact ⟨w, kr, (ins_adds _ _ _ _).mpr (Or.inl iw)⟩
    · exact ⟨_, (r.2 k h2).kr lim, (ins_adds _ _ _ _).mpr (Or.inr ⟨k, by rw [← r.1]; exact h2, rfl⟩)⟩
  · intro w hw
    rcases (ins_adds _ _ _ _).mp hw with h | ⟨k, h2, rfl⟩
    · obtain ⟨c, kr, ic⟩ := m2 w h
      exact ⟨c, kr, (ins_addP _ _ _ _).mpr (Or.inl ic)⟩
    · have h2' : k < d.1 := by rw [r.1]; exact h2
      exact ⟨_, (r.2 k h2').kr lim, (ins_addP _ _ _ _).mpr (Or.inr ⟨k, h2', rfl⟩)⟩
/-- how many kinds of a letter are new -/
theorem new_eq {s t : KS} (m : SM s t) {d : PD} {A : Nat → Nat → Int32} {a : Nat} (r : SR d A a) (lim : Int32) (g : Nat → Int32) : notK (addP d lim (g, 0)) s (addP d lim (g, 0)).2 = nkV A lim t a := by
  have ms := m.add r lim
  unfold notK nkV
  rw [sumN_ct]
  congr 1
  have dP : Dis (addP d lim (g, 0)) := dis_adds _ (dis_0 g) _
  have kp := addKs_keep (fun k => kindA A lim (6 * a + k)) t (cA A a)
  have e : fb_ct (fun j => decide (t.2 ≤ j)) (addG A lim a t).2 = (addG A lim a t).2 - t.2 := by
    have : ∀ n, fb_ct (fun j => decide (t.2 ≤ j)) n = n - t.2 := by
      intro n
      induction n with
      | zero => simp [fb_ct]
      | succ n ih =>
        rw [fb_ct, ih]
        by_cases h : t.2 ≤ n <;> simp [h] <;> omega
    exact this _
  rw [← e]
  obtain ⟨d1, d2, m1, m2⟩ := m
  have dG : Dis (addG A lim a t) := dis_adds _ d2 _
  apply pair_eq (R := fun j i => j < (addP d lim (g, 0)).2 ∧ i < (addG A lim a t).2 ∧ KR ((addP d lim (g, 0)).1 j) ((addG A lim a t).1 i))
  · rintro j k i ⟨a1, a2, a3⟩ ⟨b1, b2, b3⟩
    exact dP j k a1 b1 (((a3.cmp b3).1).mpr rfl)
  · rintro j i k ⟨a1, a2, a3⟩ ⟨b1, b2, b3⟩
    exact dG i k a2 b2 (((a3.cmp b3).1).mp rfl)
  · intro j hj pj
    have nin : ¬ Ins s ((addP d lim (g, 0)).1 j) := by
      intro z
      have pj' : hasB s ((addP d lim (g, 0)).1 j) = false := by simpa using pj
      rw [(hasB_iff _ _).mpr z] at pj'
      exact absurd pj' (by decide)
    rcases (ins_addP d lim (g, 0) ((addP d lim (g, 0)).1 j)).mp ⟨j, hj, rfl⟩ with h | ⟨k, h2, ek⟩
    · exact absurd h (ins_0 g _)
    · have kr := (r.2 k h2).kr lim
      have h2' : k < cA A a := by rw [← r.1]; exact h2
      obtain ⟨i, hi, ei⟩ := (ins_adds (fun k => kindA A lim (6 * a + k)) t (kindA A lim (6 * a + k)) (cA A a)).mpr (Or.inr ⟨k, h2', rfl⟩)
      refine ⟨i, hi, ?_, hj, hi, ?_⟩
      · apply decide_eq_true
        apply Nat.le_of_not_lt
        intro hlt
        have e1 : t.1 i = kindA A lim (6 * a + k) := by rw [← kp.2 i hlt]; exact ei
        obtain ⟨c, krc, ic⟩ := m2 _ ⟨i, hlt, e1⟩
        have := ((kr.cmp krc).1).mpr rfl
        rw [← ek, this] at nin
        exact nin ic
      · rw [← ek]
        have : (addG A lim a t).1 i = kindA A lim (6 * a + k) := ei
        rw [this]; exact kr
  · intro i hi qi
    have hge : t.2 ≤ i := by simpa using qi
    have nin : ¬ Ins t ((addG A lim a t).1 i) := by
      rintro ⟨j, hj, ej⟩
      have := dG j i (Nat.lt_of_lt_of_le hj kp.1) hi (by
        have e2 : (addG A lim a t).1 j = t.1 j := kp.2 j hj
        rw [e2]; exact ej)
      omega
    rcases (ins_adds (fun k => kindA A lim (6 * a + k)) t ((addG A lim a t).1 i) (cA A a)).mp ⟨i, hi, rfl⟩ with h | ⟨k, h2, ek⟩
    · exact absurd h nin
    · have h2' : k < d.1 := by rw [r.1]; exact h2
      have kr := (r.2 k h2').kr lim
      obtain ⟨j, hj, ej⟩ := (ins_addP d lim (g, 0) (kcP d k lim)).mpr (Or.inr ⟨k, h2', rfl⟩)
      refine ⟨j, hj, ?_, hj, hi, ?_⟩
      · apply decide_eq_true
        apply Bool.eq_false_iff.mpr
        intro z
        rw [ej] at z
        obtain ⟨w, krw, iw⟩ := m1 _ ((hasB_iff _ _).mp z)
        have := ((kr.cmp krw).1).mp rfl
        have ek' : kindA A lim (6 * a + k) = (addG A lim a t).1 i := ek
        rw [← ek', this] at nin
        exact nin iw
      · have ek' : kindA A lim (6 * a + k) = (addG A lim a t).1 i := ek
        rw [ej, ← ek']; exact kr
