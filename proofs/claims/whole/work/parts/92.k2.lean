/-! stores of kinds: what is in them, how many -/
theorem fb_ct_out (p : Nat → Bool) (b : Bool) {i n : Nat} (h : n ≤ i) : fb_ct (fun k => if k = i then b else p k) n = fb_ct p n :=
  fb_ct_cong fun k hk => if_neg (by omega)
theorem fb_ct_upd (p : Nat → Bool) (b : Bool) {i : Nat} : ∀ {n : Nat}, i < n → fb_ct (fun k => if k = i then b else p k) n + (if p i then 1 else 0) = fb_ct p n + (if b then 1 else 0)
  | 0, h => absurd h (Nat.not_lt_zero i)
  | n + 1, h => by
    rw [fb_ct_succ, fb_ct_succ]
    rcases Nat.lt_or_ge i n with q | q
    · have := fb_ct_upd p b q
      have e : (if n = i then b else p n) = p n := if_neg (by omega)
      rw [e]
      omega
    · have e : i = n := by omega
      subst e
      rw [fb_ct_out p b (Nat.le_refl _)]
      simp only [if_true]
      omega
def Ins (st : KS) (z : Int32) : Prop := ∃ j, j < st.2 ∧ st.1 j = z
def Dis (st : KS) : Prop := ∀ i j, i < st.2 → j < st.2 → st.1 i = st.1 j → i = j
theorem anyB_iff (p : Nat → Bool) : ∀ m i, anyB p i m = true ↔ ∃ j, i ≤ j ∧ j < i + m ∧ p j = true
  | 0, i => by simp [anyB]; intro j h1 h2; omega
  | m + 1, i => by
    rw [anyB, Bool.or_eq_true, anyB_iff p m (i + 1)]
    constructor
    · rintro (h | ⟨j, h1, h2, h3⟩)
      · exact ⟨i, by omega, by omega, h⟩
      · exact ⟨j, by omega, by omega, h3⟩
    · rintro ⟨j, h1, h2, h3⟩
      by_cases e : j = i
      · left; rw [← e]; exact h3
      · right; exact ⟨j, by omega, by omega, h3⟩
theorem hasB_iff (st : KS) (z : Int32) : hasB st z = true ↔ Ins st z := by
  unfold hasB Ins
  rw [anyB_iff]
  constructor
  · rintro ⟨j, _, h2, h3⟩; exact ⟨j, by omega, by simpa using h3⟩
  · rintro ⟨j, h2, h3⟩; exact ⟨j, by omega, by omega, by simpa using h3⟩
theorem ins_add (st : KS) (z w : Int32) : Ins (addK1 st z) w ↔ Ins st w ∨ z = w := by
  unfold addK1
  by_cases h : hasB st z = true
  · rw [if_pos h]
    constructor
    · intro q; exact Or.inl q
    · rintro (q | q)
      · exact q
      · rw [← q]; exact (hasB_iff st z).mp h
  · rw [if_neg h]
    unfold Ins
    constructor
    · rintro ⟨j, h1, h2⟩
      simp only [upd] at h1 h2
      by_cases e : j = st.2
      · right; rw [if_pos e] at h2; exact h2
      · left; rw [if_neg e] at h2; exact ⟨j, by omega, h2⟩
    · rintro (⟨j, h1, h2⟩ | q)
      · exact ⟨j, by show j < st.2 + 1; omega, by simp only [upd]; rw [if_neg (by omega)]; exact h2⟩
      · exact ⟨st.2, by show st.2 < st.2 + 1; omega, by simp only [upd, if_true]; exact q⟩
theorem dis_add {st : KS} (d : Dis st) (z : Int32) : Dis (addK1 st z) := by
  unfold addK1
  by_cases h : hasB st z = true
  · rw [if_pos h]; exact d
  · rw [if_neg h]
    have nz : ∀ j, j < st.2 → ¬ st.1 j = z := fun j hj e => h ((hasB_iff st z).mpr ⟨j, hj, e⟩)
    intro i j hi hj e
    simp only [upd] at e
    have hi' : i < st.2 + 1 := hi
    have hj' : j < st.2 + 1 := hj
    by_cases a : i = st.2
    · by_cases b : j = st.2
      · omega
      · rw [if_pos a, if_neg b] at e
        exact absurd e.symm (nz j (by omega))
    · by_cases b : j = st.2
      · rw [if_neg a, if_pos b] at e
        exact absurd e (nz i (by omega))
      · rw [if_neg a, if_neg b] at e
        exact d i j (by omega) (by omega) e
theorem ins_adds (ks : Nat → Int32) (st : KS) (w : Int32) : ∀ n, Ins (addKs ks st n) w ↔ Ins st w ∨ ∃ k, k < n ∧ ks k = w
  | 0 => by simp [addKs]
  | n + 1 => by
    rw [addKs, ins_add, ins_adds ks st w n]
    constructor
    · rintro ((h | ⟨k, h1, h2⟩) | h)
      · exact Or.inl h
      · exact Or.inr ⟨k, by omega, h2⟩
      · exact Or.inr ⟨n, by omega, h⟩
    · rintro (h | ⟨k, h1, h2⟩)
      · exact Or.inl (Or.inl h)
      · by_cases e : k = n
        · right; rw [← e]; exact h2
        · left; right; exact ⟨k, by omega, h2⟩
theorem dis_adds (ks : Nat → Int32) {st : KS} (d : Dis st) : ∀ n, Dis (addKs ks st n)
  | 0 => d
  | n + 1 => dis_add (dis_adds ks d n) _
theorem dis_0 (g : Nat → Int32) : Dis (g, 0) := fun i j hi _ _ => absurd hi (Nat.not_lt_zero i)
theorem ins_0 (g : Nat → Int32) (z : Int32) : ¬ Ins (g, 0) z := fun ⟨j, hj, _⟩ => absurd hj (Nat.not_lt_zero j)
/-- one-to-one pairings count alike -/
theorem pair_le {R : Nat → Nat → Prop} (inj : ∀ j k i, R j i → R k i → j = k) : ∀ n (p q : Nat → Bool) n', (∀ j, j < n → p j = true → ∃ i, i < n' ∧ q i = true ∧ R j i) → fb_ct p n ≤ fb_ct q n'
  | 0, p, q, n', _ => Nat.zero_le _
  | n + 1, p, q, n', h => by
    rw [fb_ct]
    by_cases hp : p n = true
    · obtain ⟨i, hi, qi, ri⟩ := h n (by omega) hp
      have ih := pair_le inj n p (fun k => if k = i then false else q k) n' (by
        intro j hj pj
        obtain ⟨i', hi', qi', ri'⟩ := h j (by omega) pj
        refine ⟨i', hi', ?_, ri'⟩
        by_cases e : i' = i
        · rw [e] at ri'
          have := inj j n i ri' ri
          omega
        · rw [if_neg e]; exact qi')
      have u := fb_ct_upd q false hi
      rw [qi] at u
      simp only [if_true, Bool.false_eq_true, if_false] at u
      rw [hp]
      simp only [if_true]
      omega
    · rw [Bool.eq_false_iff.mpr hp]
      have ih := pair_le inj n p q n' (fun j hj pj => h j (by omega) pj)
      simpa using ih
theorem pair_eq {R : Nat → Nat → Prop} {n n' : Nat} {p q : Nat → Bool} (inj : ∀ j k i, R j i → R k i → j = k) (inj' : ∀ j i k, R j i → R j k → i = k) (h : ∀ j, j < n → p j = true → ∃ i, i < n' ∧ q i = true ∧ R j i) (h' : ∀ i, i < n' → q i = true → ∃ j, j < n ∧ p j = true ∧ R j i) : fb_ct p n = fb_ct q n' :=
  Nat.le_antisymm (pair_le inj n p q n' h) (pair_le (R := fun i j => R j i) (fun j k i a b => inj' i j k a b) n' q p n h')
theorem ct_true : ∀ n, fb_ct (fun _ => true) n = n
  | 0 => rfl
  | n + 1 => by rw [fb_ct, ct_true n]; rfl
/-- two stores that hold the same kinds, each in its own writing -/
def SM (s t : KS) : Prop := Dis s ∧ Dis t ∧ (∀ c, Ins s c → ∃ k, KR c k ∧ Ins t k) ∧ ∀ k, Ins t k → ∃ c, KR c k ∧ Ins s c
theorem SM.ct {s t : KS} (m : SM s t) {p q : Int32 → Bool} (hpq : ∀ c k, KR c k → Ins s c → Ins t k → p c = q k) : fb_ct (fun j => p (s.1 j)) s.2 = fb_ct (fun j => q (t.1 j)) t.2 := by
  obtain ⟨d1, d2, m1, m2⟩ := m
  apply pair_eq (R := fun j i => j < s.2 ∧ i < t.2 ∧ KR (s.1 j) (t.1 i))
  · rintro j k i ⟨a1, a2, a3⟩ ⟨b1, b2, b3⟩
    exact d1 j k a1 b1 (((a3.cmp b3).1).mpr rfl)
  · rintro j i k ⟨a1, a2, a3⟩ ⟨b1, b2, b3⟩
    exact d2 i k a2 b2 (((a3.cmp b3).1).mp rfl)
  · intro j hj pj
    obtain ⟨k, kr, i, hi, e⟩ := m1 (s.1 j) ⟨j, hj, rfl⟩
    refine ⟨i, hi, ?_, hj, hi, by rw [e]; exact kr⟩
    show q (t.1 i) = true
    rw [e, ← hpq _ _ kr ⟨j, hj, rfl⟩ ⟨i, hi, e⟩]; exact pj
  · intro i hi qi
    obtain ⟨c, kr, j, hj, e⟩ := m2 (t.1 i) ⟨i, hi, rfl⟩
    refine ⟨j, hj, ?_, hj, hi, by rw [e]; exact kr⟩
    show p (s.1 j) = true
    rw [e, hpq _ _ kr ⟨j, hj, e⟩ ⟨i, hi, rfl⟩]; exact qi
theorem SM.card {s t : KS} (m : SM s t) : s.2 = t.2 := by
  have := m.ct (p := fun _ => true) (q := fun _ => true) (fun _ _ _ _ _ => rfl)
  rw [ct_true, ct_true] at this
  exact this
/-- how many are before a given one -/
theorem SM.before {s t : KS} (m : SM s t) {z w : Int32} (h : KR z w) : sumN (fun j => bI (decide (s.1 j < z))) s.2 = sumN (fun j => bI (decide (t.1 j < w))) t.2 := by
  rw [sumN_ct, sumN_ct]
  congr 1
  exact m.ct (p := fun c => decide (c < z)) (q := fun k => decide (k < w)) (fun c k kr _ _ => by
    have := (kr.cmp h).2
    by_cases e : c < z
    · rw [decide_eq_true e, decide_eq_true (this.mp e)]
    · rw [decide_eq_false e, decide_eq_false (fun x => e (this.mpr x))])
