/-! kinds of strokes: the two ways of writing them -/
theorem zmul (a b : Nat) : nI a * nI b = nI (a * b) := by
  apply Int32.toBitVec_inj.mp
  show BitVec.ofNat 32 a * BitVec.ofNat 32 b = BitVec.ofNat 32 (a * b)
  rw [BitVec.ofNat_mul]
theorem zinj {a b : Nat} (ha : a < 2147483648) (hb : b < 2147483648) : nI a = nI b ↔ a = b := by
  constructor
  · intro h
    have := congrArg Int32.toInt h
    rw [nI_lo ha, nI_lo hb] at this
    omega
  · intro h; rw [h]
theorem zlt {a b : Nat} (ha : a < 2147483648) (hb : b < 2147483648) : nI a < nI b ↔ a < b := by
  rw [Int32.lt_iff_toInt_lt, nI_lo ha, nI_lo hb]; omega
def rep : Nat → Nat
  | 0 => 0
  | m + 1 => 4 * rep m + 1
/-- how many of the first n digits (base 4) are not 0 -/
def dgN (c : Nat) : Nat → Nat
  | 0 => 0
  | n + 1 => (if c % 4 = 0 then 0 else 1) + dgN (c / 4) n
theorem dgN_0 : ∀ n, dgN 0 n = 0
  | 0 => rfl
  | n + 1 => by simp [dgN, dgN_0 n]
theorem dgN_x : ∀ n c, c < 4 ^ n → dgN c (n + 1) = dgN c n
  | 0, c, h => by
    have : c = 0 := by simpa using h
    subst this; rfl
  | n + 1, c, h => by
    rw [dgN]
    conv => rhs; rw [dgN]
    rw [dgN_x n (c / 4) (by rw [Nat.pow_succ] at h; omega)]
theorem dgN_f (c : Nat) : ∀ n, dgN c n = fb_ct (fun j => decide (¬ c / 4 ^ j % 4 = 0)) n
  | 0 => rfl
  | n + 1 => by
    have : ∀ n c, dgN c (n + 1) = dgN c n + if c / 4 ^ n % 4 = 0 then 0 else 1 := by
      intro n
      induction n with
      | zero => intro c; simp [dgN]
      | succ n ih =>
        intro c
        rw [dgN, ih]
        conv => rhs; rw [dgN]
        rw [Nat.div_div_eq_div_mul, show 4 * 4 ^ n = 4 ^ (n + 1) by rw [Nat.pow_succ]; omega]
        omega
    rw [this, dgN_f c n, fb_ct]
    congr 1
    by_cases h : c / 4 ^ n % 4 = 0 <;> simp [h]
/-- a code of the class and a kind of the reference that say the same -/
def KR (c k : Int32) : Prop := ∃ m v : Nat, m ≤ 7 ∧ v ≤ 2 * rep m ∧ c = nI (v + rep m) ∧ k = nI (16384 * m + v) ∧ ∀ n, m ≤ n → dgN (v + rep m) n = m
theorem rep7 : ∀ m, m ≤ 7 → rep m ≤ 5461 := by decide
theorem rep_lt : ∀ m, m ≤ 7 → ∀ m', m' < m → 3 * rep m' < rep m := by decide
theorem KR.cmp {c k c' k' : Int32} (h : KR c k) (h' : KR c' k') : (c = c' ↔ k = k') ∧ (c < c' ↔ k < k') := by
  obtain ⟨m, v, h1, h2, rfl, rfl, _⟩ := h
  obtain ⟨m', v', h1', h2', rfl, rfl, _⟩ := h'
  have r := rep7 m h1
  have r' := rep7 m' h1'
  rw [zinj (by omega) (by omega), zinj (by omega) (by omega), zlt (by omega) (by omega), zlt (by omega) (by omega)]
  rcases Nat.lt_trichotomy m m' with q | q | q
  · have := rep_lt m' h1' m q
    omega
  · subst q; omega
  · have := rep_lt m h1 m' q
    omega
theorem kst_inv {so : Nat → Int32} : ∀ i, i ≤ 7 → (∀ j, j < i → ∃ s : Nat, s ≤ 2 ∧ so j = nI s) → ∃ m v : Nat, m ≤ i ∧ v ≤ 2 * rep m ∧ (kcF so i).1 = nI (v + rep m) ∧ (kcF so i).2 = (kstF so i).2.1 ∧ (kstF so i).1 = nI m ∧ (kstF so i).2.2 = nI v ∧ ∀ n, m ≤ n → dgN (v + rep m) n = m
  | 0, _, _ => ⟨0, 0, by omega, by omega, rfl, rfl, rfl, rfl, fun n _ => dgN_0 n⟩
  | i + 1, hi, h => by
    obtain ⟨m, v, h1, h2, e1, e2, e3, e4, e5⟩ := kst_inv i (by omega) (fun j hj => h j (by omega))
    obtain ⟨s, hs, es⟩ := h i (by omega)
    rw [kcF, kstF, e2]
    by_cases hc : so i = (kstF so i).2.1
    · rw [if_pos hc, if_pos hc]
      exact ⟨m, v, by omega, h2, e1, e2, e3, e4, e5⟩
    · rw [if_neg hc, if_neg hc]
      refine ⟨m + 1, 4 * v + s, by omega, by rw [rep]; omega, ?_, rfl, ?_, ?_, ?_⟩
      · show (kcF so i).1 * 4 + so i + 1 = _
        rw [e1, es, show (4 : Int32) = nI 4 from rfl, zmul, zadd, show (1 : Int32) = nI 1 from rfl, zadd, rep]
        congr 1
        omega
      · show (kstF so i).1 + 1 = _
        rw [e3]; exact zadd m 1
      · show 4 * (kstF so i).2.2 + so i = _
        rw [e4, es, show (4 : Int32) = nI 4 from rfl, zmul, zadd]
      · intro n hn
        cases n with
        | zero => omega
        | succ n =>
          rw [dgN, rep]
          have q1 : ¬ (4 * v + s + (4 * rep m + 1)) % 4 = 0 := by omega
          have q2 : (4 * v + s + (4 * rep m + 1)) / 4 = v + rep m := by omega
          rw [if_neg q1, q2, e5 n (by omega)]
          omega
theorem kcF_cong {so so' : Nat → Int32} : ∀ {i : Nat}, (∀ j, j < i → so j = so' j) → kcF so i = kcF so' i
  | 0, _ => rfl
  | i + 1, h => by rw [kcF, kcF, kcF_cong (fun j hj => h j (by omega)), h i (by omega)]
theorem sortF_n (dx dy u v lim : Int32) : ∃ s : Nat, s ≤ 2 ∧ sortF dx dy u v lim = nI s := by
  unfold sortF
  split
  · exact ⟨0, by omega, rfl⟩
  · split
    · exact ⟨1, by omega, rfl⟩
    · exact ⟨2, by omega, rfl⟩
theorem STR.kr {d : PD} {k : Nat} {A : Nat → Nat → Int32} {a : Nat} (s : STR d k A a) (lim : Int32) : KR (kcP d k lim) (kindA A lim a) := by
  obtain ⟨e1, n1, n8, eu, ev, ⟨iu, iv, _⟩, se, _⟩ := s
  unfold kcP kcC kindA
  rw [e1, eu, ev]
  have hc : ∀ j, j < pA A a - 1 → soC (d.2.2.2.2.1 k) (d.2.2.2.2.2.1 k) (A 29 a) (A 30 a) lim j = soA A lim a j := by
    intro j hj
    rw [so_eq se (ir_wk iu (by omega) (by omega)) iv lim (by omega)]
    rfl
  rw [kcF_cong hc]
  obtain ⟨m, v, h1, h2, e1, e2, e3, e4, e5⟩ := kst_inv (so := soA A lim a) (pA A a - 1) (by omega) (fun j _ => sortF_n _ _ _ _ _)
  refine ⟨m, v, by omega, h2, e1, ?_, e5⟩
  rw [e3, e4, show (16384 : Int32) = nI 16384 from rfl, zmul, zadd]
theorem KR.len {c k : Int32} (h : KR c k) : lenC c = k / 16384 := by
  obtain ⟨m, v, h1, h2, rfl, rfl, h3⟩ := h
  have r := rep7 m h1
  have e : nI (16384 * m + v) / 16384 = nI m := by
    apply Int32.toInt_inj.mp
    rw [Int32.toInt_div, nI_lo (by omega), nI_lo (by omega), show (16384 : Int32).toInt = 16384 from rfl, Int.tdiv_eq_ediv_of_nonneg (by omega), fb_bmod (by omega) (by omega)]
    omega
  rw [e]
  unfold lenC
  conv => rhs; rw [← h3 8 (by omega), dgN_f, ← sumN_ct]
  apply sumN_cong
  intro j hj
  rw [nI_u _ (2 * j) (by omega) (by omega), show (3 : Int32) = nI 3 from rfl, nI_and, show (0 : Int32) = nI 0 from rfl]
  congr 1
  have e3 : ∀ z : Nat, z &&& 3 = z % 4 := fun z => Nat.and_two_pow_sub_one_eq_mod z 2
  rw [e3, Nat.pow_mul, show 2 ^ 2 = 4 from rfl]
  congr 1
  rw [zinj (by omega) (by omega)]
