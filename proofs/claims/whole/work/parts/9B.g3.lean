/-! common divisors; the two states side by side; a pair of calls -/
theorem rem_n {a b : Nat} (ha : a < 2147483648) (hb : b < 2147483648) (h0 : 0 < b) : nI a - nI a / nI b * nI b = nI (a % b) := by
  have e : nI a / nI b = nI (a / b) := by
    have hl : a / b ≤ a := Nat.div_le_self a b
    have hI : ((a : Int) / (b : Int)) = ((a / b : Nat) : Int) := rfl
    apply Int32.toInt_inj.mp
    rw [Int32.toInt_div, nI_lo ha, nI_lo hb, Int.tdiv_eq_ediv_of_nonneg (by omega), hI]
    generalize a / b = q at *
    rw [nI_lo (by omega), fb_bmod (by omega) (by omega)]
  have hm : a / b * b ≤ a := Nat.div_mul_le_self a b
  rw [e, zmul, nI_sub hm]
  congr 1
  have := Nat.div_add_mod a b
  rw [Nat.mul_comm] at this
  omega
theorem ge_ok : ∀ b x y, x < 2147483648 → y < 2 ^ b → y < 2147483648 → gcdEnds (2 * b) (nI x) (nI y)
  | 0, x, y, hx, hy, _ => by
    have : y = 0 := by simpa using hy
    subst this; rfl
  | b + 1, x, y, hx, hy, hy2 => by
    rw [show 2 * (b + 1) = 2 * b + 1 + 1 by omega]
    by_cases h0 : y = 0
    · subst h0; exact Or.inl rfl
    · right
      rw [rem_n hx hy2 (by omega)]
      have hr : x % y < y := Nat.mod_lt _ (by omega)
      by_cases h1 : x % y = 0
      · rw [h1]; exact Or.inl rfl
      · right
        rw [rem_n hy2 (by omega) (by omega)]
        have h2 : y % (x % y) < x % y := Nat.mod_lt _ (by omega)
        have h3 : 2 * (y % (x % y)) < y := by
          by_cases hh : 2 * (x % y) ≤ y
          · omega
          · have : y % (x % y) = y - x % y := by
              rw [Nat.mod_eq_sub_mod (by omega), Nat.mod_eq_of_lt (by omega)]
            omega
        exact ge_ok b _ _ (by omega) (by rw [Nat.pow_succ] at hy; omega) (by omega)
theorem ge_up : ∀ n x y, gcdEnds n x y → gcdEnds (n + 1) x y
  | 0, _, _, h => Or.inl h
  | n + 1, x, y, h => by
    rcases h with h | h
    · exact Or.inl h
    · exact Or.inr (ge_up n _ _ h)
theorem ge_64 {x y : Nat} (hx : x < 2147483648) (hy : y < 1073741824) : gcdEnds 64 (nI x) (nI y) :=
  ge_up _ _ _ (ge_up _ _ _ (ge_up _ _ _ (ge_up _ _ _ (ge_ok 30 x y hx (by omega) (by omega)))))
theorem gcd_n0 : ∀ n (x y : Int32), gcdEnds n x y → ¬ (x = 0 ∧ y = 0) → ¬ gcdF n x y = 0
  | 0, x, y, h, hn => by
    have h' : y = 0 := h
    rw [gcdF]; exact fun z => hn ⟨z, h'⟩
  | n + 1, x, y, h, hn => by
    rw [gcdF]
    by_cases h0 : y = 0
    · rw [if_pos h0]; exact fun z => hn ⟨z, h0⟩
    · rw [if_neg h0]
      rcases h with h | h
      · exact absurd h h0
      · exact gcd_n0 n _ _ h (fun z => h0 z.1)
theorem ir_nat {z : Int32} {b : Nat} (h : IR z 0 b) : ∃ x, x ≤ b ∧ z = nI x := by
  have h1 := h.1
  have h2 := h.2
  have r := fb_rng z
  refine ⟨z.toInt.toNat, by omega, ?_⟩
  apply Int32.toInt_inj.mp
  rw [nI_lo (by omega)]
  omega
/-- the class's state beside the reference's -/
def DR (K : KK) (I A : Nat → Nat → Int32) : Prop :=
  (K.1 = I 24 0 ∧ K.2.1 = I 24 1 ∧ K.2.2.1 = I 24 13 ∧ IR K.1 0 6 ∧ IR K.2.1 (-6) 6 ∧ ¬ (K.1 = 0 ∧ K.2.1 = 0)) ∧
  (I 24 2 = nI K.2.2.2.1 ∧ K.2.2.2.1 ≤ 8 ∧ SE K.2.2.2.1 K.2.2.2.2.1 K.2.2.2.2.2.1 (A 25) (A 26) ∧ ∀ j, j + 1 < K.2.2.2.1 → ¬ (K.2.2.2.2.1 (j + 1) = K.2.2.2.2.1 j ∧ K.2.2.2.2.2.1 (j + 1) = K.2.2.2.2.2.1 j)) ∧
  (K.2.2.2.2.2.2.1 = I 24 22 ∧ (I 24 22 = -9 ∨ ∃ n : Nat, n ≤ 64 ∧ I 24 22 = nI n) ∧ ∀ n j, n ≤ 64 → I 24 22 = nI n → j < n → K.2.2.2.2.2.2.2.1 j = A 39 j) ∧ MOK A ∧ AllR K.D A
theorem cA_pm {I A I' A' : Nat → Nat → Int32} (p : PM I A I' A') (g : Nat) : cA A' g = cA A g := by unfold cA; rw [p.2.1 27 (by omega) (by omega)]
theorem pA_pm {I A I' A' : Nat → Nat → Int32} (p : PM I A I' A') (g : Nat) : pA A' g = pA A g := by unfold pA; rw [p.2.1 28 (by omega) (by omega)]
theorem DR.pm {K : KK} {I A I' A' : Nat → Nat → Int32} (d : DR K I A) (p : PM I A I' A') : DR K I' A' := by
  obtain ⟨⟨p0, p1, p2, p13, p22⟩, pa, p39⟩ := p
  have p : PM I A I' A' := ⟨⟨p0, p1, p2, p13, p22⟩, pa, p39⟩
  obtain ⟨d1, d2, d3, mk, ar⟩ := d
  refine ⟨?_, ?_, ?_, ?_, ?_⟩
  · rw [p0, p1, p13]; exact d1
  · rw [p2, pa 25 (by omega) (by omega), pa 26 (by omega) (by omega)]; exact d2
  · rw [p22, p39]; exact d3
  · unfold MOK at *
    simp only [cA_pm p, pA_pm p, pa 27 (by omega) (by omega), pa 28 (by omega) (by omega)]
    exact mk
  · intro g hg
    have := ar g hg
    unfold SR STR at *
    simp only [cA_pm p, pA_pm p, pa 29 (by omega) (by omega), pa 30 (by omega) (by omega), pa 31 (by omega) (by omega), pa 32 (by omega) (by omega)]
    exact this
/-- what holds between two calls -/
def WI (h : Hp) (K : KK) (I A : Nat → Nat → Int32) : Prop := CZ h K ∧ MH h I A ∧ DR K I A ∧ 40 ≤ h.1
def NEXT (h h' : Hp) : Prop := (∃ K I A, WI h' K I A) ∧ h'.1 ≤ h.1 + 4 ∧ h'.2.1 ≤ h.2.1 + 54 ∧ h'.2.2 0 = h.2.2 0
def PAIRv (mi mi' : Nat) (args : List Value) (h : Hp) (v : Value) : Prop := ∃ S : Hp → Prop, (∀ Q, (∀ h', S h' → Q (some v) h') → Call mi (.ref 1 :: args) h Q) ∧ ∀ h', S h' → h'.2.2 0 = h.2.2 0 ∧ (∃ fs, h'.2.2 24 = some (ob 10 fs)) ∧ ∀ Q, (∀ h'', NEXT h h'' → Q (some v) h'') → Call mi' (.ref 24 :: args) h' Q
def PAIR (mi mi' : Nat) (args : List Value) (h : Hp) : Prop := ∃ w : Int32, PAIRv mi mi' args h (.int w)
def PAIRL (mi mi' : Nat) (args : List Value) (h : Hp) : Prop := ∃ w : Int64, PAIRv mi mi' args h (.long w)
