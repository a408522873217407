/-! NUMBERS for the walks -/
theorem fa_lit (n : Nat) : (OfNat.ofNat n : Int32) = nI n := rfl
theorem nq_add (a b : Nat) : nI a + nI b = nI (a + b) := nI_add a b
theorem nq_mul (a b : Nat) : nI a * nI b = nI (a * b) := pk_mul a b
theorem nq_sub {a b : Nat} (h : b ≤ a) : nI a - nI b = nI (a - b) := pk_sub h
theorem nq_cl {n : Nat} (h : n < 2147483648) : (nI n).toNatClampNeg = n := nI_clamp h
theorem nq_in {c N : Nat} (h : c < N) (hN : N < 2147483648) : (nI c < 0 ∨ N ≤ (nI c).toNatClampNeg) = False := eq_false (nI_in h hN)
theorem nq_lt {a b : Nat} (ha : a < 2147483648) (hb : b < 2147483648) : (nI a < nI b) = (a < b) := propext (nI_ltI ha hb)
theorem nq_le {a b : Nat} (ha : a < 2147483648) (hb : b < 2147483648) : (nI a ≤ nI b) = (a ≤ b) := propext (nI_leI ha hb)
theorem nq_ge {a b : Nat} (ha : a < 2147483648) (hb : b < 2147483648) : (nI a ≥ nI b) = (b ≤ a) := propext (nI_leI hb ha)
theorem nq_gt {a b : Nat} (ha : a < 2147483648) (hb : b < 2147483648) : (nI a > nI b) = (b < a) := propext (nI_ltI hb ha)
theorem nq_eq {a b : Nat} (ha : a < 2147483648) (hb : b < 2147483648) : (nI a = nI b) = (a = b) := propext (nI_eq ha hb)
/-- an answer of yes or no -/
def bI (b : Bool) : Int32 := if b then 1 else 0
theorem bI_eq0 (b : Bool) : (bI b = 0) = (b = false) := by cases b <;> simp [bI]
theorem bI_eq1 (b : Bool) : (bI b = 1) = (b = true) := by cases b <;> simp [bI]
theorem bI_z (b : Bool) : (bI b = 0 ∨ bI b = 1) = True := by cases b <;> simp [bI]
theorem bft (b : Bool) : (b = false ∨ b = true) = True := by cases b <;> simp
theorem bI_t : bI true = 1 := rfl
theorem bI_f : bI false = 0 := rfl
theorem bI_nar (b : Bool) : vp_nar .boolean (bI b) = bI b := by cases b <;> rfl
theorem nar0 : vp_nar .boolean 0 = 0 := rfl
theorem nar1 : vp_nar .boolean 1 = 1 := rfl
theorem i01 : ((0 : Int32) = 1) = False := by simp
theorem i10 : ((1 : Int32) = 0) = False := by simp
theorem or_tl {p : Prop} : (True ∨ p) = True := by simp
theorem or_tr {p : Prop} : (p ∨ True) = True := by simp
/-- rows of which the first i are new -/
def gmix {α : Type} (i : Nat) (nw od : Nat → α) : Nat → α := fun j => if j < i then nw j else od j
theorem gmix_0 {α : Type} (nw od : Nat → α) : gmix 0 nw od = od := by funext j; simp [gmix]
theorem gmix_at {α : Type} (i : Nat) (nw od : Nat → α) : gmix i nw od i = od i := by simp [gmix]
theorem gmix_lt {α : Type} {i j : Nat} {nw od : Nat → α} (h : j < i) : gmix i nw od j = nw j := by simp [gmix, h]
theorem gmix_ge {α : Type} {i j : Nat} {nw od : Nat → α} (h : i ≤ j) : gmix i nw od j = od j := by simp [gmix, Nat.not_lt.mpr h]
theorem upd_gmix {i : Nat} {nw od : Nat → Int32} {x : Int32} (hx : x = nw i) : upd (gmix i nw od) i x = gmix (i + 1) nw od := by
  funext j
  simp only [upd, gmix]
  by_cases h1 : j = i
  · subst h1; simp [hx]
  · have : (j < i + 1) = (j < i) := by apply propext; omega
    simp [h1, this]
theorem upd_self (f : Nat → Int32) (i : Nat) (x : Int32) : upd f i x i = x := by simp [upd]
theorem upd_ne (f : Nat → Int32) {i j : Nat} (x : Int32) (h : j ≠ i) : upd f i x j = f j := by simp [upd, h]
theorem upd_upd (f : Nat → Int32) (i : Nat) (x y : Int32) : upd (upd f i x) i y = upd f i y := by
  funext j; simp only [upd]; split <;> rfl
theorem nq_nin {a N : Nat} (h : a < N) : (a < 0 ∨ N ≤ a) = False := by simp; omega
theorem hset_hset (h : Hp) (k : Nat) (e e' : AE) : hset (hset h k e) k e' = hset h k e' := by
  unfold hset
  simp only
  congr 2
  funext j
  split <;> rfl
theorem hset_swap (h : Hp) {k k' : Nat} (hk : k ≠ k') (e e' : AE) : hset (hset h k e) k' e' = hset (hset h k' e') k e := by
  unfold hset
  simp only
  congr 2
  funext j
  by_cases h1 : j = k'
  · subst h1; simp [Ne.symm hk]
  · simp [h1]
abbrev ia (t n : Nat) (f : Nat → Int32) : AE := .inr (.inl (t, n, f))
abbrev ra (t n : Nat) (f : Nat → Option Nat) : AE := .inr (.inr (t, n, f))
abbrev ob (ci : Nat) (fs : List Value) : AE := .inl (ci, fs)
theorem nq_addl_0 (a : Nat) : nI a + (0 : Int32) = nI (a + 0) := nI_add a 0
theorem nq_ladd_0 (a : Nat) : (0 : Int32) + nI a = nI (0 + a) := nI_add 0 a
theorem nq_lmul_0 (a : Nat) : (0 : Int32) * nI a = nI (0 * a) := pk_mul 0 a
theorem nq_mull_0 (a : Nat) : nI a * (0 : Int32) = nI (a * 0) := pk_mul a 0
theorem nq_subl_0 {a : Nat} (h : 0 ≤ a) : nI a - (0 : Int32) = nI (a - 0) := pk_sub (b := 0) h
theorem nq_cll_0 : ((0 : Int32)).toNatClampNeg = 0 := nI_clamp (n := 0) (by decide)
theorem nq_inl_0 {N : Nat} (h : 0 < N) (hN : N < 2147483648) : ((0 : Int32) < 0 ∨ N ≤ ((0 : Int32)).toNatClampNeg) = False := eq_false (nI_in h hN)
theorem nq_ltl_0 {a : Nat} (ha : a < 2147483648) : (nI a < (0 : Int32)) = (a < 0) := propext (nI_ltI ha (b := 0) (by decide))
theorem nq_lel_0 {a : Nat} (ha : a < 2147483648) : (nI a ≤ (0 : Int32)) = (a ≤ 0) := propext (nI_leI ha (b := 0) (by decide))
theorem nq_gel_0 {a : Nat} (ha : a < 2147483648) : (nI a ≥ (0 : Int32)) = (0 ≤ a) := propext (nI_leI (a := 0) (by decide) ha)
theorem nq_gtl_0 {a : Nat} (ha : a < 2147483648) : (nI a > (0 : Int32)) = (0 < a) := propext (nI_ltI (a := 0) (by decide) ha)
theorem nq_eql_0 {a : Nat} (ha : a < 2147483648) : (nI a = (0 : Int32)) = (a = 0) := propext (nI_eq ha (b := 0) (by decide))
theorem nq_addl_1 (a : Nat) : nI a + (1 : Int32) = nI (a + 1) := nI_add a 1
theorem nq_ladd_1 (a : Nat) : (1 : Int32) + nI a = nI (1 + a) := nI_add 1 a
theorem nq_lmul_1 (a : Nat) : (1 : Int32) * nI a = nI (1 * a) := pk_mul 1 a
theorem nq_mull_1 (a : Nat) : nI a * (1 : Int32) = nI (a * 1) := pk_mul a 1
theorem nq_subl_1 {a : Nat} (h : 1 ≤ a) : nI a - (1 : Int32) = nI (a - 1) := pk_sub (b := 1) h
theorem nq_cll_1 : ((1 : Int32)).toNatClampNeg = 1 := nI_clamp (n := 1) (by decide)
theorem nq_inl_1 {N : Nat} (h : 1 < N) (hN : N < 2147483648) : ((1 : Int32) < 0 ∨ N ≤ ((1 : Int32)).toNatClampNeg) = False := eq_false (nI_in h hN)
theorem nq_ltl_1 {a : Nat} (ha : a < 2147483648) : (nI a < (1 : Int32)) = (a < 1) := propext (nI_ltI ha (b := 1) (by decide))
theorem nq_lel_1 {a : Nat} (ha : a < 2147483648) : (nI a ≤ (1 : Int32)) = (a ≤ 1) := propext (nI_leI ha (b := 1) (by decide))
theorem nq_gel_1 {a : Nat} (ha : a < 2147483648) : (nI a ≥ (1 : Int32)) = (1 ≤ a) := propext (nI_leI (a := 1) (by decide) ha)
theorem nq_gtl_1 {a : Nat} (ha : a < 2147483648) : (nI a > (1 : Int32)) = (1 < a) := propext (nI_ltI (a := 1) (by decide) ha)
theorem nq_eql_1 {a : Nat} (ha : a < 2147483648) : (nI a = (1 : Int32)) = (a = 1) := propext (nI_eq ha (b := 1) (by decide))
theorem nq_div_1 {a : Nat} (ha : a < 2147483648) : nI a / (1 : Int32) = nI (a / 1) := pk_div ha (d := 1) (by decide) (by decide)
theorem nq_rem_1 {a : Nat} (ha : a < 2147483648) : nI a - nI a / (1 : Int32) * (1 : Int32) = nI (a % 1) := pk_rem ha (d := 1) (by decide) (by decide)
theorem nq_addl_2 (a : Nat) : nI a + (2 : Int32) = nI (a + 2) := nI_add a 2
theorem nq_ladd_2 (a : Nat) : (2 : Int32) + nI a = nI (2 + a) := nI_add 2 a
theorem nq_lmul_2 (a : Nat) : (2 : Int32) * nI a = nI (2 * a) := pk_mul 2 a
theorem nq_mull_2 (a : Nat) : nI a * (2 : Int32) = nI (a * 2) := pk_mul a 2
theorem nq_subl_2 {a : Nat} (h : 2 ≤ a) : nI a - (2 : Int32) = nI (a - 2) := pk_sub (b := 2) h
theorem nq_cll_2 : ((2 : Int32)).toNatClampNeg = 2 := nI_clamp (n := 2) (by decide)
theorem nq_inl_2 {N : Nat} (h : 2 < N) (hN : N < 2147483648) : ((2 : Int32) < 0 ∨ N ≤ ((2 : Int32)).toNatClampNeg) = False := eq_false (nI_in h hN)
theorem nq_ltl_2 {a : Nat} (ha : a < 2147483648) : (nI a < (2 : Int32)) = (a < 2) := propext (nI_ltI ha (b := 2) (by decide))
theorem nq_lel_2 {a : Nat} (ha : a < 2147483648) : (nI a ≤ (2 : Int32)) = (a ≤ 2) := propext (nI_leI ha (b := 2) (by decide))
theorem nq_gel_2 {a : Nat} (ha : a < 2147483648) : (nI a ≥ (2 : Int32)) = (2 ≤ a) := propext (nI_leI (a := 2) (by decide) ha)
theorem nq_gtl_2 {a : Nat} (ha : a < 2147483648) : (nI a > (2 : Int32)) = (2 < a) := propext (nI_ltI (a := 2) (by decide) ha)
theorem nq_eql_2 {a : Nat} (ha : a < 2147483648) : (nI a = (2 : Int32)) = (a = 2) := propext (nI_eq ha (b := 2) (by decide))
theorem nq_div_2 {a : Nat} (ha : a < 2147483648) : nI a / (2 : Int32) = nI (a / 2) := pk_div ha (d := 2) (by decide) (by decide)
theorem nq_rem_2 {a : Nat} (ha : a < 2147483648) : nI a - nI a / (2 : Int32) * (2 : Int32) = nI (a % 2) := pk_rem ha (d := 2) (by decide) (by decide)
theorem nq_addl_3 (a : Nat) : nI a + (3 : Int32) = nI (a + 3) := nI_add a 3
theorem nq_ladd_3 (a : Nat) : (3 : Int32) + nI a = nI (3 + a) := nI_add 3 a
theorem nq_lmul_3 (a : Nat) : (3 : Int32) * nI a = nI (3 * a) := pk_mul 3 a
theorem nq_mull_3 (a : Nat) : nI a * (3 : Int32) = nI (a * 3) := pk_mul a 3
theorem nq_subl_3 {a : Nat} (h : 3 ≤ a) : nI a - (3 : Int32) = nI (a - 3) := pk_sub (b := 3) h
theorem nq_cll_3 : ((3 : Int32)).toNatClampNeg = 3 := nI_clamp (n := 3) (by decide)
theorem nq_inl_3 {N : Nat} (h : 3 < N) (hN : N < 2147483648) : ((3 : Int32) < 0 ∨ N ≤ ((3 : Int32)).toNatClampNeg) = False := eq_false (nI_in h hN)
theorem nq_ltl_3 {a : Nat} (ha : a < 2147483648) : (nI a < (3 : Int32)) = (a < 3) := propext (nI_ltI ha (b := 3) (by decide))
theorem nq_lel_3 {a : Nat} (ha : a < 2147483648) : (nI a ≤ (3 : Int32)) = (a ≤ 3) := propext (nI_leI ha (b := 3) (by decide))
theorem nq_gel_3 {a : Nat} (ha : a < 2147483648) : (nI a ≥ (3 : Int32)) = (3 ≤ a) := propext (nI_leI (a := 3) (by decide) ha)
theorem nq_gtl_3 {a : Nat} (ha : a < 2147483648) : (nI a > (3 : Int32)) = (3 < a) := propext (nI_ltI (a := 3) (by decide) ha)
theorem nq_eql_3 {a : Nat} (ha : a < 2147483648) : (nI a = (3 : Int32)) = (a = 3) := propext (nI_eq ha (b := 3) (by decide))
theorem nq_div_3 {a : Nat} (ha : a < 2147483648) : nI a / (3 : Int32) = nI (a / 3) := pk_div ha (d := 3) (by decide) (by decide)
theorem nq_rem_3 {a : Nat} (ha : a < 2147483648) : nI a - nI a / (3 : Int32) * (3 : Int32) = nI (a % 3) := pk_rem ha (d := 3) (by decide) (by decide)
theorem nq_addl_4 (a : Nat) : nI a + (4 : Int32) = nI (a + 4) := nI_add a 4
theorem nq_ladd_4 (a : Nat) : (4 : Int32) + nI a = nI (4 + a) := nI_add 4 a
theorem nq_lmul_4 (a : Nat) : (4 : Int32) * nI a = nI (4 * a) := pk_mul 4 a
theorem nq_mull_4 (a : Nat) : nI a * (4 : Int32) = nI (a * 4) := pk_mul a 4
theorem nq_subl_4 {a : Nat} (h : 4 ≤ a) : nI a - (4 : Int32) = nI (a - 4) := pk_sub (b := 4) h
theorem nq_cll_4 : ((4 : Int32)).toNatClampNeg = 4 := nI_clamp (n := 4) (by decide)
theorem nq_inl_4 {N : Nat} (h : 4 < N) (hN : N < 2147483648) : ((4 : Int32) < 0 ∨ N ≤ ((4 : Int32)).toNatClampNeg) = False := eq_false (nI_in h hN)
theorem nq_ltl_4 {a : Nat} (ha : a < 2147483648) : (nI a < (4 : Int32)) = (a < 4) := propext (nI_ltI ha (b := 4) (by decide))
theorem nq_lel_4 {a : Nat} (ha : a < 2147483648) : (nI a ≤ (4 : Int32)) = (a ≤ 4) := propext (nI_leI ha (b := 4) (by decide))
theorem nq_gel_4 {a : Nat} (ha : a < 2147483648) : (nI a ≥ (4 : Int32)) = (4 ≤ a) := propext (nI_leI (a := 4) (by decide) ha)
theorem nq_gtl_4 {a : Nat} (ha : a < 2147483648) : (nI a > (4 : Int32)) = (4 < a) := propext (nI_ltI (a := 4) (by decide) ha)
theorem nq_eql_4 {a : Nat} (ha : a < 2147483648) : (nI a = (4 : Int32)) = (a = 4) := propext (nI_eq ha (b := 4) (by decide))
theorem nq_div_4 {a : Nat} (ha : a < 2147483648) : nI a / (4 : Int32) = nI (a / 4) := pk_div ha (d := 4) (by decide) (by decide)
theorem nq_rem_4 {a : Nat} (ha : a < 2147483648) : nI a - nI a / (4 : Int32) * (4 : Int32) = nI (a % 4) := pk_rem ha (d := 4) (by decide) (by decide)
theorem nq_addl_5 (a : Nat) : nI a + (5 : Int32) = nI (a + 5) := nI_add a 5
theorem nq_ladd_5 (a : Nat) : (5 : Int32) + nI a = nI (5 + a) := nI_add 5 a
theorem nq_lmul_5 (a : Nat) : (5 : Int32) * nI a = nI (5 * a) := pk_mul 5 a
theorem nq_mull_5 (a : Nat) : nI a * (5 : Int32) = nI (a * 5) := pk_mul a 5
theorem nq_subl_5 {a : Nat} (h : 5 ≤ a) : nI a - (5 : Int32) = nI (a - 5) := pk_sub (b := 5) h
theorem nq_cll_5 : ((5 : Int32)).toNatClampNeg = 5 := nI_clamp (n := 5) (by decide)
theorem nq_inl_5 {N : Nat} (h : 5 < N) (hN : N < 2147483648) : ((5 : Int32) < 0 ∨ N ≤ ((5 : Int32)).toNatClampNeg) = False := eq_false (nI_in h hN)
theorem nq_ltl_5 {a : Nat} (ha : a < 2147483648) : (nI a < (5 : Int32)) = (a < 5) := propext (nI_ltI ha (b := 5) (by decide))
theorem nq_lel_5 {a : Nat} (ha : a < 2147483648) : (nI a ≤ (5 : Int32)) = (a ≤ 5) := propext (nI_leI ha (b := 5) (by decide))
theorem nq_gel_5 {a : Nat} (ha : a < 2147483648) : (nI a ≥ (5 : Int32)) = (5 ≤ a) := propext (nI_leI (a := 5) (by decide) ha)
theorem nq_gtl_5 {a : Nat} (ha : a < 2147483648) : (nI a > (5 : Int32)) = (5 < a) := propext (nI_ltI (a := 5) (by decide) ha)
theorem nq_eql_5 {a : Nat} (ha : a < 2147483648) : (nI a = (5 : Int32)) = (a = 5) := propext (nI_eq ha (b := 5) (by decide))
theorem nq_div_5 {a : Nat} (ha : a < 2147483648) : nI a / (5 : Int32) = nI (a / 5) := pk_div ha (d := 5) (by decide) (by decide)
theorem nq_rem_5 {a : Nat} (ha : a < 2147483648) : nI a - nI a / (5 : Int32) * (5 : Int32) = nI (a % 5) := pk_rem ha (d := 5) (by decide) (by decide)
theorem nq_addl_6 (a : Nat) : nI a + (6 : Int32) = nI (a + 6) := nI_add a 6
theorem nq_ladd_6 (a : Nat) : (6 : Int32) + nI a = nI (6 + a) := nI_add 6 a
theorem nq_lmul_6 (a : Nat) : (6 : Int32) * nI a = nI (6 * a) := pk_mul 6 a
theorem nq_mull_6 (a : Nat) : nI a * (6 : Int32) = nI (a * 6) := pk_mul a 6
theorem nq_subl_6 {a : Nat} (h : 6 ≤ a) : nI a - (6 : Int32) = nI (a - 6) := pk_sub (b := 6) h
theorem nq_cll_6 : ((6 : Int32)).toNatClampNeg = 6 := nI_clamp (n := 6) (by decide)
theorem nq_inl_6 {N : Nat} (h : 6 < N) (hN : N < 2147483648) : ((6 : Int32) < 0 ∨ N ≤ ((6 : Int32)).toNatClampNeg) = False := eq_false (nI_in h hN)
theorem nq_ltl_6 {a : Nat} (ha : a < 2147483648) : (nI a < (6 : Int32)) = (a < 6) := propext (nI_ltI ha (b := 6) (by decide))
theorem nq_lel_6 {a : Nat} (ha : a < 2147483648) : (nI a ≤ (6 : Int32)) = (a ≤ 6) := propext (nI_leI ha (b := 6) (by decide))
theorem nq_gel_6 {a : Nat} (ha : a < 2147483648) : (nI a ≥ (6 : Int32)) = (6 ≤ a) := propext (nI_leI (a := 6) (by decide) ha)
theorem nq_gtl_6 {a : Nat} (ha : a < 2147483648) : (nI a > (6 : Int32)) = (6 < a) := propext (nI_ltI (a := 6) (by decide) ha)
theorem nq_eql_6 {a : Nat} (ha : a < 2147483648) : (nI a = (6 : Int32)) = (a = 6) := propext (nI_eq ha (b := 6) (by decide))
theorem nq_div_6 {a : Nat} (ha : a < 2147483648) : nI a / (6 : Int32) = nI (a / 6) := pk_div ha (d := 6) (by decide) (by decide)
theorem nq_rem_6 {a : Nat} (ha : a < 2147483648) : nI a - nI a / (6 : Int32) * (6 : Int32) = nI (a % 6) := pk_rem ha (d := 6) (by decide) (by decide)
theorem nq_addl_7 (a : Nat) : nI a + (7 : Int32) = nI (a + 7) := nI_add a 7
theorem nq_ladd_7 (a : Nat) : (7 : Int32) + nI a = nI (7 + a) := nI_add 7 a
theorem nq_lmul_7 (a : Nat) : (7 : Int32) * nI a = nI (7 * a) := pk_mul 7 a
theorem nq_mull_7 (a : Nat) : nI a * (7 : Int32) = nI (a * 7) := pk_mul a 7
theorem nq_subl_7 {a : Nat} (h : 7 ≤ a) : nI a - (7 : Int32) = nI (a - 7) := pk_sub (b := 7) h
theorem nq_cll_7 : ((7 : Int32)).toNatClampNeg = 7 := nI_clamp (n := 7) (by decide)
theorem nq_inl_7 {N : Nat} (h : 7 < N) (hN : N < 2147483648) : ((7 : Int32) < 0 ∨ N ≤ ((7 : Int32)).toNatClampNeg) = False := eq_false (nI_in h hN)
theorem nq_ltl_7 {a : Nat} (ha : a < 2147483648) : (nI a < (7 : Int32)) = (a < 7) := propext (nI_ltI ha (b := 7) (by decide))
theorem nq_lel_7 {a : Nat} (ha : a < 2147483648) : (nI a ≤ (7 : Int32)) = (a ≤ 7) := propext (nI_leI ha (b := 7) (by decide))
theorem nq_gel_7 {a : Nat} (ha : a < 2147483648) : (nI a ≥ (7 : Int32)) = (7 ≤ a) := propext (nI_leI (a := 7) (by decide) ha)
theorem nq_gtl_7 {a : Nat} (ha : a < 2147483648) : (nI a > (7 : Int32)) = (7 < a) := propext (nI_ltI (a := 7) (by decide) ha)
theorem nq_eql_7 {a : Nat} (ha : a < 2147483648) : (nI a = (7 : Int32)) = (a = 7) := propext (nI_eq ha (b := 7) (by decide))
theorem nq_div_7 {a : Nat} (ha : a < 2147483648) : nI a / (7 : Int32) = nI (a / 7) := pk_div ha (d := 7) (by decide) (by decide)
theorem nq_rem_7 {a : Nat} (ha : a < 2147483648) : nI a - nI a / (7 : Int32) * (7 : Int32) = nI (a % 7) := pk_rem ha (d := 7) (by decide) (by decide)
theorem nq_addl_8 (a : Nat) : nI a + (8 : Int32) = nI (a + 8) := nI_add a 8
theorem nq_ladd_8 (a : Nat) : (8 : Int32) + nI a = nI (8 + a) := nI_add 8 a
theorem nq_lmul_8 (a : Nat) : (8 : Int32) * nI a = nI (8 * a) := pk_mul 8 a
theorem nq_mull_8 (a : Nat) : nI a * (8 : Int32) = nI (a * 8) := pk_mul a 8
theorem nq_subl_8 {a : Nat} (h : 8 ≤ a) : nI a - (8 : Int32) = nI (a - 8) := pk_sub (b := 8) h
theorem nq_cll_8 : ((8 : Int32)).toNatClampNeg = 8 := nI_clamp (n := 8) (by decide)
theorem nq_inl_8 {N : Nat} (h : 8 < N) (hN : N < 2147483648) : ((8 : Int32) < 0 ∨ N ≤ ((8 : Int32)).toNatClampNeg) = False := eq_false (nI_in h hN)
theorem nq_ltl_8 {a : Nat} (ha : a < 2147483648) : (nI a < (8 : Int32)) = (a < 8) := propext (nI_ltI ha (b := 8) (by decide))
theorem nq_lel_8 {a : Nat} (ha : a < 2147483648) : (nI a ≤ (8 : Int32)) = (a ≤ 8) := propext (nI_leI ha (b := 8) (by decide))
theorem nq_gel_8 {a : Nat} (ha : a < 2147483648) : (nI a ≥ (8 : Int32)) = (8 ≤ a) := propext (nI_leI (a := 8) (by decide) ha)
theorem nq_gtl_8 {a : Nat} (ha : a < 2147483648) : (nI a > (8 : Int32)) = (8 < a) := propext (nI_ltI (a := 8) (by decide) ha)
theorem nq_eql_8 {a : Nat} (ha : a < 2147483648) : (nI a = (8 : Int32)) = (a = 8) := propext (nI_eq ha (b := 8) (by decide))
theorem nq_div_8 {a : Nat} (ha : a < 2147483648) : nI a / (8 : Int32) = nI (a / 8) := pk_div ha (d := 8) (by decide) (by decide)
theorem nq_rem_8 {a : Nat} (ha : a < 2147483648) : nI a - nI a / (8 : Int32) * (8 : Int32) = nI (a % 8) := pk_rem ha (d := 8) (by decide) (by decide)
theorem nq_addl_9 (a : Nat) : nI a + (9 : Int32) = nI (a + 9) := nI_add a 9
theorem nq_ladd_9 (a : Nat) : (9 : Int32) + nI a = nI (9 + a) := nI_add 9 a
theorem nq_lmul_9 (a : Nat) : (9 : Int32) * nI a = nI (9 * a) := pk_mul 9 a
theorem nq_mull_9 (a : Nat) : nI a * (9 : Int32) = nI (a * 9) := pk_mul a 9
theorem nq_subl_9 {a : Nat} (h : 9 ≤ a) : nI a - (9 : Int32) = nI (a - 9) := pk_sub (b := 9) h
theorem nq_cll_9 : ((9 : Int32)).toNatClampNeg = 9 := nI_clamp (n := 9) (by decide)
theorem nq_inl_9 {N : Nat} (h : 9 < N) (hN : N < 2147483648) : ((9 : Int32) < 0 ∨ N ≤ ((9 : Int32)).toNatClampNeg) = False := eq_false (nI_in h hN)
theorem nq_ltl_9 {a : Nat} (ha : a < 2147483648) : (nI a < (9 : Int32)) = (a < 9) := propext (nI_ltI ha (b := 9) (by decide))
theorem nq_lel_9 {a : Nat} (ha : a < 2147483648) : (nI a ≤ (9 : Int32)) = (a ≤ 9) := propext (nI_leI ha (b := 9) (by decide))
theorem nq_gel_9 {a : Nat} (ha : a < 2147483648) : (nI a ≥ (9 : Int32)) = (9 ≤ a) := propext (nI_leI (a := 9) (by decide) ha)
theorem nq_gtl_9 {a : Nat} (ha : a < 2147483648) : (nI a > (9 : Int32)) = (9 < a) := propext (nI_ltI (a := 9) (by decide) ha)
theorem nq_eql_9 {a : Nat} (ha : a < 2147483648) : (nI a = (9 : Int32)) = (a = 9) := propext (nI_eq ha (b := 9) (by decide))
theorem nq_div_9 {a : Nat} (ha : a < 2147483648) : nI a / (9 : Int32) = nI (a / 9) := pk_div ha (d := 9) (by decide) (by decide)
theorem nq_rem_9 {a : Nat} (ha : a < 2147483648) : nI a - nI a / (9 : Int32) * (9 : Int32) = nI (a % 9) := pk_rem ha (d := 9) (by decide) (by decide)
theorem nq_addl_10 (a : Nat) : nI a + (10 : Int32) = nI (a + 10) := nI_add a 10
theorem nq_ladd_10 (a : Nat) : (10 : Int32) + nI a = nI (10 + a) := nI_add 10 a
theorem nq_lmul_10 (a : Nat) : (10 : Int32) * nI a = nI (10 * a) := pk_mul 10 a
theorem nq_mull_10 (a : Nat) : nI a * (10 : Int32) = nI (a * 10) := pk_mul a 10
theorem nq_subl_10 {a : Nat} (h : 10 ≤ a) : nI a - (10 : Int32) = nI (a - 10) := pk_sub (b := 10) h
theorem nq_cll_10 : ((10 : Int32)).toNatClampNeg = 10 := nI_clamp (n := 10) (by decide)
theorem nq_inl_10 {N : Nat} (h : 10 < N) (hN : N < 2147483648) : ((10 : Int32) < 0 ∨ N ≤ ((10 : Int32)).toNatClampNeg) = False := eq_false (nI_in h hN)
theorem nq_ltl_10 {a : Nat} (ha : a < 2147483648) : (nI a < (10 : Int32)) = (a < 10) := propext (nI_ltI ha (b := 10) (by decide))
theorem nq_lel_10 {a : Nat} (ha : a < 2147483648) : (nI a ≤ (10 : Int32)) = (a ≤ 10) := propext (nI_leI ha (b := 10) (by decide))
theorem nq_gel_10 {a : Nat} (ha : a < 2147483648) : (nI a ≥ (10 : Int32)) = (10 ≤ a) := propext (nI_leI (a := 10) (by decide) ha)
theorem nq_gtl_10 {a : Nat} (ha : a < 2147483648) : (nI a > (10 : Int32)) = (10 < a) := propext (nI_ltI (a := 10) (by decide) ha)
theorem nq_eql_10 {a : Nat} (ha : a < 2147483648) : (nI a = (10 : Int32)) = (a = 10) := propext (nI_eq ha (b := 10) (by decide))
theorem nq_div_10 {a : Nat} (ha : a < 2147483648) : nI a / (10 : Int32) = nI (a / 10) := pk_div ha (d := 10) (by decide) (by decide)
theorem nq_rem_10 {a : Nat} (ha : a < 2147483648) : nI a - nI a / (10 : Int32) * (10 : Int32) = nI (a % 10) := pk_rem ha (d := 10) (by decide) (by decide)
theorem nq_addl_16 (a : Nat) : nI a + (16 : Int32) = nI (a + 16) := nI_add a 16
theorem nq_ladd_16 (a : Nat) : (16 : Int32) + nI a = nI (16 + a) := nI_add 16 a
theorem nq_lmul_16 (a : Nat) : (16 : Int32) * nI a = nI (16 * a) := pk_mul 16 a
theorem nq_mull_16 (a : Nat) : nI a * (16 : Int32) = nI (a * 16) := pk_mul a 16
theorem nq_subl_16 {a : Nat} (h : 16 ≤ a) : nI a - (16 : Int32) = nI (a - 16) := pk_sub (b := 16) h
theorem nq_cll_16 : ((16 : Int32)).toNatClampNeg = 16 := nI_clamp (n := 16) (by decide)
theorem nq_inl_16 {N : Nat} (h : 16 < N) (hN : N < 2147483648) : ((16 : Int32) < 0 ∨ N ≤ ((16 : Int32)).toNatClampNeg) = False := eq_false (nI_in h hN)
theorem nq_ltl_16 {a : Nat} (ha : a < 2147483648) : (nI a < (16 : Int32)) = (a < 16) := propext (nI_ltI ha (b := 16) (by decide))
theorem nq_lel_16 {a : Nat} (ha : a < 2147483648) : (nI a ≤ (16 : Int32)) = (a ≤ 16) := propext (nI_leI ha (b := 16) (by decide))
theorem nq_gel_16 {a : Nat} (ha : a < 2147483648) : (nI a ≥ (16 : Int32)) = (16 ≤ a) := propext (nI_leI (a := 16) (by decide) ha)
theorem nq_gtl_16 {a : Nat} (ha : a < 2147483648) : (nI a > (16 : Int32)) = (16 < a) := propext (nI_ltI (a := 16) (by decide) ha)
theorem nq_eql_16 {a : Nat} (ha : a < 2147483648) : (nI a = (16 : Int32)) = (a = 16) := propext (nI_eq ha (b := 16) (by decide))
theorem nq_div_16 {a : Nat} (ha : a < 2147483648) : nI a / (16 : Int32) = nI (a / 16) := pk_div ha (d := 16) (by decide) (by decide)
theorem nq_rem_16 {a : Nat} (ha : a < 2147483648) : nI a - nI a / (16 : Int32) * (16 : Int32) = nI (a % 16) := pk_rem ha (d := 16) (by decide) (by decide)
theorem nq_addl_20 (a : Nat) : nI a + (20 : Int32) = nI (a + 20) := nI_add a 20
theorem nq_ladd_20 (a : Nat) : (20 : Int32) + nI a = nI (20 + a) := nI_add 20 a
theorem nq_lmul_20 (a : Nat) : (20 : Int32) * nI a = nI (20 * a) := pk_mul 20 a
theorem nq_mull_20 (a : Nat) : nI a * (20 : Int32) = nI (a * 20) := pk_mul a 20
theorem nq_subl_20 {a : Nat} (h : 20 ≤ a) : nI a - (20 : Int32) = nI (a - 20) := pk_sub (b := 20) h
theorem nq_cll_20 : ((20 : Int32)).toNatClampNeg = 20 := nI_clamp (n := 20) (by decide)
theorem nq_inl_20 {N : Nat} (h : 20 < N) (hN : N < 2147483648) : ((20 : Int32) < 0 ∨ N ≤ ((20 : Int32)).toNatClampNeg) = False := eq_false (nI_in h hN)
theorem nq_ltl_20 {a : Nat} (ha : a < 2147483648) : (nI a < (20 : Int32)) = (a < 20) := propext (nI_ltI ha (b := 20) (by decide))
theorem nq_lel_20 {a : Nat} (ha : a < 2147483648) : (nI a ≤ (20 : Int32)) = (a ≤ 20) := propext (nI_leI ha (b := 20) (by decide))
theorem nq_gel_20 {a : Nat} (ha : a < 2147483648) : (nI a ≥ (20 : Int32)) = (20 ≤ a) := propext (nI_leI (a := 20) (by decide) ha)
theorem nq_gtl_20 {a : Nat} (ha : a < 2147483648) : (nI a > (20 : Int32)) = (20 < a) := propext (nI_ltI (a := 20) (by decide) ha)
theorem nq_eql_20 {a : Nat} (ha : a < 2147483648) : (nI a = (20 : Int32)) = (a = 20) := propext (nI_eq ha (b := 20) (by decide))
theorem nq_div_20 {a : Nat} (ha : a < 2147483648) : nI a / (20 : Int32) = nI (a / 20) := pk_div ha (d := 20) (by decide) (by decide)
theorem nq_rem_20 {a : Nat} (ha : a < 2147483648) : nI a - nI a / (20 : Int32) * (20 : Int32) = nI (a % 20) := pk_rem ha (d := 20) (by decide) (by decide)
theorem nq_addl_25 (a : Nat) : nI a + (25 : Int32) = nI (a + 25) := nI_add a 25
theorem nq_ladd_25 (a : Nat) : (25 : Int32) + nI a = nI (25 + a) := nI_add 25 a
theorem nq_lmul_25 (a : Nat) : (25 : Int32) * nI a = nI (25 * a) := pk_mul 25 a
theorem nq_mull_25 (a : Nat) : nI a * (25 : Int32) = nI (a * 25) := pk_mul a 25
theorem nq_subl_25 {a : Nat} (h : 25 ≤ a) : nI a - (25 : Int32) = nI (a - 25) := pk_sub (b := 25) h
theorem nq_cll_25 : ((25 : Int32)).toNatClampNeg = 25 := nI_clamp (n := 25) (by decide)
theorem nq_inl_25 {N : Nat} (h : 25 < N) (hN : N < 2147483648) : ((25 : Int32) < 0 ∨ N ≤ ((25 : Int32)).toNatClampNeg) = False := eq_false (nI_in h hN)
theorem nq_ltl_25 {a : Nat} (ha : a < 2147483648) : (nI a < (25 : Int32)) = (a < 25) := propext (nI_ltI ha (b := 25) (by decide))
theorem nq_lel_25 {a : Nat} (ha : a < 2147483648) : (nI a ≤ (25 : Int32)) = (a ≤ 25) := propext (nI_leI ha (b := 25) (by decide))
theorem nq_gel_25 {a : Nat} (ha : a < 2147483648) : (nI a ≥ (25 : Int32)) = (25 ≤ a) := propext (nI_leI (a := 25) (by decide) ha)
theorem nq_gtl_25 {a : Nat} (ha : a < 2147483648) : (nI a > (25 : Int32)) = (25 < a) := propext (nI_ltI (a := 25) (by decide) ha)
theorem nq_eql_25 {a : Nat} (ha : a < 2147483648) : (nI a = (25 : Int32)) = (a = 25) := propext (nI_eq ha (b := 25) (by decide))
theorem nq_div_25 {a : Nat} (ha : a < 2147483648) : nI a / (25 : Int32) = nI (a / 25) := pk_div ha (d := 25) (by decide) (by decide)
theorem nq_rem_25 {a : Nat} (ha : a < 2147483648) : nI a - nI a / (25 : Int32) * (25 : Int32) = nI (a % 25) := pk_rem ha (d := 25) (by decide) (by decide)
theorem nq_addl_26 (a : Nat) : nI a + (26 : Int32) = nI (a + 26) := nI_add a 26
theorem nq_ladd_26 (a : Nat) : (26 : Int32) + nI a = nI (26 + a) := nI_add 26 a
theorem nq_lmul_26 (a : Nat) : (26 : Int32) * nI a = nI (26 * a) := pk_mul 26 a
theorem nq_mull_26 (a : Nat) : nI a * (26 : Int32) = nI (a * 26) := pk_mul a 26
theorem nq_subl_26 {a : Nat} (h : 26 ≤ a) : nI a - (26 : Int32) = nI (a - 26) := pk_sub (b := 26) h
theorem nq_cll_26 : ((26 : Int32)).toNatClampNeg = 26 := nI_clamp (n := 26) (by decide)
theorem nq_inl_26 {N : Nat} (h : 26 < N) (hN : N < 2147483648) : ((26 : Int32) < 0 ∨ N ≤ ((26 : Int32)).toNatClampNeg) = False := eq_false (nI_in h hN)
theorem nq_ltl_26 {a : Nat} (ha : a < 2147483648) : (nI a < (26 : Int32)) = (a < 26) := propext (nI_ltI ha (b := 26) (by decide))
theorem nq_lel_26 {a : Nat} (ha : a < 2147483648) : (nI a ≤ (26 : Int32)) = (a ≤ 26) := propext (nI_leI ha (b := 26) (by decide))
theorem nq_gel_26 {a : Nat} (ha : a < 2147483648) : (nI a ≥ (26 : Int32)) = (26 ≤ a) := propext (nI_leI (a := 26) (by decide) ha)
theorem nq_gtl_26 {a : Nat} (ha : a < 2147483648) : (nI a > (26 : Int32)) = (26 < a) := propext (nI_ltI (a := 26) (by decide) ha)
theorem nq_eql_26 {a : Nat} (ha : a < 2147483648) : (nI a = (26 : Int32)) = (a = 26) := propext (nI_eq ha (b := 26) (by decide))
theorem nq_div_26 {a : Nat} (ha : a < 2147483648) : nI a / (26 : Int32) = nI (a / 26) := pk_div ha (d := 26) (by decide) (by decide)
theorem nq_rem_26 {a : Nat} (ha : a < 2147483648) : nI a - nI a / (26 : Int32) * (26 : Int32) = nI (a % 26) := pk_rem ha (d := 26) (by decide) (by decide)
theorem nq_addl_27 (a : Nat) : nI a + (27 : Int32) = nI (a + 27) := nI_add a 27
theorem nq_ladd_27 (a : Nat) : (27 : Int32) + nI a = nI (27 + a) := nI_add 27 a
theorem nq_lmul_27 (a : Nat) : (27 : Int32) * nI a = nI (27 * a) := pk_mul 27 a
theorem nq_mull_27 (a : Nat) : nI a * (27 : Int32) = nI (a * 27) := pk_mul a 27
theorem nq_subl_27 {a : Nat} (h : 27 ≤ a) : nI a - (27 : Int32) = nI (a - 27) := pk_sub (b := 27) h
theorem nq_cll_27 : ((27 : Int32)).toNatClampNeg = 27 := nI_clamp (n := 27) (by decide)
theorem nq_inl_27 {N : Nat} (h : 27 < N) (hN : N < 2147483648) : ((27 : Int32) < 0 ∨ N ≤ ((27 : Int32)).toNatClampNeg) = False := eq_false (nI_in h hN)
theorem nq_ltl_27 {a : Nat} (ha : a < 2147483648) : (nI a < (27 : Int32)) = (a < 27) := propext (nI_ltI ha (b := 27) (by decide))
theorem nq_lel_27 {a : Nat} (ha : a < 2147483648) : (nI a ≤ (27 : Int32)) = (a ≤ 27) := propext (nI_leI ha (b := 27) (by decide))
theorem nq_gel_27 {a : Nat} (ha : a < 2147483648) : (nI a ≥ (27 : Int32)) = (27 ≤ a) := propext (nI_leI (a := 27) (by decide) ha)
theorem nq_gtl_27 {a : Nat} (ha : a < 2147483648) : (nI a > (27 : Int32)) = (27 < a) := propext (nI_ltI (a := 27) (by decide) ha)
theorem nq_eql_27 {a : Nat} (ha : a < 2147483648) : (nI a = (27 : Int32)) = (a = 27) := propext (nI_eq ha (b := 27) (by decide))
theorem nq_div_27 {a : Nat} (ha : a < 2147483648) : nI a / (27 : Int32) = nI (a / 27) := pk_div ha (d := 27) (by decide) (by decide)
theorem nq_rem_27 {a : Nat} (ha : a < 2147483648) : nI a - nI a / (27 : Int32) * (27 : Int32) = nI (a % 27) := pk_rem ha (d := 27) (by decide) (by decide)
theorem nq_addl_31 (a : Nat) : nI a + (31 : Int32) = nI (a + 31) := nI_add a 31
theorem nq_ladd_31 (a : Nat) : (31 : Int32) + nI a = nI (31 + a) := nI_add 31 a
theorem nq_lmul_31 (a : Nat) : (31 : Int32) * nI a = nI (31 * a) := pk_mul 31 a
theorem nq_mull_31 (a : Nat) : nI a * (31 : Int32) = nI (a * 31) := pk_mul a 31
theorem nq_subl_31 {a : Nat} (h : 31 ≤ a) : nI a - (31 : Int32) = nI (a - 31) := pk_sub (b := 31) h
theorem nq_cll_31 : ((31 : Int32)).toNatClampNeg = 31 := nI_clamp (n := 31) (by decide)
theorem nq_inl_31 {N : Nat} (h : 31 < N) (hN : N < 2147483648) : ((31 : Int32) < 0 ∨ N ≤ ((31 : Int32)).toNatClampNeg) = False := eq_false (nI_in h hN)
theorem nq_ltl_31 {a : Nat} (ha : a < 2147483648) : (nI a < (31 : Int32)) = (a < 31) := propext (nI_ltI ha (b := 31) (by decide))
theorem nq_lel_31 {a : Nat} (ha : a < 2147483648) : (nI a ≤ (31 : Int32)) = (a ≤ 31) := propext (nI_leI ha (b := 31) (by decide))
theorem nq_gel_31 {a : Nat} (ha : a < 2147483648) : (nI a ≥ (31 : Int32)) = (31 ≤ a) := propext (nI_leI (a := 31) (by decide) ha)
theorem nq_gtl_31 {a : Nat} (ha : a < 2147483648) : (nI a > (31 : Int32)) = (31 < a) := propext (nI_ltI (a := 31) (by decide) ha)
theorem nq_eql_31 {a : Nat} (ha : a < 2147483648) : (nI a = (31 : Int32)) = (a = 31) := propext (nI_eq ha (b := 31) (by decide))
theorem nq_div_31 {a : Nat} (ha : a < 2147483648) : nI a / (31 : Int32) = nI (a / 31) := pk_div ha (d := 31) (by decide) (by decide)
theorem nq_rem_31 {a : Nat} (ha : a < 2147483648) : nI a - nI a / (31 : Int32) * (31 : Int32) = nI (a % 31) := pk_rem ha (d := 31) (by decide) (by decide)
theorem nq_addl_32 (a : Nat) : nI a + (32 : Int32) = nI (a + 32) := nI_add a 32
theorem nq_ladd_32 (a : Nat) : (32 : Int32) + nI a = nI (32 + a) := nI_add 32 a
theorem nq_lmul_32 (a : Nat) : (32 : Int32) * nI a = nI (32 * a) := pk_mul 32 a
theorem nq_mull_32 (a : Nat) : nI a * (32 : Int32) = nI (a * 32) := pk_mul a 32
theorem nq_subl_32 {a : Nat} (h : 32 ≤ a) : nI a - (32 : Int32) = nI (a - 32) := pk_sub (b := 32) h
theorem nq_cll_32 : ((32 : Int32)).toNatClampNeg = 32 := nI_clamp (n := 32) (by decide)
theorem nq_inl_32 {N : Nat} (h : 32 < N) (hN : N < 2147483648) : ((32 : Int32) < 0 ∨ N ≤ ((32 : Int32)).toNatClampNeg) = False := eq_false (nI_in h hN)
theorem nq_ltl_32 {a : Nat} (ha : a < 2147483648) : (nI a < (32 : Int32)) = (a < 32) := propext (nI_ltI ha (b := 32) (by decide))
theorem nq_lel_32 {a : Nat} (ha : a < 2147483648) : (nI a ≤ (32 : Int32)) = (a ≤ 32) := propext (nI_leI ha (b := 32) (by decide))
theorem nq_gel_32 {a : Nat} (ha : a < 2147483648) : (nI a ≥ (32 : Int32)) = (32 ≤ a) := propext (nI_leI (a := 32) (by decide) ha)
theorem nq_gtl_32 {a : Nat} (ha : a < 2147483648) : (nI a > (32 : Int32)) = (32 < a) := propext (nI_ltI (a := 32) (by decide) ha)
theorem nq_eql_32 {a : Nat} (ha : a < 2147483648) : (nI a = (32 : Int32)) = (a = 32) := propext (nI_eq ha (b := 32) (by decide))
theorem nq_div_32 {a : Nat} (ha : a < 2147483648) : nI a / (32 : Int32) = nI (a / 32) := pk_div ha (d := 32) (by decide) (by decide)
theorem nq_rem_32 {a : Nat} (ha : a < 2147483648) : nI a - nI a / (32 : Int32) * (32 : Int32) = nI (a % 32) := pk_rem ha (d := 32) (by decide) (by decide)
theorem nq_addl_48 (a : Nat) : nI a + (48 : Int32) = nI (a + 48) := nI_add a 48
theorem nq_ladd_48 (a : Nat) : (48 : Int32) + nI a = nI (48 + a) := nI_add 48 a
theorem nq_lmul_48 (a : Nat) : (48 : Int32) * nI a = nI (48 * a) := pk_mul 48 a
theorem nq_mull_48 (a : Nat) : nI a * (48 : Int32) = nI (a * 48) := pk_mul a 48
theorem nq_subl_48 {a : Nat} (h : 48 ≤ a) : nI a - (48 : Int32) = nI (a - 48) := pk_sub (b := 48) h
theorem nq_cll_48 : ((48 : Int32)).toNatClampNeg = 48 := nI_clamp (n := 48) (by decide)
theorem nq_inl_48 {N : Nat} (h : 48 < N) (hN : N < 2147483648) : ((48 : Int32) < 0 ∨ N ≤ ((48 : Int32)).toNatClampNeg) = False := eq_false (nI_in h hN)
theorem nq_ltl_48 {a : Nat} (ha : a < 2147483648) : (nI a < (48 : Int32)) = (a < 48) := propext (nI_ltI ha (b := 48) (by decide))
theorem nq_lel_48 {a : Nat} (ha : a < 2147483648) : (nI a ≤ (48 : Int32)) = (a ≤ 48) := propext (nI_leI ha (b := 48) (by decide))
theorem nq_gel_48 {a : Nat} (ha : a < 2147483648) : (nI a ≥ (48 : Int32)) = (48 ≤ a) := propext (nI_leI (a := 48) (by decide) ha)
theorem nq_gtl_48 {a : Nat} (ha : a < 2147483648) : (nI a > (48 : Int32)) = (48 < a) := propext (nI_ltI (a := 48) (by decide) ha)
theorem nq_eql_48 {a : Nat} (ha : a < 2147483648) : (nI a = (48 : Int32)) = (a = 48) := propext (nI_eq ha (b := 48) (by decide))
theorem nq_div_48 {a : Nat} (ha : a < 2147483648) : nI a / (48 : Int32) = nI (a / 48) := pk_div ha (d := 48) (by decide) (by decide)
theorem nq_rem_48 {a : Nat} (ha : a < 2147483648) : nI a - nI a / (48 : Int32) * (48 : Int32) = nI (a % 48) := pk_rem ha (d := 48) (by decide) (by decide)
theorem nq_addl_63 (a : Nat) : nI a + (63 : Int32) = nI (a + 63) := nI_add a 63
theorem nq_ladd_63 (a : Nat) : (63 : Int32) + nI a = nI (63 + a) := nI_add 63 a
theorem nq_lmul_63 (a : Nat) : (63 : Int32) * nI a = nI (63 * a) := pk_mul 63 a
theorem nq_mull_63 (a : Nat) : nI a * (63 : Int32) = nI (a * 63) := pk_mul a 63
theorem nq_subl_63 {a : Nat} (h : 63 ≤ a) : nI a - (63 : Int32) = nI (a - 63) := pk_sub (b := 63) h
theorem nq_cll_63 : ((63 : Int32)).toNatClampNeg = 63 := nI_clamp (n := 63) (by decide)
theorem nq_inl_63 {N : Nat} (h : 63 < N) (hN : N < 2147483648) : ((63 : Int32) < 0 ∨ N ≤ ((63 : Int32)).toNatClampNeg) = False := eq_false (nI_in h hN)
theorem nq_ltl_63 {a : Nat} (ha : a < 2147483648) : (nI a < (63 : Int32)) = (a < 63) := propext (nI_ltI ha (b := 63) (by decide))
theorem nq_lel_63 {a : Nat} (ha : a < 2147483648) : (nI a ≤ (63 : Int32)) = (a ≤ 63) := propext (nI_leI ha (b := 63) (by decide))
theorem nq_gel_63 {a : Nat} (ha : a < 2147483648) : (nI a ≥ (63 : Int32)) = (63 ≤ a) := propext (nI_leI (a := 63) (by decide) ha)
theorem nq_gtl_63 {a : Nat} (ha : a < 2147483648) : (nI a > (63 : Int32)) = (63 < a) := propext (nI_ltI (a := 63) (by decide) ha)
theorem nq_eql_63 {a : Nat} (ha : a < 2147483648) : (nI a = (63 : Int32)) = (a = 63) := propext (nI_eq ha (b := 63) (by decide))
theorem nq_div_63 {a : Nat} (ha : a < 2147483648) : nI a / (63 : Int32) = nI (a / 63) := pk_div ha (d := 63) (by decide) (by decide)
theorem nq_rem_63 {a : Nat} (ha : a < 2147483648) : nI a - nI a / (63 : Int32) * (63 : Int32) = nI (a % 63) := pk_rem ha (d := 63) (by decide) (by decide)
theorem nq_addl_64 (a : Nat) : nI a + (64 : Int32) = nI (a + 64) := nI_add a 64
theorem nq_ladd_64 (a : Nat) : (64 : Int32) + nI a = nI (64 + a) := nI_add 64 a
theorem nq_lmul_64 (a : Nat) : (64 : Int32) * nI a = nI (64 * a) := pk_mul 64 a
theorem nq_mull_64 (a : Nat) : nI a * (64 : Int32) = nI (a * 64) := pk_mul a 64
theorem nq_subl_64 {a : Nat} (h : 64 ≤ a) : nI a - (64 : Int32) = nI (a - 64) := pk_sub (b := 64) h
theorem nq_cll_64 : ((64 : Int32)).toNatClampNeg = 64 := nI_clamp (n := 64) (by decide)
theorem nq_inl_64 {N : Nat} (h : 64 < N) (hN : N < 2147483648) : ((64 : Int32) < 0 ∨ N ≤ ((64 : Int32)).toNatClampNeg) = False := eq_false (nI_in h hN)
theorem nq_ltl_64 {a : Nat} (ha : a < 2147483648) : (nI a < (64 : Int32)) = (a < 64) := propext (nI_ltI ha (b := 64) (by decide))
theorem nq_lel_64 {a : Nat} (ha : a < 2147483648) : (nI a ≤ (64 : Int32)) = (a ≤ 64) := propext (nI_leI ha (b := 64) (by decide))
theorem nq_gel_64 {a : Nat} (ha : a < 2147483648) : (nI a ≥ (64 : Int32)) = (64 ≤ a) := propext (nI_leI (a := 64) (by decide) ha)
theorem nq_gtl_64 {a : Nat} (ha : a < 2147483648) : (nI a > (64 : Int32)) = (64 < a) := propext (nI_ltI (a := 64) (by decide) ha)
theorem nq_eql_64 {a : Nat} (ha : a < 2147483648) : (nI a = (64 : Int32)) = (a = 64) := propext (nI_eq ha (b := 64) (by decide))
theorem nq_div_64 {a : Nat} (ha : a < 2147483648) : nI a / (64 : Int32) = nI (a / 64) := pk_div ha (d := 64) (by decide) (by decide)
theorem nq_rem_64 {a : Nat} (ha : a < 2147483648) : nI a - nI a / (64 : Int32) * (64 : Int32) = nI (a % 64) := pk_rem ha (d := 64) (by decide) (by decide)
theorem nq_addl_66 (a : Nat) : nI a + (66 : Int32) = nI (a + 66) := nI_add a 66
theorem nq_ladd_66 (a : Nat) : (66 : Int32) + nI a = nI (66 + a) := nI_add 66 a
theorem nq_lmul_66 (a : Nat) : (66 : Int32) * nI a = nI (66 * a) := pk_mul 66 a
theorem nq_mull_66 (a : Nat) : nI a * (66 : Int32) = nI (a * 66) := pk_mul a 66
theorem nq_subl_66 {a : Nat} (h : 66 ≤ a) : nI a - (66 : Int32) = nI (a - 66) := pk_sub (b := 66) h
theorem nq_cll_66 : ((66 : Int32)).toNatClampNeg = 66 := nI_clamp (n := 66) (by decide)
theorem nq_inl_66 {N : Nat} (h : 66 < N) (hN : N < 2147483648) : ((66 : Int32) < 0 ∨ N ≤ ((66 : Int32)).toNatClampNeg) = False := eq_false (nI_in h hN)
theorem nq_ltl_66 {a : Nat} (ha : a < 2147483648) : (nI a < (66 : Int32)) = (a < 66) := propext (nI_ltI ha (b := 66) (by decide))
theorem nq_lel_66 {a : Nat} (ha : a < 2147483648) : (nI a ≤ (66 : Int32)) = (a ≤ 66) := propext (nI_leI ha (b := 66) (by decide))
theorem nq_gel_66 {a : Nat} (ha : a < 2147483648) : (nI a ≥ (66 : Int32)) = (66 ≤ a) := propext (nI_leI (a := 66) (by decide) ha)
theorem nq_gtl_66 {a : Nat} (ha : a < 2147483648) : (nI a > (66 : Int32)) = (66 < a) := propext (nI_ltI (a := 66) (by decide) ha)
theorem nq_eql_66 {a : Nat} (ha : a < 2147483648) : (nI a = (66 : Int32)) = (a = 66) := propext (nI_eq ha (b := 66) (by decide))
theorem nq_div_66 {a : Nat} (ha : a < 2147483648) : nI a / (66 : Int32) = nI (a / 66) := pk_div ha (d := 66) (by decide) (by decide)
theorem nq_rem_66 {a : Nat} (ha : a < 2147483648) : nI a - nI a / (66 : Int32) * (66 : Int32) = nI (a % 66) := pk_rem ha (d := 66) (by decide) (by decide)
theorem nq_addl_156 (a : Nat) : nI a + (156 : Int32) = nI (a + 156) := nI_add a 156
theorem nq_ladd_156 (a : Nat) : (156 : Int32) + nI a = nI (156 + a) := nI_add 156 a
theorem nq_lmul_156 (a : Nat) : (156 : Int32) * nI a = nI (156 * a) := pk_mul 156 a
theorem nq_mull_156 (a : Nat) : nI a * (156 : Int32) = nI (a * 156) := pk_mul a 156
theorem nq_subl_156 {a : Nat} (h : 156 ≤ a) : nI a - (156 : Int32) = nI (a - 156) := pk_sub (b := 156) h
theorem nq_cll_156 : ((156 : Int32)).toNatClampNeg = 156 := nI_clamp (n := 156) (by decide)
theorem nq_inl_156 {N : Nat} (h : 156 < N) (hN : N < 2147483648) : ((156 : Int32) < 0 ∨ N ≤ ((156 : Int32)).toNatClampNeg) = False := eq_false (nI_in h hN)
theorem nq_ltl_156 {a : Nat} (ha : a < 2147483648) : (nI a < (156 : Int32)) = (a < 156) := propext (nI_ltI ha (b := 156) (by decide))
theorem nq_lel_156 {a : Nat} (ha : a < 2147483648) : (nI a ≤ (156 : Int32)) = (a ≤ 156) := propext (nI_leI ha (b := 156) (by decide))
theorem nq_gel_156 {a : Nat} (ha : a < 2147483648) : (nI a ≥ (156 : Int32)) = (156 ≤ a) := propext (nI_leI (a := 156) (by decide) ha)
theorem nq_gtl_156 {a : Nat} (ha : a < 2147483648) : (nI a > (156 : Int32)) = (156 < a) := propext (nI_ltI (a := 156) (by decide) ha)
theorem nq_eql_156 {a : Nat} (ha : a < 2147483648) : (nI a = (156 : Int32)) = (a = 156) := propext (nI_eq ha (b := 156) (by decide))
theorem nq_div_156 {a : Nat} (ha : a < 2147483648) : nI a / (156 : Int32) = nI (a / 156) := pk_div ha (d := 156) (by decide) (by decide)
theorem nq_rem_156 {a : Nat} (ha : a < 2147483648) : nI a - nI a / (156 : Int32) * (156 : Int32) = nI (a % 156) := pk_rem ha (d := 156) (by decide) (by decide)
theorem nq_addl_1024 (a : Nat) : nI a + (1024 : Int32) = nI (a + 1024) := nI_add a 1024
theorem nq_ladd_1024 (a : Nat) : (1024 : Int32) + nI a = nI (1024 + a) := nI_add 1024 a
theorem nq_lmul_1024 (a : Nat) : (1024 : Int32) * nI a = nI (1024 * a) := pk_mul 1024 a
theorem nq_mull_1024 (a : Nat) : nI a * (1024 : Int32) = nI (a * 1024) := pk_mul a 1024
theorem nq_subl_1024 {a : Nat} (h : 1024 ≤ a) : nI a - (1024 : Int32) = nI (a - 1024) := pk_sub (b := 1024) h
theorem nq_cll_1024 : ((1024 : Int32)).toNatClampNeg = 1024 := nI_clamp (n := 1024) (by decide)
theorem nq_inl_1024 {N : Nat} (h : 1024 < N) (hN : N < 2147483648) : ((1024 : Int32) < 0 ∨ N ≤ ((1024 : Int32)).toNatClampNeg) = False := eq_false (nI_in h hN)
theorem nq_ltl_1024 {a : Nat} (ha : a < 2147483648) : (nI a < (1024 : Int32)) = (a < 1024) := propext (nI_ltI ha (b := 1024) (by decide))
theorem nq_lel_1024 {a : Nat} (ha : a < 2147483648) : (nI a ≤ (1024 : Int32)) = (a ≤ 1024) := propext (nI_leI ha (b := 1024) (by decide))
theorem nq_gel_1024 {a : Nat} (ha : a < 2147483648) : (nI a ≥ (1024 : Int32)) = (1024 ≤ a) := propext (nI_leI (a := 1024) (by decide) ha)
theorem nq_gtl_1024 {a : Nat} (ha : a < 2147483648) : (nI a > (1024 : Int32)) = (1024 < a) := propext (nI_ltI (a := 1024) (by decide) ha)
theorem nq_eql_1024 {a : Nat} (ha : a < 2147483648) : (nI a = (1024 : Int32)) = (a = 1024) := propext (nI_eq ha (b := 1024) (by decide))
theorem nq_div_1024 {a : Nat} (ha : a < 2147483648) : nI a / (1024 : Int32) = nI (a / 1024) := pk_div ha (d := 1024) (by decide) (by decide)
theorem nq_rem_1024 {a : Nat} (ha : a < 2147483648) : nI a - nI a / (1024 : Int32) * (1024 : Int32) = nI (a % 1024) := pk_rem ha (d := 1024) (by decide) (by decide)
theorem nq_addl_16384 (a : Nat) : nI a + (16384 : Int32) = nI (a + 16384) := nI_add a 16384
theorem nq_ladd_16384 (a : Nat) : (16384 : Int32) + nI a = nI (16384 + a) := nI_add 16384 a
theorem nq_lmul_16384 (a : Nat) : (16384 : Int32) * nI a = nI (16384 * a) := pk_mul 16384 a
theorem nq_mull_16384 (a : Nat) : nI a * (16384 : Int32) = nI (a * 16384) := pk_mul a 16384
theorem nq_subl_16384 {a : Nat} (h : 16384 ≤ a) : nI a - (16384 : Int32) = nI (a - 16384) := pk_sub (b := 16384) h
theorem nq_cll_16384 : ((16384 : Int32)).toNatClampNeg = 16384 := nI_clamp (n := 16384) (by decide)
theorem nq_inl_16384 {N : Nat} (h : 16384 < N) (hN : N < 2147483648) : ((16384 : Int32) < 0 ∨ N ≤ ((16384 : Int32)).toNatClampNeg) = False := eq_false (nI_in h hN)
theorem nq_ltl_16384 {a : Nat} (ha : a < 2147483648) : (nI a < (16384 : Int32)) = (a < 16384) := propext (nI_ltI ha (b := 16384) (by decide))
theorem nq_lel_16384 {a : Nat} (ha : a < 2147483648) : (nI a ≤ (16384 : Int32)) = (a ≤ 16384) := propext (nI_leI ha (b := 16384) (by decide))
theorem nq_gel_16384 {a : Nat} (ha : a < 2147483648) : (nI a ≥ (16384 : Int32)) = (16384 ≤ a) := propext (nI_leI (a := 16384) (by decide) ha)
theorem nq_gtl_16384 {a : Nat} (ha : a < 2147483648) : (nI a > (16384 : Int32)) = (16384 < a) := propext (nI_ltI (a := 16384) (by decide) ha)
theorem nq_eql_16384 {a : Nat} (ha : a < 2147483648) : (nI a = (16384 : Int32)) = (a = 16384) := propext (nI_eq ha (b := 16384) (by decide))
theorem nq_div_16384 {a : Nat} (ha : a < 2147483648) : nI a / (16384 : Int32) = nI (a / 16384) := pk_div ha (d := 16384) (by decide) (by decide)
theorem nq_rem_16384 {a : Nat} (ha : a < 2147483648) : nI a - nI a / (16384 : Int32) * (16384 : Int32) = nI (a % 16384) := pk_rem ha (d := 16384) (by decide) (by decide)
abbrev oc1 (J : Nat → Int32) : AE := ob 9 [.int (J 0), .int (J 1), .int (J 2), .ref 2, .ref 5, .ref 7, .ref 9, .ref 11, .ref 12, .ref 13, .ref 16, .ref 18, .ref 19]
abbrev oc2 (J : Nat → Int32) : AE := ob 5 [.ref 3, .ref 4, .int (J 2)]
abbrev oc5 (J : Nat → Int32) : AE := ob 6 [.ref 6, .int (J 1)]
abbrev oc7 (J : Nat → Int32) : AE := ob 7 [.ref 8, .int (J 1)]
abbrev oc9 (J : Nat → Int32) : AE := ob 2 [.ref 10, .int (J 1)]
abbrev oc13 (J : Nat → Int32) : AE := ob 1 [.ref 14, .ref 15, .int (J 2)]
abbrev oc16 (J : Nat → Int32) : AE := ob 3 [.ref 17, .int (J 1)]
abbrev oc18 (J : Nat → Int32) : AE := ob 0 [.int (J 0), .int (J 1), .int (J 2)]
abbrev oc19 (J : Nat → Int32) : AE := ob 4 [.ref 20, .ref 22, .int (J 2)]
abbrev oc20 (J : Nat → Int32) : AE := ob 3 [.ref 21, .int (J 1)]
abbrev oc22 (J : Nat → Int32) : AE := ob 3 [.ref 23, .int (J 1)]
abbrev oc24 (J : Nat → Int32) : AE := ob 10 [.int (J 0), .int (J 1), .int (J 2), .ref 25, .ref 26, .ref 27, .ref 28, .ref 29, .ref 30, .ref 31, .ref 32, .ref 33, .ref 34, .int (J 13), .ref 35, .ref 36, .int (J 16), .ref 37, .int (J 18), .int (J 19), .int (J 20), .ref 38, .int (J 22), .ref 39]
def msh (I : Nat → Nat → Int32) (A : Nat → Nat → Int32) : Nat → Option AE := fun c => match c with
  | 24 => some (oc24 (I 24))
  | 25 => some (ia 0 8 (A 25))
  | 26 => some (ia 0 8 (A 26))
  | 27 => some (ia 0 27 (A 27))
  | 28 => some (ia 0 162 (A 28))
  | 29 => some (ia 0 162 (A 29))
  | 30 => some (ia 0 162 (A 30))
  | 31 => some (ia 0 1296 (A 31))
  | 32 => some (ia 0 1296 (A 32))
  | 33 => some (ia 0 32 (A 33))
  | 34 => some (ia 0 32 (A 34))
  | 35 => some (ia 0 1024 (A 35))
  | 36 => some (ia 1 1024 (A 36))
  | 37 => some (ia 0 162 (A 37))
  | 38 => some (ia 1 26 (A 38))
  | 39 => some (ia 0 64 (A 39))
  | _ => none
def MH (h : Hp) (I : Nat → Nat → Int32) (A : Nat → Nat → Int32) : Prop := ∀ (c : Nat) (e : AE), msh I A c = some e → h.2.2 c = some e
section CELLS_MH
variable {h : Hp} {I : Nat → Nat → Int32} {A : Nat → Nat → Int32}
theorem MH.c24 (M : MH h I A) : h.2.2 24 = some (oc24 (I 24)) := M 24 _ rfl
theorem MH.s24 (M : MH h I A) (J : Nat → Int32) : MH (hset h 24 (oc24 J)) (va_up I 24 J) A := by
  intro j e he
  rw [hset_get]
  by_cases hj : j = 24
  · subst hj; rw [if_pos rfl]; exact he
  · rw [if_neg hj]; apply M; rw [← he]; unfold msh; split <;> first | rfl | exact absurd rfl hj
theorem MH.c25 (M : MH h I A) : h.2.2 25 = some (ia 0 8 (A 25)) := M 25 _ rfl
theorem MH.s25 (M : MH h I A) (f : Nat → Int32) : MH (hset h 25 (ia 0 8 f)) I (va_up A 25 f) := by
  intro j e he
  rw [hset_get]
  by_cases hj : j = 25
  · subst hj; rw [if_pos rfl]; exact he
  · rw [if_neg hj]; apply M; rw [← he]; unfold msh; split <;> first | rfl | exact absurd rfl hj
theorem MH.c26 (M : MH h I A) : h.2.2 26 = some (ia 0 8 (A 26)) := M 26 _ rfl
theorem MH.s26 (M : MH h I A) (f : Nat → Int32) : MH (hset h 26 (ia 0 8 f)) I (va_up A 26 f) := by
  intro j e he
  rw [hset_get]
  by_cases hj : j = 26
  · subst hj; rw [if_pos rfl]; exact he
  · rw [if_neg hj]; apply M; rw [← he]; unfold msh; split <;> first | rfl | exact absurd rfl hj
theorem MH.c27 (M : MH h I A) : h.2.2 27 = some (ia 0 27 (A 27)) := M 27 _ rfl
theorem MH.s27 (M : MH h I A) (f : Nat → Int32) : MH (hset h 27 (ia 0 27 f)) I (va_up A 27 f) := by
  intro j e he
  rw [hset_get]
  by_cases hj : j = 27
  · subst hj; rw [if_pos rfl]; exact he
  · rw [if_neg hj]; apply M; rw [← he]; unfold msh; split <;> first | rfl | exact absurd rfl hj
theorem MH.c28 (M : MH h I A) : h.2.2 28 = some (ia 0 162 (A 28)) := M 28 _ rfl
theorem MH.s28 (M : MH h I A) (f : Nat → Int32) : MH (hset h 28 (ia 0 162 f)) I (va_up A 28 f) := by
  intro j e he
  rw [hset_get]
  by_cases hj : j = 28
  · subst hj; rw [if_pos rfl]; exact he
  · rw [if_neg hj]; apply M; rw [← he]; unfold msh; split <;> first | rfl | exact absurd rfl hj
theorem MH.c29 (M : MH h I A) : h.2.2 29 = some (ia 0 162 (A 29)) := M 29 _ rfl
theorem MH.s29 (M : MH h I A) (f : Nat → Int32) : MH (hset h 29 (ia 0 162 f)) I (va_up A 29 f) := by
  intro j e he
  rw [hset_get]
  by_cases hj : j = 29
  · subst hj; rw [if_pos rfl]; exact he
  · rw [if_neg hj]; apply M; rw [← he]; unfold msh; split <;> first | rfl | exact absurd rfl hj
theorem MH.c30 (M : MH h I A) : h.2.2 30 = some (ia 0 162 (A 30)) := M 30 _ rfl
theorem MH.s30 (M : MH h I A) (f : Nat → Int32) : MH (hset h 30 (ia 0 162 f)) I (va_up A 30 f) := by
  intro j e he
  rw [hset_get]
  by_cases hj : j = 30
  · subst hj; rw [if_pos rfl]; exact he
  · rw [if_neg hj]; apply M; rw [← he]; unfold msh; split <;> first | rfl | exact absurd rfl hj
theorem MH.c31 (M : MH h I A) : h.2.2 31 = some (ia 0 1296 (A 31)) := M 31 _ rfl
theorem MH.s31 (M : MH h I A) (f : Nat → Int32) : MH (hset h 31 (ia 0 1296 f)) I (va_up A 31 f) := by
  intro j e he
  rw [hset_get]
  by_cases hj : j = 31
  · subst hj; rw [if_pos rfl]; exact he
  · rw [if_neg hj]; apply M; rw [← he]; unfold msh; split <;> first | rfl | exact absurd rfl hj
theorem MH.c32 (M : MH h I A) : h.2.2 32 = some (ia 0 1296 (A 32)) := M 32 _ rfl
theorem MH.s32 (M : MH h I A) (f : Nat → Int32) : MH (hset h 32 (ia 0 1296 f)) I (va_up A 32 f) := by
  intro j e he
  rw [hset_get]
  by_cases hj : j = 32
  · subst hj; rw [if_pos rfl]; exact he
  · rw [if_neg hj]; apply M; rw [← he]; unfold msh; split <;> first | rfl | exact absurd rfl hj
theorem MH.c33 (M : MH h I A) : h.2.2 33 = some (ia 0 32 (A 33)) := M 33 _ rfl
theorem MH.s33 (M : MH h I A) (f : Nat → Int32) : MH (hset h 33 (ia 0 32 f)) I (va_up A 33 f) := by
  intro j e he
  rw [hset_get]
  by_cases hj : j = 33
  · subst hj; rw [if_pos rfl]; exact he
  · rw [if_neg hj]; apply M; rw [← he]; unfold msh; split <;> first | rfl | exact absurd rfl hj
theorem MH.c34 (M : MH h I A) : h.2.2 34 = some (ia 0 32 (A 34)) := M 34 _ rfl
theorem MH.s34 (M : MH h I A) (f : Nat → Int32) : MH (hset h 34 (ia 0 32 f)) I (va_up A 34 f) := by
  intro j e he
  rw [hset_get]
  by_cases hj : j = 34
  · subst hj; rw [if_pos rfl]; exact he
  · rw [if_neg hj]; apply M; rw [← he]; unfold msh; split <;> first | rfl | exact absurd rfl hj
theorem MH.c35 (M : MH h I A) : h.2.2 35 = some (ia 0 1024 (A 35)) := M 35 _ rfl
theorem MH.s35 (M : MH h I A) (f : Nat → Int32) : MH (hset h 35 (ia 0 1024 f)) I (va_up A 35 f) := by
  intro j e he
  rw [hset_get]
  by_cases hj : j = 35
  · subst hj; rw [if_pos rfl]; exact he
  · rw [if_neg hj]; apply M; rw [← he]; unfold msh; split <;> first | rfl | exact absurd rfl hj
theorem MH.c36 (M : MH h I A) : h.2.2 36 = some (ia 1 1024 (A 36)) := M 36 _ rfl
theorem MH.s36 (M : MH h I A) (f : Nat → Int32) : MH (hset h 36 (ia 1 1024 f)) I (va_up A 36 f) := by
  intro j e he
  rw [hset_get]
  by_cases hj : j = 36
  · subst hj; rw [if_pos rfl]; exact he
  · rw [if_neg hj]; apply M; rw [← he]; unfold msh; split <;> first | rfl | exact absurd rfl hj
theorem MH.c37 (M : MH h I A) : h.2.2 37 = some (ia 0 162 (A 37)) := M 37 _ rfl
theorem MH.s37 (M : MH h I A) (f : Nat → Int32) : MH (hset h 37 (ia 0 162 f)) I (va_up A 37 f) := by
  intro j e he
  rw [hset_get]
  by_cases hj : j = 37
  · subst hj; rw [if_pos rfl]; exact he
  · rw [if_neg hj]; apply M; rw [← he]; unfold msh; split <;> first | rfl | exact absurd rfl hj
theorem MH.c38 (M : MH h I A) : h.2.2 38 = some (ia 1 26 (A 38)) := M 38 _ rfl
theorem MH.s38 (M : MH h I A) (f : Nat → Int32) : MH (hset h 38 (ia 1 26 f)) I (va_up A 38 f) := by
  intro j e he
  rw [hset_get]
  by_cases hj : j = 38
  · subst hj; rw [if_pos rfl]; exact he
  · rw [if_neg hj]; apply M; rw [← he]; unfold msh; split <;> first | rfl | exact absurd rfl hj
theorem MH.c39 (M : MH h I A) : h.2.2 39 = some (ia 0 64 (A 39)) := M 39 _ rfl
theorem MH.s39 (M : MH h I A) (f : Nat → Int32) : MH (hset h 39 (ia 0 64 f)) I (va_up A 39 f) := by
  intro j e he
  rw [hset_get]
  by_cases hj : j = 39
  · subst hj; rw [if_pos rfl]; exact he
  · rw [if_neg hj]; apply M; rw [← he]; unfold msh; split <;> first | rfl | exact absurd rfl hj
theorem MH.fr (M : MH h I A) {h' : Hp} (hf : ∀ c, 24 ≤ c → c < 40 → h'.2.2 c = h.2.2 c) : MH h' I A := by
  intro j e he
  rw [hf j (by unfold msh at he; split at he <;> first | omega | cases he) (by unfold msh at he; split at he <;> first | omega | cases he)]
  exact M j e he
end CELLS_MH
def csh (I : Nat → Nat → Int32) (A : Nat → Nat → Int32) (R : Nat → Nat → Option Nat) : Nat → Option AE := fun c => match c with
  | 1 => some (oc1 (I 1))
  | 2 => some (oc2 (I 2))
  | 3 => some (ia 0 8 (A 3))
  | 4 => some (ia 0 8 (A 4))
  | 5 => some (oc5 (I 5))
  | 6 => some (ra 3 6 (R 6))
  | 7 => some (oc7 (I 7))
  | 8 => some (ra 4 26 (R 8))
  | 9 => some (oc9 (I 9))
  | 10 => some (ia 0 64 (A 10))
  | 11 => some (ia 0 32 (A 11))
  | 12 => some (ia 0 32 (A 12))
  | 13 => some (oc13 (I 13))
  | 14 => some (ia 0 32 (A 14))
  | 15 => some (ia 0 1024 (A 15))
  | 16 => some (oc16 (I 16))
  | 17 => some (ia 0 66 (A 17))
  | 18 => some (oc18 (I 18))
  | 19 => some (oc19 (I 19))
  | 20 => some (oc20 (I 20))
  | 21 => some (ia 0 66 (A 21))
  | 22 => some (oc22 (I 22))
  | 23 => some (ia 0 66 (A 23))
  | _ => none
def CH (h : Hp) (I : Nat → Nat → Int32) (A : Nat → Nat → Int32) (R : Nat → Nat → Option Nat) : Prop := ∀ (c : Nat) (e : AE), csh I A R c = some e → h.2.2 c = some e
section CELLS_CH
variable {h : Hp} {I : Nat → Nat → Int32} {A : Nat → Nat → Int32} {R : Nat → Nat → Option Nat}
theorem CH.c1 (M : CH h I A R) : h.2.2 1 = some (oc1 (I 1)) := M 1 _ rfl
theorem CH.s1 (M : CH h I A R) (J : Nat → Int32) : CH (hset h 1 (oc1 J)) (va_up I 1 J) A R := by
  intro j e he
  rw [hset_get]
  by_cases hj : j = 1
  · subst hj; rw [if_pos rfl]; exact he
  · rw [if_neg hj]; apply M; rw [← he]; unfold csh; split <;> first | rfl | exact absurd rfl hj
theorem CH.c2 (M : CH h I A R) : h.2.2 2 = some (oc2 (I 2)) := M 2 _ rfl
theorem CH.s2 (M : CH h I A R) (J : Nat → Int32) : CH (hset h 2 (oc2 J)) (va_up I 2 J) A R := by
  intro j e he
  rw [hset_get]
  by_cases hj : j = 2
  · subst hj; rw [if_pos rfl]; exact he
  · rw [if_neg hj]; apply M; rw [← he]; unfold csh; split <;> first | rfl | exact absurd rfl hj
theorem CH.c3 (M : CH h I A R) : h.2.2 3 = some (ia 0 8 (A 3)) := M 3 _ rfl
theorem CH.s3 (M : CH h I A R) (f : Nat → Int32) : CH (hset h 3 (ia 0 8 f)) I (va_up A 3 f) R := by
  intro j e he
  rw [hset_get]
  by_cases hj : j = 3
  · subst hj; rw [if_pos rfl]; exact he
  · rw [if_neg hj]; apply M; rw [← he]; unfold csh; split <;> first | rfl | exact absurd rfl hj
theorem CH.c4 (M : CH h I A R) : h.2.2 4 = some (ia 0 8 (A 4)) := M 4 _ rfl
theorem CH.s4 (M : CH h I A R) (f : Nat → Int32) : CH (hset h 4 (ia 0 8 f)) I (va_up A 4 f) R := by
  intro j e he
  rw [hset_get]
  by_cases hj : j = 4
  · subst hj; rw [if_pos rfl]; exact he
  · rw [if_neg hj]; apply M; rw [← he]; unfold csh; split <;> first | rfl | exact absurd rfl hj
theorem CH.c5 (M : CH h I A R) : h.2.2 5 = some (oc5 (I 5)) := M 5 _ rfl
theorem CH.s5 (M : CH h I A R) (J : Nat → Int32) : CH (hset h 5 (oc5 J)) (va_up I 5 J) A R := by
  intro j e he
  rw [hset_get]
  by_cases hj : j = 5
  · subst hj; rw [if_pos rfl]; exact he
  · rw [if_neg hj]; apply M; rw [← he]; unfold csh; split <;> first | rfl | exact absurd rfl hj
theorem CH.c6 (M : CH h I A R) : h.2.2 6 = some (ra 3 6 (R 6)) := M 6 _ rfl
theorem CH.s6 (M : CH h I A R) (f : Nat → Option Nat) : CH (hset h 6 (ra 3 6 f)) I A (va_up R 6 f) := by
  intro j e he
  rw [hset_get]
  by_cases hj : j = 6
  · subst hj; rw [if_pos rfl]; exact he
  · rw [if_neg hj]; apply M; rw [← he]; unfold csh; split <;> first | rfl | exact absurd rfl hj
theorem CH.c7 (M : CH h I A R) : h.2.2 7 = some (oc7 (I 7)) := M 7 _ rfl
theorem CH.s7 (M : CH h I A R) (J : Nat → Int32) : CH (hset h 7 (oc7 J)) (va_up I 7 J) A R := by
  intro j e he
  rw [hset_get]
  by_cases hj : j = 7
  · subst hj; rw [if_pos rfl]; exact he
  · rw [if_neg hj]; apply M; rw [← he]; unfold csh; split <;> first | rfl | exact absurd rfl hj
theorem CH.c8 (M : CH h I A R) : h.2.2 8 = some (ra 4 26 (R 8)) := M 8 _ rfl
theorem CH.s8 (M : CH h I A R) (f : Nat → Option Nat) : CH (hset h 8 (ra 4 26 f)) I A (va_up R 8 f) := by
  intro j e he
  rw [hset_get]
  by_cases hj : j = 8
  · subst hj; rw [if_pos rfl]; exact he
  · rw [if_neg hj]; apply M; rw [← he]; unfold csh; split <;> first | rfl | exact absurd rfl hj
theorem CH.c9 (M : CH h I A R) : h.2.2 9 = some (oc9 (I 9)) := M 9 _ rfl
theorem CH.s9 (M : CH h I A R) (J : Nat → Int32) : CH (hset h 9 (oc9 J)) (va_up I 9 J) A R := by
  intro j e he
  rw [hset_get]
  by_cases hj : j = 9
  · subst hj; rw [if_pos rfl]; exact he
  · rw [if_neg hj]; apply M; rw [← he]; unfold csh; split <;> first | rfl | exact absurd rfl hj
theorem CH.c10 (M : CH h I A R) : h.2.2 10 = some (ia 0 64 (A 10)) := M 10 _ rfl
theorem CH.s10 (M : CH h I A R) (f : Nat → Int32) : CH (hset h 10 (ia 0 64 f)) I (va_up A 10 f) R := by
  intro j e he
  rw [hset_get]
  by_cases hj : j = 10
  · subst hj; rw [if_pos rfl]; exact he
  · rw [if_neg hj]; apply M; rw [← he]; unfold csh; split <;> first | rfl | exact absurd rfl hj
theorem CH.c11 (M : CH h I A R) : h.2.2 11 = some (ia 0 32 (A 11)) := M 11 _ rfl
theorem CH.s11 (M : CH h I A R) (f : Nat → Int32) : CH (hset h 11 (ia 0 32 f)) I (va_up A 11 f) R := by
  intro j e he
  rw [hset_get]
  by_cases hj : j = 11
  · subst hj; rw [if_pos rfl]; exact he
  · rw [if_neg hj]; apply M; rw [← he]; unfold csh; split <;> first | rfl | exact absurd rfl hj
theorem CH.c12 (M : CH h I A R) : h.2.2 12 = some (ia 0 32 (A 12)) := M 12 _ rfl
theorem CH.s12 (M : CH h I A R) (f : Nat → Int32) : CH (hset h 12 (ia 0 32 f)) I (va_up A 12 f) R := by
  intro j e he
  rw [hset_get]
  by_cases hj : j = 12
  · subst hj; rw [if_pos rfl]; exact he
  · rw [if_neg hj]; apply M; rw [← he]; unfold csh; split <;> first | rfl | exact absurd rfl hj
theorem CH.c13 (M : CH h I A R) : h.2.2 13 = some (oc13 (I 13)) := M 13 _ rfl
theorem CH.s13 (M : CH h I A R) (J : Nat → Int32) : CH (hset h 13 (oc13 J)) (va_up I 13 J) A R := by
  intro j e he
  rw [hset_get]
  by_cases hj : j = 13
  · subst hj; rw [if_pos rfl]; exact he
  · rw [if_neg hj]; apply M; rw [← he]; unfold csh; split <;> first | rfl | exact absurd rfl hj
theorem CH.c14 (M : CH h I A R) : h.2.2 14 = some (ia 0 32 (A 14)) := M 14 _ rfl
theorem CH.s14 (M : CH h I A R) (f : Nat → Int32) : CH (hset h 14 (ia 0 32 f)) I (va_up A 14 f) R := by
  intro j e he
  rw [hset_get]
  by_cases hj : j = 14
  · subst hj; rw [if_pos rfl]; exact he
  · rw [if_neg hj]; apply M; rw [← he]; unfold csh; split <;> first | rfl | exact absurd rfl hj
theorem CH.c15 (M : CH h I A R) : h.2.2 15 = some (ia 0 1024 (A 15)) := M 15 _ rfl
theorem CH.s15 (M : CH h I A R) (f : Nat → Int32) : CH (hset h 15 (ia 0 1024 f)) I (va_up A 15 f) R := by
  intro j e he
  rw [hset_get]
  by_cases hj : j = 15
  · subst hj; rw [if_pos rfl]; exact he
  · rw [if_neg hj]; apply M; rw [← he]; unfold csh; split <;> first | rfl | exact absurd rfl hj
theorem CH.c16 (M : CH h I A R) : h.2.2 16 = some (oc16 (I 16)) := M 16 _ rfl
theorem CH.s16 (M : CH h I A R) (J : Nat → Int32) : CH (hset h 16 (oc16 J)) (va_up I 16 J) A R := by
  intro j e he
  rw [hset_get]
  by_cases hj : j = 16
  · subst hj; rw [if_pos rfl]; exact he
  · rw [if_neg hj]; apply M; rw [← he]; unfold csh; split <;> first | rfl | exact absurd rfl hj
theorem CH.c17 (M : CH h I A R) : h.2.2 17 = some (ia 0 66 (A 17)) := M 17 _ rfl
theorem CH.s17 (M : CH h I A R) (f : Nat → Int32) : CH (hset h 17 (ia 0 66 f)) I (va_up A 17 f) R := by
  intro j e he
  rw [hset_get]
  by_cases hj : j = 17
  · subst hj; rw [if_pos rfl]; exact he
  · rw [if_neg hj]; apply M; rw [← he]; unfold csh; split <;> first | rfl | exact absurd rfl hj
theorem CH.c18 (M : CH h I A R) : h.2.2 18 = some (oc18 (I 18)) := M 18 _ rfl
theorem CH.s18 (M : CH h I A R) (J : Nat → Int32) : CH (hset h 18 (oc18 J)) (va_up I 18 J) A R := by
  intro j e he
  rw [hset_get]
  by_cases hj : j = 18
  · subst hj; rw [if_pos rfl]; exact he
  · rw [if_neg hj]; apply M; rw [← he]; unfold csh; split <;> first | rfl | exact absurd rfl hj
theorem CH.c19 (M : CH h I A R) : h.2.2 19 = some (oc19 (I 19)) := M 19 _ rfl
theorem CH.s19 (M : CH h I A R) (J : Nat → Int32) : CH (hset h 19 (oc19 J)) (va_up I 19 J) A R := by
  intro j e he
  rw [hset_get]
  by_cases hj : j = 19
  · subst hj; rw [if_pos rfl]; exact he
  · rw [if_neg hj]; apply M; rw [← he]; unfold csh; split <;> first | rfl | exact absurd rfl hj
theorem CH.c20 (M : CH h I A R) : h.2.2 20 = some (oc20 (I 20)) := M 20 _ rfl
theorem CH.s20 (M : CH h I A R) (J : Nat → Int32) : CH (hset h 20 (oc20 J)) (va_up I 20 J) A R := by
  intro j e he
  rw [hset_get]
  by_cases hj : j = 20
  · subst hj; rw [if_pos rfl]; exact he
  · rw [if_neg hj]; apply M; rw [← he]; unfold csh; split <;> first | rfl | exact absurd rfl hj
theorem CH.c21 (M : CH h I A R) : h.2.2 21 = some (ia 0 66 (A 21)) := M 21 _ rfl
theorem CH.s21 (M : CH h I A R) (f : Nat → Int32) : CH (hset h 21 (ia 0 66 f)) I (va_up A 21 f) R := by
  intro j e he
  rw [hset_get]
  by_cases hj : j = 21
  · subst hj; rw [if_pos rfl]; exact he
  · rw [if_neg hj]; apply M; rw [← he]; unfold csh; split <;> first | rfl | exact absurd rfl hj
theorem CH.c22 (M : CH h I A R) : h.2.2 22 = some (oc22 (I 22)) := M 22 _ rfl
theorem CH.s22 (M : CH h I A R) (J : Nat → Int32) : CH (hset h 22 (oc22 J)) (va_up I 22 J) A R := by
  intro j e he
  rw [hset_get]
  by_cases hj : j = 22
  · subst hj; rw [if_pos rfl]; exact he
  · rw [if_neg hj]; apply M; rw [← he]; unfold csh; split <;> first | rfl | exact absurd rfl hj
theorem CH.c23 (M : CH h I A R) : h.2.2 23 = some (ia 0 66 (A 23)) := M 23 _ rfl
theorem CH.s23 (M : CH h I A R) (f : Nat → Int32) : CH (hset h 23 (ia 0 66 f)) I (va_up A 23 f) R := by
  intro j e he
  rw [hset_get]
  by_cases hj : j = 23
  · subst hj; rw [if_pos rfl]; exact he
  · rw [if_neg hj]; apply M; rw [← he]; unfold csh; split <;> first | rfl | exact absurd rfl hj
theorem CH.fr (M : CH h I A R) {h' : Hp} (hf : ∀ c, 1 ≤ c → c < 24 → h'.2.2 c = h.2.2 c) : CH h' I A R := by
  intro j e he
  rw [hf j (by unfold csh at he; split at he <;> first | omega | cases he) (by unfold csh at he; split at he <;> first | omega | cases he)]
  exact M j e he
end CELLS_CH
