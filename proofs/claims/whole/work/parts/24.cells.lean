/-! NUMBERS for the walks -/
theorem fa_lit (n : Nat) : (OfNat.ofNat n : Int32) = nI n := rfl
theorem nq_add (a b : Nat) : nI a + nI b = nI (a + b) := nI_add a b
theorem nq_addl (a n : Nat) : nI a + (OfNat.ofNat n : Int32) = nI (a + n) := nI_add a n
theorem nq_ladd (a n : Nat) : (OfNat.ofNat n : Int32) + nI a = nI (n + a) := nI_add n a
theorem nq_mul (a b : Nat) : nI a * nI b = nI (a * b) := pk_mul a b
theorem nq_lmul (n a : Nat) : (OfNat.ofNat n : Int32) * nI a = nI (n * a) := pk_mul n a
theorem nq_mull (a n : Nat) : nI a * (OfNat.ofNat n : Int32) = nI (a * n) := pk_mul a n
theorem nq_sub {a b : Nat} (h : b ≤ a) : nI a - nI b = nI (a - b) := pk_sub h
theorem nq_subl {a n : Nat} (h : n ≤ a) : nI a - (OfNat.ofNat n : Int32) = nI (a - n) := pk_sub h
theorem nq_cl {n : Nat} (h : n < 2147483648) : (nI n).toNatClampNeg = n := nI_clamp h
theorem nq_cll (n : Nat) (h : n < 2147483648) : ((OfNat.ofNat n : Int32)).toNatClampNeg = n := nI_clamp h
theorem nq_in {c N : Nat} (h : c < N) (hN : N < 2147483648) : (nI c < 0 ∨ N ≤ (nI c).toNatClampNeg) = False := eq_false (nI_in h hN)
theorem nq_inl {c N : Nat} (h : c < N) (hN : N < 2147483648) : ((OfNat.ofNat c : Int32) < 0 ∨ N ≤ ((OfNat.ofNat c : Int32)).toNatClampNeg) = False := eq_false (nI_in h hN)
theorem nq_lt {a b : Nat} (ha : a < 2147483648) (hb : b < 2147483648) : (nI a < nI b) = (a < b) := propext (nI_ltI ha hb)
theorem nq_le {a b : Nat} (ha : a < 2147483648) (hb : b < 2147483648) : (nI a ≤ nI b) = (a ≤ b) := propext (nI_leI ha hb)
theorem nq_ge {a b : Nat} (ha : a < 2147483648) (hb : b < 2147483648) : (nI a ≥ nI b) = (b ≤ a) := propext (nI_leI hb ha)
theorem nq_gt {a b : Nat} (ha : a < 2147483648) (hb : b < 2147483648) : (nI a > nI b) = (b < a) := propext (nI_ltI hb ha)
theorem nq_eq {a b : Nat} (ha : a < 2147483648) (hb : b < 2147483648) : (nI a = nI b) = (a = b) := propext (nI_eq ha hb)
theorem nq_ltl {a n : Nat} (ha : a < 2147483648) (hb : n < 2147483648) : (nI a < (OfNat.ofNat n : Int32)) = (a < n) := propext (nI_ltI ha hb)
theorem nq_lel {a n : Nat} (ha : a < 2147483648) (hb : n < 2147483648) : (nI a ≤ (OfNat.ofNat n : Int32)) = (a ≤ n) := propext (nI_leI ha hb)
theorem nq_gel {a n : Nat} (ha : a < 2147483648) (hb : n < 2147483648) : (nI a ≥ (OfNat.ofNat n : Int32)) = (n ≤ a) := propext (nI_leI hb ha)
theorem nq_gtl {a n : Nat} (ha : a < 2147483648) (hb : n < 2147483648) : (nI a > (OfNat.ofNat n : Int32)) = (n < a) := propext (nI_ltI hb ha)
theorem nq_eql {a n : Nat} (ha : a < 2147483648) (hb : n < 2147483648) : (nI a = (OfNat.ofNat n : Int32)) = (a = n) := propext (nI_eq ha hb)
theorem nq_div {a n : Nat} (ha : a < 2147483648) (h0 : 0 < n) (hn : n < 2147483648) : nI a / (OfNat.ofNat n : Int32) = nI (a / n) := pk_div ha h0 hn
theorem nq_rem {a n : Nat} (ha : a < 2147483648) (h0 : 0 < n) (hn : n < 2147483648) : nI a - nI a / (OfNat.ofNat n : Int32) * (OfNat.ofNat n : Int32) = nI (a % n) := pk_rem ha h0 hn
/-- an answer of yes or no -/
def bI (b : Bool) : Int32 := if b then 1 else 0
theorem bI_eq0 (b : Bool) : (bI b = 0) = (b = false) := by cases b <;> simp [bI]
theorem bI_eq1 (b : Bool) : (bI b = 1) = (b = true) := by cases b <;> simp [bI]
theorem bI_z (b : Bool) : (bI b = 0 ∨ bI b = 1) = True := by cases b <;> simp [bI]
theorem bI_t : bI true = 1 := rfl
theorem bI_f : bI false = 0 := rfl
theorem bI_nar (b : Bool) : vp_nar .boolean (bI b) = bI b := by cases b <;> rfl
theorem nar0 : vp_nar .boolean 0 = 0 := rfl
theorem nar1 : vp_nar .boolean 1 = 1 := rfl
theorem i01 : ((0 : Int32) = 1) = False := by simp
theorem i10 : ((1 : Int32) = 0) = False := by simp
theorem or_tl {p : Prop} : (True ∨ p) = True := by simp
theorem or_tr {p : Prop} : (p ∨ True) = True := by simp
/-- rows of which the first i are new -/
def gmix {α : Type} (i : Nat) (nw od : Nat → α) : Nat → α := fun j => if j < i then nw j else od j
theorem gmix_0 {α : Type} (nw od : Nat → α) : gmix 0 nw od = od := by funext j; simp [gmix]
theorem gmix_at {α : Type} (i : Nat) (nw od : Nat → α) : gmix i nw od i = od i := by simp [gmix]
theorem gmix_lt {α : Type} {i j : Nat} {nw od : Nat → α} (h : j < i) : gmix i nw od j = nw j := by simp [gmix, h]
theorem gmix_ge {α : Type} {i j : Nat} {nw od : Nat → α} (h : i ≤ j) : gmix i nw od j = od j := by simp [gmix, Nat.not_lt.mpr h]
theorem upd_gmix {i : Nat} {nw od : Nat → Int32} {x : Int32} (hx : x = nw i) : upd (gmix i nw od) i x = gmix (i + 1) nw od := by
  funext j
  simp only [upd, gmix]
  by_cases h1 : j = i
  · subst h1; simp [hx]
  · have : (j < i + 1) = (j < i) := by apply propext; omega
    simp [h1, this]
theorem upd_self (f : Nat → Int32) (i : Nat) (x : Int32) : upd f i x i = x := by simp [upd]
theorem upd_ne (f : Nat → Int32) {i j : Nat} (x : Int32) (h : j ≠ i) : upd f i x j = f j := by simp [upd, h]
theorem upd_upd (f : Nat → Int32) (i : Nat) (x y : Int32) : upd (upd f i x) i y = upd f i y := by
  funext j; simp only [upd]; split <;> rfl
theorem va_up_self {α : Type} (f : Nat → α) (i : Nat) (x : α) : va_up f i x i = x := by simp [va_up]
theorem va_up_ne {α : Type} (f : Nat → α) {i j : Nat} (x : α) (h : j ≠ i) : va_up f i x j = f j := by simp [va_up, h]
theorem hset_hset (h : Hp) (k : Nat) (e e' : AE) : hset (hset h k e) k e' = hset h k e' := by
  unfold hset
  simp only
  congr 2
  funext j
  split <;> rfl
theorem hset_swap (h : Hp) {k k' : Nat} (hk : k ≠ k') (e e' : AE) : hset (hset h k e) k' e' = hset (hset h k' e') k e := by
  unfold hset
  simp only
  congr 2
  funext j
  by_cases h1 : j = k'
  · subst h1; simp [Ne.symm hk]
  · simp [h1]
abbrev ia (t n : Nat) (f : Nat → Int32) : AE := .inr (.inl (t, n, f))
abbrev ra (t n : Nat) (f : Nat → Option Nat) : AE := .inr (.inr (t, n, f))
abbrev ob (ci : Nat) (fs : List Value) : AE := .inl (ci, fs)
abbrev oc1 (J : Nat → Int32) : AE := ob 9 [.int (J 0), .int (J 1), .int (J 2), .ref 2, .ref 5, .ref 7, .ref 9, .ref 11, .ref 12, .ref 13, .ref 16, .ref 18, .ref 19]
abbrev oc2 (J : Nat → Int32) : AE := ob 5 [.ref 3, .ref 4, .int (J 2)]
abbrev oc5 (J : Nat → Int32) : AE := ob 6 [.ref 6, .int (J 1)]
abbrev oc7 (J : Nat → Int32) : AE := ob 7 [.ref 8, .int (J 1)]
abbrev oc9 (J : Nat → Int32) : AE := ob 2 [.ref 10, .int (J 1)]
abbrev oc13 (J : Nat → Int32) : AE := ob 1 [.ref 14, .ref 15, .int (J 2)]
abbrev oc16 (J : Nat → Int32) : AE := ob 3 [.ref 17, .int (J 1)]
abbrev oc18 (J : Nat → Int32) : AE := ob 0 [.int (J 0), .int (J 1), .int (J 2)]
abbrev oc19 (J : Nat → Int32) : AE := ob 4 [.ref 20, .ref 22, .int (J 2)]
abbrev oc20 (J : Nat → Int32) : AE := ob 3 [.ref 21, .int (J 1)]
abbrev oc22 (J : Nat → Int32) : AE := ob 3 [.ref 23, .int (J 1)]
abbrev oc24 (J : Nat → Int32) : AE := ob 10 [.int (J 0), .int (J 1), .int (J 2), .ref 25, .ref 26, .ref 27, .ref 28, .ref 29, .ref 30, .ref 31, .ref 32, .ref 33, .ref 34, .int (J 13), .ref 35, .ref 36, .int (J 16), .ref 37, .int (J 18), .int (J 19), .int (J 20), .ref 38, .int (J 22), .ref 39]
def msh (I : Nat → Nat → Int32) (A : Nat → Nat → Int32) : Nat → Option AE := fun c => match c with
  | 24 => some (oc24 (I 24))
  | 25 => some (ia 0 8 (A 25))
  | 26 => some (ia 0 8 (A 26))
  | 27 => some (ia 0 27 (A 27))
  | 28 => some (ia 0 162 (A 28))
  | 29 => some (ia 0 162 (A 29))
  | 30 => some (ia 0 162 (A 30))
  | 31 => some (ia 0 1296 (A 31))
  | 32 => some (ia 0 1296 (A 32))
  | 33 => some (ia 0 32 (A 33))
  | 34 => some (ia 0 32 (A 34))
  | 35 => some (ia 0 1024 (A 35))
  | 36 => some (ia 1 1024 (A 36))
  | 37 => some (ia 0 162 (A 37))
  | 38 => some (ia 1 26 (A 38))
  | 39 => some (ia 0 64 (A 39))
  | _ => none
def MH (h : Hp) (I : Nat → Nat → Int32) (A : Nat → Nat → Int32) : Prop := ∀ (c : Nat) (e : AE), msh I A c = some e → h.2.2 c = some e
section CELLS_MH
variable {h : Hp} {I : Nat → Nat → Int32} {A : Nat → Nat → Int32}
theorem MH.c24 (M : MH h I A) : h.2.2 24 = some (oc24 (I 24)) := M 24 _ rfl
theorem MH.s24 (M : MH h I A) (J : Nat → Int32) : MH (hset h 24 (oc24 J)) (va_up I 24 J) A := by
  intro j e he
  rw [hset_get]
  by_cases hj : j = 24
  · subst hj; rw [if_pos rfl]; exact he
  · rw [if_neg hj]; apply M; rw [← he]; unfold msh; split <;> first | rfl | exact absurd rfl hj
theorem MH.c25 (M : MH h I A) : h.2.2 25 = some (ia 0 8 (A 25)) := M 25 _ rfl
theorem MH.s25 (M : MH h I A) (f : Nat → Int32) : MH (hset h 25 (ia 0 8 f)) I (va_up A 25 f) := by
  intro j e he
  rw [hset_get]
  by_cases hj : j = 25
  · subst hj; rw [if_pos rfl]; exact he
  · rw [if_neg hj]; apply M; rw [← he]; unfold msh; split <;> first | rfl | exact absurd rfl hj
theorem MH.c26 (M : MH h I A) : h.2.2 26 = some (ia 0 8 (A 26)) := M 26 _ rfl
theorem MH.s26 (M : MH h I A) (f : Nat → Int32) : MH (hset h 26 (ia 0 8 f)) I (va_up A 26 f) := by
  intro j e he
  rw [hset_get]
  by_cases hj : j = 26
  · subst hj; rw [if_pos rfl]; exact he
  · rw [if_neg hj]; apply M; rw [← he]; unfold msh; split <;> first | rfl | exact absurd rfl hj
theorem MH.c27 (M : MH h I A) : h.2.2 27 = some (ia 0 27 (A 27)) := M 27 _ rfl
theorem MH.s27 (M : MH h I A) (f : Nat → Int32) : MH (hset h 27 (ia 0 27 f)) I (va_up A 27 f) := by
  intro j e he
  rw [hset_get]
  by_cases hj : j = 27
  · subst hj; rw [if_pos rfl]; exact he
  · rw [if_neg hj]; apply M; rw [← he]; unfold msh; split <;> first | rfl | exact absurd rfl hj
theorem MH.c28 (M : MH h I A) : h.2.2 28 = some (ia 0 162 (A 28)) := M 28 _ rfl
theorem MH.s28 (M : MH h I A) (f : Nat → Int32) : MH (hset h 28 (ia 0 162 f)) I (va_up A 28 f) := by
  intro j e he
  rw [hset_get]
  by_cases hj : j = 28
  · subst hj; rw [if_pos rfl]; exact he
  · rw [if_neg hj]; apply M; rw [← he]; unfold msh; split <;> first | rfl | exact absurd rfl hj
theorem MH.c29 (M : MH h I A) : h.2.2 29 = some (ia 0 162 (A 29)) := M 29 _ rfl
theorem MH.s29 (M : MH h I A) (f : Nat → Int32) : MH (hset h 29 (ia 0 162 f)) I (va_up A 29 f) := by
  intro j e he
  rw [hset_get]
  by_cases hj : j = 29
  · subst hj; rw [if_pos rfl]; exact he
  · rw [if_neg hj]; apply M; rw [← he]; unfold msh; split <;> first | rfl | exact absurd rfl hj
theorem MH.c30 (M : MH h I A) : h.2.2 30 = some (ia 0 162 (A 30)) := M 30 _ rfl
theorem MH.s30 (M : MH h I A) (f : Nat → Int32) : MH (hset h 30 (ia 0 162 f)) I (va_up A 30 f) := by
  intro j e he
  rw [hset_get]
  by_cases hj : j = 30
  · subst hj; rw [if_pos rfl]; exact he
  · rw [if_neg hj]; apply M; rw [← he]; unfold msh; split <;> first | rfl | exact absurd rfl hj
theorem MH.c31 (M : MH h I A) : h.2.2 31 = some (ia 0 1296 (A 31)) := M 31 _ rfl
theorem MH.s31 (M : MH h I A) (f : Nat → Int32) : MH (hset h 31 (ia 0 1296 f)) I (va_up A 31 f) := by
  intro j e he
  rw [hset_get]
  by_cases hj : j = 31
  · subst hj; rw [if_pos rfl]; exact he
  · rw [if_neg hj]; apply M; rw [← he]; unfold msh; split <;> first | rfl | exact absurd rfl hj
theorem MH.c32 (M : MH h I A) : h.2.2 32 = some (ia 0 1296 (A 32)) := M 32 _ rfl
theorem MH.s32 (M : MH h I A) (f : Nat → Int32) : MH (hset h 32 (ia 0 1296 f)) I (va_up A 32 f) := by
  intro j e he
  rw [hset_get]
  by_cases hj : j = 32
  · subst hj; rw [if_pos rfl]; exact he
  · rw [if_neg hj]; apply M; rw [← he]; unfold msh; split <;> first | rfl | exact absurd rfl hj
theorem MH.c33 (M : MH h I A) : h.2.2 33 = some (ia 0 32 (A 33)) := M 33 _ rfl
theorem MH.s33 (M : MH h I A) (f : Nat → Int32) : MH (hset h 33 (ia 0 32 f)) I (va_up A 33 f) := by
  intro j e he
  rw [hset_get]
  by_cases hj : j = 33
  · subst hj; rw [if_pos rfl]; exact he
  · rw [if_neg hj]; apply M; rw [← he]; unfold msh; split <;> first | rfl | exact absurd rfl hj
theorem MH.c34 (M : MH h I A) : h.2.2 34 = some (ia 0 32 (A 34)) := M 34 _ rfl
theorem MH.s34 (M : MH h I A) (f : Nat → Int32) : MH (hset h 34 (ia 0 32 f)) I (va_up A 34 f) := by
  intro j e he
  rw [hset_get]
  by_cases hj : j = 34
  · subst hj; rw [if_pos rfl]; exact he
  · rw [if_neg hj]; apply M; rw [← he]; unfold msh; split <;> first | rfl | exact absurd rfl hj
theorem MH.c35 (M : MH h I A) : h.2.2 35 = some (ia 0 1024 (A 35)) := M 35 _ rfl
theorem MH.s35 (M : MH h I A) (f : Nat → Int32) : MH (hset h 35 (ia 0 1024 f)) I (va_up A 35 f) := by
  intro j e he
  rw [hset_get]
  by_cases hj : j = 35
  · subst hj; rw [if_pos rfl]; exact he
  · rw [if_neg hj]; apply M; rw [← he]; unfold msh; split <;> first | rfl | exact absurd rfl hj
theorem MH.c36 (M : MH h I A) : h.2.2 36 = some (ia 1 1024 (A 36)) := M 36 _ rfl
theorem MH.s36 (M : MH h I A) (f : Nat → Int32) : MH (hset h 36 (ia 1 1024 f)) I (va_up A 36 f) := by
  intro j e he
  rw [hset_get]
  by_cases hj : j = 36
  · subst hj; rw [if_pos rfl]; exact he
  · rw [if_neg hj]; apply M; rw [← he]; unfold msh; split <;> first | rfl | exact absurd rfl hj
theorem MH.c37 (M : MH h I A) : h.2.2 37 = some (ia 0 162 (A 37)) := M 37 _ rfl
theorem MH.s37 (M : MH h I A) (f : Nat → Int32) : MH (hset h 37 (ia 0 162 f)) I (va_up A 37 f) := by
  intro j e he
  rw [hset_get]
  by_cases hj : j = 37
  · subst hj; rw [if_pos rfl]; exact he
  · rw [if_neg hj]; apply M; rw [← he]; unfold msh; split <;> first | rfl | exact absurd rfl hj
theorem MH.c38 (M : MH h I A) : h.2.2 38 = some (ia 1 26 (A 38)) := M 38 _ rfl
theorem MH.s38 (M : MH h I A) (f : Nat → Int32) : MH (hset h 38 (ia 1 26 f)) I (va_up A 38 f) := by
  intro j e he
  rw [hset_get]
  by_cases hj : j = 38
  · subst hj; rw [if_pos rfl]; exact he
  · rw [if_neg hj]; apply M; rw [← he]; unfold msh; split <;> first | rfl | exact absurd rfl hj
theorem MH.c39 (M : MH h I A) : h.2.2 39 = some (ia 0 64 (A 39)) := M 39 _ rfl
theorem MH.s39 (M : MH h I A) (f : Nat → Int32) : MH (hset h 39 (ia 0 64 f)) I (va_up A 39 f) := by
  intro j e he
  rw [hset_get]
  by_cases hj : j = 39
  · subst hj; rw [if_pos rfl]; exact he
  · rw [if_neg hj]; apply M; rw [← he]; unfold msh; split <;> first | rfl | exact absurd rfl hj
theorem MH.fr (M : MH h I A) {h' : Hp} (hf : ∀ c, 24 ≤ c → c < 40 → h'.2.2 c = h.2.2 c) : MH h' I A := by
  intro j e he
  rw [hf j (by unfold msh at he; split at he <;> first | omega | cases he) (by unfold msh at he; split at he <;> first | omega | cases he)]
  exact M j e he
end CELLS_MH
def csh (I : Nat → Nat → Int32) (A : Nat → Nat → Int32) (R : Nat → Nat → Option Nat) : Nat → Option AE := fun c => match c with
  | 1 => some (oc1 (I 1))
  | 2 => some (oc2 (I 2))
  | 3 => some (ia 0 8 (A 3))
  | 4 => some (ia 0 8 (A 4))
  | 5 => some (oc5 (I 5))
  | 6 => some (ra 3 6 (R 6))
  | 7 => some (oc7 (I 7))
  | 8 => some (ra 4 26 (R 8))
  | 9 => some (oc9 (I 9))
  | 10 => some (ia 0 64 (A 10))
  | 11 => some (ia 0 32 (A 11))
  | 12 => some (ia 0 32 (A 12))
  | 13 => some (oc13 (I 13))
  | 14 => some (ia 0 32 (A 14))
  | 15 => some (ia 0 1024 (A 15))
  | 16 => some (oc16 (I 16))
  | 17 => some (ia 0 66 (A 17))
  | 18 => some (oc18 (I 18))
  | 19 => some (oc19 (I 19))
  | 20 => some (oc20 (I 20))
  | 21 => some (ia 0 66 (A 21))
  | 22 => some (oc22 (I 22))
  | 23 => some (ia 0 66 (A 23))
  | _ => none
def CH (h : Hp) (I : Nat → Nat → Int32) (A : Nat → Nat → Int32) (R : Nat → Nat → Option Nat) : Prop := ∀ (c : Nat) (e : AE), csh I A R c = some e → h.2.2 c = some e
section CELLS_CH
variable {h : Hp} {I : Nat → Nat → Int32} {A : Nat → Nat → Int32} {R : Nat → Nat → Option Nat}
theorem CH.c1 (M : CH h I A R) : h.2.2 1 = some (oc1 (I 1)) := M 1 _ rfl
theorem CH.s1 (M : CH h I A R) (J : Nat → Int32) : CH (hset h 1 (oc1 J)) (va_up I 1 J) A R := by
  intro j e he
  rw [hset_get]
  by_cases hj : j = 1
  · subst hj; rw [if_pos rfl]; exact he
  · rw [if_neg hj]; apply M; rw [← he]; unfold csh; split <;> first | rfl | exact absurd rfl hj
theorem CH.c2 (M : CH h I A R) : h.2.2 2 = some (oc2 (I 2)) := M 2 _ rfl
theorem CH.s2 (M : CH h I A R) (J : Nat → Int32) : CH (hset h 2 (oc2 J)) (va_up I 2 J) A R := by
  intro j e he
  rw [hset_get]
  by_cases hj : j = 2
  · subst hj; rw [if_pos rfl]; exact he
  · rw [if_neg hj]; apply M; rw [← he]; unfold csh; split <;> first | rfl | exact absurd rfl hj
theorem CH.c3 (M : CH h I A R) : h.2.2 3 = some (ia 0 8 (A 3)) := M 3 _ rfl
theorem CH.s3 (M : CH h I A R) (f : Nat → Int32) : CH (hset h 3 (ia 0 8 f)) I (va_up A 3 f) R := by
  intro j e he
  rw [hset_get]
  by_cases hj : j = 3
  · subst hj; rw [if_pos rfl]; exact he
  · rw [if_neg hj]; apply M; rw [← he]; unfold csh; split <;> first | rfl | exact absurd rfl hj
theorem CH.c4 (M : CH h I A R) : h.2.2 4 = some (ia 0 8 (A 4)) := M 4 _ rfl
theorem CH.s4 (M : CH h I A R) (f : Nat → Int32) : CH (hset h 4 (ia 0 8 f)) I (va_up A 4 f) R := by
  intro j e he
  rw [hset_get]
  by_cases hj : j = 4
  · subst hj; rw [if_pos rfl]; exact he
  · rw [if_neg hj]; apply M; rw [← he]; unfold csh; split <;> first | rfl | exact absurd rfl hj
theorem CH.c5 (M : CH h I A R) : h.2.2 5 = some (oc5 (I 5)) := M 5 _ rfl
theorem CH.s5 (M : CH h I A R) (J : Nat → Int32) : CH (hset h 5 (oc5 J)) (va_up I 5 J) A R := by
  intro j e he
  rw [hset_get]
  by_cases hj : j = 5
  · subst hj; rw [if_pos rfl]; exact he
  · rw [if_neg hj]; apply M; rw [← he]; unfold csh; split <;> first | rfl | exact absurd rfl hj
theorem CH.c6 (M : CH h I A R) : h.2.2 6 = some (ra 3 6 (R 6)) := M 6 _ rfl
theorem CH.s6 (M : CH h I A R) (f : Nat → Option Nat) : CH (hset h 6 (ra 3 6 f)) I A (va_up R 6 f) := by
  intro j e he
  rw [hset_get]
  by_cases hj : j = 6
  · subst hj; rw [if_pos rfl]; exact he
  · rw [if_neg hj]; apply M; rw [← he]; unfold csh; split <;> first | rfl | exact absurd rfl hj
theorem CH.c7 (M : CH h I A R) : h.2.2 7 = some (oc7 (I 7)) := M 7 _ rfl
theorem CH.s7 (M : CH h I A R) (J : Nat → Int32) : CH (hset h 7 (oc7 J)) (va_up I 7 J) A R := by
  intro j e he
  rw [hset_get]
  by_cases hj : j = 7
  · subst hj; rw [if_pos rfl]; exact he
  · rw [if_neg hj]; apply M; rw [← he]; unfold csh; split <;> first | rfl | exact absurd rfl hj
theorem CH.c8 (M : CH h I A R) : h.2.2 8 = some (ra 4 26 (R 8)) := M 8 _ rfl
theorem CH.s8 (M : CH h I A R) (f : Nat → Option Nat) : CH (hset h 8 (ra 4 26 f)) I A (va_up R 8 f) := by
  intro j e he
  rw [hset_get]
  by_cases hj : j = 8
  · subst hj; rw [if_pos rfl]; exact he
  · rw [if_neg hj]; apply M; rw [← he]; unfold csh; split <;> first | rfl | exact absurd rfl hj
theorem CH.c9 (M : CH h I A R) : h.2.2 9 = some (oc9 (I 9)) := M 9 _ rfl
theorem CH.s9 (M : CH h I A R) (J : Nat → Int32) : CH (hset h 9 (oc9 J)) (va_up I 9 J) A R := by
  intro j e he
  rw [hset_get]
  by_cases hj : j = 9
  · subst hj; rw [if_pos rfl]; exact he
  · rw [if_neg hj]; apply M; rw [← he]; unfold csh; split <;> first | rfl | exact absurd rfl hj
theorem CH.c10 (M : CH h I A R) : h.2.2 10 = some (ia 0 64 (A 10)) := M 10 _ rfl
theorem CH.s10 (M : CH h I A R) (f : Nat → Int32) : CH (hset h 10 (ia 0 64 f)) I (va_up A 10 f) R := by
  intro j e he
  rw [hset_get]
  by_cases hj : j = 10
  · subst hj; rw [if_pos rfl]; exact he
  · rw [if_neg hj]; apply M; rw [← he]; unfold csh; split <;> first | rfl | exact absurd rfl hj
theorem CH.c11 (M : CH h I A R) : h.2.2 11 = some (ia 0 32 (A 11)) := M 11 _ rfl
theorem CH.s11 (M : CH h I A R) (f : Nat → Int32) : CH (hset h 11 (ia 0 32 f)) I (va_up A 11 f) R := by
  intro j e he
  rw [hset_get]
  by_cases hj : j = 11
  · subst hj; rw [if_pos rfl]; exact he
  · rw [if_neg hj]; apply M; rw [← he]; unfold csh; split <;> first | rfl | exact absurd rfl hj
theorem CH.c12 (M : CH h I A R) : h.2.2 12 = some (ia 0 32 (A 12)) := M 12 _ rfl
theorem CH.s12 (M : CH h I A R) (f : Nat → Int32) : CH (hset h 12 (ia 0 32 f)) I (va_up A 12 f) R := by
  intro j e he
  rw [hset_get]
  by_cases hj : j = 12
  · subst hj; rw [if_pos rfl]; exact he
  · rw [if_neg hj]; apply M; rw [← he]; unfold csh; split <;> first | rfl | exact absurd rfl hj
theorem CH.c13 (M : CH h I A R) : h.2.2 13 = some (oc13 (I 13)) := M 13 _ rfl
theorem CH.s13 (M : CH h I A R) (J : Nat → Int32) : CH (hset h 13 (oc13 J)) (va_up I 13 J) A R := by
  intro j e he
  rw [hset_get]
  by_cases hj : j = 13
  · subst hj; rw [if_pos rfl]; exact he
  · rw [if_neg hj]; apply M; rw [← he]; unfold csh; split <;> first | rfl | exact absurd rfl hj
theorem CH.c14 (M : CH h I A R) : h.2.2 14 = some (ia 0 32 (A 14)) := M 14 _ rfl
theorem CH.s14 (M : CH h I A R) (f : Nat → Int32) : CH (hset h 14 (ia 0 32 f)) I (va_up A 14 f) R := by
  intro j e he
  rw [hset_get]
  by_cases hj : j = 14
  · subst hj; rw [if_pos rfl]; exact he
  · rw [if_neg hj]; apply M; rw [← he]; unfold csh; split <;> first | rfl | exact absurd rfl hj
theorem CH.c15 (M : CH h I A R) : h.2.2 15 = some (ia 0 1024 (A 15)) := M 15 _ rfl
theorem CH.s15 (M : CH h I A R) (f : Nat → Int32) : CH (hset h 15 (ia 0 1024 f)) I (va_up A 15 f) R := by
  intro j e he
  rw [hset_get]
  by_cases hj : j = 15
  · subst hj; rw [if_pos rfl]; exact he
  · rw [if_neg hj]; apply M; rw [← he]; unfold csh; split <;> first | rfl | exact absurd rfl hj
theorem CH.c16 (M : CH h I A R) : h.2.2 16 = some (oc16 (I 16)) := M 16 _ rfl
theorem CH.s16 (M : CH h I A R) (J : Nat → Int32) : CH (hset h 16 (oc16 J)) (va_up I 16 J) A R := by
  intro j e he
  rw [hset_get]
  by_cases hj : j = 16
  · subst hj; rw [if_pos rfl]; exact he
  · rw [if_neg hj]; apply M; rw [← he]; unfold csh; split <;> first | rfl | exact absurd rfl hj
theorem CH.c17 (M : CH h I A R) : h.2.2 17 = some (ia 0 66 (A 17)) := M 17 _ rfl
theorem CH.s17 (M : CH h I A R) (f : Nat → Int32) : CH (hset h 17 (ia 0 66 f)) I (va_up A 17 f) R := by
  intro j e he
  rw [hset_get]
  by_cases hj : j = 17
  · subst hj; rw [if_pos rfl]; exact he
  · rw [if_neg hj]; apply M; rw [← he]; unfold csh; split <;> first | rfl | exact absurd rfl hj
theorem CH.c18 (M : CH h I A R) : h.2.2 18 = some (oc18 (I 18)) := M 18 _ rfl
theorem CH.s18 (M : CH h I A R) (J : Nat → Int32) : CH (hset h 18 (oc18 J)) (va_up I 18 J) A R := by
  intro j e he
  rw [hset_get]
  by_cases hj : j = 18
  · subst hj; rw [if_pos rfl]; exact he
  · rw [if_neg hj]; apply M; rw [← he]; unfold csh; split <;> first | rfl | exact absurd rfl hj
theorem CH.c19 (M : CH h I A R) : h.2.2 19 = some (oc19 (I 19)) := M 19 _ rfl
theorem CH.s19 (M : CH h I A R) (J : Nat → Int32) : CH (hset h 19 (oc19 J)) (va_up I 19 J) A R := by
  intro j e he
  rw [hset_get]
  by_cases hj : j = 19
  · subst hj; rw [if_pos rfl]; exact he
  · rw [if_neg hj]; apply M; rw [← he]; unfold csh; split <;> first | rfl | exact absurd rfl hj
theorem CH.c20 (M : CH h I A R) : h.2.2 20 = some (oc20 (I 20)) := M 20 _ rfl
theorem CH.s20 (M : CH h I A R) (J : Nat → Int32) : CH (hset h 20 (oc20 J)) (va_up I 20 J) A R := by
  intro j e he
  rw [hset_get]
  by_cases hj : j = 20
  · subst hj; rw [if_pos rfl]; exact he
  · rw [if_neg hj]; apply M; rw [← he]; unfold csh; split <;> first | rfl | exact absurd rfl hj
theorem CH.c21 (M : CH h I A R) : h.2.2 21 = some (ia 0 66 (A 21)) := M 21 _ rfl
theorem CH.s21 (M : CH h I A R) (f : Nat → Int32) : CH (hset h 21 (ia 0 66 f)) I (va_up A 21 f) R := by
  intro j e he
  rw [hset_get]
  by_cases hj : j = 21
  · subst hj; rw [if_pos rfl]; exact he
  · rw [if_neg hj]; apply M; rw [← he]; unfold csh; split <;> first | rfl | exact absurd rfl hj
theorem CH.c22 (M : CH h I A R) : h.2.2 22 = some (oc22 (I 22)) := M 22 _ rfl
theorem CH.s22 (M : CH h I A R) (J : Nat → Int32) : CH (hset h 22 (oc22 J)) (va_up I 22 J) A R := by
  intro j e he
  rw [hset_get]
  by_cases hj : j = 22
  · subst hj; rw [if_pos rfl]; exact he
  · rw [if_neg hj]; apply M; rw [← he]; unfold csh; split <;> first | rfl | exact absurd rfl hj
theorem CH.c23 (M : CH h I A R) : h.2.2 23 = some (ia 0 66 (A 23)) := M 23 _ rfl
theorem CH.s23 (M : CH h I A R) (f : Nat → Int32) : CH (hset h 23 (ia 0 66 f)) I (va_up A 23 f) R := by
  intro j e he
  rw [hset_get]
  by_cases hj : j = 23
  · subst hj; rw [if_pos rfl]; exact he
  · rw [if_neg hj]; apply M; rw [← he]; unfold csh; split <;> first | rfl | exact absurd rfl hj
theorem CH.fr (M : CH h I A R) {h' : Hp} (hf : ∀ c, 1 ≤ c → c < 24 → h'.2.2 c = h.2.2 c) : CH h' I A R := by
  intro j e he
  rw [hf j (by unfold csh at he; split at he <;> first | omega | cases he) (by unfold csh at he; split at he <;> first | omega | cases he)]
  exact M j e he
end CELLS_CH
