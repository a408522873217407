/-! the class: its state -/
def cntL (D : Nat → PD) : Nat → Nat
  | 0 => 0
  | n + 1 => cntL D n + if 0 < (D n).1 then 1 else 0
theorem sumD_cnt {D : Nat → PD} (hd : ∀ n, n < 26 → (D n).1 ≤ 6) : ∀ n, n ≤ 26 → sumD D n ≤ 6 * cntL D n
  | 0, _ => Nat.le_refl _
  | n + 1, hn => by
    have h1 := sumD_cnt hd n (by omega)
    have h2 := hd n (by omega)
    simp only [sumD, cntL]
    split <;> omega
/-- nib, limit, the line, the frame, strokes of letters and of the sheet -/
abbrev KK : Type := Int32 × Int32 × Int32 × Nat × (Nat → Int32) × (Nat → Int32) × Int32 × (Nat → Int32) × (Nat → PD)
abbrev KK.D (K : KK) : Nat → PD := K.2.2.2.2.2.2.2.2
def HB (h : Hp) : Prop := ∀ j e, h.2.2 j = some e → j < h.1
theorem HB.set {h : Hp} (b : HB h) {c : Nat} (hc : c < h.1) (e : AE) : HB (hset h c e) := by
  intro j x hx
  by_cases hj : j = c
  · rw [hj]; exact hc
  · rw [hset_get, if_neg hj] at hx
    exact b j x hx
/-- the parts of the class's state, with what is only room to work in -/
def CY (h : Hp) (K : KK) (I : Nat → Nat → Int32) (A : Nat → Nat → Int32) (R : Nat → Nat → Option Nat) (P : Nat → Nat) (o : Nat) : Prop :=
  CH h I A R ∧ (I 1 0 = K.1 ∧ I 1 1 = K.2.1 ∧ I 1 2 = K.2.2.1) ∧ (I 2 2 = nI K.2.2.2.1 ∧ K.2.2.2.1 ≤ 8 ∧ A 3 = K.2.2.2.2.1 ∧ A 4 = K.2.2.2.2.2.1) ∧ (I 9 1 = K.2.2.2.2.2.2.1 ∧ A 10 = K.2.2.2.2.2.2.2.1) ∧ I 5 1 = nI (K.D 26).1 ∧ STs h (R 6) (K.D 26) ∧ (∀ n, n < 26 → LT h (R 8 n) (P n) (K.D n)) ∧ (∀ n m, n < 26 → m < 26 → ¬ n = m → (R 8 n).isSome = true → (R 8 m).isSome = true → ¬ P n = P m) ∧ I 7 1 = nI (cntL K.D 26) ∧ cntL K.D 26 ≤ 10 ∧ I 22 1 = nI o ∧ HB h
def CZ (h : Hp) (K : KK) : Prop := ∃ I A R P o, CY h K I A R P o
/-- changes of cells that the class only works in -/
theorem CY.to {h h' : Hp} {K : KK} {I I' A A' : Nat → Nat → Int32} {R : Nat → Nat → Option Nat} {P : Nat → Nat} {o o' : Nat} (Y : CY h K I A R P o) (C' : CH h' I' A' R) (i1 : I' 1 = I 1) (i2 : I' 2 = I 2) (i5 : I' 5 = I 5) (i7 : I' 7 = I 7) (i9 : I' 9 = I 9) (i22 : I' 22 1 = nI o') (a3 : A' 3 = A 3) (a4 : A' 4 = A 4) (a10 : A' 10 = A 10) (hf : ∀ j e, 40 ≤ j → h.2.2 j = some e → h'.2.2 j = some e) (hb : HB h') : CZ h' K := by
  obtain ⟨C, u, l, f, s1, S, L, dis, n1, n2, ho, b⟩ := Y
  refine ⟨I', A', R, P, o', C', ?_, ?_, ?_, ?_, S.fr hf, fun n hn => (L n hn).fr hf, dis, ?_, n2, i22, hb⟩
  · rw [i1]; exact u
  · rw [i2, a3, a4]; exact l
  · rw [i9, a10]; exact f
  · rw [i5]; exact s1
  · rw [i7]; exact n1
section CZs
variable {h : Hp} {K : KK} {I : Nat → Nat → Int32} {A : Nat → Nat → Int32} {R : Nat → Nat → Option Nat} {P : Nat → Nat} {o : Nat}
theorem CY.ge {c : Nat} (hc : c < 40) (e : AE) : ∀ j x, 40 ≤ j → h.2.2 j = some x → (hset h c e).2.2 j = some x := fun j x hj hx => by rw [hset_get, if_neg (by omega)]; exact hx
theorem CY.lt (Y : CY h K I A R P o) {c : Nat} {e : AE} (hc : h.2.2 c = some e) : c < h.1 := Y.2.2.2.2.2.2.2.2.2.2.2 c e hc
theorem CY.hb (Y : CY h K I A R P o) : HB h := Y.2.2.2.2.2.2.2.2.2.2.2
theorem CY.s11 (Y : CY h K I A R P o) (f : Nat → Int32) : CZ (hset h 11 (ia 0 32 f)) K :=
  Y.to (Y.1.s11 f) rfl rfl rfl rfl rfl Y.2.2.2.2.2.2.2.2.2.2.1 rfl rfl rfl (CY.ge (by omega) _) (Y.hb.set (Y.lt Y.1.c11) _)
theorem CY.s12 (Y : CY h K I A R P o) (f : Nat → Int32) : CZ (hset h 12 (ia 0 32 f)) K :=
  Y.to (Y.1.s12 f) rfl rfl rfl rfl rfl Y.2.2.2.2.2.2.2.2.2.2.1 rfl rfl rfl (CY.ge (by omega) _) (Y.hb.set (Y.lt Y.1.c12) _)
def ftJ (s : FT) : Nat → Int32 := fun j => if j = 0 then s.1 else if j = 1 then s.2.1 else s.2.2
theorem CY.s18 (Y : CY h K I A R P o) (s : FT) : CZ (hset h 18 (oFt s)) K :=
  Y.to (Y.1.s18 (ftJ s)) rfl rfl rfl rfl rfl Y.2.2.2.2.2.2.2.2.2.2.1 rfl rfl rfl (CY.ge (by omega) _) (Y.hb.set (Y.lt Y.1.c18) _)
theorem CZ.s11 (Z : CZ h K) (f : Nat → Int32) : CZ (hset h 11 (ia 0 32 f)) K := by
  obtain ⟨I, A, R, P, o, Y⟩ := Z; exact Y.s11 f
theorem CZ.s12 (Z : CZ h K) (f : Nat → Int32) : CZ (hset h 12 (ia 0 32 f)) K := by
  obtain ⟨I, A, R, P, o, Y⟩ := Z; exact Y.s12 f
theorem CZ.s18 (Z : CZ h K) (s : FT) : CZ (hset h 18 (oFt s)) K := by
  obtain ⟨I, A, R, P, o, Y⟩ := Z; exact Y.s18 s
theorem CZ.kinds (Z : CZ h K) (st : KS) : CZ (hC h 16 17 st) K := by
  obtain ⟨I, A, R, P, o, Y⟩ := Z
  have b1 := Y.hb.set (Y.lt Y.1.c16) (ob 3 [.ref 17, .int (nI st.2)])
  exact Y.to ((Y.1.s16 (fun _ => nI st.2)).s17 st.1) rfl rfl rfl rfl rfl Y.2.2.2.2.2.2.2.2.2.2.1 rfl rfl rfl (fun j x hj hx => CY.ge (by omega) _ j x hj (CY.ge (by omega) _ j x hj hx)) (b1.set (Y.lt Y.1.c17) _)
theorem CZ.fl (Z : CZ h K) (s : FS) : CZ (hL h s) K := by
  obtain ⟨I, A, R, P, o, Y⟩ := Z
  have b1 := (Y.hb.set (Y.lt Y.1.c13) (ob 1 [.ref 14, .ref 15, .int (nI s.2.2)])).set (Y.lt Y.1.c14) (ia 0 32 s.1)
  exact Y.to (((Y.1.s13 (fun _ => nI s.2.2)).s14 s.1).s15 s.2.1) rfl rfl rfl rfl rfl Y.2.2.2.2.2.2.2.2.2.2.1 rfl rfl rfl (fun j x hj hx => CY.ge (by omega) _ j x hj (CY.ge (by omega) _ j x hj (CY.ge (by omega) _ j x hj hx))) (b1.set (Y.lt Y.1.c15) _)
theorem CZ.ls (Z : CZ h K) (nk : Int32) (kn own : KS) : CZ (hT h nk kn own) K := by
  obtain ⟨I, A, R, P, o, Y⟩ := Z
  have b1 := (((Y.hb.set (Y.lt Y.1.c19) (ob 4 [.ref 20, .ref 22, .int nk])).set (Y.lt Y.1.c20) (ob 3 [.ref 21, .int (nI kn.2)])).set (Y.lt Y.1.c21) (ia 0 66 kn.1)).set (Y.lt Y.1.c22) (ob 3 [.ref 23, .int (nI own.2)])
  exact Y.to (o' := own.2) (((((Y.1.s19 (fun _ => nk)).s20 (fun _ => nI kn.2)).s21 kn.1).s22 (fun _ => nI own.2)).s23 own.1) rfl rfl rfl rfl rfl rfl rfl rfl rfl (fun j x hj hx => CY.ge (by omega) _ j x hj (CY.ge (by omega) _ j x hj (CY.ge (by omega) _ j x hj (CY.ge (by omega) _ j x hj (CY.ge (by omega) _ j x hj hx))))) (b1.set (Y.lt Y.1.c23) _)
end CZs
/-- what a call of the class leaves alone; how much it makes -/
def FrC (h h' : Hp) (a b : Nat) : Prop := h'.1 ≤ h.1 + a ∧ h'.2.1 ≤ h.2.1 + b ∧ h.1 ≤ h'.1 ∧ ∀ c, c = 0 ∨ 24 ≤ c ∧ c < 40 → h'.2.2 c = h.2.2 c
theorem FrC.rfl' (h : Hp) : FrC h h 0 0 := ⟨Nat.le_refl _, Nat.le_refl _, Nat.le_refl _, fun _ _ => rfl⟩
theorem FrC.set {h h' : Hp} {a b : Nat} (F : FrC h h' a b) {c : Nat} (hc : 1 ≤ c ∧ c < 24 ∨ 40 ≤ c) (e : AE) : FrC h (hset h' c e) a b :=
  ⟨F.1, F.2.1, F.2.2.1, fun j hj => by rw [hset_get, if_neg (by omega)]; exact F.2.2.2 j hj⟩
