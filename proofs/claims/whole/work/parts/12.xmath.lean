/-! Math.max, min, abs -/
def xo_m2 (f : Int32 → Int32 → Int32) (pc' : Nat) : Op1 := fun ls st h => match st with
  | .int y :: .int x :: r => if (r.map Value.category).sum ≤ 8 then some (.inl (pc', ls, .int (f x y) :: r, h)) else none
  | _ => none
def xo_m1 (f : Int32 → Int32) (pc' : Nat) : Op1 := fun ls st h => match st with
  | .int x :: r => if (r.map Value.category).sum ≤ 8 then some (.inl (pc', ls, .int (f x) :: r, h)) else none
  | _ => none
theorem mon_m2 {f : Int32 → Int32 → Int32} {pc' : Nat} : MON (xo_m2 f pc') := by
  intro lo st h
  constructor
  · intro pc1 lo1 st1 h1 he
    unfold xo_m2 at he
    repeat' split at he
    all_goals first | (cases he; done) | (cases he; exact ⟨Nat.le_refl _, Nat.le_refl _⟩)
  · intro r h1 he
    unfold xo_m2 at he
    repeat' split at he
    all_goals first | (cases he; done)
theorem mon_m1 {f : Int32 → Int32} {pc' : Nat} : MON (xo_m1 f pc') := by
  intro lo st h
  constructor
  · intro pc1 lo1 st1 h1 he
    unfold xo_m1 at he
    repeat' split at he
    all_goals first | (cases he; done) | (cases he; exact ⟨Nat.le_refl _, Nat.le_refl _⟩)
  · intro r h1 he
    unfold xo_m1 at he
    repeat' split at he
    all_goals first | (cases he; done)
section MATHS
variable {mi pc : Nat}
theorem xs_mmax {idx : Nat} (hl : Cond.methodLink (MT mi).1.cls idx Lib.Math.max.name ∈ GT) (hst : Cond.static Lib.Math.max.name ∈ GT) (hini : Cond.initialized "java/lang/Math" ∈ GT) (hcd : Cond.code Lib.Math.max.name Lib.Math.max.code 2 (some .int) ∈ GT) (hf : 1 ≤ (MT mi).2.2.2.2.1) (hlo : 21 ≤ (MT mi).2.2.2.2.2) (d : decode (MT mi).2.1 pc = .ok (.invokestatic idx, 3)) : SOK mi pc (xo_m2 (fun x y => if x < y then y else x) (pc + 3)) := by
  intro G g0 l p e R s m args below meth c X H locs cells slots ls lo st h hL hR hK
  refine ⟨fun pc' lo' st' h' he => ?_, fun r h' he => ?_⟩
  · unfold xo_m2 at he
    split at he
    · rename_i y x r
      split at he
      · rename_i hs
        have hx1 := X.2.2.2.2.2.2.2.2.2.1
        have hx2 := X.2.2.2.2.2.2.2.2.2.2
        have hs2 : ((r.map (cv G)).map fun v => v.category).sum ≤ 8 := by rw [xcats]; exact hs
        have hts := X.2.2.2.2.2.2.1
        injection he with he; injection he with he; injection he with e3 he; injection he with e4 he; injection he with e5 e6
        subst e3; subst e4; subst e5; subst e6
        refine ⟨⟨Nat.le_refl _, Nat.le_refl _⟩, fun Q q1 q2 kk => ?_⟩
        exact va_mmax X.1 X.2.1 (X.2.2.1.trans hL.1.symm) X.2.2.2.2.2.1 (hts _ hl) (hts _ hst) (hts _ hini) (hts _ hcd) (by omega) (by omega) (by omega) (by omega) d (kk H locs ls cells slots hL hR hK rfl rfl)
      · cases he
    · cases he
  · unfold xo_m2 at he
    split at he
    · split at he <;> cases he
    · cases he
theorem xs_mmin {idx : Nat} (hl : Cond.methodLink (MT mi).1.cls idx Lib.Math.min.name ∈ GT) (hst : Cond.static Lib.Math.min.name ∈ GT) (hini : Cond.initialized "java/lang/Math" ∈ GT) (hcd : Cond.code Lib.Math.min.name Lib.Math.min.code 2 (some .int) ∈ GT) (hf : 1 ≤ (MT mi).2.2.2.2.1) (hlo : 21 ≤ (MT mi).2.2.2.2.2) (d : decode (MT mi).2.1 pc = .ok (.invokestatic idx, 3)) : SOK mi pc (xo_m2 (fun x y => if y < x then y else x) (pc + 3)) := by
  intro G g0 l p e R s m args below meth c X H locs cells slots ls lo st h hL hR hK
  refine ⟨fun pc' lo' st' h' he => ?_, fun r h' he => ?_⟩
  · unfold xo_m2 at he
    split at he
    · rename_i y x r
      split at he
      · rename_i hs
        have hx1 := X.2.2.2.2.2.2.2.2.2.1
        have hx2 := X.2.2.2.2.2.2.2.2.2.2
        have hs2 : ((r.map (cv G)).map fun v => v.category).sum ≤ 8 := by rw [xcats]; exact hs
        have hts := X.2.2.2.2.2.2.1
        injection he with he; injection he with he; injection he with e3 he; injection he with e4 he; injection he with e5 e6
        subst e3; subst e4; subst e5; subst e6
        refine ⟨⟨Nat.le_refl _, Nat.le_refl _⟩, fun Q q1 q2 kk => ?_⟩
        exact va_mmin X.1 X.2.1 (X.2.2.1.trans hL.1.symm) X.2.2.2.2.2.1 (hts _ hl) (hts _ hst) (hts _ hini) (hts _ hcd) (by omega) (by omega) (by omega) (by omega) d (kk H locs ls cells slots hL hR hK rfl rfl)
      · cases he
    · cases he
  · unfold xo_m2 at he
    split at he
    · split at he <;> cases he
    · cases he
theorem xs_mabs {idx : Nat} (hl : Cond.methodLink (MT mi).1.cls idx Lib.Math.abs.name ∈ GT) (hst : Cond.static Lib.Math.abs.name ∈ GT) (hini : Cond.initialized "java/lang/Math" ∈ GT) (hcd : Cond.code Lib.Math.abs.name Lib.Math.abs.code 1 (some .int) ∈ GT) (hf : 1 ≤ (MT mi).2.2.2.2.1) (hlo : 21 ≤ (MT mi).2.2.2.2.2) (d : decode (MT mi).2.1 pc = .ok (.invokestatic idx, 3)) : SOK mi pc (xo_m1 (fun x => if 0 ≤ x then x else 0 - x) (pc + 3)) := by
  intro G g0 l p e R s m args below meth c X H locs cells slots ls lo st h hL hR hK
  refine ⟨fun pc' lo' st' h' he => ?_, fun r h' he => ?_⟩
  · unfold xo_m1 at he
    split at he
    · rename_i x r
      split at he
      · rename_i hs
        have hx1 := X.2.2.2.2.2.2.2.2.2.1
        have hx2 := X.2.2.2.2.2.2.2.2.2.2
        have hs2 : ((r.map (cv G)).map fun v => v.category).sum ≤ 8 := by rw [xcats]; exact hs
        have hts := X.2.2.2.2.2.2.1
        injection he with he; injection he with he; injection he with e3 he; injection he with e4 he; injection he with e5 e6
        subst e3; subst e4; subst e5; subst e6
        refine ⟨⟨Nat.le_refl _, Nat.le_refl _⟩, fun Q q1 q2 kk => ?_⟩
        exact va_mabs X.1 X.2.1 (X.2.2.1.trans hL.1.symm) X.2.2.2.2.2.1 (hts _ hl) (hts _ hst) (hts _ hini) (hts _ hcd) (by omega) (by omega) (by omega) (by omega) d (kk H locs ls cells slots hL hR hK rfl rfl)
      · cases he
    · cases he
  · unfold xo_m1 at he
    split at he
    · split at he <;> cases he
    · cases he
end MATHS
