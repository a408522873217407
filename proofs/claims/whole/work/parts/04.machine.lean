/-! THE INTERPRETER: heaps of cells by their numbers (0: the script), locals, stack; a method's code is a table of closures -/
abbrev AE : Type := (Nat × List Value) ⊕ ((Nat × Nat × (Nat → Int32)) ⊕ (Nat × Nat × (Nat → Option Nat)))
abbrev Hp : Type := Nat × Nat × (Nat → Option AE)
abbrev Lo : Type := List (Option Value)
abbrev Nx : Type := (Nat × Lo × List Value × Hp) ⊕ (Option Value × Hp)
abbrev Op1 : Type := Lo → List Value → Hp → Option Nx
abbrev En : Type := Op1 ⊕ (Nat × Nat × Option Nat × Nat)
def hset (h : Hp) (k : Nat) (e : AE) : Hp := (h.1, h.2.1, fun j => if j = k then some e else h.2.2 j)
def hnew (h : Hp) (n : Nat) (e : AE) : Hp := (h.1 + 1, h.2.1 + n, fun j => if j = h.1 then some e else h.2.2 j)
def initLo (n : Nat) (as : List Value) : Lo := as.map some ++ List.replicate (n - as.length) none
def xav (o : Option Nat) : Value := match o with
  | none => .null
  | some k => .ref k
def xrecv (ci : Nat) (v : Option Value) (h : Hp) : Bool := match v with
  | some (.ref k) => match h.2.2 k with
    | some (.inl q) => q.1 == ci
    | _ => false
  | _ => false
def callOk (na : Nat) (kd : Option Nat) (st : List Value) (h : Hp) : Bool :=
  decide (na ≤ st.length) && ((st.take na).all (fun v => v.category == 1) && (decide (((st.drop na).map Value.category).sum ≤ 8) && (match kd with
    | none => true
    | some ci => xrecv ci ((st.take na).getLast?) h)))
def xe (KT : Nat → Nat → Option En) (nl : Nat → Nat) : Nat → Nat → Nat → Lo → List Value → Hp → Option (Option Value × Hp)
  | 0, _, _, _, _, _ => none
  | n + 1, mi, pc, ls, st, h => match KT mi pc with
    | none => none
    | some (.inl f) => match f ls st h with
      | none => none
      | some (.inl (pc', ls', st', h')) => xe KT nl n mi pc' ls' st' h'
      | some (.inr r) => some r
    | some (.inr (mi', na, kd, pc')) => match callOk na kd st h with
      | false => none
      | true => match xe KT nl n mi' 0 (initLo (nl mi') (st.take na).reverse) [] h with
        | none => none
        | some (r, h1) => xe KT nl n mi pc' ls (r.toList ++ st.drop na) h1
/-! closures -/
def xo_const (v : Value) (pc' : Nat) : Op1 := fun ls st h => some (.inl (pc', ls, v :: st, h))
def xo_iload (i pc' : Nat) : Op1 := fun ls st h => match ls[i]? with
  | some (some (.int x)) => some (.inl (pc', ls, .int x :: st, h))
  | _ => none
def xo_aload (i pc' : Nat) : Op1 := fun ls st h => match ls[i]? with
  | some (some (.ref a)) => some (.inl (pc', ls, .ref a :: st, h))
  | some (some .null) => some (.inl (pc', ls, .null :: st, h))
  | _ => none
def xo_istore (i pc' : Nat) : Op1 := fun ls st h => match st with
  | .int x :: r => if i < ls.length then some (.inl (pc', ls.set i (some (.int x)), r, h)) else none
  | _ => none
def xo_astore (i pc' : Nat) : Op1 := fun ls st h => match st with
  | .ref x :: r => if i < ls.length then some (.inl (pc', ls.set i (some (.ref x)), r, h)) else none
  | .null :: r => if i < ls.length then some (.inl (pc', ls.set i (some .null), r, h)) else none
  | _ => none
def xo_iinc (i : Nat) (n : Int32) (pc' : Nat) : Op1 := fun ls st h => match ls[i]? with
  | some (some (.int x)) => if i < ls.length then some (.inl (pc', ls.set i (some (.int (x + n))), st, h)) else none
  | _ => none
def xo_bin (f : Int32 → Int32 → Int32) (pc' : Nat) : Op1 := fun ls st h => match st with
  | .int y :: .int x :: r => some (.inl (pc', ls, .int (f x y) :: r, h))
  | _ => none
def xo_div (f : Int32 → Int32 → Int32) (pc' : Nat) : Op1 := fun ls st h => match st with
  | .int y :: .int x :: r => if y = 0 then none else some (.inl (pc', ls, .int (f x y) :: r, h))
  | _ => none
def xo_un (f : Int32 → Int32) (pc' : Nat) : Op1 := fun ls st h => match st with
  | .int x :: r => some (.inl (pc', ls, .int (f x) :: r, h))
  | _ => none
def xo_i2l (pc' : Nat) : Op1 := fun ls st h => match st with
  | .int x :: r => some (.inl (pc', ls, .long x.toInt64 :: r, h))
  | _ => none
def xo_land (pc' : Nat) : Op1 := fun ls st h => match st with
  | .long y :: .long x :: r => some (.inl (pc', ls, .long (x &&& y) :: r, h))
  | _ => none
def xo_lcmp (pc' : Nat) : Op1 := fun ls st h => match st with
  | .long y :: .long x :: r => some (.inl (pc', ls, .int (lg_cmp x y) :: r, h))
  | _ => none
def xcat1 (v : Value) : Bool := v.category == 1
def xo_dup (pc' : Nat) : Op1 := fun ls st h => match st with
  | v :: r => if xcat1 v then some (.inl (pc', ls, v :: v :: r, h)) else none
  | _ => none
def xo_dup2 (pc' : Nat) : Op1 := fun ls st h => match st with
  | v :: w :: r => if xcat1 v && xcat1 w then some (.inl (pc', ls, v :: w :: v :: w :: r, h)) else none
  | _ => none
def xo_pop (pc' : Nat) : Op1 := fun ls st h => match st with
  | v :: r => if xcat1 v then some (.inl (pc', ls, r, h)) else none
  | _ => none
def xo_if1 (c : Int32 → Bool) (tgt pc' : Nat) : Op1 := fun ls st h => match st with
  | .int x :: r => some (.inl (bif c x then tgt else pc', ls, r, h))
  | _ => none
def xo_if2 (c : Int32 → Int32 → Bool) (tgt pc' : Nat) : Op1 := fun ls st h => match st with
  | .int y :: .int x :: r => some (.inl (bif c x y then tgt else pc', ls, r, h))
  | _ => none
def xo_goto (tgt : Nat) : Op1 := fun ls st h => some (.inl (tgt, ls, st, h))
def xo_null (t1 t2 : Nat) : Op1 := fun ls st h => match st with
  | .null :: r => some (.inl (t1, ls, r, h))
  | .ref _ :: r => some (.inl (t2, ls, r, h))
  | _ => none
def xo_sw (f : Int32 → Nat) : Op1 := fun ls st h => match st with
  | .int x :: r => some (.inl (f x, ls, r, h))
  | _ => none
def xo_getf (ci k pc' : Nat) : Op1 := fun ls st h => match st with
  | .ref a :: r => match h.2.2 a with
    | some (.inl (c, fs)) => if c = ci then match fs[k]? with
        | some v => some (.inl (pc', ls, v :: r, h))
        | none => none
      else none
    | _ => none
  | _ => none
def xintV (t : Bool) (v : Value) : Bool := match t, v with
  | true, .int _ => true
  | false, .ref _ => true
  | false, .null => true
  | _, _ => false
def xo_putf (ci k : Nat) (t : Bool) (pc' : Nat) : Op1 := fun ls st h => match st with
  | v :: .ref a :: r => match h.2.2 a with
    | some (.inl (c, fs)) => if c = ci ∧ k < fs.length ∧ xintV t v = true then some (.inl (pc', ls, r, hset h a (.inl (ci, fs.set k v)))) else none
    | _ => none
  | _ => none
def xo_iald (pc' : Nat) : Op1 := fun ls st h => match st with
  | .int i :: .ref a :: r => match h.2.2 a with
    | some (.inr (.inl (t, n, f))) => if t ≠ 1 ∧ ¬ (i < 0 ∨ n ≤ i.toNatClampNeg) then some (.inl (pc', ls, .int (f i.toNatClampNeg) :: r, h)) else none
    | _ => none
  | _ => none
def xo_zald (pc' : Nat) : Op1 := fun ls st h => match st with
  | .int i :: .ref a :: r => match h.2.2 a with
    | some (.inr (.inl (t, n, f))) => if t = 1 ∧ ¬ (i < 0 ∨ n ≤ i.toNatClampNeg) then some (.inl (pc', ls, .int (f i.toNatClampNeg) :: r, h)) else none
    | _ => none
  | _ => none
def xo_iast (pc' : Nat) : Op1 := fun ls st h => match st with
  | .int x :: .int i :: .ref a :: r => match h.2.2 a with
    | some (.inr (.inl (t, n, f))) => if t = 0 ∧ ¬ (i < 0 ∨ n ≤ i.toNatClampNeg) then some (.inl (pc', ls, r, hset h a (.inr (.inl (t, n, upd f i.toNatClampNeg x))))) else none
    | _ => none
  | _ => none
def xo_zast (pc' : Nat) : Op1 := fun ls st h => match st with
  | .int x :: .int i :: .ref a :: r => match h.2.2 a with
    | some (.inr (.inl (t, n, f))) => if t = 1 ∧ ¬ (i < 0 ∨ n ≤ i.toNatClampNeg) then some (.inl (pc', ls, r, hset h a (.inr (.inl (t, n, upd f i.toNatClampNeg (vp_nar .boolean x)))))) else none
    | _ => none
  | _ => none
def xo_alen (pc' : Nat) : Op1 := fun ls st h => match st with
  | .ref a :: r => match h.2.2 a with
    | some (.inr (.inl (_, n, _))) => some (.inl (pc', ls, .int (Int32.ofNat n) :: r, h))
    | some (.inr (.inr (_, n, _))) => some (.inl (pc', ls, .int (Int32.ofNat n) :: r, h))
    | _ => none
  | _ => none
def xo_aald (pc' : Nat) : Op1 := fun ls st h => match st with
  | .int i :: .ref a :: r => match h.2.2 a with
    | some (.inr (.inr (_, n, f))) => if ¬ (i < 0 ∨ n ≤ i.toNatClampNeg) then some (.inl (pc', ls, xav (f i.toNatClampNeg) :: r, h)) else none
    | _ => none
  | _ => none
/-- the class of the objects that an array of references of a kind holds -/
def xcl (t : Nat) : Nat := if t = 3 then 8 else 6
def xo_aast (pc' : Nat) : Op1 := fun ls st h => match st with
  | .ref v :: .int i :: .ref a :: r => match h.2.2 a with
    | some (.inr (.inr (t, n, f))) => if ¬ (i < 0 ∨ n ≤ i.toNatClampNeg) ∧ xrecv (xcl t) (some (.ref v)) h = true then some (.inl (pc', ls, r, hset h a (.inr (.inr (t, n, va_up f i.toNatClampNeg (some v)))))) else none
    | _ => none
  | .null :: .int i :: .ref a :: r => match h.2.2 a with
    | some (.inr (.inr (t, n, f))) => if ¬ (i < 0 ∨ n ≤ i.toNatClampNeg) then some (.inl (pc', ls, r, hset h a (.inr (.inr (t, n, va_up f i.toNatClampNeg none))))) else none
    | _ => none
  | _ => none
def xo_newi (t pc' : Nat) : Op1 := fun ls st h => match st with
  | .int n :: r => if ¬ n < 0 ∧ n.toNatClampNeg ≤ 100000 then some (.inl (pc', ls, .ref h.1 :: r, hnew h n.toNatClampNeg (.inr (.inl (t, n.toNatClampNeg, fun _ => 0))))) else none
  | _ => none
def xo_newr (t pc' : Nat) : Op1 := fun ls st h => match st with
  | .int n :: r => if ¬ n < 0 ∧ n.toNatClampNeg ≤ 100000 then some (.inl (pc', ls, .ref h.1 :: r, hnew h n.toNatClampNeg (.inr (.inr (t, n.toNatClampNeg, fun _ => none))))) else none
  | _ => none
def xo_new (ci : Nat) (fs : List Value) (pc' : Nat) : Op1 := fun ls st h => some (.inl (pc', ls, .ref h.1 :: st, hnew h fs.length (.inl (ci, fs))))
def xo_clone (pc' : Nat) : Op1 := fun ls st h => match st with
  | .ref a :: r => match h.2.2 a with
    | some (.inr (.inl (t, n, f))) => if t = 0 ∧ (r.map Value.category).sum ≤ 8 then some (.inl (pc', ls, .ref h.1 :: r, hnew h n (.inr (.inl (t, n, f))))) else none
    | _ => none
  | _ => none
def xo_cast (pc' : Nat) : Op1 := fun ls st h => match st with
  | .ref a :: r => match h.2.2 a with
    | some (.inr (.inl (t, _, _))) => if t = 0 then some (.inl (pc', ls, .ref a :: r, h)) else none
    | _ => none
  | _ => none
def xo_oinit (pc' : Nat) : Op1 := fun ls st h => match st with
  | .ref _ :: r => if (r.map Value.category).sum ≤ 8 then some (.inl (pc', ls, r, h)) else none
  | _ => none
def xo_iret : Op1 := fun _ st h => match st with
  | [.int x] => some (.inr (some (.int x), h))
  | _ => none
def xo_zret : Op1 := fun _ st h => match st with
  | [.int x] => if x = 0 ∨ x = 1 then some (.inr (some (.int x), h)) else none
  | _ => none
def xo_lret : Op1 := fun _ st h => match st with
  | [.long x] => some (.inr (some (.long x), h))
  | _ => none
def xo_aret : Op1 := fun _ st h => match st with
  | [.ref a] => some (.inr (some (.ref a), h))
  | [.null] => some (.inr (some .null, h))
  | _ => none
def xo_vret : Op1 := fun _ st h => match st with
  | [] => some (.inr (none, h))
  | _ => none
/-! more fuel does no harm; cells only come -/
theorem xe_mono (KT : Nat → Nat → Option En) (nl : Nat → Nat) : ∀ (n : Nat) (mi pc : Nat) (ls : Lo) (st : List Value) (h : Hp) (r : Option Value × Hp), xe KT nl n mi pc ls st h = some r → xe KT nl (n + 1) mi pc ls st h = some r := by
  intro n
  induction n with
  | zero => intro mi pc ls st h r e; simp [xe] at e
  | succ n ih =>
    intro mi pc ls st h r e
    rw [xe] at e ⊢
    cases hK : KT mi pc with
    | none => rw [hK] at e; simp at e
    | some en =>
      rw [hK] at e
      cases en with
      | inl f =>
        dsimp only at e ⊢
        cases hf : f ls st h with
        | none => rw [hf] at e; simp at e
        | some x =>
          rw [hf] at e
          cases x with
          | inl q => exact ih _ _ _ _ _ _ e
          | inr q => exact e
      | inr q =>
        obtain ⟨mi', na, kd, pc'⟩ := q
        dsimp only at e ⊢
        cases hc : callOk na kd st h with
        | false => rw [hc] at e; simp at e
        | true =>
          rw [hc] at e
          dsimp only at e ⊢
          cases hx : xe KT nl n mi' 0 (initLo (nl mi') (st.take na).reverse) [] h with
          | none => rw [hx] at e; simp at e
          | some y =>
            rw [hx] at e
            rw [ih _ _ _ _ _ _ hx]
            exact ih _ _ _ _ _ _ e
theorem xe_le (KT : Nat → Nat → Option En) (nl : Nat → Nat) {n k : Nat} (hk : n ≤ k) {mi pc : Nat} {ls : Lo} {st : List Value} {h : Hp} {r : Option Value × Hp} (e : xe KT nl n mi pc ls st h = some r) : xe KT nl k mi pc ls st h = some r := by
  induction hk with
  | refl => exact e
  | step _ ih => exact xe_mono KT nl _ _ _ _ _ _ _ ih
