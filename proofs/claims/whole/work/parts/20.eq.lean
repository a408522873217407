/-! what stands at each place, as an equation -/
def Cnt (mi : Nat) (Q : Option Value → Hp → Prop) : Option Nx → Prop
  | none => False
  | some (.inl (pc, lo, st, h)) => Run mi pc lo st h Q
  | some (.inr (r, h)) => Q r h
def Knt (mi pc : Nat) (lo : Lo) (rest : List Value) (Q : Option Value → Hp → Prop) : Option Value → Hp → Prop := fun r h' => Run mi pc lo (r.toList ++ rest) h' Q
theorem Knt_v {mi pc : Nat} {lo : Lo} {rest : List Value} {Q : Option Value → Hp → Prop} {v : Value} {h : Hp} : Knt mi pc lo rest Q (some v) h = Run mi pc lo (v :: rest) h Q := rfl
theorem Knt_n {mi pc : Nat} {lo : Lo} {rest : List Value} {Q : Option Value → Hp → Prop} {h : Hp} : Knt mi pc lo rest Q none h = Run mi pc lo rest h Q := rfl
def CCall (mi na : Nat) (kd : Option Nat) (st : List Value) (h : Hp) (Q : Option Value → Hp → Prop) : Prop := callOk na kd st h = true ∧ Call mi (st.take na).reverse h Q
theorem run_s {mi pc : Nat} {f : Op1} {lo : Lo} {st : List Value} {h : Hp} {Q : Option Value → Hp → Prop} (hk : KT mi pc = some (.inl f)) : Run mi pc lo st h Q = Cnt mi Q (f lo st h) := by
  apply propext
  constructor
  · rintro ⟨n, r, h', e, q⟩
    cases n with
    | zero => simp [xe] at e
    | succ n =>
      rw [xe, hk] at e
      dsimp only at e
      cases hf : f lo st h with
      | none => rw [hf] at e; simp at e
      | some x =>
        rw [hf] at e
        rcases x with ⟨pc', lo', st', h2⟩ | ⟨r2, h2⟩
        · exact ⟨n, r, h', e, q⟩
        · cases e; exact q
  · intro k
    cases hf : f lo st h with
    | none => rw [hf] at k; exact k.elim
    | some x =>
      rw [hf] at k
      rcases x with ⟨pc', lo', st', h2⟩ | ⟨r2, h2⟩
      · exact r_s hk hf k
      · exact r_e hk hf k
theorem run_c {mi pc mi' na pc' : Nat} {kd : Option Nat} {lo : Lo} {st : List Value} {h : Hp} {Q : Option Value → Hp → Prop} (hk : KT mi pc = some (.inr (mi', na, kd, pc'))) : Run mi pc lo st h Q = CCall mi' na kd st h (Knt mi pc' lo (st.drop na) Q) := by
  apply propext
  constructor
  · rintro ⟨n, r, h', e, q⟩
    cases n with
    | zero => simp [xe] at e
    | succ n =>
      rw [xe, hk] at e
      dsimp only at e
      cases hc : callOk na kd st h with
      | false => rw [hc] at e; simp at e
      | true =>
        rw [hc] at e
        dsimp only at e
        cases hx : xe KT nl n mi' 0 (initLo (nl mi') (st.take na).reverse) [] h with
        | none => rw [hx] at e; simp at e
        | some y =>
          rw [hx] at e
          exact ⟨hc, n, y.1, y.2, hx, n, r, h', e, q⟩
  · rintro ⟨hc, k⟩
    exact r_call hk hc k (fun _ _ q => q)
theorem run_ite {mi a b : Nat} {c : Prop} [Decidable c] {lo : Lo} {st : List Value} {h : Hp} {Q : Option Value → Hp → Prop} : Run mi (if c then a else b) lo st h Q = if c then Run mi a lo st h Q else Run mi b lo st h Q := by split <;> rfl
theorem Cnt_l {mi pc : Nat} {lo : Lo} {st : List Value} {h : Hp} {Q : Option Value → Hp → Prop} : Cnt mi Q (some (.inl (pc, lo, st, h))) = Run mi pc lo st h Q := rfl
theorem Cnt_r {mi : Nat} {r : Option Value} {h : Hp} {Q : Option Value → Hp → Prop} : Cnt mi Q (some (.inr (r, h))) = Q r h := rfl
theorem hset_get {h : Hp} {k j : Nat} {e : AE} : (hset h k e).2.2 j = if j = k then some e else h.2.2 j := rfl
