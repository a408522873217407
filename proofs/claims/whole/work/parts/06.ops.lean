/-! closures that leave the heap alone -/
def SPK (mi pc : Nat) (f : Op1) : Prop := ∀ (G : GG) (_ : G0 G) (l : Launch) (p : Program) (e : Env) (R : Room) (s : State) (m : MethodId) (args : Array Value) (below : List Frame) (meth : Method) (c : Code) (_ : Cx G mi p R s m args meth c)
  (H : Heap) (locs : List Loc) (cells slots : Nat) (ls : Array Slot) (lo : Lo) (st : List Value) (h : Hp) (_ : LR G lo (MT mi).2.2.1 ls) (_ : HR G h H),
  match f lo st h with
  | none => True
  | some (.inl (pc', lo', st', h')) => h' = h ∧ ∀ Q : State → Prop, (∀ ls' : Array Slot, LR G lo' (MT mi).2.2.1 ls' → W p l e R s m args below meth c H locs cells slots Q (F0 m pc' ls' (st'.map (cv G)))) → W p l e R s m args below meth c H locs cells slots Q (F0 m pc ls (st.map (cv G)))
  | some (.inr _) => False
theorem SPK.ok {mi pc : Nat} {f : Op1} (hp : SPK mi pc f) : SOK mi pc f := by
  intro G g0 l p e R s m args below meth c X H locs cells slots ls lo st h hL hR hK
  have q := hp G g0 l p e R s m args below meth c X H locs cells slots ls lo st h hL hR
  refine ⟨fun pc' lo' st' h' he => ?_, fun r h' he => ?_⟩
  · rw [he] at q
    obtain ⟨q1, q2⟩ := q
    subst q1
    exact ⟨⟨Nat.le_refl _, Nat.le_refl _⟩, fun Q _ _ k => q2 Q fun ls' h1 => k H locs ls' cells slots h1 hR hK rfl rfl⟩
  · rw [he] at q
    exact q.elim
section OPS
variable {mi pc : Nat}
theorem xs_iconst {n : Int} {v : Int32} (d : decode (MT mi).2.1 pc = .ok (.iconst n, 1)) (hv : Int32.ofInt n = v) : SOK mi pc (xo_const (.int v) (pc + 1)) := SPK.ok fun _ _ _ _ _ _ _ _ _ _ _ _ X _ _ _ _ _ _ _ _ hL _ => ⟨rfl, fun _ k => lv_iconst X.1 X.2.1 d hv (k _ hL)⟩
theorem xs_bipush {n : Int} {v : Int32} (d : decode (MT mi).2.1 pc = .ok (.bipush n, 2)) (hv : (Int8.ofInt n).toInt32 = v) : SOK mi pc (xo_const (.int v) (pc + 2)) := SPK.ok fun _ _ _ _ _ _ _ _ _ _ _ _ X _ _ _ _ _ _ _ _ hL _ => ⟨rfl, fun _ k => lv_bipush X.1 X.2.1 d hv (k _ hL)⟩
theorem xs_sipush {n : Int} {v : Int32} (d : decode (MT mi).2.1 pc = .ok (.sipush n, 3)) (hv : (Int16.ofInt n).toInt32 = v) : SOK mi pc (xo_const (.int v) (pc + 3)) := SPK.ok fun _ _ _ _ _ _ _ _ _ _ _ _ X _ _ _ _ _ _ _ _ hL _ => ⟨rfl, fun _ k => lv_sipush X.1 X.2.1 d hv (k _ hL)⟩
theorem xs_ldcw {ix : Nat} {v : Int32} (d : decode (MT mi).2.1 pc = .ok (.ldc_w ix, 3)) (hw : Cond.constant (MT mi).1.cls ix v ∈ GT) : SOK mi pc (xo_const (.int v) (pc + 3)) := SPK.ok fun _ _ _ _ _ _ _ _ _ _ _ _ X _ _ _ _ _ _ _ _ hL _ => ⟨rfl, fun _ k => lv_ldcw X.1 X.2.1 X.2.2.2.2.2.1 (X.2.2.2.2.2.2.1 _ hw) d (k _ hL)⟩
theorem xs_ldc2 {ix : Nat} {v : Int64} (d : decode (MT mi).2.1 pc = .ok (.ldc2_w ix, 3)) (hw : Cond.constantLong (MT mi).1.cls ix v ∈ GT) : SOK mi pc (xo_const (.long v) (pc + 3)) := SPK.ok fun _ _ _ _ _ _ _ _ _ _ _ _ X _ _ _ _ _ _ _ _ hL _ => ⟨rfl, fun _ k => lv_ldc2 X.1 X.2.1 X.2.2.2.2.2.1 (X.2.2.2.2.2.2.1 _ hw) d (k _ hL)⟩
theorem xs_anull (d : decode (MT mi).2.1 pc = .ok (.aconst_null, 1)) : SOK mi pc (xo_const .null (pc + 1)) := SPK.ok fun _ _ _ _ _ _ _ _ _ _ _ _ X _ _ _ _ _ _ _ _ hL _ => ⟨rfl, fun _ k => lv_null X.1 X.2.1 d (k _ hL)⟩
theorem xs_iload {i : Nat} (d : decode (MT mi).2.1 pc = .ok (.iload i, 2)) : SOK mi pc (xo_iload i (pc + 2)) := SPK.ok fun G _ _ _ _ _ _ _ _ _ _ _ X _ _ _ _ _ lo _ _ hL _ => by
  unfold xo_iload
  split
  · trivial
  · rename_i he
    split at he
    · rename_i x hx
      cases he
      exact ⟨rfl, fun _ k => lv_iload X.1 X.2.1 d (hL.2.2.2 _ _ hx).2 (k _ hL)⟩
    · cases he
  · rename_i he
    split at he <;> cases he
theorem xs_iload_n {k : Fin 4} {i : Nat} (d : decode (MT mi).2.1 pc = .ok (.iload_n k, 1)) (hi : (k : Nat) = i) : SOK mi pc (xo_iload i (pc + 1)) := SPK.ok fun G _ _ _ _ _ _ _ _ _ _ _ X _ _ _ _ _ lo _ _ hL _ => by
  unfold xo_iload
  split
  · trivial
  · rename_i he
    split at he
    · rename_i x hx
      cases he
      exact ⟨rfl, fun _ k => lv_iload_n X.1 X.2.1 d hi (hL.2.2.2 _ _ hx).2 (k _ hL)⟩
    · cases he
  · rename_i he
    split at he <;> cases he
theorem xs_aload {i : Nat} (d : decode (MT mi).2.1 pc = .ok (.aload i, 2)) : SOK mi pc (xo_aload i (pc + 2)) := SPK.ok fun G _ _ _ _ _ _ _ _ _ _ _ X _ _ _ _ _ lo _ _ hL _ => by
  unfold xo_aload
  split
  · trivial
  · rename_i he
    split at he
    · rename_i x hx
      cases he
      exact ⟨rfl, fun _ k => lv_aload X.1 X.2.1 d (hL.2.2.2 _ _ hx).2 (k _ hL)⟩
    · rename_i hx
      cases he
      exact ⟨rfl, fun _ k => lv_aloadN X.1 X.2.1 d (hL.2.2.2 _ _ hx).2 (k _ hL)⟩
    · cases he
  · rename_i he
    split at he <;> cases he
theorem xs_aload_n {k : Fin 4} {i : Nat} (d : decode (MT mi).2.1 pc = .ok (.aload_n k, 1)) (hi : (k : Nat) = i) : SOK mi pc (xo_aload i (pc + 1)) := SPK.ok fun G _ _ _ _ _ _ _ _ _ _ _ X _ _ _ _ _ lo _ _ hL _ => by
  unfold xo_aload
  split
  · trivial
  · rename_i he
    split at he
    · rename_i x hx
      cases he
      exact ⟨rfl, fun _ k => lv_aload_n X.1 X.2.1 d hi (hL.2.2.2 _ _ hx).2 (k _ hL)⟩
    · rename_i hx
      cases he
      exact ⟨rfl, fun _ k => lv_aload_nN X.1 X.2.1 d hi (hL.2.2.2 _ _ hx).2 (k _ hL)⟩
    · cases he
  · rename_i he
    split at he <;> cases he
theorem xs_istore {i : Nat} (d : decode (MT mi).2.1 pc = .ok (.istore i, 2)) : SOK mi pc (xo_istore i (pc + 2)) := SPK.ok fun G _ _ _ _ _ _ _ _ _ _ _ X _ _ _ _ _ lo st _ hL _ => by
  unfold xo_istore
  split
  · trivial
  · rename_i he
    split at he
    · rename_i x r
      split at he
      · rename_i hi
        cases he
        exact ⟨rfl, fun _ k => lv_istore X.1 X.2.1 d hL.has (by rw [← hL.2.1]; exact hi) rfl (fun ls' h' => k ls' (hL.store rfl hi h'))⟩
      · cases he
    · cases he
  · rename_i he
    split at he
    · split at he <;> cases he
    · cases he
theorem xs_istore_n {k : Fin 4} {i : Nat} (d : decode (MT mi).2.1 pc = .ok (.istore_n k, 1)) (hk : (k : Nat) = i) : SOK mi pc (xo_istore i (pc + 1)) := SPK.ok fun G _ _ _ _ _ _ _ _ _ _ _ X _ _ _ _ _ lo st _ hL _ => by
  unfold xo_istore
  split
  · trivial
  · rename_i he
    split at he
    · rename_i x r
      split at he
      · rename_i hi
        cases he
        exact ⟨rfl, fun _ k => lv_istore_n X.1 X.2.1 d hk hL.has (by rw [← hL.2.1]; exact hi) rfl (fun ls' h' => k ls' (hL.store rfl hi h'))⟩
      · cases he
    · cases he
  · rename_i he
    split at he
    · split at he <;> cases he
    · cases he
theorem xs_astore {i : Nat} (d : decode (MT mi).2.1 pc = .ok (.astore i, 2)) : SOK mi pc (xo_astore i (pc + 2)) := SPK.ok fun G _ _ _ _ _ _ _ _ _ _ _ X _ _ _ _ _ lo st _ hL _ => by
  unfold xo_astore
  split
  · trivial
  · rename_i he
    split at he
    · rename_i x r
      split at he
      · rename_i hi
        cases he
        exact ⟨rfl, fun _ k => lv_astore X.1 X.2.1 d hL.has (by rw [← hL.2.1]; exact hi) rfl (fun ls' h' => k ls' (hL.store rfl hi h'))⟩
      · cases he
    · split at he
      · rename_i hi
        cases he
        exact ⟨rfl, fun _ k => lv_astoreN X.1 X.2.1 d hL.has (by rw [← hL.2.1]; exact hi) rfl (fun ls' h' => k ls' (hL.store rfl hi h'))⟩
      · cases he
    · cases he
  · rename_i he
    split at he
    · split at he <;> cases he
    · split at he <;> cases he
    · cases he
theorem xs_astore_n {k : Fin 4} {i : Nat} (d : decode (MT mi).2.1 pc = .ok (.astore_n k, 1)) (hk : (k : Nat) = i) : SOK mi pc (xo_astore i (pc + 1)) := SPK.ok fun G _ _ _ _ _ _ _ _ _ _ _ X _ _ _ _ _ lo st _ hL _ => by
  unfold xo_astore
  split
  · trivial
  · rename_i he
    split at he
    · rename_i x r
      split at he
      · rename_i hi
        cases he
        exact ⟨rfl, fun _ k => lv_astore_n X.1 X.2.1 d hk hL.has (by rw [← hL.2.1]; exact hi) rfl (fun ls' h' => k ls' (hL.store rfl hi h'))⟩
      · cases he
    · split at he
      · rename_i hi
        cases he
        exact ⟨rfl, fun _ k => lv_astore_nN X.1 X.2.1 d hk hL.has (by rw [← hL.2.1]; exact hi) rfl (fun ls' h' => k ls' (hL.store rfl hi h'))⟩
      · cases he
    · cases he
  · rename_i he
    split at he
    · split at he <;> cases he
    · split at he <;> cases he
    · cases he
theorem xs_iinc {i : Nat} {n : Int} {v : Int32} (d : decode (MT mi).2.1 pc = .ok (.iinc i n, 3)) (hv : Int32.ofInt n = v) : SOK mi pc (xo_iinc i v (pc + 3)) := SPK.ok fun G _ _ _ _ _ _ _ _ _ _ _ X _ _ _ _ _ lo st _ hL _ => by
  unfold xo_iinc
  split
  · trivial
  · rename_i he
    split at he
    · rename_i x hx
      split at he
      · rename_i hi
        cases he
        obtain ⟨q, hq⟩ := List.getElem?_of_mem (asc_mem (G := G) (q := (i, Value.int x)).mpr ⟨_, hx, rfl⟩)
        exact ⟨rfl, fun _ k => lv_iinc X.1 X.2.1 d hL.has hq (by rw [hv]) (by rw [← hL.2.1]; exact hi) rfl (fun ls' h' => k ls' (hL.store (x := .int (x + v)) rfl hi h'))⟩
      · cases he
    · cases he
  · rename_i he
    split at he
    · split at he <;> cases he
    · cases he
end OPS
