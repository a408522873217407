/-! closures that read or write the heap -/
theorem LK.app {G : GG} {locs : List Loc} (h : LK G locs) {a i : Nat} (ha : G.2.1 ≤ a) : LK G (locs ++ [⟨a, i⟩]) := by
  intro q hq
  rcases List.mem_append.mp hq with h1 | h1
  · exact h q h1
  · rw [List.mem_singleton.mp h1]; exact ha
section OPS3
variable {mi pc : Nat}
theorem xs_getf {C : String} {T : u_T} {N ci k idx : Nat} (hc : vwCl[ci]? = some (C, T, N)) (hk : k < N) (hin : ∀ w ∈ u_ws C T N, w ∈ GT) (hl : Cond.fieldLink (MT mi).1.cls idx (T k).1 (T k).2.1 (T k).2.2.1 ∈ GT) (d : decode (MT mi).2.1 pc = .ok (.getfield idx, 3)) : SOK mi pc (xo_getf ci k (pc + 3)) := SPK.ok fun G _ l p e R s m args below meth c X H locs cells slots ls lo st h hL hR => by
  unfold xo_getf
  split
  · trivial
  · rename_i he
    split at he
    · rename_i a r
      split at he
      · rename_i c' fs hh
        split at he
        · rename_i hcc
          subst hcc
          split at he
          · rename_i v hv
            cases he
            refine ⟨rfl, fun Q kk => ?_⟩
            obtain ⟨-, r', h1, h2, cell, q1, q2, q3, q4⟩ := hR.2.2 _ _ hh
            have hr : r' = (C, T, N) := Option.some.inj (h1.symm.trans hc)
            subst hr
            obtain ⟨hS, hfc, kC, hkC, hkind⟩ := X.2.2.2.2.2.2.2.1.1.1 _ _ hc
            obtain ⟨cf, kf, fi, f, hi, hsl⟩ := hS k hk
            refine W.getf X.1 X.2.1 X.2.2.2.2.2.1 (X.2.2.2.2.2.2.1 _ hl) hi (u_facts hfc hkC (u_lays X.2.2.2.2.2.2.1 hin hk) hi).1 q1 (by rw [q3]; exact fun h => by cases h) (v := cv G v) ?_ rfl rfl d (kk _ hL)
            rw [hsl, q4 k hk]
            simp [vp_V, hv]
          · cases he
        · cases he
      · cases he
    · cases he
  · rename_i he
    split at he
    · split at he
      · split at he
        · split at he <;> cases he
        · cases he
      · cases he
    · cases he
theorem xs_getfN {C : String} {T : u_T} {N ci k idx : Nat} {host : String} (hc : vwCl[ci]? = some (C, T, N)) (hk : k < N) (hin : ∀ w ∈ u_ws C T N, w ∈ GT) (hl : Cond.fieldLinkNest (MT mi).1.cls idx (T k).1 (T k).2.1 (T k).2.2.1 host ∈ NT) (d : decode (MT mi).2.1 pc = .ok (.getfield idx, 3)) : SOK mi pc (xo_getf ci k (pc + 3)) := SPK.ok fun G _ l p e R s m args below meth c X H locs cells slots ls lo st h hL hR => by
  unfold xo_getf
  split
  · trivial
  · rename_i he
    split at he
    · rename_i a r
      split at he
      · rename_i c' fs hh
        split at he
        · rename_i hcc
          subst hcc
          split at he
          · rename_i v hv
            cases he
            refine ⟨rfl, fun Q kk => ?_⟩
            obtain ⟨-, r', h1, h2, cell, q1, q2, q3, q4⟩ := hR.2.2 _ _ hh
            have hr : r' = (C, T, N) := Option.some.inj (h1.symm.trans hc)
            subst hr
            obtain ⟨hS, hfc, kC, hkC, hkind⟩ := X.2.2.2.2.2.2.2.1.1.1 _ _ hc
            obtain ⟨cf, kf, fi, f, hi, hsl⟩ := hS k hk
            refine va_Wgetf X.1 X.2.1 X.2.2.2.2.2.1 (va_Nw.use rfl (X.2.2.2.2.2.2.2.1.2.2 _ hl)) hi (u_facts hfc hkC (u_lays X.2.2.2.2.2.2.1 hin hk) hi).1 q1 (by rw [q3]; exact fun h => by cases h) (v := cv G v) ?_ rfl rfl d (kk _ hL)
            rw [hsl, q4 k hk]
            simp [vp_V, hv]
          · cases he
        · cases he
      · cases he
    · cases he
  · rename_i he
    split at he
    · split at he
      · split at he
        · split at he <;> cases he
        · cases he
      · cases he
    · cases he
def xtyok (t : Bool) (ty : FieldType) : Prop := (t = true ∧ ty = .int) ∨ (t = false ∧ ((∃ n, ty = .object n) ∨ ∃ u, ty = .array u))
theorem xty_fits {G : GG} {t : Bool} {ty : FieldType} {v : Value} (h : xtyok t ty) (hv : xintV t v = true) : narrow ty (cv G v) = cv G v ∧ fits ty (cv G v) = true := by
  rcases h with ⟨rfl, rfl⟩ | ⟨rfl, ⟨n, rfl⟩ | ⟨u, rfl⟩⟩ <;> cases v <;> first | exact ⟨rfl, rfl⟩ | (simp [xintV] at hv)
theorem xfit_ob {G : GG} {k a : Nat} {ci N : Nat} {fs : List Value} {H' : Heap} {cell : Cell} {iS : Nat → Nat} {cC : ClassId} {v : Value} {sl : Nat} (hap : ∀ x y, x < N → y < N → x ≠ y → iS x ≠ iS y) (hk : k < N) (hl : k < fs.length) (e1 : H'[ad G a]? = some (cell.setSlot (iS k) (cv G v))) (q2 : cell.cls = cC) (q3 : cell.vm = .none)
    (q4 : ∀ k, k < N → cell.slots[iS k]? = some (vp_V (fs.map (cv G)) k)) : t_OB (ad G a) cC N iS H' (vp_V ((fs.set k v).map (cv G))) := by
  rw [List.map_set]
  exact t_OB.to (V := updV (vp_V (fs.map (cv G))) k (cv G v)) ⟨_, e1, q2, q3, t_set q4 hap hk _⟩ (fun j _ => vp_updV_set (by simpa using hl) _ j)
theorem xs_putf {C : String} {T : u_T} {N ci k idx : Nat} {t : Bool} (ty0 : Nat → FieldType) (hc : vwCl[ci]? = some (C, T, N)) (hk : k < N) (hin : ∀ w ∈ u_ws C T N, w ∈ GT) (hty : ∀ k, k < N → parseFieldDescriptor (T k).2.2.1 = some (ty0 k)) (hnm : ∀ a, a < N → ∀ b, b < N → a ≠ b → (T a).2.1 ≠ (T b).2.1) (hfin : (T k).2.2.2 = false) (ht : xtyok t (ty0 k))
    (hl : Cond.fieldLink (MT mi).1.cls idx (T k).1 (T k).2.1 (T k).2.2.1 ∈ GT) (d : decode (MT mi).2.1 pc = .ok (.putfield idx, 3)) : SOK mi pc (xo_putf ci k t (pc + 3)) := by
  intro G g0 l p e R s m args below meth c X H locs cells slots ls lo st h hL hR hK
  refine ⟨fun pc' lo' st' h' he => ?_, fun r h' he => ?_⟩
  · unfold xo_putf at he
    split at he
    · rename_i v a r
      split at he
      · rename_i c' fs hh
        split at he
        · rename_i hcc
          obtain ⟨hcc, hlt, hiv⟩ := hcc
          subst hcc
          cases he
          refine ⟨⟨Nat.le_refl _, Nat.le_refl _⟩, fun Q _ _ kk => ?_⟩
          obtain ⟨hk0, r', h1, h2, cell, q1, q2, q3, q4⟩ := hR.2.2 _ _ hh
          have hr : r' = (C, T, N) := Option.some.inj (h1.symm.trans hc)
          subst hr
          have hts := X.2.2.2.2.2.2.1
          have hap := va_apart (own := C) hts hin ty0 hty hnm X.2.2.2.2.2.2.2.1.1 hc
          obtain ⟨hS, hfc, kC, hkC, hkind⟩ := X.2.2.2.2.2.2.2.1.1.1 _ _ hc
          obtain ⟨cf, kf, fi, f, hi, hsl⟩ := hS k hk
          have hlay := hts _ (hin _ (u_in_lay hk))
          unfold u_lay at hlay
          rw [if_neg (by rw [hfin]; decide)] at hlay
          have hst := (u_facts hfc hkC (u_lays hts hin hk) hi).1
          obtain ⟨z1, z2⟩ := xty_fits (G := G) ht hiv
          have h6 := u_store hfc hkC hkind hlay hi (hty k hk) z1 z2
          refine W.putK X.1 X.2.1 (f := f) ⟨X.2.2.2.2.2.1, hts _ hl, ⟨_, _, _, hi⟩, hst⟩ (by rw [q2]; exact h6) q1 q3 (by rw [hsl]; exact k2_hasslot (q4 k hk)) rfl rfl d fun H' e1 e2 e3 => ?_
          rw [hsl] at e1 ⊢
          exact kk H' _ ls cells slots hL (hR.set g0 e2 e3 ⟨hk0, _, hc, by rw [List.length_set]; exact h2, xfit_ob (sl := 0) (ci := 0) hap hk hlt e1 q2 q3 q4⟩) (hK.app (ad_ge hk0)) rfl rfl
        · cases he
      · cases he
    · cases he
  · unfold xo_putf at he
    split at he
    · split at he
      · split at he <;> cases he
      · cases he
    · cases he
theorem xs_putfN {C : String} {T : u_T} {N ci k idx : Nat} {t : Bool} {host : String} (ty0 : Nat → FieldType) (hc : vwCl[ci]? = some (C, T, N)) (hk : k < N) (hin : ∀ w ∈ u_ws C T N, w ∈ GT) (hty : ∀ k, k < N → parseFieldDescriptor (T k).2.2.1 = some (ty0 k)) (hnm : ∀ a, a < N → ∀ b, b < N → a ≠ b → (T a).2.1 ≠ (T b).2.1) (hfin : (T k).2.2.2 = false) (ht : xtyok t (ty0 k))
    (hl : Cond.fieldLinkNest (MT mi).1.cls idx (T k).1 (T k).2.1 (T k).2.2.1 host ∈ NT) (d : decode (MT mi).2.1 pc = .ok (.putfield idx, 3)) : SOK mi pc (xo_putf ci k t (pc + 3)) := by
  intro G g0 l p e R s m args below meth c X H locs cells slots ls lo st h hL hR hK
  refine ⟨fun pc' lo' st' h' he => ?_, fun r h' he => ?_⟩
  · unfold xo_putf at he
    split at he
    · rename_i v a r
      split at he
      · rename_i c' fs hh
        split at he
        · rename_i hcc
          obtain ⟨hcc, hlt, hiv⟩ := hcc
          subst hcc
          cases he
          refine ⟨⟨Nat.le_refl _, Nat.le_refl _⟩, fun Q _ _ kk => ?_⟩
          obtain ⟨hk0, r', h1, h2, cell, q1, q2, q3, q4⟩ := hR.2.2 _ _ hh
          have hr : r' = (C, T, N) := Option.some.inj (h1.symm.trans hc)
          subst hr
          have hts := X.2.2.2.2.2.2.1
          have hap := va_apart (own := C) hts hin ty0 hty hnm X.2.2.2.2.2.2.2.1.1 hc
          obtain ⟨hS, hfc, kC, hkC, hkind⟩ := X.2.2.2.2.2.2.2.1.1.1 _ _ hc
          obtain ⟨cf, kf, fi, f, hi, hsl⟩ := hS k hk
          have hlay := hts _ (hin _ (u_in_lay hk))
          unfold u_lay at hlay
          rw [if_neg (by rw [hfin]; decide)] at hlay
          have hst := (u_facts hfc hkC (u_lays hts hin hk) hi).1
          obtain ⟨z1, z2⟩ := xty_fits (G := G) ht hiv
          have h6 := u_store hfc hkC hkind hlay hi (hty k hk) z1 z2
          refine va_WputK X.1 X.2.1 (f := f) X.2.2.2.2.2.1 (va_Nw.use rfl (X.2.2.2.2.2.2.2.1.2.2 _ hl)) hi hst (by rw [q2]; exact h6) q1 q3 (by rw [hsl]; exact k2_hasslot (q4 k hk)) rfl rfl d fun H' e1 e2 e3 => ?_
          rw [hsl] at e1 ⊢
          exact kk H' _ ls cells slots hL (hR.set g0 e2 e3 ⟨hk0, _, hc, by rw [List.length_set]; exact h2, xfit_ob (sl := 0) (ci := 0) hap hk hlt e1 q2 q3 q4⟩) (hK.app (ad_ge hk0)) rfl rfl
        · cases he
      · cases he
    · cases he
  · unfold xo_putf at he
    split at he
    · split at he
      · split at he <;> cases he
      · cases he
    · cases he
theorem xs_putfF {C : String} {T : u_T} {N ci k idx : Nat} {t : Bool} (ty0 : Nat → FieldType) (hc : vwCl[ci]? = some (C, T, N)) (hk : k < N) (hin : ∀ w ∈ u_ws C T N, w ∈ GT) (hty : ∀ k, k < N → parseFieldDescriptor (T k).2.2.1 = some (ty0 k)) (hnm : ∀ a, a < N → ∀ b, b < N → a ≠ b → (T a).2.1 ≠ (T b).2.1) (hfin : (T k).2.2.2 = true) (hown : (T k).1 = (MT mi).1.cls) (hini : (MT mi).1.name = "<init>") (ht : xtyok t (ty0 k))
    (hl : Cond.fieldLink (MT mi).1.cls idx (T k).1 (T k).2.1 (T k).2.2.1 ∈ GT) (d : decode (MT mi).2.1 pc = .ok (.putfield idx, 3)) : SOK mi pc (xo_putf ci k t (pc + 3)) := by
  intro G g0 l p e R s m args below meth c X H locs cells slots ls lo st h hL hR hK
  refine ⟨fun pc' lo' st' h' he => ?_, fun r h' he => ?_⟩
  · unfold xo_putf at he
    split at he
    · rename_i v a r
      split at he
      · rename_i c' fs hh
        split at he
        · rename_i hcc
          obtain ⟨hcc, hlt, hiv⟩ := hcc
          subst hcc
          cases he
          refine ⟨⟨Nat.le_refl _, Nat.le_refl _⟩, fun Q _ _ kk => ?_⟩
          obtain ⟨hk0, r', h1, h2, cell, q1, q2, q3, q4⟩ := hR.2.2 _ _ hh
          have hr : r' = (C, T, N) := Option.some.inj (h1.symm.trans hc)
          subst hr
          have hts := X.2.2.2.2.2.2.1
          have hap := va_apart (own := C) hts hin ty0 hty hnm X.2.2.2.2.2.2.2.1.1 hc
          obtain ⟨hS, hfc, kC, hkC, hkind⟩ := X.2.2.2.2.2.2.2.1.1.1 _ _ hc
          obtain ⟨cf, kf, fi, f, hi, hsl⟩ := hS k hk
          have hlay := hts _ (hin _ (u_in_lay hk))
          unfold u_lay at hlay
          rw [if_pos hfin] at hlay
          have hst := (u_facts hfc hkC (u_lays hts hin hk) hi).1
          have hcf : m.cls = cf := by
            obtain ⟨_, _, c', _, _, _, -, -, hf', -, -, -, hown2, -⟩ := Cond.laysFinal_spec hlay
            have e1 : c' = cf := by have := hi.symm.trans hf'; simp at this; exact this.1.symm
            rw [hown] at hown2
            rw [← e1]; exact Option.some.inj (X.2.2.2.2.2.1.symm.trans hown2)
          obtain ⟨z1, z2⟩ := xty_fits (G := G) ht hiv
          have h6 := u_fits hfc hkC hkind (Or.inr hlay) hi (hty k hk) z1 z2
          refine W.putFinK X.1 X.2.1 X.2.2.2.2.2.1 (hts _ hl) hi hst hcf (X.2.2.2.2.2.2.2.2.1.trans hini) (by rw [q2]; exact h6) q1 q3 (by rw [hsl]; exact k2_hasslot (q4 k hk)) rfl rfl d fun H' e1 e2 e3 => ?_
          rw [hsl] at e1 ⊢
          exact kk H' _ ls cells slots hL (hR.set g0 e2 e3 ⟨hk0, _, hc, by rw [List.length_set]; exact h2, xfit_ob (sl := 0) (ci := 0) hap hk hlt e1 q2 q3 q4⟩) (hK.app (ad_ge hk0)) rfl rfl
        · cases he
      · cases he
    · cases he
  · unfold xo_putf at he
    split at he
    · split at he
      · split at he <;> cases he
      · cases he
    · cases he
end OPS3
