/-! arrays, makings -/
section OPS4
variable {mi pc : Nat}
theorem xin_of {i : Int32} {n : Nat} (h : ¬ (i < 0 ∨ n ≤ i.toNatClampNeg)) : i.toNatClampNeg < n := Nat.not_le.mp fun q => h (Or.inr q)
theorem xs_iald (d : decode (MT mi).2.1 pc = .ok (.iaload, 1)) : SOK mi pc (xo_iald (pc + 1)) := SPK.ok fun G g0 l p e R s m args below meth c X H locs cells slots ls lo st h hL hR => by
  unfold xo_iald
  split
  · trivial
  · rename_i he
    split at he
    · rename_i i a r
      split at he
      · rename_i t n f hh
        split at he
        · rename_i hcc
          obtain ⟨hcc, hin⟩ := hcc
          cases he
          refine ⟨rfl, fun Q kk => ?_⟩
          rcases hR.2.2 _ _ hh with ⟨h1, h2, h3, h4, h5⟩ | ⟨h1, h2, h3⟩
          · subst h2
            exact W.iald (v := .int (f i.toNatClampNeg)) X.1 X.2.1 h3 X.2.2.2.2.2.2.2.1.2.1 g0.2 (by rw [h4]; exact hin) (h5 _ (xin_of hin)) rfl rfl d (kk _ hL)
          · have ht : t = 0 := h1.resolve_right hcc
            subst ht
            exact W.iald (v := .int (f i.toNatClampNeg)) X.1 X.2.1 h3 ((X.2.2.2.2.2.2.2.1.1.2 0 _ rfl).1 n (fun j => .int (f j))) (fun q => by cases q) (by rw [arrV_size]; exact hin) (by rw [arrV_read _ _ (xin_of hin)]) rfl rfl d (kk _ hL)
        · cases he
      · cases he
    · cases he
  · rename_i he
    split at he
    · split at he
      · split at he <;> cases he
      · cases he
    · cases he
theorem xs_zald (d : decode (MT mi).2.1 pc = .ok (.baload, 1)) : SOK mi pc (xo_zald (pc + 1)) := SPK.ok fun G g0 l p e R s m args below meth c X H locs cells slots ls lo st h hL hR => by
  unfold xo_zald
  split
  · trivial
  · rename_i he
    split at he
    · rename_i i a r
      split at he
      · rename_i t n f hh
        split at he
        · rename_i hcc
          obtain ⟨hcc, hin⟩ := hcc
          cases he
          refine ⟨rfl, fun Q kk => ?_⟩
          rcases hR.2.2 _ _ hh with ⟨h1, h2, h3, h4, h5⟩ | ⟨h1, h2, h3⟩
          · omega
          · subst hcc
            exact W.zald (v := .int (f i.toNatClampNeg)) X.1 X.2.1 h3 ((X.2.2.2.2.2.2.2.1.1.2 1 _ rfl).1 n (fun j => .int (f j))) (fun q => by cases q) (by rw [arrV_size]; exact hin) (by rw [arrV_read _ _ (xin_of hin)]) rfl rfl d (kk _ hL)
        · cases he
      · cases he
    · cases he
  · rename_i he
    split at he
    · split at he
      · split at he <;> cases he
      · cases he
    · cases he
theorem xs_alen (d : decode (MT mi).2.1 pc = .ok (.arraylength, 1)) : SOK mi pc (xo_alen (pc + 1)) := SPK.ok fun G g0 l p e R s m args below meth c X H locs cells slots ls lo st h hL hR => by
  unfold xo_alen
  split
  · trivial
  · rename_i he
    split at he
    · rename_i a r
      split at he
      · rename_i t n f hh
        cases he
        refine ⟨rfl, fun Q kk => ?_⟩
        rcases hR.2.2 _ _ hh with ⟨h1, h2, h3, h4, h5⟩ | ⟨h1, h2, h3⟩
        · subst h2
          exact W.alen (n := Int32.ofNat n) X.1 X.2.1 h3 X.2.2.2.2.2.2.2.1.2.1 (by rw [h4] <;> rfl) rfl rfl d (kk _ hL)
        · rcases h1 with rfl | rfl
          · exact W.alen (n := Int32.ofNat n) X.1 X.2.1 h3 ((X.2.2.2.2.2.2.2.1.1.2 0 _ rfl).1 n (fun j => .int (f j))) (by rw [arrV_size] <;> rfl) rfl rfl d (kk _ hL)
          · exact W.alen (n := Int32.ofNat n) X.1 X.2.1 h3 ((X.2.2.2.2.2.2.2.1.1.2 1 _ rfl).1 n (fun j => .int (f j))) (by rw [arrV_size] <;> rfl) rfl rfl d (kk _ hL)
      · rename_i t n f hh
        cases he
        refine ⟨rfl, fun Q kk => ?_⟩
        obtain ⟨h1, h2, h3⟩ := hR.2.2 _ _ hh
        rcases h1 with rfl | rfl
        · exact W.alen (n := Int32.ofNat n) X.1 X.2.1 h3 ((X.2.2.2.2.2.2.2.1.1.2 2 _ rfl).1 n _) (by rw [arrV_size] <;> rfl) rfl rfl d (kk _ hL)
        · exact W.alen (n := Int32.ofNat n) X.1 X.2.1 h3 ((X.2.2.2.2.2.2.2.1.1.2 3 _ rfl).1 n _) (by rw [arrV_size] <;> rfl) rfl rfl d (kk _ hL)
      · cases he
    · cases he
  · rename_i he
    split at he
    · split at he <;> cases he
    · cases he
theorem cv_xav (G : GG) (o : Option Nat) : cv G (xav o) = va_rf (o.map (ad G)) := by cases o <;> rfl
theorem xs_aald (d : decode (MT mi).2.1 pc = .ok (.aaload, 1)) : SOK mi pc (xo_aald (pc + 1)) := SPK.ok fun G g0 l p e R s m args below meth c X H locs cells slots ls lo st h hL hR => by
  unfold xo_aald
  split
  · trivial
  · rename_i he
    split at he
    · rename_i i a r
      split at he
      · rename_i t n f hh
        split at he
        · rename_i hin
          cases he
          refine ⟨rfl, fun Q kk => ?_⟩
          obtain ⟨h1, h2, h3⟩ := hR.2.2 _ _ hh
          rcases h1 with rfl | rfl
          · exact W.aald (v := cv G (xav (f i.toNatClampNeg))) (ty := .object RX8) X.1 X.2.1 h3 ((X.2.2.2.2.2.2.2.1.1.2 2 _ rfl).1 n _) rfl (fun q => by cases q) (by rw [arrV_size]; exact hin) (by rw [arrV_read _ _ (xin_of hin), cv_xav]) rfl rfl d (kk _ hL)
          · exact W.aald (v := cv G (xav (f i.toNatClampNeg))) (ty := .object RX6) X.1 X.2.1 h3 ((X.2.2.2.2.2.2.2.1.1.2 3 _ rfl).1 n _) rfl (fun q => by cases q) (by rw [arrV_size]; exact hin) (by rw [arrV_read _ _ (xin_of hin), cv_xav]) rfl rfl d (kk _ hL)
        · cases he
      · cases he
    · cases he
  · rename_i he
    split at he
    · split at he
      · split at he <;> cases he
      · cases he
    · cases he
theorem xs_iast (d : decode (MT mi).2.1 pc = .ok (.iastore, 1)) : SOK mi pc (xo_iast (pc + 1)) := by
  intro G g0 l p e R s m args below meth c X H locs cells slots ls lo st h hL hR hK
  refine ⟨fun pc' lo' st' h' he => ?_, fun r h' he => ?_⟩
  · unfold xo_iast at he
    split at he
    · rename_i x i a r
      split at he
      · rename_i t n f hh
        split at he
        · rename_i hcc
          obtain ⟨hcc, hin⟩ := hcc
          cases he
          refine ⟨⟨Nat.le_refl _, Nat.le_refl _⟩, fun Q _ _ kk => ?_⟩
          subst hcc
          rcases hR.2.2 _ _ hh with ⟨h1, h2, h3, h4, h5⟩ | ⟨h1, h2, h3⟩
          · omega
          · refine W.iast X.1 X.2.1 h3 ((X.2.2.2.2.2.2.2.1.1.2 0 _ rfl).1 n (fun j => .int (f j))) (fun q => by cases q) (by rw [arrV_size]; exact hin) rfl rfl d fun H1 e1 z oq => ?_
            refine kk H1 _ ls cells slots hL (hR.set g0 z oq (Or.inr ⟨Or.inl rfl, h2, ?_⟩)) (hK.app (ad_ge h2)) rfl rfl
            rw [e1, arrV_store]
            congr 2
            funext q
            by_cases hq : q = i.toNatClampNeg
            · subst hq
              simp [updV, upd]
            · simp [updV, upd, hq]
        · cases he
      · cases he
    · cases he
  · unfold xo_iast at he
    split at he
    · split at he
      · split at he <;> cases he
      · cases he
    · cases he
theorem xs_zast (d : decode (MT mi).2.1 pc = .ok (.bastore, 1)) : SOK mi pc (xo_zast (pc + 1)) := by
  intro G g0 l p e R s m args below meth c X H locs cells slots ls lo st h hL hR hK
  refine ⟨fun pc' lo' st' h' he => ?_, fun r h' he => ?_⟩
  · unfold xo_zast at he
    split at he
    · rename_i x i a r
      split at he
      · rename_i t n f hh
        split at he
        · rename_i hcc
          obtain ⟨hcc, hin⟩ := hcc
          cases he
          refine ⟨⟨Nat.le_refl _, Nat.le_refl _⟩, fun Q _ _ kk => ?_⟩
          subst hcc
          rcases hR.2.2 _ _ hh with ⟨h1, h2, h3, h4, h5⟩ | ⟨h1, h2, h3⟩
          · omega
          · refine W.zast X.1 X.2.1 h3 ((X.2.2.2.2.2.2.2.1.1.2 1 _ rfl).1 n (fun j => .int (f j))) (fun q => by cases q) (by rw [arrV_size]; exact hin) rfl rfl d fun H1 e1 z oq => ?_
            refine kk H1 _ ls cells slots hL (hR.set g0 z oq (Or.inr ⟨Or.inr rfl, h2, ?_⟩)) (hK.app (ad_ge h2)) rfl rfl
            rw [e1, arrV_store]
            congr 2
            funext q
            by_cases hq : q = i.toNatClampNeg
            · subst hq
              simp [updV, upd, vp_nar]
              try rfl
            · simp [updV, upd, hq]
        · cases he
      · cases he
    · cases he
  · unfold xo_zast at he
    split at he
    · split at he
      · split at he <;> cases he
      · cases he
    · cases he
theorem xs_newi {at0 : ArrayType} {t : Nat} (ht : (at0 = .int ∧ t = 0) ∨ (at0 = .boolean ∧ t = 1)) (hw : Cond.arrayClass (newarray.typeOf at0) ∈ GT) (d : decode (MT mi).2.1 pc = .ok (.newarray at0, 2)) : SOK mi pc (xo_newi t (pc + 2)) := by
  intro G g0 l p e R s m args below meth c X H locs cells slots ls lo st h hL hR hK
  refine ⟨fun pc' lo' st' h' he => ?_, fun r h' he => ?_⟩
  · unfold xo_newi at he
    split at he
    · rename_i n r
      split at he
      · rename_i hcc
        obtain ⟨hn, hN⟩ := hcc
        cases he
        refine ⟨⟨Nat.le_succ _, Nat.le_add_right _ _⟩, fun Q hc1 hc2 kk => ?_⟩
        simp only [hnew] at hc1 hc2
        refine va_newaK (atype := at0) X.1 X.2.1 (X.2.2.2.2.2.2.1 _ hw) (g := F0 m pc ls _) rfl d rfl hn rfl (by rcases ht with ⟨rfl, -⟩ | ⟨rfl, -⟩ <;> simp only [newarray.typeOf, componentBytes] <;> omega) (by omega) (by omega) hR.ad.symm fun H' cA e1 z1 o1 hAr hNm => ?_
        have hcA : cA = G.2.2.2.2 t := by
          rcases ht with ⟨rfl, rfl⟩ | ⟨rfl, rfl⟩
          · exact Option.some.inj (hNm.symm.trans (X.2.2.2.2.2.2.2.1.1.2 0 _ rfl).2)
          · exact Option.some.inj (hNm.symm.trans (X.2.2.2.2.2.2.2.1.1.2 1 _ rfl).2)
        subst hcA
        have hne : h.1 ≠ 0 := by have := hR.2.1; omega
        refine kk H' locs ls _ _ hL (hR.new (by rw [z1, hR.ad]) (fun q hq => o1 q (by rw [hR.ad]; exact hq)) (Or.inr ⟨by rcases ht with ⟨-, rfl⟩ | ⟨-, rfl⟩ <;> simp, hne, ?_⟩)) hK (by simp only [hnew]; omega) (by simp only [hnew]; omega)
        rw [e1]
        rcases ht with ⟨rfl, -⟩ | ⟨rfl, -⟩ <;> rfl
      · cases he
    · cases he
  · unfold xo_newi at he
    split at he
    · split at he <;> cases he
    · cases he
theorem xs_newr {C : String} {t idx : Nat} (ht : (C = RX8 ∧ t = 3) ∨ (C = RX6 ∧ t = 4)) (hw : Cond.classLink (MT mi).1.cls idx C ∈ GT) (ho : Cond.arrayOver (.object C) ∈ NT) (d : decode (MT mi).2.1 pc = .ok (.anewarray idx, 3)) : SOK mi pc (xo_newr t (pc + 3)) := by
  intro G g0 l p e R s m args below meth c X H locs cells slots ls lo st h hL hR hK
  refine ⟨fun pc' lo' st' h' he => ?_, fun r h' he => ?_⟩
  · unfold xo_newr at he
    split at he
    · rename_i n r
      split at he
      · rename_i hcc
        obtain ⟨hn, hN⟩ := hcc
        cases he
        refine ⟨⟨Nat.le_succ _, Nat.le_add_right _ _⟩, fun Q hc1 hc2 kk => ?_⟩
        simp only [hnew] at hc1 hc2
        refine W.anew X.1 X.2.1 X.2.2.2.2.2.1 (X.2.2.2.2.2.2.1 _ hw) (va_AO.use (X.2.2.2.2.2.2.2.1.2.2 _ ho)) (g := F0 m pc ls _) rfl d rfl hn (by omega) (by omega) (by omega) fun cA kA comp f1 f2 f3 f4 => ?_
        have hcA : cA = G.2.2.2.2 t := by
          rcases ht with ⟨rfl, rfl⟩ | ⟨rfl, rfl⟩
          · obtain ⟨_, _, -, -, -, q⟩ := (X.2.2.2.2.2.2.2.1.1.2 2 _ rfl).2
            exact Option.some.inj (f1.symm.trans q)
          · obtain ⟨_, _, -, -, -, q⟩ := (X.2.2.2.2.2.2.2.1.1.2 3 _ rfl).2
            exact Option.some.inj (f1.symm.trans q)
        subst hcA
        have hne : h.1 ≠ 0 := by have := hR.2.1; omega
        have kk2 := kk (H.push { cls := G.2.2.2.2 t, slots := Array.replicate n.toNatClampNeg .null, vm := .none }) locs ls (cells + 1) (slots + n.toNatClampNeg) hL (hR.new (by rw [Array.size_push]) (fun q hq => by rw [Array.getElem?_push, if_neg (Nat.ne_of_lt hq)]) ⟨by rcases ht with ⟨-, rfl⟩ | ⟨-, rfl⟩ <;> simp, hne, by rw [hR.ad, Array.getElem?_push_size, arrV_new]; rfl⟩) hK (by simp only [hnew]; omega) (by simp only [hnew]; omega)
        rw [← hR.ad]
        exact kk2
      · cases he
    · cases he
  · unfold xo_newr at he
    split at he
    · split at he <;> cases he
    · cases he
theorem xs_new {C : String} {T : u_T} {N ci idx : Nat} {fs : List Value} (ty0 : Nat → FieldType) (hc : vwCl[ci]? = some (C, T, N)) (hin : ∀ w ∈ u_ws C T N, w ∈ GT) (hty : ∀ k, k < N → parseFieldDescriptor (T k).2.2.1 = some (ty0 k)) (hN : fs.length = N) (hfs : ∀ (G : GG) (j : Nat), j < N → defaultValue (ty0 j) = vp_V (fs.map (cv G)) j)
    (hw : Cond.classLink (MT mi).1.cls idx C ∈ GT) (hi : Cond.instantiable C N ∈ GT) (hini : Cond.initialized C ∈ GT) (d : decode (MT mi).2.1 pc = .ok (.new idx, 3)) : SOK mi pc (xo_new ci fs (pc + 3)) := by
  intro G g0 l p e R s m args below meth c X H locs cells slots ls lo st h hL hR hK
  refine ⟨fun pc' lo' st' h' he => ?_, fun r h' he => by cases he⟩
  cases he
  refine ⟨⟨Nat.le_succ _, Nat.le_add_right _ _⟩, fun Q hc1 hc2 kk => ?_⟩
  simp only [hnew] at hc1 hc2
  have hKn := X.2.2.2.2.2.2.2.1.1.1 ci _ hc
  have hts := X.2.2.2.2.2.2.1
  refine W.newcK X.1 X.2.1 X.2.2.2.2.2.1 (hts _ hw) (hts _ hi) (hts _ hini) (g := F0 m pc ls _) rfl d (by omega) (by omega) hKn.2.1 hR.ad.symm fun H1 kC hkC e1 z1 o1 => ?_
  have hne : h.1 ≠ 0 := by have := hR.2.1; omega
  exact kk H1 locs ls _ _ hL (hR.new (by rw [z1, hR.ad]) (fun q hq => o1 q (by rw [hR.ad]; exact hq)) ⟨hne, _, hc, hN, (u_born ty0 hts hin hKn hkC e1 hty).to (hfs G)⟩) hK (by simp only [hnew]; omega) (by simp only [hnew]; omega)
theorem xs_aast (d : decode (MT mi).2.1 pc = .ok (.aastore, 1)) : SOK mi pc (xo_aast (pc + 1)) := by
  intro G g0 l p e R s m args below meth c X H locs cells slots ls lo st h hL hR hK
  refine ⟨fun pc' lo' st' h' he => ?_, fun r h' he => ?_⟩
  · unfold xo_aast at he
    split at he
    · rename_i v i a r
      split at he
      · rename_i t n f hh
        split at he
        · rename_i hcc
          obtain ⟨hin, hrv⟩ := hcc
          cases he
          refine ⟨⟨Nat.le_refl _, Nat.le_refl _⟩, fun Q _ _ kk => ?_⟩
          obtain ⟨h1, h2, h3⟩ := hR.2.2 _ _ hh
          simp only [xrecv] at hrv
          split at hrv
          · rename_i q hq
            obtain ⟨cq, fsq⟩ := q
            have hcq : cq = xcl t := by simpa using hrv
            subst hcq
            obtain ⟨-, r', g1, g2, cellV, k1, k2, k3, -⟩ := hR.2.2 _ _ hq
            have hcls := (X.2.2.2.2.2.2.2.1.1.1 _ r' g1).2
            have hra : ∃ (kA : Class) (comp : ClassId), s.vm.classes[G.2.2.2.2 t]? = some kA ∧ (∃ C, kA.kind = .array comp (.object C)) ∧ s.vm.findClass r'.1 = some comp := by
              rcases h1 with rfl | rfl
              · obtain ⟨kA, comp, w1, w2, w3, -⟩ := (X.2.2.2.2.2.2.2.1.1.2 2 _ rfl).2
                have : r' = (RX8, TX8, 6) := Option.some.inj (g1.symm.trans rfl)
                subst this
                exact ⟨kA, comp, w1, ⟨_, w2⟩, w3⟩
              · obtain ⟨kA, comp, w1, w2, w3, -⟩ := (X.2.2.2.2.2.2.2.1.1.2 3 _ rfl).2
                have : r' = (RX6, TX6, 2) := Option.some.inj (g1.symm.trans rfl)
                subst this
                exact ⟨kA, comp, w1, ⟨_, w2⟩, w3⟩
            obtain ⟨kA, comp, w1, ⟨C, w2⟩, w3⟩ := hra
            have hcomp : comp = G.2.2.2.1.1 (xcl t) := Option.some.inj (w3.symm.trans hcls.1)
            subst hcomp
            obtain ⟨kC, hkC, -⟩ := hcls.2
            refine W.aast X.1 X.2.1 h3 (fun q h => by cases h) (fun h => by cases h) w1 w2 rfl hkC ⟨fun q => hin (Or.inl q), by rw [arrV_size]; exact xin_of hin⟩ k1 (fun q h => by rw [k3] at h; cases h) (by rw [k2]; exact hkC) (by rw [k2]; exact va_assign hcls) rfl rfl d fun H1 e1 z oq => ?_
            refine kk H1 _ ls cells slots hL (hR.set g0 z oq ⟨h1, h2, ?_⟩) (hK.app (ad_ge h2)) rfl rfl
            rw [e1, arrV_store]
            congr 2
            funext q
            by_cases hq : q = i.toNatClampNeg
            · subst hq
              simp [updV, va_up, va_rf]
            · simp [updV, va_up, hq]
          · cases hrv
        · cases he
      · cases he
    · rename_i i a r
      split at he
      · rename_i t n f hh
        split at he
        · rename_i hin
          cases he
          refine ⟨⟨Nat.le_refl _, Nat.le_refl _⟩, fun Q _ _ kk => ?_⟩
          obtain ⟨h1, h2, h3⟩ := hR.2.2 _ _ hh
          have hra : ∃ C, s.isArrayOf (arrV (G.2.2.2.2 t) n (fun j => va_rf ((f j).map (ad G)))) (.object C) := by
            rcases h1 with rfl | rfl
            · exact ⟨_, (X.2.2.2.2.2.2.2.1.1.2 2 _ rfl).1 n _⟩
            · exact ⟨_, (X.2.2.2.2.2.2.2.1.1.2 3 _ rfl).1 n _⟩
          obtain ⟨C, hra⟩ := hra
          refine va_WaastN (C := C) X.1 X.2.1 h3 hra (fun h => by cases h) (by rw [arrV_size]; exact hin) rfl rfl d fun H1 e1 z oq => ?_
          refine kk H1 _ ls cells slots hL (hR.set g0 z oq ⟨h1, h2, ?_⟩) (hK.app (ad_ge h2)) rfl rfl
          rw [e1, arrV_store]
          congr 2
          funext q
          by_cases hq : q = i.toNatClampNeg
          · subst hq
            simp [updV, va_up, va_rf]
          · simp [updV, va_up, hq]
        · cases he
      · cases he
    · cases he
  · unfold xo_aast at he
    split at he
    · split at he
      · split at he <;> cases he
      · cases he
    · split at he
      · split at he <;> cases he
      · cases he
    · cases he
theorem xs_oinit {idx : Nat} (hl : Cond.methodLink (MT mi).1.cls idx Lib.objectInit ∈ GT) (hi : Cond.instanceMethod Lib.objectInit ∈ GT) (hcd : Cond.code Lib.objectInit ⟨#[0xb1]⟩ 1 none ∈ GT) (hf : 1 ≤ (MT mi).2.2.2.2.1) (hlo : 22 ≤ (MT mi).2.2.2.2.2) (d : decode (MT mi).2.1 pc = .ok (.invokespecial idx, 3)) : SOK mi pc (xo_oinit (pc + 3)) := SPK.ok fun G g0 l p e R s m args below meth c X H locs cells slots ls lo st h hL hR => by
  unfold xo_oinit
  split
  · trivial
  · rename_i he
    split at he
    · rename_i a r
      split at he
      · rename_i hs
        have hts := X.2.2.2.2.2.2.1
        have e2 : ((r.map (cv G)).map fun v => v.category) = r.map Value.category := by
          rw [List.map_map]; exact List.map_congr_left fun v _ => cv_cat G v
        have hrm := lv_room (m := m) (pc := pc) (ls := ls) (rest := (Value.ref a :: r).map (cv G)) (st := r.map (cv G)) (by rw [e2]; exact hs)
        have hx1 := X.2.2.2.2.2.2.2.2.2.1
        have hx2 := X.2.2.2.2.2.2.2.2.2.2
        cases he
        refine ⟨rfl, fun Q kk => ?_⟩
        exact W.objInit X.1 X.2.1 X.2.2.2.2.2.1 (hts _ hl) (hts _ hi) (hts _ hcd) (g := F0 m pc ls _) rfl (hL.1.trans X.2.2.1.symm) rfl d (by omega) (by omega) (kk _ hL)
      · cases he
    · cases he
  · rename_i he
    split at he
    · split at he <;> cases he
    · cases he
theorem xs_cast {idx : Nat} (hl : Cond.classLink (MT mi).1.cls idx "[I" ∈ GT) (d : decode (MT mi).2.1 pc = .ok (.checkcast idx, 3)) : SOK mi pc (xo_cast (pc + 3)) := SPK.ok fun G g0 l p e R s m args below meth c X H locs cells slots ls lo st h hL hR => by
  unfold xo_cast
  split
  · trivial
  · rename_i he
    split at he
    · rename_i a r
      split at he
      · rename_i t n f hh
        split at he
        · rename_i ht
          cases he
          subst ht
          refine ⟨rfl, fun Q kk => ?_⟩
          rcases hR.2.2 _ _ hh with ⟨h1, h2, h3, h4, h5⟩ | ⟨h1, h2, h3⟩
          · omega
          · have hP : va_P G.2.2.2.1 vwCl [(ad G a, .inl (G.2.2.2.2 0, n, .inl f))] H := by
              intro k q hk
              cases k with
              | zero => simp at hk; subst hk; exact h3
              | succ k => simp at hk
            exact va_castA X.1 X.2.1 X.2.2.2.2.2.1 (X.2.2.2.2.2.2.1 _ hl) hP 0 rfl (va_nm_int (X.2.2.2.2.2.2.2.1.1.2 0 _ rfl).2) d (kk _ hL)
        · cases he
      · cases he
    · cases he
  · rename_i he
    split at he
    · split at he
      · split at he <;> cases he
      · cases he
    · cases he
end OPS4
