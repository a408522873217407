/-! a pair of calls, from a call of each -/
theorem csh_lt {I A : Nat → Nat → Int32} {R : Nat → Nat → Option Nat} {c : Nat} {e : AE} (h : csh I A R c = some e) : c < 24 := by
  unfold csh at h
  split at h <;> first | omega | exact absurd h (by simp)
theorem msh_in {I A : Nat → Nat → Int32} {c : Nat} {e : AE} (h : msh I A c = some e) : 24 ≤ c ∧ c < 40 := by
  unfold msh at h
  split at h <;> first | omega | exact absurd h (by simp)
theorem CH.frame {h h' : Hp} {I A : Nat → Nat → Int32} {R : Nat → Nat → Option Nat} (C : CH h I A R) (hf : ∀ c, c < 24 ∨ 40 ≤ c → h'.2.2 c = h.2.2 c) : CH h' I A R := by
  intro c e he
  rw [hf c (Or.inl (csh_lt he))]; exact C c e he
theorem MH.frame {h h' : Hp} {I A : Nat → Nat → Int32} (M : MH h I A) (hf : ∀ c, 24 ≤ c → c < 40 → h'.2.2 c = h.2.2 c) : MH h' I A := by
  intro c e he
  have := msh_in he
  rw [hf c this.1 this.2]; exact M c e he
theorem CZ.frame {h h' : Hp} {K : KK} (Z : CZ h K) (e1 : h'.1 = h.1) (h40 : 40 ≤ h.1) (hf : ∀ c, c < 24 ∨ 40 ≤ c → h'.2.2 c = h.2.2 c) : CZ h' K := by
  obtain ⟨I, A, R, P, o, C, u, l, f, s1, S, L, dis, n1, n2, ho, b⟩ := Z
  have h4 : ∀ j e, 40 ≤ j → h.2.2 j = some e → h'.2.2 j = some e := fun j e hj he => by rw [hf j (Or.inr hj)]; exact he
  refine ⟨I, A, R, P, o, C.frame hf, u, l, f, s1, S.fr h4, fun n hn => (L n hn).fr h4, dis, n1, n2, ho, ?_⟩
  intro j e he
  rw [e1]
  by_cases hj : j < 24 ∨ 40 ≤ j
  · rw [hf j hj] at he; exact b j e he
  · omega
theorem mk_pairv {mi mi' : Nat} {args : List Value} {h : Hp} {K K' : KK} {I A I' A' : Nat → Nat → Int32} {a b : Nat} (W : WI h K I A) (v : Value) (ha : a ≤ 4) (hb : b ≤ 54) (hx : ∀ Q, OUT h K' a b v Q → Call mi (.ref 1 :: args) h Q) (hr : ∀ h', MH h' I A → ∀ Q, MOUT h' I' A' v Q → Call mi' (.ref 24 :: args) h' Q) (hd : DR K' I' A') : PAIRv mi mi' args h v := by
  obtain ⟨Z, M, D, h40⟩ := W
  refine ⟨fun h' => CZ h' K' ∧ FrC h h' a b, fun Q hq => hx Q (fun h' z f => hq h' ⟨z, f⟩), ?_⟩
  rintro h' ⟨z, f⟩
  have M' : MH h' I A := M.frame (fun c h1 h2 => f.2.2.2 c (Or.inr ⟨h1, h2⟩))
  refine ⟨f.2.2.2 0 (Or.inl rfl), ⟨_, M'.c24⟩, fun Q hq => ?_⟩
  apply hr h' M'
  intro h'' I'' A'' M'' pm fm
  have h40' : 40 ≤ h'.1 := Nat.le_trans h40 f.2.2.1
  apply hq
  refine ⟨⟨K', I'', A'', z.frame fm.1 h40' fm.2.2, M'', hd.pm pm, by rw [fm.1]; exact h40'⟩, ?_, ?_, ?_⟩
  · rw [fm.1]; have := f.1; omega
  · rw [fm.2.1]; have := f.2.1; omega
  · rw [fm.2.2 0 (Or.inl (by omega)), f.2.2.2 0 (Or.inl rfl)]
theorem mk_pair {mi mi' : Nat} {args : List Value} {h : Hp} {K K' : KK} {I A I' A' : Nat → Nat → Int32} {a b : Nat} (W : WI h K I A) (v : Value) (ha : a ≤ 4) (hb : b ≤ 54) (hx : ∀ Q, OUT h K' a b v Q → Call mi (.ref 1 :: args) h Q) (hr : ∀ h', MH h' I A → ∀ Q, MOUT h' I' A' v Q → Call mi' (.ref 24 :: args) h' Q) (hd : DR K' I' A') (hv : ∃ w : Int32, v = .int w := by exact ⟨_, rfl⟩) : PAIR mi mi' args h := by
  obtain ⟨w, rfl⟩ := hv
  exact ⟨w, mk_pairv W _ ha hb hx hr hd⟩
