/-! counting pieces: both ways over the places in their order -/
def SC (nb : Nat → List Nat) : Nat → Nat → (Nat → Bool) → Int32 → Int32 → Prop
  | 0, _, _, n, r => r = n
  | m + 1, c, L, n, r => (L c = false ∧ SC nb m (c + 1) L n r) ∨ (L c = true ∧ ∃ L', Cut nb L c L' ∧ SC nb m (c + 1) L' (n + 1) r)
theorem Cut.one {nb : Nat → List Nat} {L L1 L2 : Nat → Bool} {c : Nat} (a : Cut nb L c L1) (b : Cut nb L c L2) : L1 = L2 := by
  funext x
  apply Bool.eq_iff_iff.mpr
  rw [a x, b x]
theorem SC.one {nb : Nat → List Nat} : ∀ m c (L : Nat → Bool) (n r r' : Int32), SC nb m c L n r → SC nb m c L n r' → r = r'
  | 0, _, _, _, _, _, h, h' => by rw [show _ = _ from h, show _ = _ from h']
  | m + 1, c, L, n, r, r', h, h' => by
    rcases h with ⟨d, h⟩ | ⟨d, L1, k1, h⟩
    · rcases h' with ⟨_, h'⟩ | ⟨d', _⟩
      · exact SC.one m _ _ _ _ _ h h'
      · rw [d] at d'; exact absurd d' (by decide)
    · rcases h' with ⟨d', _⟩ | ⟨_, L2, k2, h'⟩
      · rw [d] at d'; exact absurd d' (by decide)
      · rw [k1.one k2] at h
        exact SC.one m _ _ _ _ _ h h'
theorem SC.skip {nb : Nat → List Nat} {L : Nat → Bool} {n r : Int32} {t : Nat} : ∀ m c, (∀ b, c ≤ b → b < c + m → L b = false) → SC nb t (c + m) L n r → SC nb (m + t) c L n r
  | 0, c, _, h => by rw [Nat.zero_add]; exact h
  | m + 1, c, hd, h => by
    rw [show m + 1 + t = (m + t) + 1 by omega]
    exact Or.inl ⟨hd c (Nat.le_refl _) (by omega), SC.skip m (c + 1) (fun b h1 h2 => hd b (by omega) (by omega)) (by rw [show c + 1 + m = c + (m + 1) by omega]; exact h)⟩
theorem row_SC {N : Nat} (hN : N = 1024) {cor : Bool} {y : Nat} (hy : y < 32) {t : Nat} {r : Int32} : ∀ m i (s : FS × Int32), i + m = 32 → SC (nbK cor) t (32 * (y + 1)) (liveC (rowC N cor y m i s).1.1) (rowC N cor y m i s).2 r → SC (nbK cor) (m + t) (32 * y + i) (liveC s.1.1) s.2 r
  | 0, i, s, hi, h => by
    rw [Nat.zero_add, show 32 * y + i = 32 * (y + 1) by omega]; exact h
  | m + 1, i, s, hi, h => by
    rw [rowC] at h
    by_cases h0 : s.1.1 y = 0
    · rw [if_pos h0] at h
      apply SC.skip
      · intro b h1 h2
        unfold liveC
        rw [inC_bt _ _ (by omega), show b / 32 = y by omega, h0, b_0, Bool.and_false]
      · rw [show 32 * y + i + (m + 1) = 32 * (y + 1) by omega]; exact h
    · rw [if_neg h0] at h
      have ih := row_SC hN hy m (i + 1) _ (by omega) h
      have sp := pie_spec hN cor s.1 (c := 32 * y + i) (by omega)
      rw [show (32 * y + i) % 32 = i by omega, show (32 * y + i) / 32 = y by omega] at sp
      rw [show m + 1 + t = (m + t) + 1 by omega]
      cases hl : liveC s.1.1 (32 * y + i)
      · obtain ⟨e1, e2⟩ := sp.1 hl
        have ih' : SC (nbK cor) (m + t) (32 * y + (i + 1)) (liveC (pieC N cor s.1 (nI i) (nI y)).1) (if 0 < (pieC N cor s.1 (nI i) (nI y)).2.2 then s.2 + 1 else s.2) r := ih
        rw [e1, e2, if_neg (by omega)] at ih'
        exact Or.inl ⟨hl, ih'⟩
      · obtain ⟨e1, e2⟩ := sp.2 hl
        have ih' : SC (nbK cor) (m + t) (32 * y + (i + 1)) (liveC (pieC N cor s.1 (nI i) (nI y)).1) (if 0 < (pieC N cor s.1 (nI i) (nI y)).2.2 then s.2 + 1 else s.2) r := ih
        rw [if_pos e2] at ih'
        exact Or.inr ⟨hl, _, e1, ih'⟩
theorem left_SC {N : Nat} (hN : N = 1024) {cor : Bool} : ∀ m y (s : FS × Int32), y + m = 32 → SC (nbK cor) (32 * m) (32 * y) (liveC s.1.1) s.2 (leftC N cor m y s).2
  | 0, _, _, _ => rfl
  | m + 1, y, s, h => by
    rw [leftC, show 32 * (m + 1) = 32 + 32 * m by omega]
    exact row_SC hN (y := y) (by omega) 32 0 s (by omega) (left_SC hN m (y + 1) _ (by omega))
theorem scan_SC (g : Nat → Int32) : ∀ m (qf df : Nat → Int32) (n : Int32), m ≤ 1024 → SC (nbK true) m (1024 - m) (liveM g true df) n (scanM g true m qf df n)
  | 0, _, _, _, _ => rfl
  | m + 1, qf, df, n, hm => by
    rw [scanM, show 1024 - (m + 1) = 1023 - m by omega]
    have e1 : 1023 - m + 1 = 1024 - m := by omega
    by_cases h : df (1023 - m) = 0 ∧ inkAt g (1023 - m) = true
    · rw [if_pos h]
      have hl : liveM g true df (1023 - m) = true := by unfold liveM; rw [decide_eq_true (by omega), decide_eq_true h.1, h.2]; rfl
      refine Or.inr ⟨hl, _, (goes_spec qf df hl).1, ?_⟩
      rw [e1, if_pos (Or.inl rfl)]
      exact scan_SC g m _ _ _ (by omega)
    · rw [if_neg h]
      have hl : liveM g true df (1023 - m) = false := by
        apply Bool.eq_false_iff.mpr
        intro z
        unfold liveM at z
        simp only [Bool.and_eq_true, decide_eq_true_iff, beq_iff_eq] at z
        exact h ⟨z.2.1, z.2.2⟩
      refine Or.inl ⟨hl, ?_⟩
      rw [e1]
      exact scan_SC g m _ _ _ (by omega)
theorem inkAt_bt (g : Nat → Int32) (b : Nat) : inkAt g b = bt (g (b / 32)) (b % 32) := inB_bt g _ (by omega)
theorem pieces_eq {N : Nat} (hN : N = 1024) {W g : Nat → Int32} (hW : ∀ y, y < 32 → W y = g y) (s : FS) (qf df : Nat → Int32) : (cpC N W s).2 = piecesV g true qf df := by
  have a := left_SC hN (cor := true) 32 0 ((gmix 32 W s.1, s.2), 0) (by omega)
  have b := scan_SC g 1024 qf (gmix 1024 (fun _ => 0) df) 0 (by omega)
  have e : liveC (gmix 32 W s.1) = liveM g true (gmix 1024 (fun _ => 0) df) := by
    funext x
    unfold liveC liveM
    by_cases hx : x < 1024
    · rw [inC_bt _ _ (by omega), inkAt_bt, gmix_lt (by omega : x / 32 < 32), gmix_lt hx, hW _ (by omega)]
      simp
    · simp [hx]
  have a' : SC (nbK true) 1024 0 (liveC (gmix 32 W s.1)) 0 (cpC N W s).2 := a
  have b' : SC (nbK true) 1024 0 (liveM g true (gmix 1024 (fun _ => 0) df)) 0 (piecesV g true qf df) := b
  rw [e] at a'
  exact SC.one _ _ _ _ _ _ a' b'
