/-! flooding: a walk through live places, told apart from how it is kept -/
abbrev AB : Type := (Nat → Bool) × (Nat → Nat) × Nat
def avis (s : AB) (b : Nat) : AB := if s.1 b = true then ((fun j => if j = b then false else s.1 j), (fun j => if j = s.2.2 then b else s.2.1 j), s.2.2 + 1) else s
def abfs (nb : Nat → List Nat) : Nat → Nat → AB → AB
  | 0, _, s => s
  | n + 1, k, s => if k < s.2.2 then abfs nb n (k + 1) ((nb (s.2.1 k)).foldl avis s) else s
def Rk (nb : Nat → List Nat) (L : Nat → Bool) (c : Nat) : Nat → Nat → Prop
  | 0, b => b = c
  | n + 1, b => ∃ a, Rk nb L c n a ∧ b ∈ nb a ∧ L b = true
def Rch (nb : Nat → List Nat) (L : Nat → Bool) (c b : Nat) : Prop := ∃ n, Rk nb L c n b
theorem Rch.self (nb : Nat → List Nat) (L : Nat → Bool) (c : Nat) : Rch nb L c c := ⟨0, rfl⟩
theorem Rch.step {nb : Nat → List Nat} {L : Nat → Bool} {c a b : Nat} (h : Rch nb L c a) (h1 : b ∈ nb a) (h2 : L b = true) : Rch nb L c b := by
  obtain ⟨n, hn⟩ := h
  exact ⟨n + 1, a, hn, h1, h2⟩
theorem Rch.ind {nb : Nat → List Nat} {L : Nat → Bool} {c : Nat} {P : Nat → Prop} (h0 : P c) (hs : ∀ a b, Rch nb L c a → P a → b ∈ nb a → L b = true → P b) {b : Nat} (h : Rch nb L c b) : P b := by
  obtain ⟨n, hn⟩ := h
  induction n generalizing b with
  | zero => rw [show b = c from hn]; exact h0
  | succ n ih =>
    obtain ⟨a, h1, h2, h3⟩ := hn
    exact hs a b ⟨n, h1⟩ (ih h1) h2 h3
theorem Rch.trans {nb : Nat → List Nat} {L : Nat → Bool} {c a b : Nat} (h : Rch nb L c a) (h1 : Rch nb L a b) : Rch nb L c b :=
  Rch.ind (P := fun z => Rch nb L c z) h (fun _ _ _ p m l => p.step m l) h1
theorem Rch.live {nb : Nat → List Nat} {L : Nat → Bool} {c b : Nat} (hc : L c = true) (h : Rch nb L c b) : L b = true :=
  Rch.ind (P := fun z => L z = true) hc (fun _ _ _ _ _ l => l) h
def Ext (s t : AB) : Prop := s.2.2 ≤ t.2.2 ∧ (∀ j, j < s.2.2 → t.2.1 j = s.2.1 j) ∧ ∀ x, s.1 x = false → t.1 x = false
theorem Ext.rfl' (s : AB) : Ext s s := ⟨Nat.le_refl _, fun _ _ => rfl, fun _ h => h⟩
theorem Ext.trans {s t w : AB} (a : Ext s t) (b : Ext t w) : Ext s w := ⟨Nat.le_trans a.1 b.1, fun j hj => by rw [b.2.1 j (Nat.lt_of_lt_of_le hj a.1), a.2.1 j hj], fun x h => b.2.2 x (a.2.2 x h)⟩
theorem avis_ext (s : AB) (b : Nat) : Ext s (avis s b) := by
  unfold avis
  split
  · refine ⟨by show s.2.2 ≤ s.2.2 + 1; omega, fun j hj => ?_, fun x hx => ?_⟩
    · show (if j = s.2.2 then b else s.2.1 j) = _
      rw [if_neg (by omega)]
    · show (if x = b then false else s.1 x) = false
      split
      · rfl
      · exact hx
  · exact Ext.rfl' s
theorem avis_dead (s : AB) (b : Nat) : (avis s b).1 b = false := by
  unfold avis
  split
  · show (if b = b then false else s.1 b) = false
    rw [if_pos rfl]
  · rename_i h; exact Bool.eq_false_iff.mpr h
theorem fold_ext : ∀ (l : List Nat) (s : AB), Ext s (l.foldl avis s)
  | [], s => Ext.rfl' s
  | b :: l, s => (avis_ext s b).trans (fold_ext l (avis s b))
theorem abfs_ext (nb : Nat → List Nat) : ∀ n k (s : AB), Ext s (abfs nb n k s)
  | 0, _, s => Ext.rfl' s
  | n + 1, k, s => by
    rw [abfs]
    split
    · exact (fold_ext _ s).trans (abfs_ext nb n (k + 1) _)
    · exact Ext.rfl' s
def FInv (nb : Nat → List Nat) (L : Nat → Bool) (c : Nat) (s : AB) : Prop :=
  (∀ b, s.1 b = true → L b = true) ∧ (∀ b, L b = true → s.1 b = false → ∃ j, j < s.2.2 ∧ s.2.1 j = b) ∧ (∀ j, j < s.2.2 → s.1 (s.2.1 j) = false ∧ Rch nb L c (s.2.1 j)) ∧ fb_ct s.1 1024 + s.2.2 ≤ 1024
theorem avis_inv {nb : Nat → List Nat} {L : Nat → Bool} {c b : Nat} {s : AB} (hL : ∀ b, L b = true → b < 1024) (i : FInv nb L c s) (hb : s.1 b = true → Rch nb L c b) : FInv nb L c (avis s b) := by
  unfold avis
  by_cases h : s.1 b = true
  · rw [if_pos h]
    obtain ⟨i1, i2, i3, i4⟩ := i
    refine ⟨fun x hx => ?_, fun x hx hx2 => ?_, fun j hj => ?_, ?_⟩
    · have hx' : (if x = b then false else s.1 x) = true := hx
      by_cases e : x = b
      · rw [if_pos e] at hx'; exact absurd hx' (by decide)
      · rw [if_neg e] at hx'; exact i1 x hx'
    · have hx' : (if x = b then false else s.1 x) = false := hx2
      by_cases e : x = b
      · refine ⟨s.2.2, by show s.2.2 < s.2.2 + 1; omega, ?_⟩
        show (if s.2.2 = s.2.2 then b else s.2.1 s.2.2) = x
        rw [if_pos rfl, e]
      · rw [if_neg e] at hx'
        obtain ⟨j, hj, ej⟩ := i2 x hx hx'
        refine ⟨j, by show j < s.2.2 + 1; omega, ?_⟩
        show (if j = s.2.2 then b else s.2.1 j) = x
        rw [if_neg (by omega), ej]
    · have hj' : j < s.2.2 + 1 := hj
      show (if (if j = s.2.2 then b else s.2.1 j) = b then false else s.1 (if j = s.2.2 then b else s.2.1 j)) = false ∧ Rch nb L c (if j = s.2.2 then b else s.2.1 j)
      by_cases e : j = s.2.2
      · rw [if_pos e, if_pos rfl]; exact ⟨rfl, hb h⟩
      · rw [if_neg e]
        have := i3 j (by omega)
        refine ⟨?_, this.2⟩
        split
        · rfl
        · exact this.1
    · have u := fb_ct_upd s.1 false (hL b (i1 b h))
      rw [h] at u
      simp only [if_true, Bool.false_eq_true, if_false] at u
      show fb_ct (fun j => if j = b then false else s.1 j) 1024 + (s.2.2 + 1) ≤ 1024
      omega
  · rw [if_neg h]; exact i
theorem fold_inv {nb : Nat → List Nat} {L : Nat → Bool} {c a : Nat} (hL : ∀ b, L b = true → b < 1024) (ha : Rch nb L c a) : ∀ (l : List Nat) (s : AB), FInv nb L c s → (∀ b, b ∈ l → b ∈ nb a) → FInv nb L c (l.foldl avis s) ∧ ∀ b, b ∈ l → (l.foldl avis s).1 b = false
  | [], s, i, _ => ⟨i, fun b hb => absurd hb (List.not_mem_nil)⟩
  | x :: l, s, i, h => by
    have i1 := avis_inv hL i (b := x) (fun hx => ha.step (h x (List.mem_cons_self)) (i.1 x hx))
    obtain ⟨r1, r2⟩ := fold_inv hL ha l (avis s x) i1 (fun b hb => h b (List.mem_cons_of_mem _ hb))
    refine ⟨r1, fun b hb => ?_⟩
    rcases List.mem_cons.mp hb with e | e
    · rw [e]; exact (fold_ext l (avis s x)).2.2 x (avis_dead s x)
    · exact r2 b e
theorem abfs_inv {nb : Nat → List Nat} {L : Nat → Bool} {c : Nat} (hL : ∀ b, L b = true → b < 1024) : ∀ n k (s : AB), FInv nb L c s → 1024 ≤ k + n → (∀ j, j < k → j < s.2.2 → ∀ b, b ∈ nb (s.2.1 j) → s.1 b = false) → FInv nb L c (abfs nb n k s) ∧ ∀ j, j < (abfs nb n k s).2.2 → ∀ b, b ∈ nb ((abfs nb n k s).2.1 j) → (abfs nb n k s).1 b = false
  | 0, k, s, i, hk, h => by
    refine ⟨i, fun j hj b hb => h j ?_ hj b hb⟩
    have : s.2.2 ≤ 1024 := by have := i.2.2.2; omega
    have hj' : j < s.2.2 := hj
    omega
  | n + 1, k, s, i, hk, h => by
    rw [abfs]
    by_cases hc : k < s.2.2
    · rw [if_pos hc]
      have f := fold_inv hL (i.2.2.1 k hc).2 (nb (s.2.1 k)) s i (fun _ hb => hb)
      have e := fold_ext (nb (s.2.1 k)) s
      apply abfs_inv hL n (k + 1) _ f.1 (by omega)
      intro j hj hj2 b hb
      rw [e.2.1 j (by omega)] at hb
      by_cases ej : j = k
      · subst ej; exact f.2 b hb
      · exact e.2.2 b (h j (by omega) (by omega) b hb)
    · rw [if_neg hc]
      exact ⟨i, fun j hj b hb => h j (by omega) hj b hb⟩
/-- what is left when all that hangs together with c is taken away -/
def Cut (nb : Nat → List Nat) (L : Nat → Bool) (c : Nat) (L' : Nat → Bool) : Prop := ∀ b, L' b = true ↔ L b = true ∧ ¬ Rch nb L c b
theorem abfs_spec {nb : Nat → List Nat} {L : Nat → Bool} {c : Nat} (hL : ∀ b, L b = true → b < 1024) (hc : L c = true) (q : Nat → Nat) {n : Nat} (hn : 1024 ≤ n) : Cut nb L c (abfs nb n 0 (avis (L, q, 0) c)).1 ∧ (∀ j, j < (abfs nb n 0 (avis (L, q, 0) c)).2.2 → Rch nb L c ((abfs nb n 0 (avis (L, q, 0) c)).2.1 j)) ∧ (∀ b, Rch nb L c b → ∃ j, j < (abfs nb n 0 (avis (L, q, 0) c)).2.2 ∧ (abfs nb n 0 (avis (L, q, 0) c)).2.1 j = b) ∧ 0 < (abfs nb n 0 (avis (L, q, 0) c)).2.2 ∧ (abfs nb n 0 (avis (L, q, 0) c)).2.2 ≤ 1024 := by
  have i0 : FInv nb L c (L, q, 0) := ⟨fun _ h => h, fun b h1 h2 => absurd (h1.symm.trans h2) (by decide), fun j hj => absurd hj (Nat.not_lt_zero j), by
    have : ∀ n, fb_ct L n ≤ n := by
      intro n
      induction n with
      | zero => exact Nat.le_refl _
      | succ n ih => rw [fb_ct]; split <;> omega
    have t := this 1024
    show fb_ct L 1024 + 0 ≤ 1024
    omega⟩
  have i1 := avis_inv hL i0 (b := c) (fun _ => Rch.self nb L c)
  obtain ⟨i, cl⟩ := abfs_inv hL n 0 _ i1 (by omega) (fun j hj => absurd hj (Nat.not_lt_zero j))
  have ex := abfs_ext nb n 0 (avis (L, q, 0) c)
  have n1 : (avis (L, q, 0) c).2.2 = 1 := by unfold avis; rw [if_pos hc]
  have dead : ∀ b, Rch nb L c b → (abfs nb n 0 (avis (L, q, 0) c)).1 b = false := by
    intro b hb
    apply Rch.ind (P := fun z => (abfs nb n 0 (avis (L, q, 0) c)).1 z = false) _ _ hb
    · exact ex.2.2 c (avis_dead _ c)
    · intro a b ra pa hab lb
      obtain ⟨j, hj, ej⟩ := i.2.1 a (ra.live hc) pa
      exact cl j hj b (by rw [ej]; exact hab)
  refine ⟨fun b => ⟨fun h => ⟨i.1 b h, fun z => ?_⟩, fun h => ?_⟩, fun j hj => (i.2.2.1 j hj).2, fun b hb => i.2.1 b (hb.live hc) (dead b hb), ?_, ?_⟩
  · rw [dead b z] at h; exact absurd h (by decide)
  · cases hs : (abfs nb n 0 (avis (L, q, 0) c)).1 b
    · obtain ⟨j, hj, ej⟩ := i.2.1 b h.1 hs
      exact absurd (by rw [← ej]; exact (i.2.2.1 j hj).2) h.2
    · rfl
  · have := ex.1; omega
  · have := i.2.2.2; omega
