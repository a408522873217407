/-! counting counters: with and without taking the edges away first -/
section F
variable {S0 : Nat → Bool} {cor : Bool}
def Cl (cor : Bool) (S0 L : Nat → Bool) : Prop := (∀ b, L b = true → S0 b = true) ∧ ∀ a b, L a = true → b ∈ nbK cor a → S0 b = true → L b = true
theorem rch_cl {L : Nat → Bool} (k : Cl cor S0 L) {c b : Nat} (hc : L c = true) : Rch (nbK cor) L c b ↔ Rch (nbK cor) S0 c b := by
  constructor
  · intro h
    exact Rch.ind (P := fun z => Rch (nbK cor) S0 c z) (Rch.self _ _ _) (fun a b _ p m l => p.step m (k.1 b l)) h
  · intro h
    exact (Rch.ind (P := fun z => L z = true ∧ Rch (nbK cor) L c z) ⟨hc, Rch.self _ _ _⟩ (fun a b _ p m l => ⟨k.2 a b p.1 m l, p.2.step m (k.2 a b p.1 m l)⟩) h).2
theorem cut_cl (hS : ∀ b, S0 b = true → b < 1024) {L L' : Nat → Bool} (k : Cl cor S0 L) {c : Nat} (h : Cut (nbK cor) L c L') : Cl cor S0 L' := by
  refine ⟨fun b hb => k.1 b ((h b).mp hb).1, fun a b ha hab hb => ?_⟩
  have la := (h a).mp ha
  have lb := k.2 a b la.1 hab hb
  refine (h b).mpr ⟨lb, fun z => la.2 ?_⟩
  exact z.step (nbK_sym (hS a (k.1 a la.1)) hab) la.1
def TT (cor : Bool) (S0 : Nat → Bool) (P : Nat → Prop) (b : Nat) : Prop := ∃ e, P e ∧ S0 e = true ∧ Rch (nbK cor) S0 e b
theorem scan_F (g : Nat → Int32) (hS : ∀ b, S0 b = true → b < 1024) : ∀ m (qf df : Nat → Int32) (n : Int32) (LC : Nat → Bool), m ≤ 1024 → Cl false S0 (liveM g false df) → (∀ b, LC b = true ↔ liveM g false df b = true ∧ ¬ TT false S0 (fun e => brdB e = true) b) → SC (nbK false) m (1024 - m) LC n (scanM g false m qf df n)
  | 0, _, _, _, _, _, _, _ => rfl
  | m + 1, qf, df, n, LC, hm, k, hLC => by
    rw [scanM, show 1024 - (m + 1) = 1023 - m by omega]
    have e1 : 1023 - m + 1 = 1024 - m := by omega
    by_cases h : df (1023 - m) = 0 ∧ inkAt g (1023 - m) = false
    · rw [if_pos h]
      have hl : liveM g false df (1023 - m) = true := by unfold liveM; rw [decide_eq_true (by omega), decide_eq_true h.1, h.2]; rfl
      have gs := goes_spec qf df hl
      have k' := cut_cl hS k gs.1
      generalize hc : 1023 - m = c at *
      have sc := k.1 c hl
      by_cases ht : TT false S0 (fun e => brdB e = true) c
      · have hd : LC c = false := by
          apply Bool.eq_false_iff.mpr
          intro z
          exact ((hLC c).mp z).2 ht
        have fl : (goesM g false c qf df).2 = true := by
          rw [gs.2]
          obtain ⟨e, he, se, re⟩ := ht
          exact ⟨e, (rch_cl k hl).mpr (re.sym hS se), he⟩
        refine Or.inl ⟨hd, ?_⟩
        rw [e1, if_neg (by rw [fl]; simp)]
        apply scan_F g hS m _ _ _ _ (by omega) k'
        intro b
        rw [hLC b, gs.1 b]
        constructor
        · rintro ⟨b1, b2⟩
          refine ⟨⟨b1, fun z => b2 ?_⟩, b2⟩
          obtain ⟨e, he, se, re⟩ := ht
          exact ⟨e, he, se, re.trans ((rch_cl k hl).mp z)⟩
        · rintro ⟨⟨b1, _⟩, b2⟩; exact ⟨b1, b2⟩
      · have hd : LC c = true := (hLC c).mpr ⟨hl, ht⟩
        have fl : (goesM g false c qf df).2 = false := by
          apply Bool.eq_false_iff.mpr
          intro z
          rw [gs.2] at z
          obtain ⟨b, rb, bb⟩ := z
          have rs := (rch_cl k hl).mp rb
          exact ht ⟨b, bb, rs.live sc, rs.sym hS sc⟩
        have nt : ∀ z, Rch (nbK false) S0 c z → ¬ TT false S0 (fun e => brdB e = true) z := by
          rintro z rz ⟨e, he, se, re⟩
          exact ht ⟨e, he, se, re.trans (rz.sym hS sc)⟩
        have rr : ∀ b, Rch (nbK false) LC c b ↔ Rch (nbK false) (liveM g false df) c b := by
          intro b
          constructor
          · intro z
            exact Rch.ind (P := fun z => Rch (nbK false) (liveM g false df) c z) (Rch.self _ _ _) (fun a b _ p m l => p.step m ((hLC b).mp l).1) z
          · intro z
            exact Rch.ind (P := fun z => Rch (nbK false) LC c z) (Rch.self _ _ _) (fun a b ra p m l => p.step m ((hLC b).mpr ⟨l, nt b ((rch_cl k hl).mp (ra.step m l))⟩)) z
        have hL2 : ∀ b, (liveM g false (goesM g false c qf df).1.2.1 b && @decide (¬ TT false S0 (fun e => brdB e = true) b) (Classical.propDecidable _)) = true ↔ liveM g false (goesM g false c qf df).1.2.1 b = true ∧ ¬ TT false S0 (fun e => brdB e = true) b := by
          intro b
          rw [Bool.and_eq_true]
          simp
        refine Or.inr ⟨hd, fun b => liveM g false (goesM g false c qf df).1.2.1 b && @decide (¬ TT false S0 (fun e => brdB e = true) b) (Classical.propDecidable _), ?_, ?_⟩
        · intro b
          rw [hL2 b, gs.1 b, hLC b, rr b]
          constructor
          · rintro ⟨⟨b1, b2⟩, b3⟩; exact ⟨⟨b1, b3⟩, b2⟩
          · rintro ⟨⟨b1, b3⟩, b2⟩; exact ⟨⟨b1, b2⟩, b3⟩
        · rw [e1, if_pos (Or.inr fl)]
          exact scan_F g hS m _ _ _ _ (by omega) k' hL2
    · rw [if_neg h]
      have hl : liveM g false df (1023 - m) = false := by
        apply Bool.eq_false_iff.mpr
        intro z
        unfold liveM at z
        simp only [Bool.and_eq_true, decide_eq_true_iff, beq_iff_eq] at z
        exact h ⟨z.2.1, z.2.2⟩
      have hd : LC (1023 - m) = false := by
        apply Bool.eq_false_iff.mpr
        intro z
        rw [((hLC _).mp z).1] at hl
        exact absurd hl (by decide)
      refine Or.inl ⟨hd, ?_⟩
      rw [e1]
      exact scan_F g hS m _ _ _ _ (by omega) k hLC
def EI (S0 : Nat → Bool) (P : Nat → Prop) (L : Nat → Bool) : Prop := ∀ b, L b = true ↔ S0 b = true ∧ ¬ TT false S0 P b
theorem EI.cl (hS : ∀ b, S0 b = true → b < 1024) {P : Nat → Prop} {L : Nat → Bool} (e : EI S0 P L) : Cl false S0 L := by
  refine ⟨fun b hb => ((e b).mp hb).1, fun a b ha hab hb => (e b).mpr ⟨hb, ?_⟩⟩
  have la := (e a).mp ha
  rintro ⟨x, px, sx, rx⟩
  exact la.2 ⟨x, px, sx, rx.step (nbK_sym (hS a la.1) hab) la.1⟩
theorem EI.pie {N : Nat} (hN : N = 1024) (hS : ∀ b, S0 b = true → b < 1024) {P : Nat → Prop} {s : FS} (e : EI S0 P (liveC s.1)) {c : Nat} (hc : c < 1024) : EI S0 (fun x => P x ∨ x = c) (liveC (pieC N false s (nI (c % 32)) (nI (c / 32))).1) := by
  have sp := pie_spec hN false s hc
  intro b
  cases hl : liveC s.1 c
  · rw [(sp.1 hl).1, e b]
    constructor
    · rintro ⟨b1, b2⟩
      refine ⟨b1, ?_⟩
      rintro ⟨x, px | ex, sx, rx⟩
      · exact b2 ⟨x, px, sx, rx⟩
      · subst ex
        have : TT false S0 P x := by
          apply Classical.byContradiction
          intro z
          rw [(e x).mpr ⟨sx, z⟩] at hl
          exact absurd hl (by decide)
        obtain ⟨y, py, sy, ry⟩ := this
        exact b2 ⟨y, py, sy, ry.trans rx⟩
    · rintro ⟨b1, b2⟩
      refine ⟨b1, ?_⟩
      rintro ⟨x, px, sx, rx⟩
      exact b2 ⟨x, Or.inl px, sx, rx⟩
  · rw [(sp.2 hl).1 b, rch_cl (e.cl hS) hl, e b]
    constructor
    · rintro ⟨⟨b1, b2⟩, b3⟩
      refine ⟨b1, ?_⟩
      rintro ⟨x, px | ex, sx, rx⟩
      · exact b2 ⟨x, px, sx, rx⟩
      · subst ex; exact b3 rx
    · rintro ⟨b1, b2⟩
      refine ⟨⟨b1, ?_⟩, fun z => b2 ⟨c, Or.inr rfl, ((e c).mp hl).1, z⟩⟩
      rintro ⟨x, px, sx, rx⟩
      exact b2 ⟨x, Or.inl px, sx, rx⟩
theorem EI.of {P P' : Nat → Prop} {L : Nat → Bool} (e : EI S0 P L) (h : ∀ x, P x ↔ P' x) : EI S0 P' L := by
  intro b
  rw [e b]
  unfold TT
  simp only [h]
theorem edg_EI {N : Nat} (hN : N = 1024) (hS : ∀ b, S0 b = true → b < 1024) : ∀ m i (s : FS), i + m = 32 → EI S0 (fun x => ∃ j, j < i ∧ (x = j ∨ x = 992 + j ∨ x = 32 * j ∨ x = 32 * j + 31)) (liveC s.1) → EI S0 (fun x => ∃ j, j < 32 ∧ (x = j ∨ x = 992 + j ∨ x = 32 * j ∨ x = 32 * j + 31)) (liveC (edgC N m i s).1)
  | 0, i, s, hi, e => by
    have : i = 32 := by omega
    subst this
    exact e
  | m + 1, i, s, hi, e => by
    rw [edgC]
    apply edg_EI hN hS m (i + 1) _ (by omega)
    have p1 := e.pie hN hS (c := i) (by omega)
    have p2 := p1.pie hN hS (c := 992 + i) (by omega)
    have p3 := p2.pie hN hS (c := 32 * i) (by omega)
    have p4 := p3.pie hN hS (c := 32 * i + 31) (by omega)
    rw [show i % 32 = i by omega, show i / 32 = 0 by omega, show (992 + i) % 32 = i by omega, show (992 + i) / 32 = 31 by omega, show 32 * i % 32 = 0 by omega, show 32 * i / 32 = i by omega, show (32 * i + 31) % 32 = 31 by omega, show (32 * i + 31) / 32 = i by omega] at p4
    apply EI.of p4
    intro x
    constructor
    · rintro ((((⟨j, hj, h⟩ | h) | h) | h) | h)
      · exact ⟨j, by omega, h⟩
      · exact ⟨i, by omega, Or.inl h⟩
      · exact ⟨i, by omega, Or.inr (Or.inl h)⟩
      · exact ⟨i, by omega, Or.inr (Or.inr (Or.inl h))⟩
      · exact ⟨i, by omega, Or.inr (Or.inr (Or.inr h))⟩
    · rintro ⟨j, hj, h⟩
      by_cases ej : j = i
      · subst ej
        rcases h with h | h | h | h
        · exact Or.inl (Or.inl (Or.inl (Or.inr h)))
        · exact Or.inl (Or.inl (Or.inr h))
        · exact Or.inl (Or.inr h)
        · exact Or.inr h
      · exact Or.inl (Or.inl (Or.inl (Or.inl ⟨j, by omega, h⟩)))
end F
theorem counters_eq {N : Nat} (hN : N = 1024) {W g : Nat → Int32} (hW : ∀ y, y < 32 → W y = g y) (s : FS) (qf df : Nat → Int32) : (ccC N W s).2 = piecesV g false qf df := by
  have eS : liveC (gmix 32 (fun y => W y ^^^ -1) s.1) = liveM g false (gmix 1024 (fun _ => 0) df) := by
    funext x
    unfold liveC liveM
    by_cases hx : x < 1024
    · rw [inC_bt _ _ (by omega), inkAt_bt, gmix_lt (by omega : x / 32 < 32), gmix_lt hx, hW _ (by omega), b_xor, b_m1 _ (by omega)]
      cases bt (g (x / 32)) (x % 32) <;> simp
    · simp [hx]
  have hS : ∀ b, liveM g false (gmix 1024 (fun _ => 0) df) b = true → b < 1024 := liveM_lt
  have ed := edg_EI (S0 := liveM g false (gmix 1024 (fun _ => 0) df)) hN hS 32 0 (gmix 32 (fun y => W y ^^^ -1) s.1, s.2) (by omega) (by
    intro b
    show liveC (gmix 32 (fun y => W y ^^^ -1) s.1) b = true ↔ _
    rw [eS]
    constructor
    · intro h; exact ⟨h, by rintro ⟨x, ⟨j, hj, _⟩, _⟩; omega⟩
    · intro h; exact h.1)
  have a := left_SC hN (cor := false) 32 0 (edgC N 32 0 (gmix 32 (fun y => W y ^^^ -1) s.1, s.2), 0) (by omega)
  have b := scan_F (S0 := liveM g false (gmix 1024 (fun _ => 0) df)) g hS 1024 qf (gmix 1024 (fun _ => 0) df) 0 (liveC (edgC N 32 0 (gmix 32 (fun y => W y ^^^ -1) s.1, s.2)).1) (by omega) ⟨fun _ h => h, fun _ _ _ _ h => h⟩ (by
    intro b
    rw [ed b]
    constructor
    · rintro ⟨h1, h2⟩
      refine ⟨h1, ?_⟩
      rintro ⟨e, he, se, re⟩
      refine h2 ⟨e, ?_, se, re⟩
      have hl := hS e se
      have he' : e % 32 = 0 ∨ e / 32 = 0 ∨ e % 32 = 31 ∨ e / 32 = 31 := by unfold brdB at he; simpa using he
      rcases he' with z | z | z | z
      · exact ⟨e / 32, by omega, by omega⟩
      · exact ⟨e, by omega, by omega⟩
      · exact ⟨e / 32, by omega, by omega⟩
      · exact ⟨e % 32, by omega, by omega⟩
    · rintro ⟨h1, h2⟩
      refine ⟨h1, ?_⟩
      rintro ⟨e, ⟨j, hj, he⟩, se, re⟩
      refine h2 ⟨e, ?_, se, re⟩
      unfold brdB
      apply decide_eq_true
      omega)
  exact SC.one _ _ _ _ _ _ a b
