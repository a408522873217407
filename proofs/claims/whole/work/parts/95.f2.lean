/-! flooding: neighbours -/
def nbo (cor : Bool) (c d : Nat) : List Nat := match nbr cor c d with
  | none => []
  | some b => [b]
def nbM (cor : Bool) (c : Nat) : Nat → List Nat
  | 0 => []
  | d + 1 => nbM cor c d ++ nbo cor c d
def nbK (cor : Bool) (c : Nat) : List Nat := nbo cor c 3 ++ nbo cor c 5 ++ nbo cor c 1 ++ nbo cor c 7 ++ (nbo cor c 0 ++ nbo cor c 2 ++ nbo cor c 6 ++ nbo cor c 8)
theorem nbo_mem {cor : Bool} {c d b : Nat} : b ∈ nbo cor c d ↔ nbr cor c d = some b := by
  unfold nbo
  cases h : nbr cor c d with
  | none => simp
  | some x => simp [eq_comm]
theorem nbK_mem {cor : Bool} {c b : Nat} : b ∈ nbK cor c ↔ ∃ d, d < 9 ∧ ¬ d = 4 ∧ nbr cor c d = some b := by
  unfold nbK
  simp only [List.mem_append, nbo_mem]
  constructor
  · rintro ((((h | h) | h) | h) | (((h | h) | h) | h))
    · exact ⟨3, by omega, by omega, h⟩
    · exact ⟨5, by omega, by omega, h⟩
    · exact ⟨1, by omega, by omega, h⟩
    · exact ⟨7, by omega, by omega, h⟩
    · exact ⟨0, by omega, by omega, h⟩
    · exact ⟨2, by omega, by omega, h⟩
    · exact ⟨6, by omega, by omega, h⟩
    · exact ⟨8, by omega, by omega, h⟩
  · rintro ⟨d, h1, h2, h⟩
    have : d = 0 ∨ d = 1 ∨ d = 2 ∨ d = 3 ∨ d = 5 ∨ d = 6 ∨ d = 7 ∨ d = 8 := by omega
    rcases this with e | e | e | e | e | e | e | e <;> subst e <;> simp [h]
theorem nbM_mem {cor : Bool} {c b : Nat} : ∀ n, b ∈ nbM cor c n ↔ ∃ d, d < n ∧ nbr cor c d = some b
  | 0 => by simp [nbM]
  | n + 1 => by
    rw [nbM, List.mem_append, nbM_mem n, nbo_mem]
    constructor
    · rintro (⟨d, h1, h2⟩ | h)
      · exact ⟨d, by omega, h2⟩
      · exact ⟨n, by omega, h⟩
    · rintro ⟨d, h1, h2⟩
      by_cases e : d = n
      · subst e; exact Or.inr h2
      · exact Or.inl ⟨d, by omega, h2⟩
theorem nbr_4 {cor : Bool} {c : Nat} (hc : c < 1024) : nbr cor c 4 = some c := by
  unfold nbr
  rw [if_pos]
  · congr 1; omega
  · refine ⟨by omega, by omega, by omega, by omega, Or.inr (Or.inl ?_)⟩
    omega
theorem nbMC {cor : Bool} {c b : Nat} (hc : c < 1024) : b ∈ nbM cor c 9 ↔ b ∈ nbK cor c ∨ b = c := by
  rw [nbM_mem, nbK_mem]
  constructor
  · rintro ⟨d, h1, h2⟩
    by_cases e : d = 4
    · subst e; rw [nbr_4 hc] at h2; right; simpa using h2.symm
    · exact Or.inl ⟨d, h1, e, h2⟩
  · rintro (⟨d, h1, h2, h3⟩ | e)
    · exact ⟨d, h1, h3⟩
    · subst e; exact ⟨4, by omega, nbr_4 hc⟩
theorem nbK_lt {cor : Bool} {c b : Nat} (h : b ∈ nbK cor c) : b < 1024 := by
  obtain ⟨d, _, _, h⟩ := nbK_mem.mp h
  exact nbr_lt h
theorem nbr_sym {cor : Bool} {a b d : Nat} (ha : a < 1024) (hd : d < 9) (h : nbr cor a d = some b) : nbr cor b (8 - d) = some a := by
  unfold nbr at h
  split at h
  · rename_i hc
    obtain ⟨c1, c2, c3, c4, c5⟩ := hc
    have hb : 32 * (a / 32 + d / 3 - 1) + (a % 32 + d % 3 - 1) = b := by simpa using h
    have b1 : b % 32 = a % 32 + d % 3 - 1 := by omega
    have b2 : b / 32 = a / 32 + d / 3 - 1 := by omega
    have d1 : (8 - d) % 3 = 2 - d % 3 := by omega
    have d2 : (8 - d) / 3 = 2 - d / 3 := by omega
    unfold nbr
    rw [b1, b2, d1, d2, if_pos]
    · congr 1; omega
    · refine ⟨by omega, by omega, by omega, by omega, ?_⟩
      rcases c5 with c5 | c5 | c5
      · exact Or.inl c5
      · right; left; omega
      · right; right; omega
  · exact absurd h (by simp)
theorem nbK_sym {cor : Bool} {a b : Nat} (ha : a < 1024) (h : b ∈ nbK cor a) : a ∈ nbK cor b := by
  obtain ⟨d, h1, h2, h3⟩ := nbK_mem.mp h
  exact nbK_mem.mpr ⟨8 - d, by omega, by omega, nbr_sym ha h1 h3⟩
theorem Rch_MC {cor : Bool} {L : Nat → Bool} (hL : ∀ b, L b = true → b < 1024) {c b : Nat} (hc : L c = true) : Rch (fun a => nbM cor a 9) L c b ↔ Rch (nbK cor) L c b := by
  constructor
  · intro h
    apply Rch.ind (P := fun z => Rch (nbK cor) L c z) (Rch.self _ _ _) _ h
    intro a b ra pa hab lb
    rcases (nbMC (hL a (ra.live hc))).mp hab with e | e
    · exact pa.step e lb
    · rw [e]; exact pa
  · intro h
    apply Rch.ind (P := fun z => Rch (fun a => nbM cor a 9) L c z) (Rch.self _ _ _) _ h
    intro a b ra pa hab lb
    exact pa.step ((nbMC (hL a (ra.live hc))).mpr (Or.inl hab)) lb
theorem Rch.sym {cor : Bool} {L : Nat → Bool} (hL : ∀ b, L b = true → b < 1024) {c b : Nat} (hc : L c = true) (h : Rch (nbK cor) L c b) : Rch (nbK cor) L b c := by
  apply Rch.ind (P := fun z => Rch (nbK cor) L z c) (Rch.self _ _ _) _ h
  intro a b ra pa hab lb
  have la := ra.live hc
  exact ((Rch.self (nbK cor) L b).step (nbK_sym (hL a la) hab) la).trans pa
/-- the reference's way of keeping it -/
def SimM (g : Nat → Int32) (oi : Bool) (st : MB) (s : AB) : Prop := (∀ b, b < 1024 → s.1 b = (decide (st.2.1 b = 0) && (inkAt g b == oi))) ∧ s.2.2 = st.2.2 ∧ ∀ j, j < s.2.2 → st.1 j = nI (s.2.1 j) ∧ s.2.1 j < 1024
theorem vis_sim {g : Nat → Int32} {oi : Bool} {st : MB} {s : AB} (h : SimM g oi st s) {b : Nat} (hb : b < 1024) : SimM g oi (visM g oi st (some b)) (avis s b) := by
  obtain ⟨h1, h2, h3⟩ := h
  unfold visM avis
  have e := h1 b hb
  by_cases hc : st.2.1 b = 0 ∧ inkAt g b = oi
  · have e1 : s.1 b = true := by rw [e, decide_eq_true hc.1, hc.2]; simp
    rw [if_pos e1]
    simp only [if_pos hc]
    refine ⟨fun x hx => ?_, by show s.2.2 + 1 = st.2.2 + 1; omega, fun j hj => ?_⟩
    · show (if x = b then false else s.1 x) = (decide (upd st.2.1 b 1 x = 0) && (inkAt g x == oi))
      by_cases ex : x = b
      · subst ex
        have : ¬ (1 : Int32) = 0 := by decide
        simp [upd, this]
      · rw [if_neg ex, h1 x hx]
        simp only [upd, if_neg ex]
    · have hj' : j < s.2.2 + 1 := hj
      show upd st.1 st.2.2 (nI b) j = nI (if j = s.2.2 then b else s.2.1 j) ∧ (if j = s.2.2 then b else s.2.1 j) < 1024
      rw [h2] at hj' ⊢
      by_cases ej : j = st.2.2
      · simp only [upd, if_pos ej]; exact ⟨trivial, hb⟩
      · simp only [upd, if_neg ej]; exact h3 j (by omega)
  · have e1 : ¬ s.1 b = true := by
      rw [e]
      intro z
      apply hc
      simpa using z
    rw [if_neg e1]
    simp only [if_neg hc]
    exact ⟨h1, h2, h3⟩
theorem proc_sim {g : Nat → Int32} {oi : Bool} {c : Nat} {st : MB} {s : AB} (h : SimM g oi st s) : ∀ d, SimM g oi (procM g oi c st d) ((nbM oi c d).foldl avis s)
  | 0 => h
  | d + 1 => by
    have ih := proc_sim (c := c) h d
    rw [procM, nbM, List.foldl_append]
    unfold nbo
    cases hn : nbr oi c d with
    | none => exact ih
    | some b => exact vis_sim ih (nbr_lt hn)
theorem bfs_sim {g : Nat → Int32} {oi : Bool} : ∀ n k (st : MB) (s : AB) (bd : Bool), SimM g oi st s → (s.2.2 ≤ k + n → True) → SimM g oi (bfsM g oi n k st bd).1 (abfs (fun a => nbM oi a 9) n k s) ∧ ((abfs (fun a => nbM oi a 9) n k s).2.2 ≤ k + n → ((bfsM g oi n k st bd).2 = true ↔ bd = true ∨ ∃ j, k ≤ j ∧ j < (abfs (fun a => nbM oi a 9) n k s).2.2 ∧ brdB ((abfs (fun a => nbM oi a 9) n k s).2.1 j) = true))
  | 0, k, st, s, bd, h, _ => by
    refine ⟨h, fun hk => ?_⟩
    have hk' : s.2.2 ≤ k + 0 := hk
    show bd = true ↔ bd = true ∨ ∃ j, k ≤ j ∧ j < s.2.2 ∧ brdB (s.2.1 j) = true
    constructor
    · intro z; exact Or.inl z
    · rintro (z | ⟨j, h1, h2, _⟩)
      · exact z
      · omega
  | n + 1, k, st, s, bd, h, _ => by
    rw [bfsM, abfs, ← h.2.1]
    by_cases hc : k < s.2.2
    · rw [if_pos hc, if_pos hc]
      have hq := h.2.2 k hc
      have eq : (st.1 k).toNatClampNeg = s.2.1 k := by rw [hq.1, nq_cl (by omega)]
      rw [eq]
      have ih := bfs_sim n (k + 1) (procM g oi (s.2.1 k) st 9) ((nbM oi (s.2.1 k) 9).foldl avis s) (bd || brdB (s.2.1 k)) (proc_sim h 9) (fun _ => trivial)
      have ex := (fold_ext (nbM oi (s.2.1 k) 9) s).trans (abfs_ext (fun a => nbM oi a 9) n (k + 1) ((nbM oi (s.2.1 k) 9).foldl avis s))
      refine ⟨ih.1, fun hk => ?_⟩
      rw [ih.2 (by omega), Bool.or_eq_true]
      constructor
      · rintro ((z | z) | ⟨j, h1, h2, h3⟩)
        · exact Or.inl z
        · exact Or.inr ⟨k, by omega, Nat.lt_of_lt_of_le hc ex.1, by rw [ex.2.1 k hc]; exact z⟩
        · exact Or.inr ⟨j, by omega, h2, h3⟩
      · rintro (z | ⟨j, h1, h2, h3⟩)
        · exact Or.inl (Or.inl z)
        · by_cases ej : j = k
          · subst ej; rw [ex.2.1 j hc] at h3; exact Or.inl (Or.inr h3)
          · exact Or.inr ⟨j, by omega, h2, h3⟩
    · rw [if_neg hc, if_neg hc]
      refine ⟨h, fun _ => ?_⟩
      constructor
      · intro z; exact Or.inl z
      · rintro (z | ⟨j, h1, h2, _⟩)
        · exact z
        · omega
def liveM (g : Nat → Int32) (oi : Bool) (df : Nat → Int32) : Nat → Bool := fun b => decide (b < 1024) && (decide (df b = 0) && (inkAt g b == oi))
theorem liveM_lt {g : Nat → Int32} {oi : Bool} {df : Nat → Int32} : ∀ b, liveM g oi df b = true → b < 1024 := by
  intro b h
  unfold liveM at h
  rw [Bool.and_eq_true] at h
  simpa using h.1
theorem goes_spec {g : Nat → Int32} {oi : Bool} {c : Nat} (qf df : Nat → Int32) (hc : liveM g oi df c = true) : Cut (nbK oi) (liveM g oi df) c (liveM g oi (goesM g oi c qf df).1.2.1) ∧ ((goesM g oi c qf df).2 = true ↔ ∃ b, Rch (nbK oi) (liveM g oi df) c b ∧ brdB b = true) := by
  have hc1 := liveM_lt c hc
  have sp := abfs_spec (nb := fun a => nbM oi a 9) liveM_lt hc (fun _ => 0) (n := 1025) (by omega)
  have s0 : SimM g oi (upd qf 0 (nI c), upd df c 1, 1) (avis (liveM g oi df, fun _ => 0, 0) c) := by
    unfold avis
    rw [if_pos hc]
    refine ⟨fun x hx => ?_, rfl, fun j hj => ?_⟩
    · show (if x = c then false else liveM g oi df x) = (decide (upd df c 1 x = 0) && (inkAt g x == oi))
      by_cases ex : x = c
      · subst ex
        have : ¬ (1 : Int32) = 0 := by decide
        simp [upd, this]
      · rw [if_neg ex]
        simp only [upd, if_neg ex, liveM, hx, decide_true, Bool.true_and]
    · have hj' : j < 1 := hj
      have : j = 0 := by omega
      subst this
      exact ⟨rfl, hc1⟩
  have bs := bfs_sim 1025 0 _ _ false s0 (fun _ => trivial)
  obtain ⟨p1, p2, p3, p4, p5⟩ := sp
  have lv : ∀ b, liveM g oi (goesM g oi c qf df).1.2.1 b = true ↔ b < 1024 ∧ (abfs (fun a => nbM oi a 9) 1025 0 (avis (liveM g oi df, fun _ => 0, 0) c)).1 b = true := by
    intro b
    show (decide (b < 1024) && (decide ((goesM g oi c qf df).1.2.1 b = 0) && (inkAt g b == oi))) = true ↔ _
    rw [Bool.and_eq_true, decide_eq_true_iff]
    constructor
    · rintro ⟨h1, h2⟩; exact ⟨h1, by rw [bs.1.1 b h1]; exact h2⟩
    · rintro ⟨h1, h2⟩; exact ⟨h1, by rw [bs.1.1 b h1] at h2; exact h2⟩
  constructor
  · intro b
    rw [lv b, p1 b, Rch_MC liveM_lt hc]
    constructor
    · rintro ⟨_, h⟩; exact h
    · intro h; exact ⟨liveM_lt b h.1, h⟩
  · show (bfsM g oi 1025 0 _ false).2 = true ↔ _
    rw [bs.2 (by omega)]
    constructor
    · rintro (z | ⟨j, _, h2, h3⟩)
      · exact absurd z (by decide)
      · exact ⟨_, (Rch_MC liveM_lt hc).mp (p2 j h2), h3⟩
    · rintro ⟨b, h1, h2⟩
      obtain ⟨j, hj, ej⟩ := p3 b ((Rch_MC liveM_lt hc).mpr h1)
      exact Or.inr ⟨j, Nat.zero_le _, hj, by rw [ej]; exact h2⟩
