/-! flooding: the class's way of keeping it -/
def liveC (W : Nat → Int32) : Nat → Bool := fun b => decide (b < 1024) && inC W (b % 32) (b / 32)
theorem liveC_lt {W : Nat → Int32} : ∀ b, liveC W b = true → b < 1024 := by
  intro b h
  unfold liveC at h
  rw [Bool.and_eq_true] at h
  simpa using h.1
def SimC (s : FS) (a : AB) : Prop := (∀ b, a.1 b = liveC s.1 b) ∧ a.2.2 = s.2.2 ∧ (∀ j, j < a.2.2 → s.2.1 j = nI (a.2.1 j) ∧ a.2.1 j < 1024) ∧ fb_ct a.1 1024 + a.2.2 ≤ 1024
theorem m1_bt {x i : Nat} (hx : x < 32) (hi : i < 32) : bt ((1 <<< (nI x &&& 31)) ^^^ -1) i = !decide (i = x) := by
  rw [b_xor, one_bt hx hi, b_m1 i hi]; simp
theorem rmN_sim {s : FS} {a : AB} (h : SimC s a) {x y : Nat} (hx : x < 32) (hy : y < 32) : SimC (rmN s x y) (avis a (32 * y + x)) := by
  obtain ⟨h1, h2, h3, h4⟩ := h
  have bl : 32 * y + x < 1024 := by omega
  have e := h1 (32 * y + x)
  have em : (32 * y + x) % 32 = x := by omega
  have ed : (32 * y + x) / 32 = y := by omega
  have e' : a.1 (32 * y + x) = inC s.1 x y := by rw [e]; unfold liveC; rw [em, ed]; simp [bl]
  unfold rmN avis
  by_cases hc : inC s.1 x y = true
  · have e1 : a.1 (32 * y + x) = true := by rw [e']; exact hc
    rw [if_pos hc, if_pos e1]
    have u := fb_ct_upd a.1 false bl
    rw [e1] at u
    simp only [if_true, Bool.false_eq_true, if_false] at u
    have lt : s.2.2 < 1024 := by omega
    rw [if_pos lt]
    refine ⟨fun b => ?_, by show a.2.2 + 1 = s.2.2 + 1; omega, fun j hj => ?_, by show fb_ct (fun j => if j = 32 * y + x then false else a.1 j) 1024 + (a.2.2 + 1) ≤ 1024; omega⟩
    · show (if b = 32 * y + x then false else a.1 b) = liveC (upd s.1 y (s.1 y &&& ((1 <<< (nI x &&& 31)) ^^^ -1))) b
      unfold liveC
      by_cases hb : b < 1024
      · rw [inC_bt _ _ (by omega)]
        by_cases ey : b / 32 = y
        · simp only [upd, if_pos ey]
          rw [b_and, m1_bt hx (by omega)]
          by_cases eb : b = 32 * y + x
          · rw [if_pos eb]
            have : b % 32 = x := by omega
            simp [this]
          · rw [if_neg eb, h1 b]
            have : ¬ b % 32 = x := by omega
            unfold liveC
            rw [inC_bt _ _ (by omega), ey]
            simp [this]
        · simp only [upd, if_neg ey]
          rw [if_neg (by omega), h1 b]
          unfold liveC
          rw [inC_bt _ _ (by omega)]
      · rw [if_neg (by omega), h1 b]
        unfold liveC
        simp [hb]
    · have hj' : j < a.2.2 + 1 := hj
      show upd s.2.1 s.2.2 (nI (y * 32 + x)) j = nI (if j = a.2.2 then 32 * y + x else a.2.1 j) ∧ (if j = a.2.2 then 32 * y + x else a.2.1 j) < 1024
      rw [h2]
      by_cases ej : j = s.2.2
      · simp only [upd, if_pos ej]; exact ⟨by rw [Nat.mul_comm], bl⟩
      · simp only [upd, if_neg ej]; exact h3 j (by omega)
  · have e1 : ¬ a.1 (32 * y + x) = true := by rw [e']; exact hc
    rw [if_neg hc, if_neg e1]
    exact ⟨h1, h2, h3, h4⟩
theorem m1_cl {t : Nat} (h : 1 ≤ t) (h2 : t ≤ 1000) : (nI t - 1).toNatClampNeg = t - 1 := by
  rw [show (1 : Int32) = nI 1 from rfl, nI_sub h, nq_cl (by omega)]
theorem rmP_sim {s : FS} {a : AB} (h : SimC s a) {t r : Nat} (ht : t ≤ 1000) (hr : r ≤ 1000) : SimC (rmP s (nI t - 1) (nI r - 1)) (if (1 ≤ t ∧ t ≤ 32) ∧ 1 ≤ r ∧ r ≤ 32 then avis a (32 * (r - 1) + (t - 1)) else a) := by
  unfold rmP
  rw [wB_t ht, wB_t hr]
  by_cases hc : (1 ≤ t ∧ t ≤ 32) ∧ 1 ≤ r ∧ r ≤ 32
  · rw [if_pos hc, if_pos ⟨decide_eq_true hc.1, decide_eq_true hc.2⟩, m1_cl hc.1.1 (by omega), m1_cl hc.2.1 (by omega)]
    exact rmN_sim h (by omega) (by omega)
  · rw [if_neg hc, if_neg (fun z => hc ⟨of_decide_eq_true z.1, of_decide_eq_true z.2⟩)]
    exact h
theorem nbo_sim {s : FS} {a : AB} (h : SimC s a) {cor : Bool} {c d : Nat} (hc : c < 1024) (hd : d < 9) (hk : cor = true ∨ d % 3 = 1 ∨ d / 3 = 1) : SimC (rmP s (nI (c % 32 + d % 3) - 1) (nI (c / 32 + d / 3) - 1)) ((nbo cor c d).foldl avis a) := by
  have := rmP_sim h (t := c % 32 + d % 3) (r := c / 32 + d / 3) (by omega) (by omega)
  have e : (nbo cor c d).foldl avis a = if (1 ≤ c % 32 + d % 3 ∧ c % 32 + d % 3 ≤ 32) ∧ 1 ≤ c / 32 + d / 3 ∧ c / 32 + d / 3 ≤ 32 then avis a (32 * (c / 32 + d / 3 - 1) + (c % 32 + d % 3 - 1)) else a := by
    unfold nbo nbr
    by_cases hh : (1 ≤ c % 32 + d % 3 ∧ c % 32 + d % 3 ≤ 32) ∧ 1 ≤ c / 32 + d / 3 ∧ c / 32 + d / 3 ≤ 32
    · rw [if_pos hh, if_pos ⟨hh.1.1, hh.1.2, hh.2.1, hh.2.2, by
        rcases hk with z | z | z
        · exact Or.inl z
        · exact Or.inr (Or.inl (by rw [z]))
        · exact Or.inr (Or.inr (by rw [z]))⟩]
      rfl
    · rw [if_neg hh, if_neg (fun z => hh ⟨⟨z.1, z.2.1⟩, z.2.2.1, z.2.2.2.1⟩)]
      rfl
  rw [e]; exact this
theorem nbo_none {c d : Nat} (hk : ¬ (d % 3 = 1 ∨ d / 3 = 1)) : nbo false c d = [] := by
  unfold nbo nbr
  rw [if_neg]
  rintro ⟨_, _, _, _, h | h | h⟩
  · exact absurd h (by decide)
  · omega
  · omega
theorem cq1 (c : Nat) : nI (c % 32) = nI (c % 32 + 1) - 1 ∧ nI (c % 32) + 1 = nI (c % 32 + 2) - 1 ∧ nI (c / 32) = nI (c / 32 + 1) - 1 ∧ nI (c / 32) + 1 = nI (c / 32 + 2) - 1 := by
  have h : ∀ n : Nat, nI n = nI (n + 1) - 1 ∧ nI n + 1 = nI (n + 2) - 1 := by
    intro n
    rw [show (1 : Int32) = nI 1 from rfl, nI_sub (by omega), nI_sub (by omega), zadd]
    exact ⟨rfl, rfl⟩
  exact ⟨(h _).1, (h _).2, (h _).1, (h _).2⟩
theorem procC_sim {s : FS} {a : AB} (h : SimC s a) {cor : Bool} {c : Nat} (hc : c < 1024) : SimC (procC cor c s) ((nbK cor c).foldl avis a) := by
  obtain ⟨q1, q2, q3, q4⟩ := cq1 c
  have v : ∀ {s : FS} {a : AB}, SimC s a → ∀ d, d < 9 → (cor = true ∨ d % 3 = 1 ∨ d / 3 = 1) → SimC (rmP s (nI (c % 32 + d % 3) - 1) (nI (c / 32 + d / 3) - 1)) ((nbo cor c d).foldl avis a) := fun h d hd hk => nbo_sim h hc hd hk
  have s4 := v (v (v (v h 3 (by omega) (Or.inr (Or.inr rfl))) 5 (by omega) (Or.inr (Or.inr rfl))) 1 (by omega) (Or.inr (Or.inl rfl))) 7 (by omega) (Or.inr (Or.inl rfl))
  unfold procC nbK
  simp only [List.foldl_append]
  have e4 : rmP (rmP (rmP (rmP s (nI (c % 32) - 1) (nI (c / 32))) (nI (c % 32) + 1) (nI (c / 32))) (nI (c % 32)) (nI (c / 32) - 1)) (nI (c % 32)) (nI (c / 32) + 1) = rmP (rmP (rmP (rmP s (nI (c % 32 + 3 % 3) - 1) (nI (c / 32 + 3 / 3) - 1)) (nI (c % 32 + 5 % 3) - 1) (nI (c / 32 + 5 / 3) - 1)) (nI (c % 32 + 1 % 3) - 1) (nI (c / 32 + 1 / 3) - 1)) (nI (c % 32 + 7 % 3) - 1) (nI (c / 32 + 7 / 3) - 1) := by
    simp only [show 3 % 3 = 0 from rfl, show 5 % 3 = 2 from rfl, show 1 % 3 = 1 from rfl, show 7 % 3 = 1 from rfl, show 3 / 3 = 1 from rfl, show 5 / 3 = 1 from rfl, show 1 / 3 = 0 from rfl, show 7 / 3 = 2 from rfl, Nat.add_zero, ← q1, ← q2, ← q3, ← q4]
  rw [e4]
  by_cases hcor : cor = true
  · rw [if_pos hcor]
    have s8 := v (v (v (v s4 0 (by omega) (Or.inl hcor)) 2 (by omega) (Or.inl hcor)) 6 (by omega) (Or.inl hcor)) 8 (by omega) (Or.inl hcor)
    simp only [show 0 % 3 = 0 from rfl, show 2 % 3 = 2 from rfl, show 6 % 3 = 0 from rfl, show 8 % 3 = 2 from rfl, show 0 / 3 = 0 from rfl, show 2 / 3 = 0 from rfl, show 6 / 3 = 2 from rfl, show 8 / 3 = 2 from rfl, Nat.add_zero] at s8
    rw [q2, q4]
    exact s8
  · have hf := Bool.eq_false_iff.mpr hcor
    rw [if_neg hcor]
    subst hf
    rw [nbo_none (d := 0) (by decide), nbo_none (d := 2) (by decide), nbo_none (d := 6) (by decide), nbo_none (d := 8) (by decide)]
    exact s4
theorem bfsC_sim {cor : Bool} : ∀ n k (s : FS) (a : AB), SimC s a → SimC (bfsC cor n k s) (abfs (nbK cor) n k a)
  | 0, _, _, _, h => h
  | n + 1, k, s, a, h => by
    rw [bfsC, abfs, ← h.2.1]
    by_cases hc : k < a.2.2
    · rw [if_pos hc, if_pos hc]
      have hq := h.2.2.1 k hc
      have eq : (s.2.1 k).toNatClampNeg = a.2.1 k := by rw [hq.1, nq_cl (by omega)]
      rw [eq]
      exact bfsC_sim n (k + 1) _ _ (procC_sim h hq.2)
    · rw [if_neg hc, if_neg hc]; exact h
theorem ct_le (L : Nat → Bool) : ∀ n, fb_ct L n ≤ n
  | 0 => Nat.le_refl _
  | n + 1 => by have := ct_le L n; rw [fb_ct]; split <;> omega
theorem simC_0 (W q : Nat → Int32) : SimC (W, q, 0) (liveC W, fun _ => 0, 0) :=
  ⟨fun _ => rfl, rfl, fun j hj => absurd hj (Nat.not_lt_zero j), by have := ct_le (liveC W) 1024; show fb_ct (liveC W) 1024 + 0 ≤ 1024; omega⟩
theorem pie_spec {N : Nat} (hN : N = 1024) (cor : Bool) (s : FS) {c : Nat} (hc : c < 1024) : (liveC s.1 c = false → liveC (pieC N cor s (nI (c % 32)) (nI (c / 32))).1 = liveC s.1 ∧ (pieC N cor s (nI (c % 32)) (nI (c / 32))).2.2 = 0) ∧ (liveC s.1 c = true → Cut (nbK cor) (liveC s.1) c (liveC (pieC N cor s (nI (c % 32)) (nI (c / 32))).1) ∧ 0 < (pieC N cor s (nI (c % 32)) (nI (c / 32))).2.2) := by
  obtain ⟨q1, q2, q3, q4⟩ := cq1 c
  have s1 := rmP_sim (simC_0 s.1 s.2.1) (t := c % 32 + 1) (r := c / 32 + 1) (by omega) (by omega)
  rw [if_pos (by omega), ← q1, ← q3, show 32 * (c / 32 + 1 - 1) + (c % 32 + 1 - 1) = c by omega] at s1
  have s2 := bfsC_sim (cor := cor) N 0 _ _ s1
  have e2 : pieC N cor s (nI (c % 32)) (nI (c / 32)) = bfsC cor N 0 (rmP (s.1, s.2.1, 0) (nI (c % 32)) (nI (c / 32))) := rfl
  rw [← e2] at s2
  constructor
  · intro hd
    have ea : avis (liveC s.1, fun _ => 0, 0) c = (liveC s.1, fun _ => 0, 0) := by unfold avis; rw [if_neg (by show ¬ liveC s.1 c = true; rw [hd]; decide)]
    have eb : abfs (nbK cor) N 0 (liveC s.1, fun _ => 0, 0) = (liveC s.1, fun _ => 0, 0) := by
      rw [hN]; rw [abfs, if_neg (by show ¬ 0 < 0; omega)]
    rw [ea, eb] at s2
    exact ⟨funext fun b => (s2.1 b).symm, s2.2.1.symm⟩
  · intro hd
    have sp := abfs_spec (nb := nbK cor) liveC_lt hd (fun _ => 0) (n := N) (by omega)
    refine ⟨fun b => ?_, ?_⟩
    · rw [← s2.1 b]; exact sp.1 b
    · rw [← s2.2.1]; exact sp.2.2.2.1
