/-! sheets held against letters; best nib and limit; names -/
theorem sumN_rng {f : Nat → Int32} {b n : Nat} (h : ∀ i, i < n → ∃ k, k ≤ b ∧ f i = nI k) : ∃ k, k ≤ n * b ∧ sumN f n = nI k := sumN_n h
theorem cb_eq {W g : Nat → Int32} (h : ∀ y, y < 32 → W y = g y) : cbC W = sumN (fun y => bitc (g y)) 32 := by
  unfold cbC
  apply sumN_cong
  intro y hy
  rw [h y hy, bcI_bitc]
theorem mov_0 (a : Int32) : movF 0 a = 0 := by
  unfold movF
  split
  · apply Int32.toBitVec_inj.mp
    show ((0 : Int32).toUInt32 >>> ((-a).toUInt32 &&& Int32.toUInt32 31)).toBitVec = _
    rw [UInt32.toBitVec_shiftRight]
    exact BitVec.zero_ushiftRight
  · apply Int32.toBitVec_inj.mp
    rw [Int32.toBitVec_shiftLeft]
    exact BitVec.zero_shiftLeft _
theorem ap_eq {W V g f : Nat → Int32} (h1 : ∀ y, y < 32 → W y = g y) (h2 : ∀ y, y < 32 → V y = f y) (a b : Int32) : apC W V a b = apV g f a b := by
  unfold apC apV
  apply sumN_cong
  intro y hy
  unfold apD apF
  rw [bcI_bitc, h2 y hy]
  congr 2
  by_cases hw : wB (nI y - b) 0 31 = true
  · rw [if_pos hw, if_pos hw]
    obtain ⟨j, hj, e⟩ := wB_n (n := 32) (by omega) hw
    rw [e, nq_cl (by omega), h1 j hj]
  · rw [if_neg hw, if_neg hw, mov_0]
theorem bitc_n (r : Int32) : ∃ k, k ≤ 32 ∧ bitc r = nI k := ⟨_, ct_le _ 32, bitc_ct r⟩
theorem ap_n (g f : Nat → Int32) (a b : Int32) : ∃ k, k ≤ 1024 ∧ apV g f a b = nI k := by
  unfold apV
  obtain ⟨k, h1, h2⟩ := sumN_rng (f := apF g f a b) (b := 32) (n := 32) (fun i _ => bitc_n _)
  exact ⟨k, by omega, h2⟩
theorem n9 {k : Nat} (h : k < 2147483648) : ¬ nI k = -9 := by
  intro z
  have := congrArg Int32.toInt z
  rw [nI_lo h, show (-9 : Int32).toInt = -9 from rfl] at this
  omega
theorem fit_R {ap : Int32 → Int32 → Int32} (hap : ∀ a b, ∃ k, k ≤ 1024 ∧ ap a b = nI k) (a : Int32) {s : FT} (hs : ∃ k, k ≤ 1024 ∧ s.1 = nI k) : ∀ j, fitR2 ap a s j = fitR ap a s j ∧ ∃ k, k ≤ 1024 ∧ (fitR ap a s j).1 = nI k
  | 0 => ⟨rfl, hs⟩
  | j + 1 => by
    obtain ⟨e, k, hk, ek⟩ := fit_R hap a hs j
    rw [fitR2, fitR, e]
    unfold fit2 fit1
    have n := n9 (k := k) (by omega)
    rw [ek]
    obtain ⟨k2, h2, e2⟩ := hap a (c3 j)
    by_cases hc : ap a (c3 j) < nI k
    · rw [if_pos hc, if_pos (Or.inr hc)]
      exact ⟨rfl, k2, h2, e2⟩
    · rw [if_neg hc, if_neg (fun z => z.elim n hc)]
      exact ⟨rfl, k, hk, ek⟩
theorem fit_R0 {ap : Int32 → Int32 → Int32} (hap : ∀ a b, ∃ k, k ≤ 1024 ∧ ap a b = nI k) (a x y x' y' : Int32) : ∀ j, fitR2 ap a (1025, x, y) (j + 1) = fitR ap a (-9, x', y') (j + 1) ∧ ∃ k, k ≤ 1024 ∧ (fitR ap a (-9, x', y') (j + 1)).1 = nI k
  | 0 => by
    rw [fitR2, fitR, fitR2, fitR]
    unfold fit2 fit1
    obtain ⟨k2, h2, e2⟩ := hap a (c3 0)
    have hl : ap a (c3 0) < (1025, x, y).1 := by
      rw [e2]; exact (zlt (a := k2) (b := 1025) (by omega) (by omega)).mpr (by omega)
    rw [if_pos hl, if_pos (Or.inl rfl)]
    exact ⟨rfl, k2, h2, e2⟩
  | j + 1 => by
    obtain ⟨e, k, hk, ek⟩ := fit_R0 hap a x y x' y' j
    rw [fitR2, e]
    conv => lhs; rhs; rw [fitR]
    conv => rhs; rw [fitR]
    unfold fit2 fit1
    have n := n9 (k := k) (by omega)
    rw [ek]
    obtain ⟨k2, h2, e2⟩ := hap a (c3 (j + 1))
    by_cases hc : ap a (c3 (j + 1)) < nI k
    · rw [if_pos hc, if_pos (Or.inr hc)]
      exact ⟨rfl, k2, h2, e2⟩
    · rw [if_neg hc, if_neg (fun z => z.elim n hc)]
      exact ⟨rfl, k, hk, ek⟩
theorem fit_C {ap : Int32 → Int32 → Int32} (hap : ∀ a b, ∃ k, k ≤ 1024 ∧ ap a b = nI k) (x y x' y' : Int32) : ∀ i, fitC2 ap (1025, x, y) (i + 1) = fitC ap (-9, x', y') (i + 1) ∧ ∃ k, k ≤ 1024 ∧ (fitC ap (-9, x', y') (i + 1)).1 = nI k
  | 0 => by
    rw [fitC2, fitC, fitC2, fitC]
    exact fit_R0 hap (c3 0) x y x' y' 6
  | i + 1 => by
    obtain ⟨e, hs⟩ := fit_C hap x y x' y' i
    rw [fitC2, e, show fitC ap (-9, x', y') (i + 1 + 1) = fitR ap (c3 (i + 1)) (fitC ap (-9, x', y') (i + 1)) 7 from rfl]
    exact fit_R hap (c3 (i + 1)) hs 7
theorem apFun_eq {W V g f : Nat → Int32} (h1 : ∀ y, y < 32 → W y = g y) (h2 : ∀ y, y < 32 → V y = f y) : apC W V = apV g f := by
  funext a b; exact ap_eq h1 h2 a b
theorem fit_eq {W V g f : Nat → Int32} (h1 : ∀ y, y < 32 → W y = g y) (h2 : ∀ y, y < 32 → V y = f y) (x y x' y' : Int32) : fitC2 (apC W V) (1025, x, y) 7 = fitC (apV g f) (-9, x', y') 7 := by
  rw [apFun_eq h1 h2]
  exact (fit_C (ap_n g f) x y x' y' 6).1
/-- best limit -/
theorem bl_eq {W W' : Int32 → Int32} (h : ∀ l, W l = W' l) : ∀ i, (blC W i).1 = blF W' i ∧ (blC W i).2 = W' (blF W' i)
  | 0 => ⟨rfl, h 1⟩
  | i + 1 => by
    obtain ⟨e1, e2⟩ := bl_eq h i
    rw [blC, blF, e2, h]
    by_cases hc : W' (nI (i + 2)) < W' (blF W' i)
    · rw [if_pos hc, if_pos hc]; exact ⟨rfl, rfl⟩
    · rw [if_neg hc, if_neg hc]; exact ⟨e1, e2⟩
/-- best nib -/
theorem nb_R {W W' : Int32 → Int32 → Int32} (i : Nat) (hi : i ≤ 6) (h : ∀ j, j ≤ 12 → W (nI i) (d6 j) = W' (nI i) (d6 j) ∧ ∃ k, k ≤ 100000 ∧ W' (nI i) (d6 j) = nI k) {s : FT} (hs : ∃ k, k ≤ 100000 ∧ s.2.2 = nI k) : ∀ j, j ≤ 13 → nbR W i s j = nibR W' i s j ∧ ∃ k, k ≤ 100000 ∧ (nibR W' i s j).2.2 = nI k
  | 0, _ => ⟨rfl, hs⟩
  | j + 1, hj => by
    obtain ⟨e, k, hk, ek⟩ := nb_R i hi h hs j (by omega)
    rw [nbR, nibR]
    by_cases hc0 : i = 0 ∧ j = 6
    · rw [if_pos hc0, if_pos hc0]; exact ⟨e, k, hk, ek⟩
    · rw [if_neg hc0, if_neg hc0, e]
      obtain ⟨hw, k2, h2, e2⟩ := h j (by omega)
      unfold nb1 nib1
      rw [hw, ek]
      have n := n9 (k := k) (by omega)
      by_cases hc : W' (nI i) (d6 j) < nI k
      · rw [if_pos hc, if_pos (Or.inr hc)]
        exact ⟨rfl, k2, h2, e2⟩
      · rw [if_neg hc, if_neg (fun z => z.elim n hc)]
        exact ⟨rfl, k, hk, ek⟩
theorem nb_R0 {W W' : Int32 → Int32 → Int32} (h : ∀ j, j ≤ 12 → W (nI 0) (d6 j) = W' (nI 0) (d6 j) ∧ ∃ k, k ≤ 100000 ∧ W' (nI 0) (d6 j) = nI k) : ∀ j, j ≤ 12 → nbR W 0 (0, -6, W 0 (-6)) (j + 1) = nibR W' 0 (0, 0, -9) (j + 1) ∧ ∃ k, k ≤ 100000 ∧ (nibR W' 0 (0, 0, -9) (j + 1)).2.2 = nI k
  | 0, _ => by
    obtain ⟨hw, k2, h2, e2⟩ := h 0 (by omega)
    rw [nbR, nibR, nbR, nibR, if_neg (by omega), if_neg (by omega)]
    unfold nb1 nib1
    have hw' : W (0 : Int32) (-6) = W' (nI 0) (d6 0) := hw
    rw [if_pos (Or.inl rfl), hw, hw']
    have : ¬ W' (nI 0) (d6 0) < W' (nI 0) (d6 0) := by rw [Int32.lt_iff_toInt_lt]; omega
    rw [if_neg this]
    exact ⟨rfl, k2, h2, e2⟩
  | j + 1, hj => by
    obtain ⟨e, k, hk, ek⟩ := nb_R0 h j (by omega)
    rw [show nbR W 0 (0, -6, W 0 (-6)) (j + 1 + 1) = if 0 = 0 ∧ j + 1 = 6 then nbR W 0 (0, -6, W 0 (-6)) (j + 1) else nb1 (nbR W 0 (0, -6, W 0 (-6)) (j + 1)) (W (nI 0) (d6 (j + 1))) (nI 0) (d6 (j + 1)) from rfl, show nibR W' 0 (0, 0, -9) (j + 1 + 1) = if 0 = 0 ∧ j + 1 = 6 then nibR W' 0 (0, 0, -9) (j + 1) else nib1 (nibR W' 0 (0, 0, -9) (j + 1)) (W' (nI 0) (d6 (j + 1))) (nI 0) (d6 (j + 1)) from rfl]
    by_cases hc0 : 0 = 0 ∧ j + 1 = 6
    · rw [if_pos hc0, if_pos hc0]; exact ⟨e, k, hk, ek⟩
    · rw [if_neg hc0, if_neg hc0, e]
      obtain ⟨hw, k2, h2, e2⟩ := h (j + 1) (by omega)
      unfold nb1 nib1
      rw [hw, ek]
      have n := n9 (k := k) (by omega)
      by_cases hc : W' (nI 0) (d6 (j + 1)) < nI k
      · rw [if_pos hc, if_pos (Or.inr hc)]
        exact ⟨rfl, k2, h2, e2⟩
      · rw [if_neg hc, if_neg (fun z => z.elim n hc)]
        exact ⟨rfl, k, hk, ek⟩
theorem nb_eq {W W' : Int32 → Int32 → Int32} (h : ∀ i j, i ≤ 6 → j ≤ 12 → W (nI i) (d6 j) = W' (nI i) (d6 j) ∧ ∃ k, k ≤ 100000 ∧ W' (nI i) (d6 j) = nI k) : ∀ i, i ≤ 6 → nbC W (0, -6, W 0 (-6)) (i + 1) = nibC W' (0, 0, -9) (i + 1) ∧ ∃ k, k ≤ 100000 ∧ (nibC W' (0, 0, -9) (i + 1)).2.2 = nI k
  | 0, _ => by
    have q := nb_R0 (W := W) (W' := W') (fun j hj => h 0 j (by omega) hj) 12 (by omega)
    simp only [Nat.reduceAdd] at q
    rw [nbC, nibC, nbC, nibC]
    exact q
  | i + 1, hi => by
    obtain ⟨e, hs⟩ := nb_eq h i (by omega)
    rw [nbC, e, show nibC W' (0, 0, -9) (i + 1 + 1) = nibR W' (i + 1) (nibC W' (0, 0, -9) (i + 1)) 13 from rfl]
    exact nb_R (i + 1) hi (fun j hj => h (i + 1) j hi hj) hs 13 (by omega)
/-- names in their order -/
theorem nm_eq {g p : Nat → Bool} (k : Int32) : ∀ m i a, (∀ j, i ≤ j → j < i + m → g j = p j) → nmF g k m i a = nmM p m i (k - nI a)
  | 0, _, _, _ => rfl
  | m + 1, i, a, h => by
    rw [nmF, nmM, h i (Nat.le_refl _) (by omega)]
    have e0 : (nI a = k) = (k - nI a = 0) := by
      apply propext
      constructor
      · intro z; rw [z]; exact Int32.sub_self k
      · intro z
        have : k - nI a + nI a = 0 + nI a := by rw [z]
        rw [Int32.sub_add_cancel, Int32.zero_add] at this
        exact this.symm
    have e1 : k - nI a + -1 = k - nI (a + 1) := by
      rw [← zadd, show (nI 1 : Int32) = 1 from rfl, Int32.sub_eq_add_neg, Int32.sub_eq_add_neg, Int32.neg_add, Int32.sub_eq_add_neg, Int32.add_assoc]
    rw [e1, nm_eq k m (i + 1) (a + 1) (fun j h1 h2 => h j (by omega) (by omega)), nm_eq k m (i + 1) a (fun j h1 h2 => h j (by omega) (by omega))]
    simp only [e0]
