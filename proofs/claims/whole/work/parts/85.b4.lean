/-! how many bits: the words -/
theorem bcI_nI {n : Nat} (hn : n < 2 ^ 32) : bcI (nI n) = nI (fb_ct (fun x => bt (nI n) x) 32) := by
  have eu : ∀ m, m < 2 ^ 32 → ((nI m).toUInt32 >>> ((1 : Int32).toUInt32 &&& Int32.toUInt32 31)).toInt32 = nI (m / 2 ^ 1) := fun m hm => nI_u m 1 (by omega) hm
  have eu2 : ∀ m, m < 2 ^ 32 → ((nI m).toUInt32 >>> ((2 : Int32).toUInt32 &&& Int32.toUInt32 31)).toInt32 = nI (m / 2 ^ 2) := fun m hm => nI_u m 2 (by omega) hm
  have eu4 : ∀ m, m < 2 ^ 32 → ((nI m).toUInt32 >>> ((4 : Int32).toUInt32 &&& Int32.toUInt32 31)).toInt32 = nI (m / 2 ^ 4) := fun m hm => nI_u m 4 (by omega) hm
  have eu8 : ∀ m, m < 2 ^ 32 → ((nI m).toUInt32 >>> ((8 : Int32).toUInt32 &&& Int32.toUInt32 31)).toInt32 = nI (m / 2 ^ 8) := fun m hm => nI_u m 8 (by omega) hm
  have eu16 : ∀ m, m < 2 ^ 32 → ((nI m).toUInt32 >>> ((16 : Int32).toUInt32 &&& Int32.toUInt32 31)).toInt32 = nI (m / 2 ^ 16) := fun m hm => nI_u m 16 (by omega) hm
  have w := pc_word (r0 := n % 256) (r1 := n / 256 % 256) (r2 := n / 65536 % 256) (r3 := n / 16777216) (by omega) (by omega) (by omega) (by omega)
  have en : 256 * (256 * (256 * (n / 16777216) + n / 65536 % 256) + n / 256 % 256) + n % 256 = n := by omega
  rw [en] at w
  have l1 : n / 2 &&& 1431655765 ≤ n / 2 := Nat.and_le_left
  have hA : pcA n < 2 ^ 32 := by unfold pcA; omega
  have hB : pcB (pcA n) < 2 ^ 31 := by
    unfold pcB
    have := @Nat.and_le_right (pcA n) 858993459
    have := @Nat.and_le_right (pcA n / 4) 858993459
    omega
  have p0 := bp_le (n % 256)
  have p1 := bp_le (n / 256 % 256)
  have p2 := bp_le (n / 65536 % 256)
  have p3 := bp_le (n / 16777216)
  have hC : pcC (pcB (pcA n)) < 2 ^ 31 := by rw [w]; omega
  have e1 : nI n - (((nI n).toUInt32 >>> ((1 : Int32).toUInt32 &&& Int32.toUInt32 31)).toInt32 &&& 1431655765) = nI (pcA n) := by
    rw [eu n hn, show (1431655765 : Int32) = nI 1431655765 from rfl, nI_and, nI_sub (Nat.le_trans Nat.and_le_left (Nat.div_le_self _ _))]; rfl
  have e2 : (nI (pcA n) &&& 858993459) + (((nI (pcA n)).toUInt32 >>> ((2 : Int32).toUInt32 &&& Int32.toUInt32 31)).toInt32 &&& 858993459) = nI (pcB (pcA n)) := by
    rw [eu2 _ hA, show (858993459 : Int32) = nI 858993459 from rfl, nI_and, nI_and, zadd]; rfl
  have e3 : (nI (pcB (pcA n)) + ((nI (pcB (pcA n))).toUInt32 >>> ((4 : Int32).toUInt32 &&& Int32.toUInt32 31)).toInt32) &&& 252645135 = nI (pcC (pcB (pcA n))) := by
    rw [eu4 _ (by omega), show (252645135 : Int32) = nI 252645135 from rfl, zadd, nI_and]; rfl
  unfold bcI
  simp only [e1, e2, e3]
  rw [eu8 _ (by omega), zadd, eu16 _ (by omega), zadd, show (63 : Int32) = nI 63 from rfl, nI_and, w]
  congr 1
  have a63 : ∀ z : Nat, z &&& 63 = z % 64 := fun z => Nat.and_two_pow_sub_one_eq_mod z 6
  rw [a63, bp_fin p0 p1 p2 p3]
  exact bp_split
theorem sumN_ct (p : Nat → Bool) : ∀ n, sumN (fun x => bI (p x)) n = nI (fb_ct p n)
  | 0 => rfl
  | n + 1 => by
    rw [sumN, sumN_ct p n, fb_ct]
    cases h : p n
    · simp only [bI, Bool.false_eq_true, if_false, Nat.add_zero]; exact Int32.add_zero _
    · simp only [bI, if_true]; exact zadd _ 1
theorem sumN_cong {f g : Nat → Int32} : ∀ {n : Nat}, (∀ k, k < n → f k = g k) → sumN f n = sumN g n
  | 0, _ => rfl
  | n + 1, h => by rw [sumN, sumN, sumN_cong (fun k hk => h k (by omega)), h n (by omega)]
theorem bitc_ct (r : Int32) : bitc r = nI (fb_ct (fun x => bt r x) 32) := by
  unfold bitc
  rw [← sumN_ct]
  apply sumN_cong
  intro x hx
  rw [and1_bt, sshr0 r hx]
  rfl
theorem bcI_bitc (r : Int32) : bcI r = bitc r := by
  obtain ⟨n, hn, rfl⟩ := zof r
  rw [bcI_nI hn, bitc_ct]
