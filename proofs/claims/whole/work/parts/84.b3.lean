/-! how many bits: the words -/
def sm2 (f : Nat → Nat) : Nat → Nat
  | 0 => 0
  | n + 1 => sm2 f n + f n
theorem ct_sm {p : Nat → Bool} {f : Nat → Nat} : ∀ {m : Nat}, (∀ x, x < m → (if p x = true then 1 else 0) = f x) → fb_ct p m = sm2 f m
  | 0, _ => rfl
  | m + 1, h => by rw [fb_ct, sm2, ct_sm (fun x hx => h x (by omega)), h m (by omega)]
theorem bp_s0 (n : Nat) : bp (n % 256) = n / 1 % 2 + n / 2 % 2 + n / 4 % 2 + n / 8 % 2 + n / 16 % 2 + n / 32 % 2 + n / 64 % 2 + n / 128 % 2 := by
  have e0 : n % 256 % 2 = n / 1 % 2 := by omega
  have e1 : n % 256 / 2 % 2 = n / 2 % 2 := by omega
  have e2 : n % 256 / 4 % 2 = n / 4 % 2 := by omega
  have e3 : n % 256 / 8 % 2 = n / 8 % 2 := by omega
  have e4 : n % 256 / 16 % 2 = n / 16 % 2 := by omega
  have e5 : n % 256 / 32 % 2 = n / 32 % 2 := by omega
  have e6 : n % 256 / 64 % 2 = n / 64 % 2 := by omega
  have e7 : n % 256 / 128 % 2 = n / 128 % 2 := by omega
  unfold bp
  simp only [e0, e1, e2, e3, e4, e5, e6, e7]
theorem bp_s1 (n : Nat) : bp (n / 256 % 256) = n / 256 % 2 + n / 512 % 2 + n / 1024 % 2 + n / 2048 % 2 + n / 4096 % 2 + n / 8192 % 2 + n / 16384 % 2 + n / 32768 % 2 := by
  have e0 : n / 256 % 256 % 2 = n / 256 % 2 := by omega
  have e1 : n / 256 % 256 / 2 % 2 = n / 512 % 2 := by omega
  have e2 : n / 256 % 256 / 4 % 2 = n / 1024 % 2 := by omega
  have e3 : n / 256 % 256 / 8 % 2 = n / 2048 % 2 := by omega
  have e4 : n / 256 % 256 / 16 % 2 = n / 4096 % 2 := by omega
  have e5 : n / 256 % 256 / 32 % 2 = n / 8192 % 2 := by omega
  have e6 : n / 256 % 256 / 64 % 2 = n / 16384 % 2 := by omega
  have e7 : n / 256 % 256 / 128 % 2 = n / 32768 % 2 := by omega
  unfold bp
  simp only [e0, e1, e2, e3, e4, e5, e6, e7]
theorem bp_s2 (n : Nat) : bp (n / 65536 % 256) = n / 65536 % 2 + n / 131072 % 2 + n / 262144 % 2 + n / 524288 % 2 + n / 1048576 % 2 + n / 2097152 % 2 + n / 4194304 % 2 + n / 8388608 % 2 := by
  have e0 : n / 65536 % 256 % 2 = n / 65536 % 2 := by omega
  have e1 : n / 65536 % 256 / 2 % 2 = n / 131072 % 2 := by omega
  have e2 : n / 65536 % 256 / 4 % 2 = n / 262144 % 2 := by omega
  have e3 : n / 65536 % 256 / 8 % 2 = n / 524288 % 2 := by omega
  have e4 : n / 65536 % 256 / 16 % 2 = n / 1048576 % 2 := by omega
  have e5 : n / 65536 % 256 / 32 % 2 = n / 2097152 % 2 := by omega
  have e6 : n / 65536 % 256 / 64 % 2 = n / 4194304 % 2 := by omega
  have e7 : n / 65536 % 256 / 128 % 2 = n / 8388608 % 2 := by omega
  unfold bp
  simp only [e0, e1, e2, e3, e4, e5, e6, e7]
theorem bp_s3 (n : Nat) : bp (n / 16777216) = n / 16777216 % 2 + n / 33554432 % 2 + n / 67108864 % 2 + n / 134217728 % 2 + n / 268435456 % 2 + n / 536870912 % 2 + n / 1073741824 % 2 + n / 2147483648 % 2 := by
  have e0 : n / 16777216 % 2 = n / 16777216 % 2 := by omega
  have e1 : n / 16777216 / 2 % 2 = n / 33554432 % 2 := by omega
  have e2 : n / 16777216 / 4 % 2 = n / 67108864 % 2 := by omega
  have e3 : n / 16777216 / 8 % 2 = n / 134217728 % 2 := by omega
  have e4 : n / 16777216 / 16 % 2 = n / 268435456 % 2 := by omega
  have e5 : n / 16777216 / 32 % 2 = n / 536870912 % 2 := by omega
  have e6 : n / 16777216 / 64 % 2 = n / 1073741824 % 2 := by omega
  have e7 : n / 16777216 / 128 % 2 = n / 2147483648 % 2 := by omega
  unfold bp
  simp only [e0, e1, e2, e3, e4, e5, e6, e7]
theorem bp_split {n : Nat} : bp (n % 256) + bp (n / 256 % 256) + bp (n / 65536 % 256) + bp (n / 16777216) = fb_ct (fun x => bt (nI n) x) 32 := by
  have tb : ∀ x, x < 32 → (if bt (nI n) x = true then 1 else 0) = n / 2 ^ x % 2 := by
    intro x hx
    rw [nI_bt n hx, Nat.testBit_eq_decide_div_mod_eq]
    by_cases h : n / 2 ^ x % 2 = 1
    · simp [h]
    · simp [h]; omega
  rw [ct_sm tb, bp_s0, bp_s1, bp_s2, bp_s3]
  simp only [sm2, Nat.reducePow, Nat.zero_add, Nat.add_assoc]
theorem bp_fin {B0 B1 B2 B3 : Nat} (h0 : B0 ≤ 8) (h1 : B1 ≤ 8) (h2 : B2 ≤ 8) (h3 : B3 ≤ 8) : (256 * (256 * (256 * B3 + B2) + B1) + B0 + (256 * (256 * (256 * B3 + B2) + B1) + B0) / 2 ^ 8 + (256 * (256 * (256 * B3 + B2) + B1) + B0 + (256 * (256 * (256 * B3 + B2) + B1) + B0) / 2 ^ 8) / 2 ^ 16) % 64 = B0 + B1 + B2 + B3 := by
  have e1 : (256 * (256 * (256 * B3 + B2) + B1) + B0) / 2 ^ 8 = 256 * (256 * B3 + B2) + B1 := by omega
  rw [e1]
  have e2 : (256 * (256 * (256 * B3 + B2) + B1) + B0 + (256 * (256 * B3 + B2) + B1)) / 2 ^ 16 = 256 * B3 + B2 + B3 := by omega
  rw [e2]
  omega
