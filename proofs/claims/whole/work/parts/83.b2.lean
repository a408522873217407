/-! how many bits: both ways of counting -/
theorem and_split (x m M k : Nat) (hm : m < 2 ^ k) : x &&& (2 ^ k * M + m) = 2 ^ k * (x / 2 ^ k &&& M) + (x % 2 ^ k &&& m) := by
  have h2 : x % 2 ^ k &&& m < 2 ^ k := Nat.lt_of_le_of_lt Nat.and_le_right hm
  apply Nat.eq_of_testBit_eq
  intro j
  rw [Nat.testBit_and, Nat.testBit_two_pow_mul_add _ hm, Nat.testBit_two_pow_mul_add _ h2]
  split
  · rename_i hj
    rw [Nat.testBit_and, Nat.testBit_mod_two_pow]
    simp [hj]
  · rename_i hj
    rw [Nat.testBit_and, Nat.testBit_div_two_pow]
    congr 2
    omega
theorem and_low (x m k : Nat) (hm : m < 2 ^ k) : x &&& m = x % 2 ^ k &&& m := by
  have := and_split x m 0 k hm
  simpa using this
theorem stA1 {r q M : Nat} (hr : r < 256) : (256 * q + r) - ((256 * q + r) / 2 &&& (256 * M + 85)) = 256 * (q - (q / 2 &&& M)) + (r - (r / 2 &&& 85)) := by
  have e := and_split ((256 * q + r) / 2) 85 M 8 (by omega)
  have e1 : (256 * q + r) / 2 / 2 ^ 8 = q / 2 := by omega
  have e2 : (256 * q + r) / 2 % 2 ^ 8 &&& 85 = r / 2 &&& 85 := by
    rw [and_low _ 85 7 (by omega), and_low (r / 2) 85 7 (by omega)]
    congr 1
    omega
  rw [e1, e2] at e
  have e' : (256 * q + r) / 2 &&& (256 * M + 85) = 256 * (q / 2 &&& M) + (r / 2 &&& 85) := e
  rw [e']
  have h1 : q / 2 &&& M ≤ q / 2 := Nat.and_le_left
  have h2 : r / 2 &&& 85 ≤ r / 2 := Nat.and_le_left
  omega
theorem stA2 {r q M : Nat} (hr : r < 256) : ((256 * q + r) &&& (256 * M + 51)) + ((256 * q + r) / 4 &&& (256 * M + 51)) = 256 * ((q &&& M) + (q / 4 &&& M)) + ((r &&& 51) + (r / 4 &&& 51)) := by
  have e := and_split (256 * q + r) 51 M 8 (by omega)
  have f := and_split ((256 * q + r) / 4) 51 M 8 (by omega)
  have e1 : (256 * q + r) / 2 ^ 8 = q := by omega
  have e2 : (256 * q + r) % 2 ^ 8 = r := by omega
  have f1 : (256 * q + r) / 4 / 2 ^ 8 = q / 4 := by omega
  have f2 : (256 * q + r) / 4 % 2 ^ 8 &&& 51 = r / 4 &&& 51 := by
    rw [and_low _ 51 6 (by omega), and_low (r / 4) 51 6 (by omega)]
    congr 1
    omega
  rw [e1, e2] at e
  rw [f1, f2] at f
  have e' : (256 * q + r) &&& (256 * M + 51) = 256 * (q &&& M) + (r &&& 51) := e
  have f' : (256 * q + r) / 4 &&& (256 * M + 51) = 256 * (q / 4 &&& M) + (r / 4 &&& 51) := f
  rw [e', f']
  omega
theorem stA3 {r q M : Nat} (hr : r % 16 ≤ 4 ∧ r / 16 ≤ 4) (hq : q % 16 ≤ 4) : ((256 * q + r) + (256 * q + r) / 16) &&& (256 * M + 15) = 256 * ((q + q / 16) &&& M) + ((r + r / 16) &&& 15) := by
  have e := and_split ((256 * q + r) + (256 * q + r) / 16) 15 M 8 (by omega)
  have e1 : ((256 * q + r) + (256 * q + r) / 16) / 2 ^ 8 = q + q / 16 := by omega
  have e2 : ((256 * q + r) + (256 * q + r) / 16) % 2 ^ 8 &&& 15 = (r + r / 16) &&& 15 := by
    rw [and_low _ 15 4 (by omega), and_low (r + r / 16) 15 4 (by omega)]
    congr 1
    omega
  rw [e1, e2] at e
  exact e
/-- a byte -/
def ba (r : Nat) : Nat := r - (r / 2 &&& 85)
def bb (a : Nat) : Nat := (a &&& 51) + (a / 4 &&& 51)
def bc (b : Nat) : Nat := (b + b / 16) &&& 15
def bp (r : Nat) : Nat := r % 2 + r / 2 % 2 + r / 4 % 2 + r / 8 % 2 + r / 16 % 2 + r / 32 % 2 + r / 64 % 2 + r / 128 % 2
theorem byte_ok : ∀ r, r < 256 → ba r < 256 ∧ bb (ba r) % 16 ≤ 4 ∧ bb (ba r) / 16 ≤ 4 ∧ bc (bb (ba r)) = bp r := by decide +kernel
def pcA (n : Nat) : Nat := n - (n / 2 &&& 1431655765)
def pcB (a : Nat) : Nat := (a &&& 858993459) + (a / 4 &&& 858993459)
def pcC (b : Nat) : Nat := (b + b / 16) &&& 252645135
theorem pc_word {r0 r1 r2 r3 : Nat} (h0 : r0 < 256) (h1 : r1 < 256) (h2 : r2 < 256) (h3 : r3 < 256) : pcC (pcB (pcA (256 * (256 * (256 * r3 + r2) + r1) + r0))) = 256 * (256 * (256 * bp r3 + bp r2) + bp r1) + bp r0 := by
  obtain ⟨a0, b0, c0, d0⟩ := byte_ok r0 h0
  obtain ⟨a1, b1, c1, d1⟩ := byte_ok r1 h1
  obtain ⟨a2, b2, c2, d2⟩ := byte_ok r2 h2
  obtain ⟨a3, b3, c3, d3⟩ := byte_ok r3 h3
  have eA : pcA (256 * (256 * (256 * r3 + r2) + r1) + r0) = 256 * (256 * (256 * ba r3 + ba r2) + ba r1) + ba r0 := by
    unfold pcA ba
    rw [show (1431655765 : Nat) = 256 * (256 * (256 * 85 + 85) + 85) + 85 from rfl, stA1 h0, stA1 h1, stA1 h2]
  have eB : pcB (256 * (256 * (256 * ba r3 + ba r2) + ba r1) + ba r0) = 256 * (256 * (256 * bb (ba r3) + bb (ba r2)) + bb (ba r1)) + bb (ba r0) := by
    unfold pcB
    rw [show (858993459 : Nat) = 256 * (256 * (256 * 51 + 51) + 51) + 51 from rfl, stA2 a0, stA2 a1, stA2 a2]
    rfl
  rw [eA, eB]
  unfold pcC
  rw [show (252645135 : Nat) = 256 * (256 * (256 * 15 + 15) + 15) + 15 from rfl, stA3 ⟨b0, c0⟩ (by omega), stA3 ⟨b1, c1⟩ (by omega), stA3 ⟨b2, c2⟩ (by omega)]
  show 256 * (256 * (256 * bc _ + bc _) + bc _) + bc _ = _
  rw [d0, d1, d2, d3]
theorem bp_le (r : Nat) : bp r ≤ 8 := by unfold bp; omega
theorem nI_u (n : Nat) (k : Nat) (hk : k < 32) (hn : n < 2 ^ 32) : ((nI n).toUInt32 >>> ((nI k).toUInt32 &&& Int32.toUInt32 31)).toInt32 = nI (n / 2 ^ k) := by
  apply b_ext
  intro i hi
  rw [b_ushr k hk]
  unfold bt nI
  show (BitVec.ofNat 32 n).getLsbD (k + i) = (BitVec.ofNat 32 (n / 2 ^ k)).getLsbD i
  rw [BitVec.getLsbD_ofNat, BitVec.getLsbD_ofNat, Nat.testBit_div_two_pow]
  simp only [hi, decide_true, Bool.true_and]
  by_cases h : k + i < 32
  · rw [Nat.add_comm i k]; simp [h]
  · have : n.testBit (i + k) = false := Nat.testBit_lt_two_pow (Nat.lt_of_lt_of_le hn (Nat.pow_le_pow_right (by omega) (by omega)))
    simp [h, this]
theorem nI_and (a b : Nat) : nI a &&& nI b = nI (a &&& b) := by
  apply b_ext
  intro i hi
  unfold bt nI
  show ((BitVec.ofNat 32 a) &&& (BitVec.ofNat 32 b)).getLsbD i = (BitVec.ofNat 32 (a &&& b)).getLsbD i
  rw [BitVec.getLsbD_and, BitVec.getLsbD_ofNat, BitVec.getLsbD_ofNat, BitVec.getLsbD_ofNat, Nat.testBit_and]
  simp [hi]
theorem zadd (a b : Nat) : nI a + nI b = nI (a + b) := by
  apply Int32.toBitVec_inj.mp
  show BitVec.ofNat 32 a + BitVec.ofNat 32 b = BitVec.ofNat 32 (a + b)
  rw [BitVec.ofNat_add]
theorem nI_sub {a b : Nat} (h : b ≤ a) : nI a - nI b = nI (a - b) := by
  have e : nI (a - b) + nI b = nI a := by rw [zadd]; congr 1; omega
  rw [← e, Int32.add_sub_cancel]
theorem zof (x : Int32) : ∃ n, n < 2 ^ 32 ∧ x = nI n := ⟨x.toBitVec.toNat, x.toBitVec.isLt, Int32.toBitVec_inj.mp (by show _ = BitVec.ofNat 32 _; simp)⟩
theorem nI_bt (n : Nat) {i : Nat} (hi : i < 32) : bt (nI n) i = n.testBit i := by
  unfold bt nI
  show (BitVec.ofNat 32 n).getLsbD i = _
  rw [BitVec.getLsbD_ofNat]; simp [hi]
