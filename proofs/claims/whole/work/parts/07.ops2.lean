/-! arithmetic, jumps, answers -/
section OPS2
variable {mi pc : Nat}
theorem xs_iadd (d : decode (MT mi).2.1 pc = .ok (.iadd, 1)) : SOK mi pc (xo_bin (fun x y => x + y) (pc + 1)) := SPK.ok fun G _ _ _ _ _ _ _ _ _ _ _ X _ _ _ _ _ lo st _ hL _ => by
  unfold xo_bin
  split
  · trivial
  · rename_i he
    split at he
    · cases he
      exact ⟨rfl, fun _ k => lv_iadd X.1 X.2.1 d (k _ hL)⟩
    · cases he
  · rename_i he
    split at he
    · cases he
    · cases he
theorem xs_isub (d : decode (MT mi).2.1 pc = .ok (.isub, 1)) : SOK mi pc (xo_bin (fun x y => x - y) (pc + 1)) := SPK.ok fun G _ _ _ _ _ _ _ _ _ _ _ X _ _ _ _ _ lo st _ hL _ => by
  unfold xo_bin
  split
  · trivial
  · rename_i he
    split at he
    · cases he
      exact ⟨rfl, fun _ k => lv_isub X.1 X.2.1 d (k _ hL)⟩
    · cases he
  · rename_i he
    split at he
    · cases he
    · cases he
theorem xs_imul (d : decode (MT mi).2.1 pc = .ok (.imul, 1)) : SOK mi pc (xo_bin (fun x y => x * y) (pc + 1)) := SPK.ok fun G _ _ _ _ _ _ _ _ _ _ _ X _ _ _ _ _ lo st _ hL _ => by
  unfold xo_bin
  split
  · trivial
  · rename_i he
    split at he
    · cases he
      exact ⟨rfl, fun _ k => lv_imul X.1 X.2.1 d (k _ hL)⟩
    · cases he
  · rename_i he
    split at he
    · cases he
    · cases he
theorem xs_iand (d : decode (MT mi).2.1 pc = .ok (.iand, 1)) : SOK mi pc (xo_bin (fun x y => x &&& y) (pc + 1)) := SPK.ok fun G _ _ _ _ _ _ _ _ _ _ _ X _ _ _ _ _ lo st _ hL _ => by
  unfold xo_bin
  split
  · trivial
  · rename_i he
    split at he
    · cases he
      exact ⟨rfl, fun _ k => lv_iand X.1 X.2.1 d (k _ hL)⟩
    · cases he
  · rename_i he
    split at he
    · cases he
    · cases he
theorem xs_ior (d : decode (MT mi).2.1 pc = .ok (.ior, 1)) : SOK mi pc (xo_bin (fun x y => x ||| y) (pc + 1)) := SPK.ok fun G _ _ _ _ _ _ _ _ _ _ _ X _ _ _ _ _ lo st _ hL _ => by
  unfold xo_bin
  split
  · trivial
  · rename_i he
    split at he
    · cases he
      exact ⟨rfl, fun _ k => lv_ior X.1 X.2.1 d (k _ hL)⟩
    · cases he
  · rename_i he
    split at he
    · cases he
    · cases he
theorem xs_ixor (d : decode (MT mi).2.1 pc = .ok (.ixor, 1)) : SOK mi pc (xo_bin (fun x y => x ^^^ y) (pc + 1)) := SPK.ok fun G _ _ _ _ _ _ _ _ _ _ _ X _ _ _ _ _ lo st _ hL _ => by
  unfold xo_bin
  split
  · trivial
  · rename_i he
    split at he
    · cases he
      exact ⟨rfl, fun _ k => lv_ixor X.1 X.2.1 d (k _ hL)⟩
    · cases he
  · rename_i he
    split at he
    · cases he
    · cases he
theorem xs_ishl (d : decode (MT mi).2.1 pc = .ok (.ishl, 1)) : SOK mi pc (xo_bin (fun x y => x <<< (y &&& 31)) (pc + 1)) := SPK.ok fun G _ _ _ _ _ _ _ _ _ _ _ X _ _ _ _ _ lo st _ hL _ => by
  unfold xo_bin
  split
  · trivial
  · rename_i he
    split at he
    · cases he
      exact ⟨rfl, fun _ k => lv_ishl X.1 X.2.1 d (k _ hL)⟩
    · cases he
  · rename_i he
    split at he
    · cases he
    · cases he
theorem xs_ishr (d : decode (MT mi).2.1 pc = .ok (.ishr, 1)) : SOK mi pc (xo_bin (fun x y => x >>> (y &&& 31)) (pc + 1)) := SPK.ok fun G _ _ _ _ _ _ _ _ _ _ _ X _ _ _ _ _ lo st _ hL _ => by
  unfold xo_bin
  split
  · trivial
  · rename_i he
    split at he
    · cases he
      exact ⟨rfl, fun _ k => lv_ishr X.1 X.2.1 d (k _ hL)⟩
    · cases he
  · rename_i he
    split at he
    · cases he
    · cases he
theorem xs_iushr (d : decode (MT mi).2.1 pc = .ok (.iushr, 1)) : SOK mi pc (xo_bin (fun x y => (x.toUInt32 >>> (y.toUInt32 &&& Int32.toUInt32 31)).toInt32) (pc + 1)) := SPK.ok fun G _ _ _ _ _ _ _ _ _ _ _ X _ _ _ _ _ lo st _ hL _ => by
  unfold xo_bin
  split
  · trivial
  · rename_i he
    split at he
    · cases he
      exact ⟨rfl, fun _ k => lv_iushr X.1 X.2.1 d rfl (k _ hL)⟩
    · cases he
  · rename_i he
    split at he
    · cases he
    · cases he
theorem xs_idiv (d : decode (MT mi).2.1 pc = .ok (.idiv, 1)) : SOK mi pc (xo_div (fun x y => x / y) (pc + 1)) := SPK.ok fun G _ _ _ _ _ _ _ _ _ _ _ X _ _ _ _ _ lo st _ hL _ => by
  unfold xo_div
  split
  · trivial
  · rename_i he
    split at he
    · split at he
      · cases he
      · rename_i hne
        cases he
        exact ⟨rfl, fun _ k => lv_idiv X.1 X.2.1 d hne (k _ hL)⟩
    · cases he
  · rename_i he
    split at he
    · split at he <;> cases he
    · cases he
theorem xs_irem (d : decode (MT mi).2.1 pc = .ok (.irem, 1)) : SOK mi pc (xo_div (fun x y => x - x / y * y) (pc + 1)) := SPK.ok fun G _ _ _ _ _ _ _ _ _ _ _ X _ _ _ _ _ lo st _ hL _ => by
  unfold xo_div
  split
  · trivial
  · rename_i he
    split at he
    · split at he
      · cases he
      · rename_i hne
        cases he
        exact ⟨rfl, fun _ k => lv_irem X.1 X.2.1 d hne (k _ hL)⟩
    · cases he
  · rename_i he
    split at he
    · split at he <;> cases he
    · cases he
theorem xs_ineg (d : decode (MT mi).2.1 pc = .ok (.ineg, 1)) : SOK mi pc (xo_un (fun x => -x) (pc + 1)) := SPK.ok fun G _ _ _ _ _ _ _ _ _ _ _ X _ _ _ _ _ lo st _ hL _ => by
  unfold xo_un
  split
  · trivial
  · rename_i he
    split at he
    · cases he
      exact ⟨rfl, fun _ k => lv_ineg X.1 X.2.1 d (k _ hL)⟩
    · cases he
  · rename_i he
    split at he
    · cases he
    · cases he
theorem xs_i2l (d : decode (MT mi).2.1 pc = .ok (.i2l, 1)) : SOK mi pc (xo_i2l (pc + 1)) := SPK.ok fun G _ _ _ _ _ _ _ _ _ _ _ X _ _ _ _ _ lo st _ hL _ => by
  unfold xo_i2l
  split
  · trivial
  · rename_i he
    split at he
    · cases he
      exact ⟨rfl, fun _ k => lv_i2l X.1 X.2.1 d rfl (k _ hL)⟩
    · cases he
  · rename_i he
    split at he
    · cases he
    · cases he
theorem xs_land (d : decode (MT mi).2.1 pc = .ok (.land, 1)) : SOK mi pc (xo_land (pc + 1)) := SPK.ok fun G _ _ _ _ _ _ _ _ _ _ _ X _ _ _ _ _ lo st _ hL _ => by
  unfold xo_land
  split
  · trivial
  · rename_i he
    split at he
    · cases he
      exact ⟨rfl, fun _ k => lv_land X.1 X.2.1 d (k _ hL)⟩
    · cases he
  · rename_i he
    split at he
    · cases he
    · cases he
theorem xs_lcmp (d : decode (MT mi).2.1 pc = .ok (.lcmp, 1)) : SOK mi pc (xo_lcmp (pc + 1)) := SPK.ok fun G _ _ _ _ _ _ _ _ _ _ _ X _ _ _ _ _ lo st _ hL _ => by
  unfold xo_lcmp
  split
  · trivial
  · rename_i he
    split at he
    · cases he
      exact ⟨rfl, fun _ k => W.lcmp X.1 X.2.1 d (k _ hL)⟩
    · cases he
  · rename_i he
    split at he
    · cases he
    · cases he
theorem xs_dup (d : decode (MT mi).2.1 pc = .ok (.dup, 1)) : SOK mi pc (xo_dup (pc + 1)) := SPK.ok fun G _ _ _ _ _ _ _ _ _ _ _ X _ _ _ _ _ lo st _ hL _ => by
  unfold xo_dup
  split
  · trivial
  · rename_i he
    split at he
    · split at he
      · rename_i hc
        cases he
        exact ⟨rfl, fun _ k => lv_dup X.1 X.2.1 d (by rw [cv_cat]; simpa [xcat1] using hc) (k _ hL)⟩
      · cases he
    · cases he
  · rename_i he
    split at he
    · split at he <;> cases he
    · cases he
theorem xs_pop (d : decode (MT mi).2.1 pc = .ok (.pop, 1)) : SOK mi pc (xo_pop (pc + 1)) := SPK.ok fun G _ _ _ _ _ _ _ _ _ _ _ X _ _ _ _ _ lo st _ hL _ => by
  unfold xo_pop
  split
  · trivial
  · rename_i he
    split at he
    · split at he
      · rename_i hc
        cases he
        exact ⟨rfl, fun _ k => lv_pop X.1 X.2.1 d (by rw [cv_cat]; simpa [xcat1] using hc) (k _ hL)⟩
      · cases he
    · cases he
  · rename_i he
    split at he
    · split at he <;> cases he
    · cases he
theorem xs_dup2 (d : decode (MT mi).2.1 pc = .ok (.dup2, 1)) : SOK mi pc (xo_dup2 (pc + 1)) := SPK.ok fun G _ _ _ _ _ _ _ _ _ _ _ X _ _ _ _ _ lo st _ hL _ => by
  unfold xo_dup2
  split
  · trivial
  · rename_i he
    split at he
    · split at he
      · rename_i hc
        cases he
        simp only [Bool.and_eq_true] at hc
        exact ⟨rfl, fun _ k => lv_dup2_11 X.1 X.2.1 d (by rw [cv_cat]; simpa [xcat1] using hc.1) (by rw [cv_cat]; simpa [xcat1] using hc.2) (k _ hL)⟩
      · cases he
    · cases he
  · rename_i he
    split at he
    · split at he <;> cases he
    · cases he
theorem xs_if_eq {off : Int} {tgt : Nat} (d : decode (MT mi).2.1 pc = .ok (.ifCond .eq off, 3)) (ht : (pc : Int) + off = (tgt : Int)) : SOK mi pc (xo_if1 (fun x => decide (x = 0)) tgt (pc + 3)) := SPK.ok fun G _ _ _ _ _ _ _ _ _ _ _ X _ _ _ _ _ lo st _ hL _ => by
  unfold xo_if1
  split
  · trivial
  · rename_i he
    split at he
    · rename_i x r
      cases he
      exact ⟨rfl, fun _ k => lv_if_eq X.1 X.2.1 d ht (fun hc => by have k := k _ hL; have hc : x = 0 := hc; simpa [hc] using k) (fun hc => by have k := k _ hL; have hc : ¬ (x = 0) := hc; simpa [hc] using k)⟩
    · cases he
  · rename_i he
    split at he
    · cases he
    · cases he
theorem xs_if_ne {off : Int} {tgt : Nat} (d : decode (MT mi).2.1 pc = .ok (.ifCond .ne off, 3)) (ht : (pc : Int) + off = (tgt : Int)) : SOK mi pc (xo_if1 (fun x => decide (¬ x = 0)) tgt (pc + 3)) := SPK.ok fun G _ _ _ _ _ _ _ _ _ _ _ X _ _ _ _ _ lo st _ hL _ => by
  unfold xo_if1
  split
  · trivial
  · rename_i he
    split at he
    · rename_i x r
      cases he
      exact ⟨rfl, fun _ k => lv_if_ne X.1 X.2.1 d ht (fun hc => by have k := k _ hL; have hc : ¬ x = 0 := hc; simpa [hc] using k) (fun hc => by have k := k _ hL; have hc : x = 0 := hc; simpa [hc] using k)⟩
    · cases he
  · rename_i he
    split at he
    · cases he
    · cases he
theorem xs_if_lt {off : Int} {tgt : Nat} (d : decode (MT mi).2.1 pc = .ok (.ifCond .lt off, 3)) (ht : (pc : Int) + off = (tgt : Int)) : SOK mi pc (xo_if1 (fun x => decide (x < 0)) tgt (pc + 3)) := SPK.ok fun G _ _ _ _ _ _ _ _ _ _ _ X _ _ _ _ _ lo st _ hL _ => by
  unfold xo_if1
  split
  · trivial
  · rename_i he
    split at he
    · rename_i x r
      cases he
      exact ⟨rfl, fun _ k => lv_if_lt X.1 X.2.1 d ht (fun hc => by have k := k _ hL; have hc : x < 0 := hc; simpa [hc] using k) (fun hc => by have k := k _ hL; have hc : ¬ (x < 0) := hc; simpa [hc] using k)⟩
    · cases he
  · rename_i he
    split at he
    · cases he
    · cases he
theorem xs_if_ge {off : Int} {tgt : Nat} (d : decode (MT mi).2.1 pc = .ok (.ifCond .ge off, 3)) (ht : (pc : Int) + off = (tgt : Int)) : SOK mi pc (xo_if1 (fun x => decide (x ≥ 0)) tgt (pc + 3)) := SPK.ok fun G _ _ _ _ _ _ _ _ _ _ _ X _ _ _ _ _ lo st _ hL _ => by
  unfold xo_if1
  split
  · trivial
  · rename_i he
    split at he
    · rename_i x r
      cases he
      exact ⟨rfl, fun _ k => lv_if_ge X.1 X.2.1 d ht (fun hc => by have k := k _ hL; have hc : x ≥ 0 := hc; simpa [hc] using k) (fun hc => by have k := k _ hL; have hc : ¬ (x ≥ 0) := hc; simpa [hc] using k)⟩
    · cases he
  · rename_i he
    split at he
    · cases he
    · cases he
theorem xs_if_gt {off : Int} {tgt : Nat} (d : decode (MT mi).2.1 pc = .ok (.ifCond .gt off, 3)) (ht : (pc : Int) + off = (tgt : Int)) : SOK mi pc (xo_if1 (fun x => decide (x > 0)) tgt (pc + 3)) := SPK.ok fun G _ _ _ _ _ _ _ _ _ _ _ X _ _ _ _ _ lo st _ hL _ => by
  unfold xo_if1
  split
  · trivial
  · rename_i he
    split at he
    · rename_i x r
      cases he
      exact ⟨rfl, fun _ k => lv_if_gt X.1 X.2.1 d ht (fun hc => by have k := k _ hL; have hc : x > 0 := hc; simpa [hc] using k) (fun hc => by have k := k _ hL; have hc : ¬ (x > 0) := hc; simpa [hc] using k)⟩
    · cases he
  · rename_i he
    split at he
    · cases he
    · cases he
theorem xs_if_le {off : Int} {tgt : Nat} (d : decode (MT mi).2.1 pc = .ok (.ifCond .le off, 3)) (ht : (pc : Int) + off = (tgt : Int)) : SOK mi pc (xo_if1 (fun x => decide (x ≤ 0)) tgt (pc + 3)) := SPK.ok fun G _ _ _ _ _ _ _ _ _ _ _ X _ _ _ _ _ lo st _ hL _ => by
  unfold xo_if1
  split
  · trivial
  · rename_i he
    split at he
    · rename_i x r
      cases he
      exact ⟨rfl, fun _ k => lv_if_le X.1 X.2.1 d ht (fun hc => by have k := k _ hL; have hc : x ≤ 0 := hc; simpa [hc] using k) (fun hc => by have k := k _ hL; have hc : ¬ (x ≤ 0) := hc; simpa [hc] using k)⟩
    · cases he
  · rename_i he
    split at he
    · cases he
    · cases he
theorem xs_icmp_eq {off : Int} {tgt : Nat} (d : decode (MT mi).2.1 pc = .ok (.if_icmp .eq off, 3)) (ht : (pc : Int) + off = (tgt : Int)) : SOK mi pc (xo_if2 (fun x y => decide (x = y)) tgt (pc + 3)) := SPK.ok fun G _ _ _ _ _ _ _ _ _ _ _ X _ _ _ _ _ lo st _ hL _ => by
  unfold xo_if2
  split
  · trivial
  · rename_i he
    split at he
    · rename_i y x r
      cases he
      exact ⟨rfl, fun _ k => lv_icmp_eq X.1 X.2.1 d ht (fun hc => by have k := k _ hL; have hc : x = y := hc; simpa [hc] using k) (fun hc => by have k := k _ hL; have hc : ¬ (x = y) := hc; simpa [hc] using k)⟩
    · cases he
  · rename_i he
    split at he
    · cases he
    · cases he
theorem xs_icmp_ne {off : Int} {tgt : Nat} (d : decode (MT mi).2.1 pc = .ok (.if_icmp .ne off, 3)) (ht : (pc : Int) + off = (tgt : Int)) : SOK mi pc (xo_if2 (fun x y => decide (¬ x = y)) tgt (pc + 3)) := SPK.ok fun G _ _ _ _ _ _ _ _ _ _ _ X _ _ _ _ _ lo st _ hL _ => by
  unfold xo_if2
  split
  · trivial
  · rename_i he
    split at he
    · rename_i y x r
      cases he
      exact ⟨rfl, fun _ k => lv_icmp_ne X.1 X.2.1 d ht (fun hc => by have k := k _ hL; have hc : ¬ x = y := hc; simpa [hc] using k) (fun hc => by have k := k _ hL; have hc : x = y := hc; simpa [hc] using k)⟩
    · cases he
  · rename_i he
    split at he
    · cases he
    · cases he
theorem xs_icmp_lt {off : Int} {tgt : Nat} (d : decode (MT mi).2.1 pc = .ok (.if_icmp .lt off, 3)) (ht : (pc : Int) + off = (tgt : Int)) : SOK mi pc (xo_if2 (fun x y => decide (x < y)) tgt (pc + 3)) := SPK.ok fun G _ _ _ _ _ _ _ _ _ _ _ X _ _ _ _ _ lo st _ hL _ => by
  unfold xo_if2
  split
  · trivial
  · rename_i he
    split at he
    · rename_i y x r
      cases he
      exact ⟨rfl, fun _ k => lv_icmp_lt X.1 X.2.1 d ht (fun hc => by have k := k _ hL; have hc : x < y := hc; simpa [hc] using k) (fun hc => by have k := k _ hL; have hc : ¬ (x < y) := hc; simpa [hc] using k)⟩
    · cases he
  · rename_i he
    split at he
    · cases he
    · cases he
theorem xs_icmp_ge {off : Int} {tgt : Nat} (d : decode (MT mi).2.1 pc = .ok (.if_icmp .ge off, 3)) (ht : (pc : Int) + off = (tgt : Int)) : SOK mi pc (xo_if2 (fun x y => decide (x ≥ y)) tgt (pc + 3)) := SPK.ok fun G _ _ _ _ _ _ _ _ _ _ _ X _ _ _ _ _ lo st _ hL _ => by
  unfold xo_if2
  split
  · trivial
  · rename_i he
    split at he
    · rename_i y x r
      cases he
      exact ⟨rfl, fun _ k => lv_icmp_ge X.1 X.2.1 d ht (fun hc => by have k := k _ hL; have hc : x ≥ y := hc; simpa [hc] using k) (fun hc => by have k := k _ hL; have hc : ¬ (x ≥ y) := hc; simpa [hc] using k)⟩
    · cases he
  · rename_i he
    split at he
    · cases he
    · cases he
theorem xs_icmp_gt {off : Int} {tgt : Nat} (d : decode (MT mi).2.1 pc = .ok (.if_icmp .gt off, 3)) (ht : (pc : Int) + off = (tgt : Int)) : SOK mi pc (xo_if2 (fun x y => decide (x > y)) tgt (pc + 3)) := SPK.ok fun G _ _ _ _ _ _ _ _ _ _ _ X _ _ _ _ _ lo st _ hL _ => by
  unfold xo_if2
  split
  · trivial
  · rename_i he
    split at he
    · rename_i y x r
      cases he
      exact ⟨rfl, fun _ k => lv_icmp_gt X.1 X.2.1 d ht (fun hc => by have k := k _ hL; have hc : x > y := hc; simpa [hc] using k) (fun hc => by have k := k _ hL; have hc : ¬ (x > y) := hc; simpa [hc] using k)⟩
    · cases he
  · rename_i he
    split at he
    · cases he
    · cases he
theorem xs_icmp_le {off : Int} {tgt : Nat} (d : decode (MT mi).2.1 pc = .ok (.if_icmp .le off, 3)) (ht : (pc : Int) + off = (tgt : Int)) : SOK mi pc (xo_if2 (fun x y => decide (x ≤ y)) tgt (pc + 3)) := SPK.ok fun G _ _ _ _ _ _ _ _ _ _ _ X _ _ _ _ _ lo st _ hL _ => by
  unfold xo_if2
  split
  · trivial
  · rename_i he
    split at he
    · rename_i y x r
      cases he
      exact ⟨rfl, fun _ k => lv_icmp_le X.1 X.2.1 d ht (fun hc => by have k := k _ hL; have hc : x ≤ y := hc; simpa [hc] using k) (fun hc => by have k := k _ hL; have hc : ¬ (x ≤ y) := hc; simpa [hc] using k)⟩
    · cases he
  · rename_i he
    split at he
    · cases he
    · cases he
theorem xs_goto {off : Int} {tgt : Nat} (d : decode (MT mi).2.1 pc = .ok (.goto off, 3)) (ht : (pc : Int) + off = (tgt : Int)) : SOK mi pc (xo_goto tgt) := SPK.ok fun G _ _ _ _ _ _ _ _ _ _ _ X _ _ _ _ _ lo st _ hL _ => ⟨rfl, fun _ k => lv_goto X.1 X.2.1 d ht (k _ hL)⟩
theorem xs_ifnull {off : Int} {tgt : Nat} (d : decode (MT mi).2.1 pc = .ok (.ifnull off, 3)) (ht : (pc : Int) + off = (tgt : Int)) : SOK mi pc (xo_null tgt (pc + 3)) := SPK.ok fun G _ _ _ _ _ _ _ _ _ _ _ X _ _ _ _ _ lo st _ hL _ => by
  unfold xo_null
  split
  · trivial
  · rename_i he
    split at he
    · cases he
      exact ⟨rfl, fun _ k => lv_ifnullN X.1 X.2.1 d ht (k _ hL)⟩
    · cases he
      exact ⟨rfl, fun _ k => lv_ifnull X.1 X.2.1 d (k _ hL)⟩
    · cases he
  · rename_i he
    split at he
    · cases he
    · cases he
    · cases he
theorem xs_ifnonnull {off : Int} {tgt : Nat} (d : decode (MT mi).2.1 pc = .ok (.ifnonnull off, 3)) (ht : (pc : Int) + off = (tgt : Int)) : SOK mi pc (xo_null (pc + 3) tgt) := SPK.ok fun G _ _ _ _ _ _ _ _ _ _ _ X _ _ _ _ _ lo st _ hL _ => by
  unfold xo_null
  split
  · trivial
  · rename_i he
    split at he
    · cases he
      exact ⟨rfl, fun _ k => lv_ifnonnullN X.1 X.2.1 d (k _ hL)⟩
    · cases he
      exact ⟨rfl, fun _ k => lv_ifnonnull X.1 X.2.1 d ht (k _ hL)⟩
    · cases he
  · rename_i he
    split at he
    · cases he
    · cases he
    · cases he
/-- where a tableswitch goes -/
def xtab (pc : Nat) (dflt lo hi : Int) (offs : Array Int) (x : Int32) : Nat := if x.toInt < lo ∨ hi < x.toInt then ((pc : Int) + dflt).toNat else ((pc : Int) + (offs[(x.toInt - lo).toNat]?).getD 0).toNat
def xtabok (pc : Nat) (dflt lo hi : Int) (offs : Array Int) : Bool := decide (0 ≤ (pc : Int) + dflt) && (decide (hi - lo < offs.size) && offs.toList.all (fun o => decide (0 ≤ (pc : Int) + o)))
theorem xs_table {dflt lw hi : Int} {offs : Array Int} {len : Nat} (d : decode (MT mi).2.1 pc = .ok (.tableswitch dflt lw hi offs, len)) (hok : xtabok pc dflt lw hi offs = true) : SOK mi pc (xo_sw (xtab pc dflt lw hi offs)) := SPK.ok fun G _ _ _ _ _ _ _ _ _ _ _ X _ _ _ _ _ lo st _ hL _ => by
  unfold xo_sw
  split
  · trivial
  · rename_i he
    split at he
    · rename_i x r
      cases he
      simp only [xtabok, Bool.and_eq_true, decide_eq_true_eq] at hok
      refine ⟨rfl, fun _ k => ?_⟩
      have k := k _ hL
      by_cases hx : x.toInt < lw ∨ hi < x.toInt
      · refine lv_tableOut X.1 X.2.1 d hx (tgt := xtab pc dflt lw hi offs x) ?_ k
        rw [xtab, if_pos hx]; omega
      · have hlt : (x.toInt - lw).toNat < offs.size := by omega
        have ho : offs[(x.toInt - lw).toNat]? = some offs[(x.toInt - lw).toNat] := Array.getElem?_eq_getElem hlt
        have hall := List.all_eq_true.mp hok.2.2 offs[(x.toInt - lw).toNat] (by simp)
        simp only [decide_eq_true_eq] at hall
        refine lv_tableIn X.1 X.2.1 d (fun q => hx (Or.inl q)) (fun q => hx (Or.inr q)) ho (tgt := xtab pc dflt lw hi offs x) ?_ k
        rw [xtab, if_neg hx, ho]; simp only [Option.getD_some]; omega
    · cases he
  · rename_i he
    split at he
    · cases he
    · cases he
def xlook (pc : Nat) (dflt : Int) (ps : Array (Int × Int)) (x : Int32) : Nat := ((pc : Int) + Op.lookupswitch.offset ps.toList dflt x.toInt).toNat
theorem xs_lookup {dflt : Int} {ps : Array (Int × Int)} {len : Nat} (d : decode (MT mi).2.1 pc = .ok (.lookupswitch dflt ps, len)) (hp : (ps.toList.zip (ps.toList.drop 1)).all (fun (a, next) => a.1 < next.1) = true) (hok : ∀ z : Int, 0 ≤ (pc : Int) + Op.lookupswitch.offset ps.toList dflt z) : SOK mi pc (xo_sw (xlook pc dflt ps)) := SPK.ok fun G _ _ _ _ _ _ _ _ _ _ _ X _ _ _ _ _ lo st _ hL _ => by
  unfold xo_sw
  split
  · trivial
  · rename_i he
    split at he
    · rename_i x r
      cases he
      refine ⟨rfl, fun _ k => lv_lookup X.1 X.2.1 d hp rfl (tgt := xlook pc dflt ps x) ?_ (k _ hL)⟩
      have := hok x.toInt
      simp only [xlook]
      omega
    · cases he
  · rename_i he
    split at he
    · cases he
    · cases he
theorem xs_iret (d : decode (MT mi).2.1 pc = .ok (.ireturn, 1)) (hr : (MT mi).2.2.2.1 = some .int) : SOK mi pc xo_iret := by
  intro G g0 l p e R s m args below meth c X H locs cells slots ls lo st h hL hR hK
  refine ⟨fun pc' lo' st' h' he => ?_, fun r h' he => ?_⟩
  · unfold xo_iret at he
    split at he
    · cases he
    · cases he
  · unfold xo_iret at he
    split at he
    · cases he
      exact ⟨rfl, W.iret X.1 X.2.1 (X.2.2.2.1.trans hr) (fun t ht hW => ⟨rfl, by rw [ht]; exact hR, X.2.2.2.2.2.2.2.1.warm hW⟩) hK d (hlocks := X.2.2.2.2.1)⟩
    · cases he
theorem xs_zret (d : decode (MT mi).2.1 pc = .ok (.ireturn, 1)) (hr : (MT mi).2.2.2.1 = some .boolean) : SOK mi pc xo_zret := by
  intro G g0 l p e R s m args below meth c X H locs cells slots ls lo st h hL hR hK
  refine ⟨fun pc' lo' st' h' he => ?_, fun r h' he => ?_⟩
  · unfold xo_zret at he
    split at he
    · split at he <;> cases he
    · cases he
  · unfold xo_zret at he
    split at he
    · split at he
      · rename_i hx
        cases he
        exact ⟨rfl, W.zret X.1 X.2.1 (X.2.2.2.1.trans hr) (by rcases hx with rfl | rfl <;> rfl) (fun t ht hW => ⟨rfl, by rw [ht]; exact hR, X.2.2.2.2.2.2.2.1.warm hW⟩) hK d (hlocks := X.2.2.2.2.1)⟩
      · cases he
    · cases he
theorem xs_lret (d : decode (MT mi).2.1 pc = .ok (.lreturn, 1)) (hr : (MT mi).2.2.2.1 = some .long) : SOK mi pc xo_lret := by
  intro G g0 l p e R s m args below meth c X H locs cells slots ls lo st h hL hR hK
  refine ⟨fun pc' lo' st' h' he => ?_, fun r h' he => ?_⟩
  · unfold xo_lret at he
    split at he
    · cases he
    · cases he
  · unfold xo_lret at he
    split at he
    · cases he
      exact ⟨rfl, W.lret X.1 X.2.1 (X.2.2.2.1.trans hr) (fun t ht hW => ⟨rfl, by rw [ht]; exact hR, X.2.2.2.2.2.2.2.1.warm hW⟩) hK d (hlocks := X.2.2.2.2.1)⟩
    · cases he
theorem xs_aret {rt : FieldType} (d : decode (MT mi).2.1 pc = .ok (.areturn, 1)) (hr : (MT mi).2.2.2.1 = some rt) (hrt : (∃ n, rt = .object n) ∨ ∃ t, rt = .array t) : SOK mi pc xo_aret := by
  intro G g0 l p e R s m args below meth c X H locs cells slots ls lo st h hL hR hK
  refine ⟨fun pc' lo' st' h' he => ?_, fun r h' he => ?_⟩
  · unfold xo_aret at he
    split at he
    · cases he
    · cases he
    · cases he
  · unfold xo_aret at he
    split at he
    · cases he
      exact ⟨rfl, W.aret X.1 X.2.1 (X.2.2.2.1.trans hr) hrt (Or.inr ⟨_, rfl⟩) (fun t ht hW => ⟨rfl, by rw [ht]; exact hR, X.2.2.2.2.2.2.2.1.warm hW⟩) hK d (hlocks := X.2.2.2.2.1)⟩
    · cases he
      exact ⟨rfl, W.aret X.1 X.2.1 (X.2.2.2.1.trans hr) hrt (Or.inl rfl) (fun t ht hW => ⟨rfl, by rw [ht]; exact hR, X.2.2.2.2.2.2.2.1.warm hW⟩) hK d (hlocks := X.2.2.2.2.1)⟩
    · cases he
theorem xs_vret (d : decode (MT mi).2.1 pc = .ok (.return_, 1)) (hr : (MT mi).2.2.2.1 = none) : SOK mi pc xo_vret := by
  intro G g0 l p e R s m args below meth c X H locs cells slots ls lo st h hL hR hK
  refine ⟨fun pc' lo' st' h' he => ?_, fun r h' he => ?_⟩
  · unfold xo_vret at he
    split at he
    · cases he
    · cases he
  · unfold xo_vret at he
    split at he
    · cases he
      exact ⟨rfl, W.vret X.1 X.2.1 (X.2.2.2.1.trans hr) (fun t ht hW => ⟨rfl, by rw [ht]; exact hR, X.2.2.2.2.2.2.2.1.warm hW⟩) hK d (hlocks := X.2.2.2.2.1)⟩
    · cases he
end OPS2
