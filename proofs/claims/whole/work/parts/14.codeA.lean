/-! the code of the methods, as tables of closures, each tied to the bytecode -/
def kl_X0_init_0 : List (Nat × En) := [(0, .inl (xo_aload 0 1)), (1, .inl (xo_oinit 4)), (4, .inl (xo_aload 0 5)), (5, .inl (xo_const (.int 0) 6)), (6, .inl (xo_putf 0 0 true 9)), (9, .inl (xo_aload 0 10)), (10, .inl (xo_const (.int 0) 11)), (11, .inl (xo_putf 0 1 true 14)), (14, .inl (xo_aload 0 15)), (15, .inl (xo_const (.int 0) 16)), (16, .inl (xo_putf 0 2 true 19)), (19, .inl (xo_vret))]
set_option maxRecDepth 20000 in
theorem kg_X0_init_0 : ∀ q ∈ kl_X0_init_0, Gd 0 q := List.forall_mem_cons.mpr ⟨⟨xs_aload_n (by decide +kernel : decode (MT 0).2.1 0 = .ok (.aload_n 0, 1)) rfl, mon_aload⟩,
  List.forall_mem_cons.mpr ⟨⟨xs_oinit wg_128 wg_22 wg_oinit (by decide) (by decide) (by decide +kernel : decode (MT 0).2.1 1 = .ok (.invokespecial 3, 3)), mon_oinit⟩,
  List.forall_mem_cons.mpr ⟨⟨xs_aload_n (by decide +kernel : decode (MT 0).2.1 4 = .ok (.aload_n 0, 1)) rfl, mon_aload⟩,
  List.forall_mem_cons.mpr ⟨⟨xs_iconst (by decide +kernel : decode (MT 0).2.1 5 = .ok (.iconst 0, 1)) rfl, mon_const⟩,
  List.forall_mem_cons.mpr ⟨⟨xs_putf (ci := 0) (k := 0) tyX0 rfl (by decide) inX0 tyX0_ok nmX0 rfl (Or.inl ⟨rfl, rfl⟩) wg_129 (by decide +kernel : decode (MT 0).2.1 6 = .ok (.putfield 9, 3)), mon_putf⟩,
  List.forall_mem_cons.mpr ⟨⟨xs_aload_n (by decide +kernel : decode (MT 0).2.1 9 = .ok (.aload_n 0, 1)) rfl, mon_aload⟩,
  List.forall_mem_cons.mpr ⟨⟨xs_iconst (by decide +kernel : decode (MT 0).2.1 10 = .ok (.iconst 0, 1)) rfl, mon_const⟩,
  List.forall_mem_cons.mpr ⟨⟨xs_putf (ci := 0) (k := 1) tyX0 rfl (by decide) inX0 tyX0_ok nmX0 rfl (Or.inl ⟨rfl, rfl⟩) wg_131 (by decide +kernel : decode (MT 0).2.1 11 = .ok (.putfield 15, 3)), mon_putf⟩,
  List.forall_mem_cons.mpr ⟨⟨xs_aload_n (by decide +kernel : decode (MT 0).2.1 14 = .ok (.aload_n 0, 1)) rfl, mon_aload⟩,
  List.forall_mem_cons.mpr ⟨⟨xs_iconst (by decide +kernel : decode (MT 0).2.1 15 = .ok (.iconst 0, 1)) rfl, mon_const⟩,
  List.forall_mem_cons.mpr ⟨⟨xs_putf (ci := 0) (k := 2) tyX0 rfl (by decide) inX0 tyX0_ok nmX0 rfl (Or.inl ⟨rfl, rfl⟩) wg_133 (by decide +kernel : decode (MT 0).2.1 16 = .ok (.putfield 18, 3)), mon_putf⟩,
  List.forall_mem_cons.mpr ⟨⟨xs_vret (by decide +kernel : decode (MT 0).2.1 19 = .ok (.return_, 1)) rfl, mon_vret⟩,
  fun _ h => absurd h List.not_mem_nil⟩⟩⟩⟩⟩⟩⟩⟩⟩⟩⟩⟩
def kl_X0_init : List (Nat × En) := kl_X0_init_0
theorem kg_X0_init : ∀ q ∈ kl_X0_init, Gd 0 q := kg_X0_init_0
def kl_X0_find_0 : List (Nat × En) := [(0, .inl (xo_aload 0 1)), (1, .inl (xo_const (.int 1025) 4)), (4, .inl (xo_putf 0 0 true 7)), (7, .inl (xo_const (.int (-3)) 9)), (9, .inl (xo_istore 3 10)), (10, .inl (xo_iload 3 11)), (11, .inl (xo_const (.int 3) 12)), (12, .inl (xo_if2 (fun x y => decide (x > y)) 73 15)), (15, .inl (xo_const (.int (-3)) 17)), (17, .inl (xo_istore 4 19)), (19, .inl (xo_iload 4 21)), (21, .inl (xo_const (.int 3) 22)), (22, .inl (xo_if2 (fun x y => decide (x > y)) 67 25)), (25, .inl (xo_aload 1 26)), (26, .inl (xo_iload 3 27)), (27, .inl (xo_iload 4 29)), (29, .inl (xo_aload 2 30)), (30, .inr (2, 4, none, 33)), (33, .inl (xo_istore 5 35)), (35, .inl (xo_iload 5 37)), (37, .inl (xo_aload 0 38)), (38, .inl (xo_getf 0 0 41)), (41, .inl (xo_if2 (fun x y => decide (x ≥ y)) 61 44)), (44, .inl (xo_aload 0 45)), (45, .inl (xo_iload 5 47)), (47, .inl (xo_putf 0 0 true 50)), (50, .inl (xo_aload 0 51)), (51, .inl (xo_iload 3 52)), (52, .inl (xo_putf 0 1 true 55)), (55, .inl (xo_aload 0 56)), (56, .inl (xo_iload 4 58)), (58, .inl (xo_putf 0 2 true 61)), (61, .inl (xo_iinc 4 1 64)), (64, .inl (xo_goto 19)), (67, .inl (xo_iinc 3 1 70)), (70, .inl (xo_goto 10)), (73, .inl (xo_vret))]
set_option maxRecDepth 20000 in
theorem kg_X0_find_0 : ∀ q ∈ kl_X0_find_0, Gd 1 q := List.forall_mem_cons.mpr ⟨⟨xs_aload_n (by decide +kernel : decode (MT 1).2.1 0 = .ok (.aload_n 0, 1)) rfl, mon_aload⟩,
  List.forall_mem_cons.mpr ⟨⟨xs_sipush (by decide +kernel : decode (MT 1).2.1 1 = .ok (.sipush 1025, 3)) rfl, mon_const⟩,
  List.forall_mem_cons.mpr ⟨⟨xs_putf (ci := 0) (k := 0) tyX0 rfl (by decide) inX0 tyX0_ok nmX0 rfl (Or.inl ⟨rfl, rfl⟩) wg_129 (by decide +kernel : decode (MT 1).2.1 4 = .ok (.putfield 9, 3)), mon_putf⟩,
  List.forall_mem_cons.mpr ⟨⟨xs_bipush (by decide +kernel : decode (MT 1).2.1 7 = .ok (.bipush (-3), 2)) rfl, mon_const⟩,
  List.forall_mem_cons.mpr ⟨⟨xs_istore_n (by decide +kernel : decode (MT 1).2.1 9 = .ok (.istore_n 3, 1)) rfl, mon_istore⟩,
  List.forall_mem_cons.mpr ⟨⟨xs_iload_n (by decide +kernel : decode (MT 1).2.1 10 = .ok (.iload_n 3, 1)) rfl, mon_iload⟩,
  List.forall_mem_cons.mpr ⟨⟨xs_iconst (by decide +kernel : decode (MT 1).2.1 11 = .ok (.iconst 3, 1)) rfl, mon_const⟩,
  List.forall_mem_cons.mpr ⟨⟨xs_icmp_gt (by decide +kernel : decode (MT 1).2.1 12 = .ok (.if_icmp .gt 61, 3)) (by decide), mon_if2⟩,
  List.forall_mem_cons.mpr ⟨⟨xs_bipush (by decide +kernel : decode (MT 1).2.1 15 = .ok (.bipush (-3), 2)) rfl, mon_const⟩,
  List.forall_mem_cons.mpr ⟨⟨xs_istore (by decide +kernel : decode (MT 1).2.1 17 = .ok (.istore 4, 2)), mon_istore⟩,
  List.forall_mem_cons.mpr ⟨⟨xs_iload (by decide +kernel : decode (MT 1).2.1 19 = .ok (.iload 4, 2)), mon_iload⟩,
  List.forall_mem_cons.mpr ⟨⟨xs_iconst (by decide +kernel : decode (MT 1).2.1 21 = .ok (.iconst 3, 1)) rfl, mon_const⟩,
  List.forall_mem_cons.mpr ⟨⟨xs_icmp_gt (by decide +kernel : decode (MT 1).2.1 22 = .ok (.if_icmp .gt 45, 3)) (by decide), mon_if2⟩,
  List.forall_mem_cons.mpr ⟨⟨xs_aload_n (by decide +kernel : decode (MT 1).2.1 25 = .ok (.aload_n 1, 1)) rfl, mon_aload⟩,
  List.forall_mem_cons.mpr ⟨⟨xs_iload_n (by decide +kernel : decode (MT 1).2.1 26 = .ok (.iload_n 3, 1)) rfl, mon_iload⟩,
  List.forall_mem_cons.mpr ⟨⟨xs_iload (by decide +kernel : decode (MT 1).2.1 27 = .ok (.iload 4, 2)), mon_iload⟩,
  List.forall_mem_cons.mpr ⟨⟨xs_aload_n (by decide +kernel : decode (MT 1).2.1 29 = .ok (.aload_n 2, 1)) rfl, mon_aload⟩,
  List.forall_mem_cons.mpr ⟨xk_S (by decide +kernel : decode (MT 1).2.1 30 = .ok (.invokestatic 21, 3)) wg_597 wg_585 cal_X0_countApart.2.1 cal_X0_countApart.1 cal_X0_countApart.2.2.1 cal_X0_countApart.2.2.2 (by decide) (by decide),
  List.forall_mem_cons.mpr ⟨⟨xs_istore (by decide +kernel : decode (MT 1).2.1 33 = .ok (.istore 5, 2)), mon_istore⟩,
  List.forall_mem_cons.mpr ⟨⟨xs_iload (by decide +kernel : decode (MT 1).2.1 35 = .ok (.iload 5, 2)), mon_iload⟩,
  List.forall_mem_cons.mpr ⟨⟨xs_aload_n (by decide +kernel : decode (MT 1).2.1 37 = .ok (.aload_n 0, 1)) rfl, mon_aload⟩,
  List.forall_mem_cons.mpr ⟨⟨xs_getf (ci := 0) (k := 0) rfl (by decide) inX0 wg_129 (by decide +kernel : decode (MT 1).2.1 38 = .ok (.getfield 9, 3)), mon_getf⟩,
  List.forall_mem_cons.mpr ⟨⟨xs_icmp_ge (by decide +kernel : decode (MT 1).2.1 41 = .ok (.if_icmp .ge 20, 3)) (by decide), mon_if2⟩,
  List.forall_mem_cons.mpr ⟨⟨xs_aload_n (by decide +kernel : decode (MT 1).2.1 44 = .ok (.aload_n 0, 1)) rfl, mon_aload⟩,
  List.forall_mem_cons.mpr ⟨⟨xs_iload (by decide +kernel : decode (MT 1).2.1 45 = .ok (.iload 5, 2)), mon_iload⟩,
  List.forall_mem_cons.mpr ⟨⟨xs_putf (ci := 0) (k := 0) tyX0 rfl (by decide) inX0 tyX0_ok nmX0 rfl (Or.inl ⟨rfl, rfl⟩) wg_129 (by decide +kernel : decode (MT 1).2.1 47 = .ok (.putfield 9, 3)), mon_putf⟩,
  List.forall_mem_cons.mpr ⟨⟨xs_aload_n (by decide +kernel : decode (MT 1).2.1 50 = .ok (.aload_n 0, 1)) rfl, mon_aload⟩,
  List.forall_mem_cons.mpr ⟨⟨xs_iload_n (by decide +kernel : decode (MT 1).2.1 51 = .ok (.iload_n 3, 1)) rfl, mon_iload⟩,
  List.forall_mem_cons.mpr ⟨⟨xs_putf (ci := 0) (k := 1) tyX0 rfl (by decide) inX0 tyX0_ok nmX0 rfl (Or.inl ⟨rfl, rfl⟩) wg_131 (by decide +kernel : decode (MT 1).2.1 52 = .ok (.putfield 15, 3)), mon_putf⟩,
  List.forall_mem_cons.mpr ⟨⟨xs_aload_n (by decide +kernel : decode (MT 1).2.1 55 = .ok (.aload_n 0, 1)) rfl, mon_aload⟩,
  List.forall_mem_cons.mpr ⟨⟨xs_iload (by decide +kernel : decode (MT 1).2.1 56 = .ok (.iload 4, 2)), mon_iload⟩,
  List.forall_mem_cons.mpr ⟨⟨xs_putf (ci := 0) (k := 2) tyX0 rfl (by decide) inX0 tyX0_ok nmX0 rfl (Or.inl ⟨rfl, rfl⟩) wg_133 (by decide +kernel : decode (MT 1).2.1 58 = .ok (.putfield 18, 3)), mon_putf⟩,
  List.forall_mem_cons.mpr ⟨⟨xs_iinc (by decide +kernel : decode (MT 1).2.1 61 = .ok (.iinc 4 1, 3)) rfl, mon_iinc⟩,
  List.forall_mem_cons.mpr ⟨⟨xs_goto (by decide +kernel : decode (MT 1).2.1 64 = .ok (.goto (-45), 3)) (by decide), mon_goto⟩,
  List.forall_mem_cons.mpr ⟨⟨xs_iinc (by decide +kernel : decode (MT 1).2.1 67 = .ok (.iinc 3 1, 3)) rfl, mon_iinc⟩,
  List.forall_mem_cons.mpr ⟨⟨xs_goto (by decide +kernel : decode (MT 1).2.1 70 = .ok (.goto (-60), 3)) (by decide), mon_goto⟩,
  List.forall_mem_cons.mpr ⟨⟨xs_vret (by decide +kernel : decode (MT 1).2.1 73 = .ok (.return_, 1)) rfl, mon_vret⟩,
  fun _ h => absurd h List.not_mem_nil⟩⟩⟩⟩⟩⟩⟩⟩⟩⟩⟩⟩⟩⟩⟩⟩⟩⟩⟩⟩⟩⟩⟩⟩⟩⟩⟩⟩⟩⟩⟩⟩⟩⟩⟩⟩⟩
def kl_X0_find : List (Nat × En) := kl_X0_find_0
theorem kg_X0_find : ∀ q ∈ kl_X0_find, Gd 1 q := kg_X0_find_0
def kl_X0_countApart_0 : List (Nat × En) := [(0, .inl (xo_const (.int 0) 1)), (1, .inl (xo_istore 4 3)), (3, .inl (xo_const (.int 0) 4)), (4, .inl (xo_istore 5 6)), (6, .inl (xo_iload 5 8)), (8, .inl (xo_const (.int 32) 10)), (10, .inl (xo_if2 (fun x y => decide (x ≥ y)) 79 13)), (13, .inl (xo_iload 5 15)), (15, .inl (xo_iload 2 16)), (16, .inl (xo_bin (fun x y => x - y) 17)), (17, .inl (xo_istore 6 19)), (19, .inl (xo_iload 6 21)), (21, .inl (xo_const (.int 0) 22)), (22, .inl (xo_const (.int 31) 24)), (24, .inr (98, 3, none, 27)), (27, .inl (xo_if1 (fun x => decide (x = 0)) 37 30)), (30, .inl (xo_aload 0 31)), (31, .inl (xo_iload 6 33)), (33, .inl (xo_iald 34)), (34, .inl (xo_goto 38)), (37, .inl (xo_const (.int 0) 38)), (38, .inl (xo_istore 7 40)), (40, .inl (xo_iload 1 41)), (41, .inl (xo_if1 (fun x => decide (x < 0)) 51 44)), (44, .inl (xo_iload 7 46)), (46, .inl (xo_iload 1 47)), (47, .inl (xo_bin (fun x y => x <<< (y &&& 31)) 48)), (48, .inl (xo_goto 56)), (51, .inl (xo_iload 7 53)), (53, .inl (xo_iload 1 54)), (54, .inl (xo_un (fun x => -x) 55)), (55, .inl (xo_bin (fun x y => (x.toUInt32 >>> (y.toUInt32 &&& Int32.toUInt32 31)).toInt32) 56)), (56, .inl (xo_istore 8 58)), (58, .inl (xo_iload 4 60)), (60, .inl (xo_iload 8 62)), (62, .inl (xo_aload 3 63)), (63, .inl (xo_iload 5 65)), (65, .inl (xo_iald 66)), (66, .inl (xo_bin (fun x y => x ^^^ y) 67)), (67, .inr (190, 1, none, 70))]
set_option maxRecDepth 20000 in
theorem kg_X0_countApart_0 : ∀ q ∈ kl_X0_countApart_0, Gd 2 q := List.forall_mem_cons.mpr ⟨⟨xs_iconst (by decide +kernel : decode (MT 2).2.1 0 = .ok (.iconst 0, 1)) rfl, mon_const⟩,
  List.forall_mem_cons.mpr ⟨⟨xs_istore (by decide +kernel : decode (MT 2).2.1 1 = .ok (.istore 4, 2)), mon_istore⟩,
  List.forall_mem_cons.mpr ⟨⟨xs_iconst (by decide +kernel : decode (MT 2).2.1 3 = .ok (.iconst 0, 1)) rfl, mon_const⟩,
  List.forall_mem_cons.mpr ⟨⟨xs_istore (by decide +kernel : decode (MT 2).2.1 4 = .ok (.istore 5, 2)), mon_istore⟩,
  List.forall_mem_cons.mpr ⟨⟨xs_iload (by decide +kernel : decode (MT 2).2.1 6 = .ok (.iload 5, 2)), mon_iload⟩,
  List.forall_mem_cons.mpr ⟨⟨xs_bipush (by decide +kernel : decode (MT 2).2.1 8 = .ok (.bipush 32, 2)) rfl, mon_const⟩,
  List.forall_mem_cons.mpr ⟨⟨xs_icmp_ge (by decide +kernel : decode (MT 2).2.1 10 = .ok (.if_icmp .ge 69, 3)) (by decide), mon_if2⟩,
  List.forall_mem_cons.mpr ⟨⟨xs_iload (by decide +kernel : decode (MT 2).2.1 13 = .ok (.iload 5, 2)), mon_iload⟩,
  List.forall_mem_cons.mpr ⟨⟨xs_iload_n (by decide +kernel : decode (MT 2).2.1 15 = .ok (.iload_n 2, 1)) rfl, mon_iload⟩,
  List.forall_mem_cons.mpr ⟨⟨xs_isub (by decide +kernel : decode (MT 2).2.1 16 = .ok (.isub, 1)), mon_bin⟩,
  List.forall_mem_cons.mpr ⟨⟨xs_istore (by decide +kernel : decode (MT 2).2.1 17 = .ok (.istore 6, 2)), mon_istore⟩,
  List.forall_mem_cons.mpr ⟨⟨xs_iload (by decide +kernel : decode (MT 2).2.1 19 = .ok (.iload 6, 2)), mon_iload⟩,
  List.forall_mem_cons.mpr ⟨⟨xs_iconst (by decide +kernel : decode (MT 2).2.1 21 = .ok (.iconst 0, 1)) rfl, mon_const⟩,
  List.forall_mem_cons.mpr ⟨⟨xs_bipush (by decide +kernel : decode (MT 2).2.1 22 = .ok (.bipush 31, 2)) rfl, mon_const⟩,
  List.forall_mem_cons.mpr ⟨xk_SN (by decide +kernel : decode (MT 2).2.1 24 = .ok (.invokestatic 25, 3)) wn_587 wg_206 cal_X9_within.2.1 cal_X9_within.1 cal_X9_within.2.2.1 cal_X9_within.2.2.2 (by decide) (by decide),
  List.forall_mem_cons.mpr ⟨⟨xs_if_eq (by decide +kernel : decode (MT 2).2.1 27 = .ok (.ifCond .eq 10, 3)) (by decide), mon_if1⟩,
  List.forall_mem_cons.mpr ⟨⟨xs_aload_n (by decide +kernel : decode (MT 2).2.1 30 = .ok (.aload_n 0, 1)) rfl, mon_aload⟩,
  List.forall_mem_cons.mpr ⟨⟨xs_iload (by decide +kernel : decode (MT 2).2.1 31 = .ok (.iload 6, 2)), mon_iload⟩,
  List.forall_mem_cons.mpr ⟨⟨xs_iald (by decide +kernel : decode (MT 2).2.1 33 = .ok (.iaload, 1)), mon_iald⟩,
  List.forall_mem_cons.mpr ⟨⟨xs_goto (by decide +kernel : decode (MT 2).2.1 34 = .ok (.goto 4, 3)) (by decide), mon_goto⟩,
  List.forall_mem_cons.mpr ⟨⟨xs_iconst (by decide +kernel : decode (MT 2).2.1 37 = .ok (.iconst 0, 1)) rfl, mon_const⟩,
  List.forall_mem_cons.mpr ⟨⟨xs_istore (by decide +kernel : decode (MT 2).2.1 38 = .ok (.istore 7, 2)), mon_istore⟩,
  List.forall_mem_cons.mpr ⟨⟨xs_iload_n (by decide +kernel : decode (MT 2).2.1 40 = .ok (.iload_n 1, 1)) rfl, mon_iload⟩,
  List.forall_mem_cons.mpr ⟨⟨xs_if_lt (by decide +kernel : decode (MT 2).2.1 41 = .ok (.ifCond .lt 10, 3)) (by decide), mon_if1⟩,
  List.forall_mem_cons.mpr ⟨⟨xs_iload (by decide +kernel : decode (MT 2).2.1 44 = .ok (.iload 7, 2)), mon_iload⟩,
  List.forall_mem_cons.mpr ⟨⟨xs_iload_n (by decide +kernel : decode (MT 2).2.1 46 = .ok (.iload_n 1, 1)) rfl, mon_iload⟩,
  List.forall_mem_cons.mpr ⟨⟨xs_ishl (by decide +kernel : decode (MT 2).2.1 47 = .ok (.ishl, 1)), mon_bin⟩,
  List.forall_mem_cons.mpr ⟨⟨xs_goto (by decide +kernel : decode (MT 2).2.1 48 = .ok (.goto 8, 3)) (by decide), mon_goto⟩,
  List.forall_mem_cons.mpr ⟨⟨xs_iload (by decide +kernel : decode (MT 2).2.1 51 = .ok (.iload 7, 2)), mon_iload⟩,
  List.forall_mem_cons.mpr ⟨⟨xs_iload_n (by decide +kernel : decode (MT 2).2.1 53 = .ok (.iload_n 1, 1)) rfl, mon_iload⟩,
  List.forall_mem_cons.mpr ⟨⟨xs_ineg (by decide +kernel : decode (MT 2).2.1 54 = .ok (.ineg, 1)), mon_un⟩,
  List.forall_mem_cons.mpr ⟨⟨xs_iushr (by decide +kernel : decode (MT 2).2.1 55 = .ok (.iushr, 1)), mon_bin⟩,
  List.forall_mem_cons.mpr ⟨⟨xs_istore (by decide +kernel : decode (MT 2).2.1 56 = .ok (.istore 8, 2)), mon_istore⟩,
  List.forall_mem_cons.mpr ⟨⟨xs_iload (by decide +kernel : decode (MT 2).2.1 58 = .ok (.iload 4, 2)), mon_iload⟩,
  List.forall_mem_cons.mpr ⟨⟨xs_iload (by decide +kernel : decode (MT 2).2.1 60 = .ok (.iload 8, 2)), mon_iload⟩,
  List.forall_mem_cons.mpr ⟨⟨xs_aload_n (by decide +kernel : decode (MT 2).2.1 62 = .ok (.aload_n 3, 1)) rfl, mon_aload⟩,
  List.forall_mem_cons.mpr ⟨⟨xs_iload (by decide +kernel : decode (MT 2).2.1 63 = .ok (.iload 5, 2)), mon_iload⟩,
  List.forall_mem_cons.mpr ⟨⟨xs_iald (by decide +kernel : decode (MT 2).2.1 65 = .ok (.iaload, 1)), mon_iald⟩,
  List.forall_mem_cons.mpr ⟨⟨xs_ixor (by decide +kernel : decode (MT 2).2.1 66 = .ok (.ixor, 1)), mon_bin⟩,
  List.forall_mem_cons.mpr ⟨xk_S (by decide +kernel : decode (MT 2).2.1 67 = .ok (.invokestatic 29, 3)) wg_588 wg_402 cal_J6_bitCount_0f7a4.2.1 cal_J6_bitCount_0f7a4.1 cal_J6_bitCount_0f7a4.2.2.1 cal_J6_bitCount_0f7a4.2.2.2 (by decide) (by decide),
  fun _ h => absurd h List.not_mem_nil⟩⟩⟩⟩⟩⟩⟩⟩⟩⟩⟩⟩⟩⟩⟩⟩⟩⟩⟩⟩⟩⟩⟩⟩⟩⟩⟩⟩⟩⟩⟩⟩⟩⟩⟩⟩⟩⟩⟩⟩
def kl_X0_countApart_1 : List (Nat × En) := [(70, .inl (xo_bin (fun x y => x + y) 71)), (71, .inl (xo_istore 4 73)), (73, .inl (xo_iinc 5 1 76)), (76, .inl (xo_goto 6)), (79, .inl (xo_iload 4 81)), (81, .inl (xo_iret))]
set_option maxRecDepth 20000 in
theorem kg_X0_countApart_1 : ∀ q ∈ kl_X0_countApart_1, Gd 2 q := List.forall_mem_cons.mpr ⟨⟨xs_iadd (by decide +kernel : decode (MT 2).2.1 70 = .ok (.iadd, 1)), mon_bin⟩,
  List.forall_mem_cons.mpr ⟨⟨xs_istore (by decide +kernel : decode (MT 2).2.1 71 = .ok (.istore 4, 2)), mon_istore⟩,
  List.forall_mem_cons.mpr ⟨⟨xs_iinc (by decide +kernel : decode (MT 2).2.1 73 = .ok (.iinc 5 1, 3)) rfl, mon_iinc⟩,
  List.forall_mem_cons.mpr ⟨⟨xs_goto (by decide +kernel : decode (MT 2).2.1 76 = .ok (.goto (-70), 3)) (by decide), mon_goto⟩,
  List.forall_mem_cons.mpr ⟨⟨xs_iload (by decide +kernel : decode (MT 2).2.1 79 = .ok (.iload 4, 2)), mon_iload⟩,
  List.forall_mem_cons.mpr ⟨⟨xs_iret (by decide +kernel : decode (MT 2).2.1 81 = .ok (.ireturn, 1)) rfl, mon_iret⟩,
  fun _ h => absurd h List.not_mem_nil⟩⟩⟩⟩⟩⟩
def kl_X0_countApart : List (Nat × En) := kl_X0_countApart_0 ++ kl_X0_countApart_1
theorem kg_X0_countApart : ∀ q ∈ kl_X0_countApart, Gd 2 q := by
  intro q hq
  simp only [kl_X0_countApart, List.mem_append] at hq
  rcases hq with hq | hq
  · exact kg_X0_countApart_0 q hq
  · exact kg_X0_countApart_1 q hq
def kl_X1_init_0 : List (Nat × En) := [(0, .inl (xo_aload 0 1)), (1, .inl (xo_oinit 4)), (4, .inl (xo_aload 0 5)), (5, .inl (xo_const (.int 32) 7)), (7, .inl (xo_newi 0 9)), (9, .inl (xo_putf 1 0 false 12)), (12, .inl (xo_aload 0 13)), (13, .inl (xo_const (.int 1024) 16)), (16, .inl (xo_newi 0 18)), (18, .inl (xo_putf 1 1 false 21)), (21, .inl (xo_aload 0 22)), (22, .inl (xo_const (.int 0) 23)), (23, .inl (xo_putf 1 2 true 26)), (26, .inl (xo_vret))]
set_option maxRecDepth 20000 in
theorem kg_X1_init_0 : ∀ q ∈ kl_X1_init_0, Gd 3 q := List.forall_mem_cons.mpr ⟨⟨xs_aload_n (by decide +kernel : decode (MT 3).2.1 0 = .ok (.aload_n 0, 1)) rfl, mon_aload⟩,
  List.forall_mem_cons.mpr ⟨⟨xs_oinit wg_98 wg_22 wg_oinit (by decide) (by decide) (by decide +kernel : decode (MT 3).2.1 1 = .ok (.invokespecial 3, 3)), mon_oinit⟩,
  List.forall_mem_cons.mpr ⟨⟨xs_aload_n (by decide +kernel : decode (MT 3).2.1 4 = .ok (.aload_n 0, 1)) rfl, mon_aload⟩,
  List.forall_mem_cons.mpr ⟨⟨xs_bipush (by decide +kernel : decode (MT 3).2.1 5 = .ok (.bipush 32, 2)) rfl, mon_const⟩,
  List.forall_mem_cons.mpr ⟨⟨xs_newi (Or.inl ⟨rfl, rfl⟩) wg_44 (by decide +kernel : decode (MT 3).2.1 7 = .ok (.newarray .int, 2)), mon_newi⟩,
  List.forall_mem_cons.mpr ⟨⟨xs_putfF (ci := 1) (k := 0) tyX1 rfl (by decide) inX1 tyX1_ok nmX1 rfl rfl rfl (Or.inr ⟨rfl, Or.inr ⟨_, rfl⟩⟩) wg_99 (by decide +kernel : decode (MT 3).2.1 9 = .ok (.putfield 9, 3)), mon_putf⟩,
  List.forall_mem_cons.mpr ⟨⟨xs_aload_n (by decide +kernel : decode (MT 3).2.1 12 = .ok (.aload_n 0, 1)) rfl, mon_aload⟩,
  List.forall_mem_cons.mpr ⟨⟨xs_sipush (by decide +kernel : decode (MT 3).2.1 13 = .ok (.sipush 1024, 3)) rfl, mon_const⟩,
  List.forall_mem_cons.mpr ⟨⟨xs_newi (Or.inl ⟨rfl, rfl⟩) wg_44 (by decide +kernel : decode (MT 3).2.1 16 = .ok (.newarray .int, 2)), mon_newi⟩,
  List.forall_mem_cons.mpr ⟨⟨xs_putfF (ci := 1) (k := 1) tyX1 rfl (by decide) inX1 tyX1_ok nmX1 rfl rfl rfl (Or.inr ⟨rfl, Or.inr ⟨_, rfl⟩⟩) wg_100 (by decide +kernel : decode (MT 3).2.1 18 = .ok (.putfield 15, 3)), mon_putf⟩,
  List.forall_mem_cons.mpr ⟨⟨xs_aload_n (by decide +kernel : decode (MT 3).2.1 21 = .ok (.aload_n 0, 1)) rfl, mon_aload⟩,
  List.forall_mem_cons.mpr ⟨⟨xs_iconst (by decide +kernel : decode (MT 3).2.1 22 = .ok (.iconst 0, 1)) rfl, mon_const⟩,
  List.forall_mem_cons.mpr ⟨⟨xs_putf (ci := 1) (k := 2) tyX1 rfl (by decide) inX1 tyX1_ok nmX1 rfl (Or.inl ⟨rfl, rfl⟩) wg_101 (by decide +kernel : decode (MT 3).2.1 23 = .ok (.putfield 18, 3)), mon_putf⟩,
  List.forall_mem_cons.mpr ⟨⟨xs_vret (by decide +kernel : decode (MT 3).2.1 26 = .ok (.return_, 1)) rfl, mon_vret⟩,
  fun _ h => absurd h List.not_mem_nil⟩⟩⟩⟩⟩⟩⟩⟩⟩⟩⟩⟩⟩⟩
def kl_X1_init : List (Nat × En) := kl_X1_init_0
theorem kg_X1_init : ∀ q ∈ kl_X1_init, Gd 3 q := kg_X1_init_0
def kl_X1_countPieces_0 : List (Nat × En) := [(0, .inl (xo_const (.int 0) 1)), (1, .inl (xo_istore 2 2)), (2, .inl (xo_iload 2 3)), (3, .inl (xo_const (.int 32) 5)), (5, .inl (xo_if2 (fun x y => decide (x ≥ y)) 23 8)), (8, .inl (xo_aload 0 9)), (9, .inl (xo_getf 1 0 12)), (12, .inl (xo_iload 2 13)), (13, .inl (xo_aload 1 14)), (14, .inl (xo_iload 2 15)), (15, .inl (xo_iald 16)), (16, .inl (xo_iast 17)), (17, .inl (xo_iinc 2 1 20)), (20, .inl (xo_goto 2)), (23, .inl (xo_aload 0 24)), (24, .inl (xo_const (.int 1) 25)), (25, .inr (6, 2, (some 1), 28)), (28, .inl (xo_iret))]
set_option maxRecDepth 20000 in
theorem kg_X1_countPieces_0 : ∀ q ∈ kl_X1_countPieces_0, Gd 4 q := List.forall_mem_cons.mpr ⟨⟨xs_iconst (by decide +kernel : decode (MT 4).2.1 0 = .ok (.iconst 0, 1)) rfl, mon_const⟩,
  List.forall_mem_cons.mpr ⟨⟨xs_istore_n (by decide +kernel : decode (MT 4).2.1 1 = .ok (.istore_n 2, 1)) rfl, mon_istore⟩,
  List.forall_mem_cons.mpr ⟨⟨xs_iload_n (by decide +kernel : decode (MT 4).2.1 2 = .ok (.iload_n 2, 1)) rfl, mon_iload⟩,
  List.forall_mem_cons.mpr ⟨⟨xs_bipush (by decide +kernel : decode (MT 4).2.1 3 = .ok (.bipush 32, 2)) rfl, mon_const⟩,
  List.forall_mem_cons.mpr ⟨⟨xs_icmp_ge (by decide +kernel : decode (MT 4).2.1 5 = .ok (.if_icmp .ge 18, 3)) (by decide), mon_if2⟩,
  List.forall_mem_cons.mpr ⟨⟨xs_aload_n (by decide +kernel : decode (MT 4).2.1 8 = .ok (.aload_n 0, 1)) rfl, mon_aload⟩,
  List.forall_mem_cons.mpr ⟨⟨xs_getf (ci := 1) (k := 0) rfl (by decide) inX1 wg_99 (by decide +kernel : decode (MT 4).2.1 9 = .ok (.getfield 9, 3)), mon_getf⟩,
  List.forall_mem_cons.mpr ⟨⟨xs_iload_n (by decide +kernel : decode (MT 4).2.1 12 = .ok (.iload_n 2, 1)) rfl, mon_iload⟩,
  List.forall_mem_cons.mpr ⟨⟨xs_aload_n (by decide +kernel : decode (MT 4).2.1 13 = .ok (.aload_n 1, 1)) rfl, mon_aload⟩,
  List.forall_mem_cons.mpr ⟨⟨xs_iload_n (by decide +kernel : decode (MT 4).2.1 14 = .ok (.iload_n 2, 1)) rfl, mon_iload⟩,
  List.forall_mem_cons.mpr ⟨⟨xs_iald (by decide +kernel : decode (MT 4).2.1 15 = .ok (.iaload, 1)), mon_iald⟩,
  List.forall_mem_cons.mpr ⟨⟨xs_iast (by decide +kernel : decode (MT 4).2.1 16 = .ok (.iastore, 1)), mon_iast⟩,
  List.forall_mem_cons.mpr ⟨⟨xs_iinc (by decide +kernel : decode (MT 4).2.1 17 = .ok (.iinc 2 1, 3)) rfl, mon_iinc⟩,
  List.forall_mem_cons.mpr ⟨⟨xs_goto (by decide +kernel : decode (MT 4).2.1 20 = .ok (.goto (-18), 3)) (by decide), mon_goto⟩,
  List.forall_mem_cons.mpr ⟨⟨xs_aload_n (by decide +kernel : decode (MT 4).2.1 23 = .ok (.aload_n 0, 1)) rfl, mon_aload⟩,
  List.forall_mem_cons.mpr ⟨⟨xs_iconst (by decide +kernel : decode (MT 4).2.1 24 = .ok (.iconst 1, 1)) rfl, mon_const⟩,
  List.forall_mem_cons.mpr ⟨xk_V (ci := 1) (by decide +kernel : decode (MT 4).2.1 25 = .ok (.invokevirtual 22, 3)) rfl wg_469 wg_471 wg_s7 cal_X1_countLeft.2.1 cal_X1_countLeft.1 cal_X1_countLeft.2.2.1 rfl cal_X1_countLeft.2.2.2 (by decide) (by decide),
  List.forall_mem_cons.mpr ⟨⟨xs_iret (by decide +kernel : decode (MT 4).2.1 28 = .ok (.ireturn, 1)) rfl, mon_iret⟩,
  fun _ h => absurd h List.not_mem_nil⟩⟩⟩⟩⟩⟩⟩⟩⟩⟩⟩⟩⟩⟩⟩⟩⟩⟩
def kl_X1_countPieces : List (Nat × En) := kl_X1_countPieces_0
theorem kg_X1_countPieces : ∀ q ∈ kl_X1_countPieces, Gd 4 q := kg_X1_countPieces_0
def kl_X1_countCounters_0 : List (Nat × En) := [(0, .inl (xo_const (.int 0) 1)), (1, .inl (xo_istore 2 2)), (2, .inl (xo_iload 2 3)), (3, .inl (xo_const (.int 32) 5)), (5, .inl (xo_if2 (fun x y => decide (x ≥ y)) 25 8)), (8, .inl (xo_aload 0 9)), (9, .inl (xo_getf 1 0 12)), (12, .inl (xo_iload 2 13)), (13, .inl (xo_aload 1 14)), (14, .inl (xo_iload 2 15)), (15, .inl (xo_iald 16)), (16, .inl (xo_const (.int (-1)) 17)), (17, .inl (xo_bin (fun x y => x ^^^ y) 18)), (18, .inl (xo_iast 19)), (19, .inl (xo_iinc 2 1 22)), (22, .inl (xo_goto 2)), (25, .inl (xo_const (.int 0) 26)), (26, .inl (xo_istore 2 27)), (27, .inl (xo_iload 2 28)), (28, .inl (xo_const (.int 32) 30)), (30, .inl (xo_if2 (fun x y => decide (x ≥ y)) 73 33)), (33, .inl (xo_aload 0 34)), (34, .inl (xo_iload 2 35)), (35, .inl (xo_const (.int 0) 36)), (36, .inl (xo_const (.int 0) 37)), (37, .inr (7, 4, (some 1), 40)), (40, .inl (xo_pop 41)), (41, .inl (xo_aload 0 42)), (42, .inl (xo_iload 2 43)), (43, .inl (xo_const (.int 31) 45)), (45, .inl (xo_const (.int 0) 46)), (46, .inr (7, 4, (some 1), 49)), (49, .inl (xo_pop 50)), (50, .inl (xo_aload 0 51)), (51, .inl (xo_const (.int 0) 52)), (52, .inl (xo_iload 2 53)), (53, .inl (xo_const (.int 0) 54)), (54, .inr (7, 4, (some 1), 57)), (57, .inl (xo_pop 58)), (58, .inl (xo_aload 0 59))]
set_option maxRecDepth 20000 in
theorem kg_X1_countCounters_0 : ∀ q ∈ kl_X1_countCounters_0, Gd 5 q := List.forall_mem_cons.mpr ⟨⟨xs_iconst (by decide +kernel : decode (MT 5).2.1 0 = .ok (.iconst 0, 1)) rfl, mon_const⟩,
  List.forall_mem_cons.mpr ⟨⟨xs_istore_n (by decide +kernel : decode (MT 5).2.1 1 = .ok (.istore_n 2, 1)) rfl, mon_istore⟩,
  List.forall_mem_cons.mpr ⟨⟨xs_iload_n (by decide +kernel : decode (MT 5).2.1 2 = .ok (.iload_n 2, 1)) rfl, mon_iload⟩,
  List.forall_mem_cons.mpr ⟨⟨xs_bipush (by decide +kernel : decode (MT 5).2.1 3 = .ok (.bipush 32, 2)) rfl, mon_const⟩,
  List.forall_mem_cons.mpr ⟨⟨xs_icmp_ge (by decide +kernel : decode (MT 5).2.1 5 = .ok (.if_icmp .ge 20, 3)) (by decide), mon_if2⟩,
  List.forall_mem_cons.mpr ⟨⟨xs_aload_n (by decide +kernel : decode (MT 5).2.1 8 = .ok (.aload_n 0, 1)) rfl, mon_aload⟩,
  List.forall_mem_cons.mpr ⟨⟨xs_getf (ci := 1) (k := 0) rfl (by decide) inX1 wg_99 (by decide +kernel : decode (MT 5).2.1 9 = .ok (.getfield 9, 3)), mon_getf⟩,
  List.forall_mem_cons.mpr ⟨⟨xs_iload_n (by decide +kernel : decode (MT 5).2.1 12 = .ok (.iload_n 2, 1)) rfl, mon_iload⟩,
  List.forall_mem_cons.mpr ⟨⟨xs_aload_n (by decide +kernel : decode (MT 5).2.1 13 = .ok (.aload_n 1, 1)) rfl, mon_aload⟩,
  List.forall_mem_cons.mpr ⟨⟨xs_iload_n (by decide +kernel : decode (MT 5).2.1 14 = .ok (.iload_n 2, 1)) rfl, mon_iload⟩,
  List.forall_mem_cons.mpr ⟨⟨xs_iald (by decide +kernel : decode (MT 5).2.1 15 = .ok (.iaload, 1)), mon_iald⟩,
  List.forall_mem_cons.mpr ⟨⟨xs_iconst (by decide +kernel : decode (MT 5).2.1 16 = .ok (.iconst (-1), 1)) rfl, mon_const⟩,
  List.forall_mem_cons.mpr ⟨⟨xs_ixor (by decide +kernel : decode (MT 5).2.1 17 = .ok (.ixor, 1)), mon_bin⟩,
  List.forall_mem_cons.mpr ⟨⟨xs_iast (by decide +kernel : decode (MT 5).2.1 18 = .ok (.iastore, 1)), mon_iast⟩,
  List.forall_mem_cons.mpr ⟨⟨xs_iinc (by decide +kernel : decode (MT 5).2.1 19 = .ok (.iinc 2 1, 3)) rfl, mon_iinc⟩,
  List.forall_mem_cons.mpr ⟨⟨xs_goto (by decide +kernel : decode (MT 5).2.1 22 = .ok (.goto (-20), 3)) (by decide), mon_goto⟩,
  List.forall_mem_cons.mpr ⟨⟨xs_iconst (by decide +kernel : decode (MT 5).2.1 25 = .ok (.iconst 0, 1)) rfl, mon_const⟩,
  List.forall_mem_cons.mpr ⟨⟨xs_istore_n (by decide +kernel : decode (MT 5).2.1 26 = .ok (.istore_n 2, 1)) rfl, mon_istore⟩,
  List.forall_mem_cons.mpr ⟨⟨xs_iload_n (by decide +kernel : decode (MT 5).2.1 27 = .ok (.iload_n 2, 1)) rfl, mon_iload⟩,
  List.forall_mem_cons.mpr ⟨⟨xs_bipush (by decide +kernel : decode (MT 5).2.1 28 = .ok (.bipush 32, 2)) rfl, mon_const⟩,
  List.forall_mem_cons.mpr ⟨⟨xs_icmp_ge (by decide +kernel : decode (MT 5).2.1 30 = .ok (.if_icmp .ge 43, 3)) (by decide), mon_if2⟩,
  List.forall_mem_cons.mpr ⟨⟨xs_aload_n (by decide +kernel : decode (MT 5).2.1 33 = .ok (.aload_n 0, 1)) rfl, mon_aload⟩,
  List.forall_mem_cons.mpr ⟨⟨xs_iload_n (by decide +kernel : decode (MT 5).2.1 34 = .ok (.iload_n 2, 1)) rfl, mon_iload⟩,
  List.forall_mem_cons.mpr ⟨⟨xs_iconst (by decide +kernel : decode (MT 5).2.1 35 = .ok (.iconst 0, 1)) rfl, mon_const⟩,
  List.forall_mem_cons.mpr ⟨⟨xs_iconst (by decide +kernel : decode (MT 5).2.1 36 = .ok (.iconst 0, 1)) rfl, mon_const⟩,
  List.forall_mem_cons.mpr ⟨xk_V (ci := 1) (by decide +kernel : decode (MT 5).2.1 37 = .ok (.invokevirtual 26, 3)) rfl wg_473 wg_475 wg_s8 cal_X1_removePiece.2.1 cal_X1_removePiece.1 cal_X1_removePiece.2.2.1 rfl cal_X1_removePiece.2.2.2 (by decide) (by decide),
  List.forall_mem_cons.mpr ⟨⟨xs_pop (by decide +kernel : decode (MT 5).2.1 40 = .ok (.pop, 1)), mon_pop⟩,
  List.forall_mem_cons.mpr ⟨⟨xs_aload_n (by decide +kernel : decode (MT 5).2.1 41 = .ok (.aload_n 0, 1)) rfl, mon_aload⟩,
  List.forall_mem_cons.mpr ⟨⟨xs_iload_n (by decide +kernel : decode (MT 5).2.1 42 = .ok (.iload_n 2, 1)) rfl, mon_iload⟩,
  List.forall_mem_cons.mpr ⟨⟨xs_bipush (by decide +kernel : decode (MT 5).2.1 43 = .ok (.bipush 31, 2)) rfl, mon_const⟩,
  List.forall_mem_cons.mpr ⟨⟨xs_iconst (by decide +kernel : decode (MT 5).2.1 45 = .ok (.iconst 0, 1)) rfl, mon_const⟩,
  List.forall_mem_cons.mpr ⟨xk_V (ci := 1) (by decide +kernel : decode (MT 5).2.1 46 = .ok (.invokevirtual 26, 3)) rfl wg_473 wg_475 wg_s8 cal_X1_removePiece.2.1 cal_X1_removePiece.1 cal_X1_removePiece.2.2.1 rfl cal_X1_removePiece.2.2.2 (by decide) (by decide),
  List.forall_mem_cons.mpr ⟨⟨xs_pop (by decide +kernel : decode (MT 5).2.1 49 = .ok (.pop, 1)), mon_pop⟩,
  List.forall_mem_cons.mpr ⟨⟨xs_aload_n (by decide +kernel : decode (MT 5).2.1 50 = .ok (.aload_n 0, 1)) rfl, mon_aload⟩,
  List.forall_mem_cons.mpr ⟨⟨xs_iconst (by decide +kernel : decode (MT 5).2.1 51 = .ok (.iconst 0, 1)) rfl, mon_const⟩,
  List.forall_mem_cons.mpr ⟨⟨xs_iload_n (by decide +kernel : decode (MT 5).2.1 52 = .ok (.iload_n 2, 1)) rfl, mon_iload⟩,
  List.forall_mem_cons.mpr ⟨⟨xs_iconst (by decide +kernel : decode (MT 5).2.1 53 = .ok (.iconst 0, 1)) rfl, mon_const⟩,
  List.forall_mem_cons.mpr ⟨xk_V (ci := 1) (by decide +kernel : decode (MT 5).2.1 54 = .ok (.invokevirtual 26, 3)) rfl wg_473 wg_475 wg_s8 cal_X1_removePiece.2.1 cal_X1_removePiece.1 cal_X1_removePiece.2.2.1 rfl cal_X1_removePiece.2.2.2 (by decide) (by decide),
  List.forall_mem_cons.mpr ⟨⟨xs_pop (by decide +kernel : decode (MT 5).2.1 57 = .ok (.pop, 1)), mon_pop⟩,
  List.forall_mem_cons.mpr ⟨⟨xs_aload_n (by decide +kernel : decode (MT 5).2.1 58 = .ok (.aload_n 0, 1)) rfl, mon_aload⟩,
  fun _ h => absurd h List.not_mem_nil⟩⟩⟩⟩⟩⟩⟩⟩⟩⟩⟩⟩⟩⟩⟩⟩⟩⟩⟩⟩⟩⟩⟩⟩⟩⟩⟩⟩⟩⟩⟩⟩⟩⟩⟩⟩⟩⟩⟩⟩
def kl_X1_countCounters_1 : List (Nat × En) := [(59, .inl (xo_const (.int 31) 61)), (61, .inl (xo_iload 2 62)), (62, .inl (xo_const (.int 0) 63)), (63, .inr (7, 4, (some 1), 66)), (66, .inl (xo_pop 67)), (67, .inl (xo_iinc 2 1 70)), (70, .inl (xo_goto 27)), (73, .inl (xo_aload 0 74)), (74, .inl (xo_const (.int 0) 75)), (75, .inr (6, 2, (some 1), 78)), (78, .inl (xo_iret))]
set_option maxRecDepth 20000 in
theorem kg_X1_countCounters_1 : ∀ q ∈ kl_X1_countCounters_1, Gd 5 q := List.forall_mem_cons.mpr ⟨⟨xs_bipush (by decide +kernel : decode (MT 5).2.1 59 = .ok (.bipush 31, 2)) rfl, mon_const⟩,
  List.forall_mem_cons.mpr ⟨⟨xs_iload_n (by decide +kernel : decode (MT 5).2.1 61 = .ok (.iload_n 2, 1)) rfl, mon_iload⟩,
  List.forall_mem_cons.mpr ⟨⟨xs_iconst (by decide +kernel : decode (MT 5).2.1 62 = .ok (.iconst 0, 1)) rfl, mon_const⟩,
  List.forall_mem_cons.mpr ⟨xk_V (ci := 1) (by decide +kernel : decode (MT 5).2.1 63 = .ok (.invokevirtual 26, 3)) rfl wg_473 wg_475 wg_s8 cal_X1_removePiece.2.1 cal_X1_removePiece.1 cal_X1_removePiece.2.2.1 rfl cal_X1_removePiece.2.2.2 (by decide) (by decide),
  List.forall_mem_cons.mpr ⟨⟨xs_pop (by decide +kernel : decode (MT 5).2.1 66 = .ok (.pop, 1)), mon_pop⟩,
  List.forall_mem_cons.mpr ⟨⟨xs_iinc (by decide +kernel : decode (MT 5).2.1 67 = .ok (.iinc 2 1, 3)) rfl, mon_iinc⟩,
  List.forall_mem_cons.mpr ⟨⟨xs_goto (by decide +kernel : decode (MT 5).2.1 70 = .ok (.goto (-43), 3)) (by decide), mon_goto⟩,
  List.forall_mem_cons.mpr ⟨⟨xs_aload_n (by decide +kernel : decode (MT 5).2.1 73 = .ok (.aload_n 0, 1)) rfl, mon_aload⟩,
  List.forall_mem_cons.mpr ⟨⟨xs_iconst (by decide +kernel : decode (MT 5).2.1 74 = .ok (.iconst 0, 1)) rfl, mon_const⟩,
  List.forall_mem_cons.mpr ⟨xk_V (ci := 1) (by decide +kernel : decode (MT 5).2.1 75 = .ok (.invokevirtual 22, 3)) rfl wg_469 wg_471 wg_s7 cal_X1_countLeft.2.1 cal_X1_countLeft.1 cal_X1_countLeft.2.2.1 rfl cal_X1_countLeft.2.2.2 (by decide) (by decide),
  List.forall_mem_cons.mpr ⟨⟨xs_iret (by decide +kernel : decode (MT 5).2.1 78 = .ok (.ireturn, 1)) rfl, mon_iret⟩,
  fun _ h => absurd h List.not_mem_nil⟩⟩⟩⟩⟩⟩⟩⟩⟩⟩⟩
def kl_X1_countCounters : List (Nat × En) := kl_X1_countCounters_0 ++ kl_X1_countCounters_1
theorem kg_X1_countCounters : ∀ q ∈ kl_X1_countCounters, Gd 5 q := by
  intro q hq
  simp only [kl_X1_countCounters, List.mem_append] at hq
  rcases hq with hq | hq
  · exact kg_X1_countCounters_0 q hq
  · exact kg_X1_countCounters_1 q hq
def kl_X1_countLeft_0 : List (Nat × En) := [(0, .inl (xo_const (.int 0) 1)), (1, .inl (xo_istore 2 2)), (2, .inl (xo_const (.int 0) 3)), (3, .inl (xo_istore 3 4)), (4, .inl (xo_iload 3 5)), (5, .inl (xo_const (.int 32) 7)), (7, .inl (xo_if2 (fun x y => decide (x ≥ y)) 55 10)), (10, .inl (xo_const (.int 0) 11)), (11, .inl (xo_istore 4 13)), (13, .inl (xo_iload 4 15)), (15, .inl (xo_const (.int 32) 17)), (17, .inl (xo_if2 (fun x y => decide (x ≥ y)) 49 20)), (20, .inl (xo_aload 0 21)), (21, .inl (xo_getf 1 0 24)), (24, .inl (xo_iload 3 25)), (25, .inl (xo_iald 26)), (26, .inl (xo_if1 (fun x => decide (x = 0)) 49 29)), (29, .inl (xo_aload 0 30)), (30, .inl (xo_iload 4 32)), (32, .inl (xo_iload 3 33)), (33, .inl (xo_iload 1 34)), (34, .inr (7, 4, (some 1), 37)), (37, .inl (xo_if1 (fun x => decide (x = 0)) 43 40)), (40, .inl (xo_iinc 2 1 43)), (43, .inl (xo_iinc 4 1 46)), (46, .inl (xo_goto 13)), (49, .inl (xo_iinc 3 1 52)), (52, .inl (xo_goto 4)), (55, .inl (xo_iload 2 56)), (56, .inl (xo_iret))]
set_option maxRecDepth 20000 in
theorem kg_X1_countLeft_0 : ∀ q ∈ kl_X1_countLeft_0, Gd 6 q := List.forall_mem_cons.mpr ⟨⟨xs_iconst (by decide +kernel : decode (MT 6).2.1 0 = .ok (.iconst 0, 1)) rfl, mon_const⟩,
  List.forall_mem_cons.mpr ⟨⟨xs_istore_n (by decide +kernel : decode (MT 6).2.1 1 = .ok (.istore_n 2, 1)) rfl, mon_istore⟩,
  List.forall_mem_cons.mpr ⟨⟨xs_iconst (by decide +kernel : decode (MT 6).2.1 2 = .ok (.iconst 0, 1)) rfl, mon_const⟩,
  List.forall_mem_cons.mpr ⟨⟨xs_istore_n (by decide +kernel : decode (MT 6).2.1 3 = .ok (.istore_n 3, 1)) rfl, mon_istore⟩,
  List.forall_mem_cons.mpr ⟨⟨xs_iload_n (by decide +kernel : decode (MT 6).2.1 4 = .ok (.iload_n 3, 1)) rfl, mon_iload⟩,
  List.forall_mem_cons.mpr ⟨⟨xs_bipush (by decide +kernel : decode (MT 6).2.1 5 = .ok (.bipush 32, 2)) rfl, mon_const⟩,
  List.forall_mem_cons.mpr ⟨⟨xs_icmp_ge (by decide +kernel : decode (MT 6).2.1 7 = .ok (.if_icmp .ge 48, 3)) (by decide), mon_if2⟩,
  List.forall_mem_cons.mpr ⟨⟨xs_iconst (by decide +kernel : decode (MT 6).2.1 10 = .ok (.iconst 0, 1)) rfl, mon_const⟩,
  List.forall_mem_cons.mpr ⟨⟨xs_istore (by decide +kernel : decode (MT 6).2.1 11 = .ok (.istore 4, 2)), mon_istore⟩,
  List.forall_mem_cons.mpr ⟨⟨xs_iload (by decide +kernel : decode (MT 6).2.1 13 = .ok (.iload 4, 2)), mon_iload⟩,
  List.forall_mem_cons.mpr ⟨⟨xs_bipush (by decide +kernel : decode (MT 6).2.1 15 = .ok (.bipush 32, 2)) rfl, mon_const⟩,
  List.forall_mem_cons.mpr ⟨⟨xs_icmp_ge (by decide +kernel : decode (MT 6).2.1 17 = .ok (.if_icmp .ge 32, 3)) (by decide), mon_if2⟩,
  List.forall_mem_cons.mpr ⟨⟨xs_aload_n (by decide +kernel : decode (MT 6).2.1 20 = .ok (.aload_n 0, 1)) rfl, mon_aload⟩,
  List.forall_mem_cons.mpr ⟨⟨xs_getf (ci := 1) (k := 0) rfl (by decide) inX1 wg_99 (by decide +kernel : decode (MT 6).2.1 21 = .ok (.getfield 9, 3)), mon_getf⟩,
  List.forall_mem_cons.mpr ⟨⟨xs_iload_n (by decide +kernel : decode (MT 6).2.1 24 = .ok (.iload_n 3, 1)) rfl, mon_iload⟩,
  List.forall_mem_cons.mpr ⟨⟨xs_iald (by decide +kernel : decode (MT 6).2.1 25 = .ok (.iaload, 1)), mon_iald⟩,
  List.forall_mem_cons.mpr ⟨⟨xs_if_eq (by decide +kernel : decode (MT 6).2.1 26 = .ok (.ifCond .eq 23, 3)) (by decide), mon_if1⟩,
  List.forall_mem_cons.mpr ⟨⟨xs_aload_n (by decide +kernel : decode (MT 6).2.1 29 = .ok (.aload_n 0, 1)) rfl, mon_aload⟩,
  List.forall_mem_cons.mpr ⟨⟨xs_iload (by decide +kernel : decode (MT 6).2.1 30 = .ok (.iload 4, 2)), mon_iload⟩,
  List.forall_mem_cons.mpr ⟨⟨xs_iload_n (by decide +kernel : decode (MT 6).2.1 32 = .ok (.iload_n 3, 1)) rfl, mon_iload⟩,
  List.forall_mem_cons.mpr ⟨⟨xs_iload_n (by decide +kernel : decode (MT 6).2.1 33 = .ok (.iload_n 1, 1)) rfl, mon_iload⟩,
  List.forall_mem_cons.mpr ⟨xk_V (ci := 1) (by decide +kernel : decode (MT 6).2.1 34 = .ok (.invokevirtual 26, 3)) rfl wg_473 wg_475 wg_s8 cal_X1_removePiece.2.1 cal_X1_removePiece.1 cal_X1_removePiece.2.2.1 rfl cal_X1_removePiece.2.2.2 (by decide) (by decide),
  List.forall_mem_cons.mpr ⟨⟨xs_if_eq (by decide +kernel : decode (MT 6).2.1 37 = .ok (.ifCond .eq 6, 3)) (by decide), mon_if1⟩,
  List.forall_mem_cons.mpr ⟨⟨xs_iinc (by decide +kernel : decode (MT 6).2.1 40 = .ok (.iinc 2 1, 3)) rfl, mon_iinc⟩,
  List.forall_mem_cons.mpr ⟨⟨xs_iinc (by decide +kernel : decode (MT 6).2.1 43 = .ok (.iinc 4 1, 3)) rfl, mon_iinc⟩,
  List.forall_mem_cons.mpr ⟨⟨xs_goto (by decide +kernel : decode (MT 6).2.1 46 = .ok (.goto (-33), 3)) (by decide), mon_goto⟩,
  List.forall_mem_cons.mpr ⟨⟨xs_iinc (by decide +kernel : decode (MT 6).2.1 49 = .ok (.iinc 3 1, 3)) rfl, mon_iinc⟩,
  List.forall_mem_cons.mpr ⟨⟨xs_goto (by decide +kernel : decode (MT 6).2.1 52 = .ok (.goto (-48), 3)) (by decide), mon_goto⟩,
  List.forall_mem_cons.mpr ⟨⟨xs_iload_n (by decide +kernel : decode (MT 6).2.1 55 = .ok (.iload_n 2, 1)) rfl, mon_iload⟩,
  List.forall_mem_cons.mpr ⟨⟨xs_iret (by decide +kernel : decode (MT 6).2.1 56 = .ok (.ireturn, 1)) rfl, mon_iret⟩,
  fun _ h => absurd h List.not_mem_nil⟩⟩⟩⟩⟩⟩⟩⟩⟩⟩⟩⟩⟩⟩⟩⟩⟩⟩⟩⟩⟩⟩⟩⟩⟩⟩⟩⟩⟩⟩
def kl_X1_countLeft : List (Nat × En) := kl_X1_countLeft_0
theorem kg_X1_countLeft : ∀ q ∈ kl_X1_countLeft, Gd 6 q := kg_X1_countLeft_0
def kl_X1_removePiece_0 : List (Nat × En) := [(0, .inl (xo_aload 0 1)), (1, .inl (xo_const (.int 0) 2)), (2, .inl (xo_putf 1 2 true 5)), (5, .inl (xo_aload 0 6)), (6, .inl (xo_iload 1 7)), (7, .inl (xo_iload 2 8)), (8, .inr (8, 3, (some 1), 11)), (11, .inl (xo_const (.int 0) 12)), (12, .inl (xo_istore 4 14)), (14, .inl (xo_iload 4 16)), (16, .inl (xo_aload 0 17)), (17, .inl (xo_getf 1 1 20)), (20, .inl (xo_alen 21)), (21, .inl (xo_if2 (fun x y => decide (x ≥ y)) 155 24)), (24, .inl (xo_iload 4 26)), (26, .inl (xo_aload 0 27)), (27, .inl (xo_getf 1 2 30)), (30, .inl (xo_if2 (fun x y => decide (x ≥ y)) 155 33)), (33, .inl (xo_aload 0 34)), (34, .inl (xo_getf 1 1 37)), (37, .inl (xo_iload 4 39)), (39, .inl (xo_iald 40)), (40, .inl (xo_const (.int 32) 42)), (42, .inl (xo_div (fun x y => x - x / y * y) 43)), (43, .inl (xo_istore 5 45)), (45, .inl (xo_aload 0 46)), (46, .inl (xo_getf 1 1 49)), (49, .inl (xo_iload 4 51)), (51, .inl (xo_iald 52)), (52, .inl (xo_const (.int 32) 54)), (54, .inl (xo_div (fun x y => x / y) 55)), (55, .inl (xo_istore 6 57)), (57, .inl (xo_aload 0 58)), (58, .inl (xo_iload 5 60)), (60, .inl (xo_const (.int 1) 61)), (61, .inl (xo_bin (fun x y => x - y) 62)), (62, .inl (xo_iload 6 64)), (64, .inr (8, 3, (some 1), 67)), (67, .inl (xo_aload 0 68)), (68, .inl (xo_iload 5 70))]
set_option maxRecDepth 20000 in
theorem kg_X1_removePiece_0 : ∀ q ∈ kl_X1_removePiece_0, Gd 7 q := List.forall_mem_cons.mpr ⟨⟨xs_aload_n (by decide +kernel : decode (MT 7).2.1 0 = .ok (.aload_n 0, 1)) rfl, mon_aload⟩,
  List.forall_mem_cons.mpr ⟨⟨xs_iconst (by decide +kernel : decode (MT 7).2.1 1 = .ok (.iconst 0, 1)) rfl, mon_const⟩,
  List.forall_mem_cons.mpr ⟨⟨xs_putf (ci := 1) (k := 2) tyX1 rfl (by decide) inX1 tyX1_ok nmX1 rfl (Or.inl ⟨rfl, rfl⟩) wg_101 (by decide +kernel : decode (MT 7).2.1 2 = .ok (.putfield 18, 3)), mon_putf⟩,
  List.forall_mem_cons.mpr ⟨⟨xs_aload_n (by decide +kernel : decode (MT 7).2.1 5 = .ok (.aload_n 0, 1)) rfl, mon_aload⟩,
  List.forall_mem_cons.mpr ⟨⟨xs_iload_n (by decide +kernel : decode (MT 7).2.1 6 = .ok (.iload_n 1, 1)) rfl, mon_iload⟩,
  List.forall_mem_cons.mpr ⟨⟨xs_iload_n (by decide +kernel : decode (MT 7).2.1 7 = .ok (.iload_n 2, 1)) rfl, mon_iload⟩,
  List.forall_mem_cons.mpr ⟨xk_V (ci := 1) (by decide +kernel : decode (MT 7).2.1 8 = .ok (.invokevirtual 30, 3)) rfl wg_477 wg_479 wg_s9 cal_X1_removePlace.2.1 cal_X1_removePlace.1 cal_X1_removePlace.2.2.1 rfl cal_X1_removePlace.2.2.2 (by decide) (by decide),
  List.forall_mem_cons.mpr ⟨⟨xs_iconst (by decide +kernel : decode (MT 7).2.1 11 = .ok (.iconst 0, 1)) rfl, mon_const⟩,
  List.forall_mem_cons.mpr ⟨⟨xs_istore (by decide +kernel : decode (MT 7).2.1 12 = .ok (.istore 4, 2)), mon_istore⟩,
  List.forall_mem_cons.mpr ⟨⟨xs_iload (by decide +kernel : decode (MT 7).2.1 14 = .ok (.iload 4, 2)), mon_iload⟩,
  List.forall_mem_cons.mpr ⟨⟨xs_aload_n (by decide +kernel : decode (MT 7).2.1 16 = .ok (.aload_n 0, 1)) rfl, mon_aload⟩,
  List.forall_mem_cons.mpr ⟨⟨xs_getf (ci := 1) (k := 1) rfl (by decide) inX1 wg_100 (by decide +kernel : decode (MT 7).2.1 17 = .ok (.getfield 15, 3)), mon_getf⟩,
  List.forall_mem_cons.mpr ⟨⟨xs_alen (by decide +kernel : decode (MT 7).2.1 20 = .ok (.arraylength, 1)), mon_alen⟩,
  List.forall_mem_cons.mpr ⟨⟨xs_icmp_ge (by decide +kernel : decode (MT 7).2.1 21 = .ok (.if_icmp .ge 134, 3)) (by decide), mon_if2⟩,
  List.forall_mem_cons.mpr ⟨⟨xs_iload (by decide +kernel : decode (MT 7).2.1 24 = .ok (.iload 4, 2)), mon_iload⟩,
  List.forall_mem_cons.mpr ⟨⟨xs_aload_n (by decide +kernel : decode (MT 7).2.1 26 = .ok (.aload_n 0, 1)) rfl, mon_aload⟩,
  List.forall_mem_cons.mpr ⟨⟨xs_getf (ci := 1) (k := 2) rfl (by decide) inX1 wg_101 (by decide +kernel : decode (MT 7).2.1 27 = .ok (.getfield 18, 3)), mon_getf⟩,
  List.forall_mem_cons.mpr ⟨⟨xs_icmp_ge (by decide +kernel : decode (MT 7).2.1 30 = .ok (.if_icmp .ge 125, 3)) (by decide), mon_if2⟩,
  List.forall_mem_cons.mpr ⟨⟨xs_aload_n (by decide +kernel : decode (MT 7).2.1 33 = .ok (.aload_n 0, 1)) rfl, mon_aload⟩,
  List.forall_mem_cons.mpr ⟨⟨xs_getf (ci := 1) (k := 1) rfl (by decide) inX1 wg_100 (by decide +kernel : decode (MT 7).2.1 34 = .ok (.getfield 15, 3)), mon_getf⟩,
  List.forall_mem_cons.mpr ⟨⟨xs_iload (by decide +kernel : decode (MT 7).2.1 37 = .ok (.iload 4, 2)), mon_iload⟩,
  List.forall_mem_cons.mpr ⟨⟨xs_iald (by decide +kernel : decode (MT 7).2.1 39 = .ok (.iaload, 1)), mon_iald⟩,
  List.forall_mem_cons.mpr ⟨⟨xs_bipush (by decide +kernel : decode (MT 7).2.1 40 = .ok (.bipush 32, 2)) rfl, mon_const⟩,
  List.forall_mem_cons.mpr ⟨⟨xs_irem (by decide +kernel : decode (MT 7).2.1 42 = .ok (.irem, 1)), mon_div⟩,
  List.forall_mem_cons.mpr ⟨⟨xs_istore (by decide +kernel : decode (MT 7).2.1 43 = .ok (.istore 5, 2)), mon_istore⟩,
  List.forall_mem_cons.mpr ⟨⟨xs_aload_n (by decide +kernel : decode (MT 7).2.1 45 = .ok (.aload_n 0, 1)) rfl, mon_aload⟩,
  List.forall_mem_cons.mpr ⟨⟨xs_getf (ci := 1) (k := 1) rfl (by decide) inX1 wg_100 (by decide +kernel : decode (MT 7).2.1 46 = .ok (.getfield 15, 3)), mon_getf⟩,
  List.forall_mem_cons.mpr ⟨⟨xs_iload (by decide +kernel : decode (MT 7).2.1 49 = .ok (.iload 4, 2)), mon_iload⟩,
  List.forall_mem_cons.mpr ⟨⟨xs_iald (by decide +kernel : decode (MT 7).2.1 51 = .ok (.iaload, 1)), mon_iald⟩,
  List.forall_mem_cons.mpr ⟨⟨xs_bipush (by decide +kernel : decode (MT 7).2.1 52 = .ok (.bipush 32, 2)) rfl, mon_const⟩,
  List.forall_mem_cons.mpr ⟨⟨xs_idiv (by decide +kernel : decode (MT 7).2.1 54 = .ok (.idiv, 1)), mon_div⟩,
  List.forall_mem_cons.mpr ⟨⟨xs_istore (by decide +kernel : decode (MT 7).2.1 55 = .ok (.istore 6, 2)), mon_istore⟩,
  List.forall_mem_cons.mpr ⟨⟨xs_aload_n (by decide +kernel : decode (MT 7).2.1 57 = .ok (.aload_n 0, 1)) rfl, mon_aload⟩,
  List.forall_mem_cons.mpr ⟨⟨xs_iload (by decide +kernel : decode (MT 7).2.1 58 = .ok (.iload 5, 2)), mon_iload⟩,
  List.forall_mem_cons.mpr ⟨⟨xs_iconst (by decide +kernel : decode (MT 7).2.1 60 = .ok (.iconst 1, 1)) rfl, mon_const⟩,
  List.forall_mem_cons.mpr ⟨⟨xs_isub (by decide +kernel : decode (MT 7).2.1 61 = .ok (.isub, 1)), mon_bin⟩,
  List.forall_mem_cons.mpr ⟨⟨xs_iload (by decide +kernel : decode (MT 7).2.1 62 = .ok (.iload 6, 2)), mon_iload⟩,
  List.forall_mem_cons.mpr ⟨xk_V (ci := 1) (by decide +kernel : decode (MT 7).2.1 64 = .ok (.invokevirtual 30, 3)) rfl wg_477 wg_479 wg_s9 cal_X1_removePlace.2.1 cal_X1_removePlace.1 cal_X1_removePlace.2.2.1 rfl cal_X1_removePlace.2.2.2 (by decide) (by decide),
  List.forall_mem_cons.mpr ⟨⟨xs_aload_n (by decide +kernel : decode (MT 7).2.1 67 = .ok (.aload_n 0, 1)) rfl, mon_aload⟩,
  List.forall_mem_cons.mpr ⟨⟨xs_iload (by decide +kernel : decode (MT 7).2.1 68 = .ok (.iload 5, 2)), mon_iload⟩,
  fun _ h => absurd h List.not_mem_nil⟩⟩⟩⟩⟩⟩⟩⟩⟩⟩⟩⟩⟩⟩⟩⟩⟩⟩⟩⟩⟩⟩⟩⟩⟩⟩⟩⟩⟩⟩⟩⟩⟩⟩⟩⟩⟩⟩⟩⟩
def kl_X1_removePiece_1 : List (Nat × En) := [(70, .inl (xo_const (.int 1) 71)), (71, .inl (xo_bin (fun x y => x + y) 72)), (72, .inl (xo_iload 6 74)), (74, .inr (8, 3, (some 1), 77)), (77, .inl (xo_aload 0 78)), (78, .inl (xo_iload 5 80)), (80, .inl (xo_iload 6 82)), (82, .inl (xo_const (.int 1) 83)), (83, .inl (xo_bin (fun x y => x - y) 84)), (84, .inr (8, 3, (some 1), 87)), (87, .inl (xo_aload 0 88)), (88, .inl (xo_iload 5 90)), (90, .inl (xo_iload 6 92)), (92, .inl (xo_const (.int 1) 93)), (93, .inl (xo_bin (fun x y => x + y) 94)), (94, .inr (8, 3, (some 1), 97)), (97, .inl (xo_iload 3 98)), (98, .inl (xo_if1 (fun x => decide (x = 0)) 149 101)), (101, .inl (xo_aload 0 102)), (102, .inl (xo_iload 5 104)), (104, .inl (xo_const (.int 1) 105)), (105, .inl (xo_bin (fun x y => x - y) 106)), (106, .inl (xo_iload 6 108)), (108, .inl (xo_const (.int 1) 109)), (109, .inl (xo_bin (fun x y => x - y) 110)), (110, .inr (8, 3, (some 1), 113)), (113, .inl (xo_aload 0 114)), (114, .inl (xo_iload 5 116)), (116, .inl (xo_const (.int 1) 117)), (117, .inl (xo_bin (fun x y => x + y) 118)), (118, .inl (xo_iload 6 120)), (120, .inl (xo_const (.int 1) 121)), (121, .inl (xo_bin (fun x y => x - y) 122)), (122, .inr (8, 3, (some 1), 125)), (125, .inl (xo_aload 0 126)), (126, .inl (xo_iload 5 128)), (128, .inl (xo_const (.int 1) 129)), (129, .inl (xo_bin (fun x y => x - y) 130)), (130, .inl (xo_iload 6 132)), (132, .inl (xo_const (.int 1) 133))]
set_option maxRecDepth 20000 in
theorem kg_X1_removePiece_1 : ∀ q ∈ kl_X1_removePiece_1, Gd 7 q := List.forall_mem_cons.mpr ⟨⟨xs_iconst (by decide +kernel : decode (MT 7).2.1 70 = .ok (.iconst 1, 1)) rfl, mon_const⟩,
  List.forall_mem_cons.mpr ⟨⟨xs_iadd (by decide +kernel : decode (MT 7).2.1 71 = .ok (.iadd, 1)), mon_bin⟩,
  List.forall_mem_cons.mpr ⟨⟨xs_iload (by decide +kernel : decode (MT 7).2.1 72 = .ok (.iload 6, 2)), mon_iload⟩,
  List.forall_mem_cons.mpr ⟨xk_V (ci := 1) (by decide +kernel : decode (MT 7).2.1 74 = .ok (.invokevirtual 30, 3)) rfl wg_477 wg_479 wg_s9 cal_X1_removePlace.2.1 cal_X1_removePlace.1 cal_X1_removePlace.2.2.1 rfl cal_X1_removePlace.2.2.2 (by decide) (by decide),
  List.forall_mem_cons.mpr ⟨⟨xs_aload_n (by decide +kernel : decode (MT 7).2.1 77 = .ok (.aload_n 0, 1)) rfl, mon_aload⟩,
  List.forall_mem_cons.mpr ⟨⟨xs_iload (by decide +kernel : decode (MT 7).2.1 78 = .ok (.iload 5, 2)), mon_iload⟩,
  List.forall_mem_cons.mpr ⟨⟨xs_iload (by decide +kernel : decode (MT 7).2.1 80 = .ok (.iload 6, 2)), mon_iload⟩,
  List.forall_mem_cons.mpr ⟨⟨xs_iconst (by decide +kernel : decode (MT 7).2.1 82 = .ok (.iconst 1, 1)) rfl, mon_const⟩,
  List.forall_mem_cons.mpr ⟨⟨xs_isub (by decide +kernel : decode (MT 7).2.1 83 = .ok (.isub, 1)), mon_bin⟩,
  List.forall_mem_cons.mpr ⟨xk_V (ci := 1) (by decide +kernel : decode (MT 7).2.1 84 = .ok (.invokevirtual 30, 3)) rfl wg_477 wg_479 wg_s9 cal_X1_removePlace.2.1 cal_X1_removePlace.1 cal_X1_removePlace.2.2.1 rfl cal_X1_removePlace.2.2.2 (by decide) (by decide),
  List.forall_mem_cons.mpr ⟨⟨xs_aload_n (by decide +kernel : decode (MT 7).2.1 87 = .ok (.aload_n 0, 1)) rfl, mon_aload⟩,
  List.forall_mem_cons.mpr ⟨⟨xs_iload (by decide +kernel : decode (MT 7).2.1 88 = .ok (.iload 5, 2)), mon_iload⟩,
  List.forall_mem_cons.mpr ⟨⟨xs_iload (by decide +kernel : decode (MT 7).2.1 90 = .ok (.iload 6, 2)), mon_iload⟩,
  List.forall_mem_cons.mpr ⟨⟨xs_iconst (by decide +kernel : decode (MT 7).2.1 92 = .ok (.iconst 1, 1)) rfl, mon_const⟩,
  List.forall_mem_cons.mpr ⟨⟨xs_iadd (by decide +kernel : decode (MT 7).2.1 93 = .ok (.iadd, 1)), mon_bin⟩,
  List.forall_mem_cons.mpr ⟨xk_V (ci := 1) (by decide +kernel : decode (MT 7).2.1 94 = .ok (.invokevirtual 30, 3)) rfl wg_477 wg_479 wg_s9 cal_X1_removePlace.2.1 cal_X1_removePlace.1 cal_X1_removePlace.2.2.1 rfl cal_X1_removePlace.2.2.2 (by decide) (by decide),
  List.forall_mem_cons.mpr ⟨⟨xs_iload_n (by decide +kernel : decode (MT 7).2.1 97 = .ok (.iload_n 3, 1)) rfl, mon_iload⟩,
  List.forall_mem_cons.mpr ⟨⟨xs_if_eq (by decide +kernel : decode (MT 7).2.1 98 = .ok (.ifCond .eq 51, 3)) (by decide), mon_if1⟩,
  List.forall_mem_cons.mpr ⟨⟨xs_aload_n (by decide +kernel : decode (MT 7).2.1 101 = .ok (.aload_n 0, 1)) rfl, mon_aload⟩,
  List.forall_mem_cons.mpr ⟨⟨xs_iload (by decide +kernel : decode (MT 7).2.1 102 = .ok (.iload 5, 2)), mon_iload⟩,
  List.forall_mem_cons.mpr ⟨⟨xs_iconst (by decide +kernel : decode (MT 7).2.1 104 = .ok (.iconst 1, 1)) rfl, mon_const⟩,
  List.forall_mem_cons.mpr ⟨⟨xs_isub (by decide +kernel : decode (MT 7).2.1 105 = .ok (.isub, 1)), mon_bin⟩,
  List.forall_mem_cons.mpr ⟨⟨xs_iload (by decide +kernel : decode (MT 7).2.1 106 = .ok (.iload 6, 2)), mon_iload⟩,
  List.forall_mem_cons.mpr ⟨⟨xs_iconst (by decide +kernel : decode (MT 7).2.1 108 = .ok (.iconst 1, 1)) rfl, mon_const⟩,
  List.forall_mem_cons.mpr ⟨⟨xs_isub (by decide +kernel : decode (MT 7).2.1 109 = .ok (.isub, 1)), mon_bin⟩,
  List.forall_mem_cons.mpr ⟨xk_V (ci := 1) (by decide +kernel : decode (MT 7).2.1 110 = .ok (.invokevirtual 30, 3)) rfl wg_477 wg_479 wg_s9 cal_X1_removePlace.2.1 cal_X1_removePlace.1 cal_X1_removePlace.2.2.1 rfl cal_X1_removePlace.2.2.2 (by decide) (by decide),
  List.forall_mem_cons.mpr ⟨⟨xs_aload_n (by decide +kernel : decode (MT 7).2.1 113 = .ok (.aload_n 0, 1)) rfl, mon_aload⟩,
  List.forall_mem_cons.mpr ⟨⟨xs_iload (by decide +kernel : decode (MT 7).2.1 114 = .ok (.iload 5, 2)), mon_iload⟩,
  List.forall_mem_cons.mpr ⟨⟨xs_iconst (by decide +kernel : decode (MT 7).2.1 116 = .ok (.iconst 1, 1)) rfl, mon_const⟩,
  List.forall_mem_cons.mpr ⟨⟨xs_iadd (by decide +kernel : decode (MT 7).2.1 117 = .ok (.iadd, 1)), mon_bin⟩,
  List.forall_mem_cons.mpr ⟨⟨xs_iload (by decide +kernel : decode (MT 7).2.1 118 = .ok (.iload 6, 2)), mon_iload⟩,
  List.forall_mem_cons.mpr ⟨⟨xs_iconst (by decide +kernel : decode (MT 7).2.1 120 = .ok (.iconst 1, 1)) rfl, mon_const⟩,
  List.forall_mem_cons.mpr ⟨⟨xs_isub (by decide +kernel : decode (MT 7).2.1 121 = .ok (.isub, 1)), mon_bin⟩,
  List.forall_mem_cons.mpr ⟨xk_V (ci := 1) (by decide +kernel : decode (MT 7).2.1 122 = .ok (.invokevirtual 30, 3)) rfl wg_477 wg_479 wg_s9 cal_X1_removePlace.2.1 cal_X1_removePlace.1 cal_X1_removePlace.2.2.1 rfl cal_X1_removePlace.2.2.2 (by decide) (by decide),
  List.forall_mem_cons.mpr ⟨⟨xs_aload_n (by decide +kernel : decode (MT 7).2.1 125 = .ok (.aload_n 0, 1)) rfl, mon_aload⟩,
  List.forall_mem_cons.mpr ⟨⟨xs_iload (by decide +kernel : decode (MT 7).2.1 126 = .ok (.iload 5, 2)), mon_iload⟩,
  List.forall_mem_cons.mpr ⟨⟨xs_iconst (by decide +kernel : decode (MT 7).2.1 128 = .ok (.iconst 1, 1)) rfl, mon_const⟩,
  List.forall_mem_cons.mpr ⟨⟨xs_isub (by decide +kernel : decode (MT 7).2.1 129 = .ok (.isub, 1)), mon_bin⟩,
  List.forall_mem_cons.mpr ⟨⟨xs_iload (by decide +kernel : decode (MT 7).2.1 130 = .ok (.iload 6, 2)), mon_iload⟩,
  List.forall_mem_cons.mpr ⟨⟨xs_iconst (by decide +kernel : decode (MT 7).2.1 132 = .ok (.iconst 1, 1)) rfl, mon_const⟩,
  fun _ h => absurd h List.not_mem_nil⟩⟩⟩⟩⟩⟩⟩⟩⟩⟩⟩⟩⟩⟩⟩⟩⟩⟩⟩⟩⟩⟩⟩⟩⟩⟩⟩⟩⟩⟩⟩⟩⟩⟩⟩⟩⟩⟩⟩⟩
def kl_X1_removePiece_2 : List (Nat × En) := [(133, .inl (xo_bin (fun x y => x + y) 134)), (134, .inr (8, 3, (some 1), 137)), (137, .inl (xo_aload 0 138)), (138, .inl (xo_iload 5 140)), (140, .inl (xo_const (.int 1) 141)), (141, .inl (xo_bin (fun x y => x + y) 142)), (142, .inl (xo_iload 6 144)), (144, .inl (xo_const (.int 1) 145)), (145, .inl (xo_bin (fun x y => x + y) 146)), (146, .inr (8, 3, (some 1), 149)), (149, .inl (xo_iinc 4 1 152)), (152, .inl (xo_goto 14)), (155, .inl (xo_aload 0 156)), (156, .inl (xo_getf 1 2 159)), (159, .inl (xo_if1 (fun x => decide (x ≤ 0)) 166 162)), (162, .inl (xo_const (.int 1) 163)), (163, .inl (xo_goto 167)), (166, .inl (xo_const (.int 0) 167)), (167, .inl (xo_zret))]
set_option maxRecDepth 20000 in
theorem kg_X1_removePiece_2 : ∀ q ∈ kl_X1_removePiece_2, Gd 7 q := List.forall_mem_cons.mpr ⟨⟨xs_iadd (by decide +kernel : decode (MT 7).2.1 133 = .ok (.iadd, 1)), mon_bin⟩,
  List.forall_mem_cons.mpr ⟨xk_V (ci := 1) (by decide +kernel : decode (MT 7).2.1 134 = .ok (.invokevirtual 30, 3)) rfl wg_477 wg_479 wg_s9 cal_X1_removePlace.2.1 cal_X1_removePlace.1 cal_X1_removePlace.2.2.1 rfl cal_X1_removePlace.2.2.2 (by decide) (by decide),
  List.forall_mem_cons.mpr ⟨⟨xs_aload_n (by decide +kernel : decode (MT 7).2.1 137 = .ok (.aload_n 0, 1)) rfl, mon_aload⟩,
  List.forall_mem_cons.mpr ⟨⟨xs_iload (by decide +kernel : decode (MT 7).2.1 138 = .ok (.iload 5, 2)), mon_iload⟩,
  List.forall_mem_cons.mpr ⟨⟨xs_iconst (by decide +kernel : decode (MT 7).2.1 140 = .ok (.iconst 1, 1)) rfl, mon_const⟩,
  List.forall_mem_cons.mpr ⟨⟨xs_iadd (by decide +kernel : decode (MT 7).2.1 141 = .ok (.iadd, 1)), mon_bin⟩,
  List.forall_mem_cons.mpr ⟨⟨xs_iload (by decide +kernel : decode (MT 7).2.1 142 = .ok (.iload 6, 2)), mon_iload⟩,
  List.forall_mem_cons.mpr ⟨⟨xs_iconst (by decide +kernel : decode (MT 7).2.1 144 = .ok (.iconst 1, 1)) rfl, mon_const⟩,
  List.forall_mem_cons.mpr ⟨⟨xs_iadd (by decide +kernel : decode (MT 7).2.1 145 = .ok (.iadd, 1)), mon_bin⟩,
  List.forall_mem_cons.mpr ⟨xk_V (ci := 1) (by decide +kernel : decode (MT 7).2.1 146 = .ok (.invokevirtual 30, 3)) rfl wg_477 wg_479 wg_s9 cal_X1_removePlace.2.1 cal_X1_removePlace.1 cal_X1_removePlace.2.2.1 rfl cal_X1_removePlace.2.2.2 (by decide) (by decide),
  List.forall_mem_cons.mpr ⟨⟨xs_iinc (by decide +kernel : decode (MT 7).2.1 149 = .ok (.iinc 4 1, 3)) rfl, mon_iinc⟩,
  List.forall_mem_cons.mpr ⟨⟨xs_goto (by decide +kernel : decode (MT 7).2.1 152 = .ok (.goto (-138), 3)) (by decide), mon_goto⟩,
  List.forall_mem_cons.mpr ⟨⟨xs_aload_n (by decide +kernel : decode (MT 7).2.1 155 = .ok (.aload_n 0, 1)) rfl, mon_aload⟩,
  List.forall_mem_cons.mpr ⟨⟨xs_getf (ci := 1) (k := 2) rfl (by decide) inX1 wg_101 (by decide +kernel : decode (MT 7).2.1 156 = .ok (.getfield 18, 3)), mon_getf⟩,
  List.forall_mem_cons.mpr ⟨⟨xs_if_le (by decide +kernel : decode (MT 7).2.1 159 = .ok (.ifCond .le 7, 3)) (by decide), mon_if1⟩,
  List.forall_mem_cons.mpr ⟨⟨xs_iconst (by decide +kernel : decode (MT 7).2.1 162 = .ok (.iconst 1, 1)) rfl, mon_const⟩,
  List.forall_mem_cons.mpr ⟨⟨xs_goto (by decide +kernel : decode (MT 7).2.1 163 = .ok (.goto 4, 3)) (by decide), mon_goto⟩,
  List.forall_mem_cons.mpr ⟨⟨xs_iconst (by decide +kernel : decode (MT 7).2.1 166 = .ok (.iconst 0, 1)) rfl, mon_const⟩,
  List.forall_mem_cons.mpr ⟨⟨xs_zret (by decide +kernel : decode (MT 7).2.1 167 = .ok (.ireturn, 1)) rfl, mon_zret⟩,
  fun _ h => absurd h List.not_mem_nil⟩⟩⟩⟩⟩⟩⟩⟩⟩⟩⟩⟩⟩⟩⟩⟩⟩⟩⟩
def kl_X1_removePiece : List (Nat × En) := kl_X1_removePiece_0 ++ kl_X1_removePiece_1 ++ kl_X1_removePiece_2
theorem kg_X1_removePiece : ∀ q ∈ kl_X1_removePiece, Gd 7 q := by
  intro q hq
  simp only [kl_X1_removePiece, List.mem_append] at hq
  rcases hq with (hq | hq) | hq
  · exact kg_X1_removePiece_0 q hq
  · exact kg_X1_removePiece_1 q hq
  · exact kg_X1_removePiece_2 q hq
def kl_X1_removePlace_0 : List (Nat × En) := [(0, .inl (xo_iload 1 1)), (1, .inl (xo_const (.int 0) 2)), (2, .inl (xo_const (.int 31) 4)), (4, .inr (98, 3, none, 7)), (7, .inl (xo_if1 (fun x => decide (x = 0)) 33 10)), (10, .inl (xo_iload 2 11)), (11, .inl (xo_const (.int 0) 12)), (12, .inl (xo_const (.int 31) 14)), (14, .inr (98, 3, none, 17)), (17, .inl (xo_if1 (fun x => decide (x = 0)) 33 20)), (20, .inl (xo_aload 0 21)), (21, .inl (xo_getf 1 0 24)), (24, .inl (xo_iload 2 25)), (25, .inl (xo_iald 26)), (26, .inl (xo_iload 1 27)), (27, .inl (xo_bin (fun x y => (x.toUInt32 >>> (y.toUInt32 &&& Int32.toUInt32 31)).toInt32) 28)), (28, .inl (xo_const (.int 1) 29)), (29, .inl (xo_bin (fun x y => x &&& y) 30)), (30, .inl (xo_if1 (fun x => decide (¬ x = 0)) 34 33)), (33, .inl (xo_vret)), (34, .inl (xo_aload 0 35)), (35, .inl (xo_getf 1 0 38)), (38, .inl (xo_iload 2 39)), (39, .inl (xo_dup2 40)), (40, .inl (xo_iald 41)), (41, .inl (xo_const (.int 1) 42)), (42, .inl (xo_iload 1 43)), (43, .inl (xo_bin (fun x y => x <<< (y &&& 31)) 44)), (44, .inl (xo_const (.int (-1)) 45)), (45, .inl (xo_bin (fun x y => x ^^^ y) 46)), (46, .inl (xo_bin (fun x y => x &&& y) 47)), (47, .inl (xo_iast 48)), (48, .inl (xo_aload 0 49)), (49, .inl (xo_getf 1 2 52)), (52, .inl (xo_aload 0 53)), (53, .inl (xo_getf 1 1 56)), (56, .inl (xo_alen 57)), (57, .inl (xo_if2 (fun x y => decide (x ≥ y)) 85 60)), (60, .inl (xo_aload 0 61)), (61, .inl (xo_getf 1 1 64))]
set_option maxRecDepth 20000 in
theorem kg_X1_removePlace_0 : ∀ q ∈ kl_X1_removePlace_0, Gd 8 q := List.forall_mem_cons.mpr ⟨⟨xs_iload_n (by decide +kernel : decode (MT 8).2.1 0 = .ok (.iload_n 1, 1)) rfl, mon_iload⟩,
  List.forall_mem_cons.mpr ⟨⟨xs_iconst (by decide +kernel : decode (MT 8).2.1 1 = .ok (.iconst 0, 1)) rfl, mon_const⟩,
  List.forall_mem_cons.mpr ⟨⟨xs_bipush (by decide +kernel : decode (MT 8).2.1 2 = .ok (.bipush 31, 2)) rfl, mon_const⟩,
  List.forall_mem_cons.mpr ⟨xk_SN (by decide +kernel : decode (MT 8).2.1 4 = .ok (.invokestatic 34, 3)) wn_481 wg_206 cal_X9_within.2.1 cal_X9_within.1 cal_X9_within.2.2.1 cal_X9_within.2.2.2 (by decide) (by decide),
  List.forall_mem_cons.mpr ⟨⟨xs_if_eq (by decide +kernel : decode (MT 8).2.1 7 = .ok (.ifCond .eq 26, 3)) (by decide), mon_if1⟩,
  List.forall_mem_cons.mpr ⟨⟨xs_iload_n (by decide +kernel : decode (MT 8).2.1 10 = .ok (.iload_n 2, 1)) rfl, mon_iload⟩,
  List.forall_mem_cons.mpr ⟨⟨xs_iconst (by decide +kernel : decode (MT 8).2.1 11 = .ok (.iconst 0, 1)) rfl, mon_const⟩,
  List.forall_mem_cons.mpr ⟨⟨xs_bipush (by decide +kernel : decode (MT 8).2.1 12 = .ok (.bipush 31, 2)) rfl, mon_const⟩,
  List.forall_mem_cons.mpr ⟨xk_SN (by decide +kernel : decode (MT 8).2.1 14 = .ok (.invokestatic 34, 3)) wn_481 wg_206 cal_X9_within.2.1 cal_X9_within.1 cal_X9_within.2.2.1 cal_X9_within.2.2.2 (by decide) (by decide),
  List.forall_mem_cons.mpr ⟨⟨xs_if_eq (by decide +kernel : decode (MT 8).2.1 17 = .ok (.ifCond .eq 16, 3)) (by decide), mon_if1⟩,
  List.forall_mem_cons.mpr ⟨⟨xs_aload_n (by decide +kernel : decode (MT 8).2.1 20 = .ok (.aload_n 0, 1)) rfl, mon_aload⟩,
  List.forall_mem_cons.mpr ⟨⟨xs_getf (ci := 1) (k := 0) rfl (by decide) inX1 wg_99 (by decide +kernel : decode (MT 8).2.1 21 = .ok (.getfield 9, 3)), mon_getf⟩,
  List.forall_mem_cons.mpr ⟨⟨xs_iload_n (by decide +kernel : decode (MT 8).2.1 24 = .ok (.iload_n 2, 1)) rfl, mon_iload⟩,
  List.forall_mem_cons.mpr ⟨⟨xs_iald (by decide +kernel : decode (MT 8).2.1 25 = .ok (.iaload, 1)), mon_iald⟩,
  List.forall_mem_cons.mpr ⟨⟨xs_iload_n (by decide +kernel : decode (MT 8).2.1 26 = .ok (.iload_n 1, 1)) rfl, mon_iload⟩,
  List.forall_mem_cons.mpr ⟨⟨xs_iushr (by decide +kernel : decode (MT 8).2.1 27 = .ok (.iushr, 1)), mon_bin⟩,
  List.forall_mem_cons.mpr ⟨⟨xs_iconst (by decide +kernel : decode (MT 8).2.1 28 = .ok (.iconst 1, 1)) rfl, mon_const⟩,
  List.forall_mem_cons.mpr ⟨⟨xs_iand (by decide +kernel : decode (MT 8).2.1 29 = .ok (.iand, 1)), mon_bin⟩,
  List.forall_mem_cons.mpr ⟨⟨xs_if_ne (by decide +kernel : decode (MT 8).2.1 30 = .ok (.ifCond .ne 4, 3)) (by decide), mon_if1⟩,
  List.forall_mem_cons.mpr ⟨⟨xs_vret (by decide +kernel : decode (MT 8).2.1 33 = .ok (.return_, 1)) rfl, mon_vret⟩,
  List.forall_mem_cons.mpr ⟨⟨xs_aload_n (by decide +kernel : decode (MT 8).2.1 34 = .ok (.aload_n 0, 1)) rfl, mon_aload⟩,
  List.forall_mem_cons.mpr ⟨⟨xs_getf (ci := 1) (k := 0) rfl (by decide) inX1 wg_99 (by decide +kernel : decode (MT 8).2.1 35 = .ok (.getfield 9, 3)), mon_getf⟩,
  List.forall_mem_cons.mpr ⟨⟨xs_iload_n (by decide +kernel : decode (MT 8).2.1 38 = .ok (.iload_n 2, 1)) rfl, mon_iload⟩,
  List.forall_mem_cons.mpr ⟨⟨xs_dup2 (by decide +kernel : decode (MT 8).2.1 39 = .ok (.dup2, 1)), mon_dup2⟩,
  List.forall_mem_cons.mpr ⟨⟨xs_iald (by decide +kernel : decode (MT 8).2.1 40 = .ok (.iaload, 1)), mon_iald⟩,
  List.forall_mem_cons.mpr ⟨⟨xs_iconst (by decide +kernel : decode (MT 8).2.1 41 = .ok (.iconst 1, 1)) rfl, mon_const⟩,
  List.forall_mem_cons.mpr ⟨⟨xs_iload_n (by decide +kernel : decode (MT 8).2.1 42 = .ok (.iload_n 1, 1)) rfl, mon_iload⟩,
  List.forall_mem_cons.mpr ⟨⟨xs_ishl (by decide +kernel : decode (MT 8).2.1 43 = .ok (.ishl, 1)), mon_bin⟩,
  List.forall_mem_cons.mpr ⟨⟨xs_iconst (by decide +kernel : decode (MT 8).2.1 44 = .ok (.iconst (-1), 1)) rfl, mon_const⟩,
  List.forall_mem_cons.mpr ⟨⟨xs_ixor (by decide +kernel : decode (MT 8).2.1 45 = .ok (.ixor, 1)), mon_bin⟩,
  List.forall_mem_cons.mpr ⟨⟨xs_iand (by decide +kernel : decode (MT 8).2.1 46 = .ok (.iand, 1)), mon_bin⟩,
  List.forall_mem_cons.mpr ⟨⟨xs_iast (by decide +kernel : decode (MT 8).2.1 47 = .ok (.iastore, 1)), mon_iast⟩,
  List.forall_mem_cons.mpr ⟨⟨xs_aload_n (by decide +kernel : decode (MT 8).2.1 48 = .ok (.aload_n 0, 1)) rfl, mon_aload⟩,
  List.forall_mem_cons.mpr ⟨⟨xs_getf (ci := 1) (k := 2) rfl (by decide) inX1 wg_101 (by decide +kernel : decode (MT 8).2.1 49 = .ok (.getfield 18, 3)), mon_getf⟩,
  List.forall_mem_cons.mpr ⟨⟨xs_aload_n (by decide +kernel : decode (MT 8).2.1 52 = .ok (.aload_n 0, 1)) rfl, mon_aload⟩,
  List.forall_mem_cons.mpr ⟨⟨xs_getf (ci := 1) (k := 1) rfl (by decide) inX1 wg_100 (by decide +kernel : decode (MT 8).2.1 53 = .ok (.getfield 15, 3)), mon_getf⟩,
  List.forall_mem_cons.mpr ⟨⟨xs_alen (by decide +kernel : decode (MT 8).2.1 56 = .ok (.arraylength, 1)), mon_alen⟩,
  List.forall_mem_cons.mpr ⟨⟨xs_icmp_ge (by decide +kernel : decode (MT 8).2.1 57 = .ok (.if_icmp .ge 28, 3)) (by decide), mon_if2⟩,
  List.forall_mem_cons.mpr ⟨⟨xs_aload_n (by decide +kernel : decode (MT 8).2.1 60 = .ok (.aload_n 0, 1)) rfl, mon_aload⟩,
  List.forall_mem_cons.mpr ⟨⟨xs_getf (ci := 1) (k := 1) rfl (by decide) inX1 wg_100 (by decide +kernel : decode (MT 8).2.1 61 = .ok (.getfield 15, 3)), mon_getf⟩,
  fun _ h => absurd h List.not_mem_nil⟩⟩⟩⟩⟩⟩⟩⟩⟩⟩⟩⟩⟩⟩⟩⟩⟩⟩⟩⟩⟩⟩⟩⟩⟩⟩⟩⟩⟩⟩⟩⟩⟩⟩⟩⟩⟩⟩⟩⟩
def kl_X1_removePlace_1 : List (Nat × En) := [(64, .inl (xo_aload 0 65)), (65, .inl (xo_getf 1 2 68)), (68, .inl (xo_iload 2 69)), (69, .inl (xo_const (.int 32) 71)), (71, .inl (xo_bin (fun x y => x * y) 72)), (72, .inl (xo_iload 1 73)), (73, .inl (xo_bin (fun x y => x + y) 74)), (74, .inl (xo_iast 75)), (75, .inl (xo_aload 0 76)), (76, .inl (xo_dup 77)), (77, .inl (xo_getf 1 2 80)), (80, .inl (xo_const (.int 1) 81)), (81, .inl (xo_bin (fun x y => x + y) 82)), (82, .inl (xo_putf 1 2 true 85)), (85, .inl (xo_vret))]
set_option maxRecDepth 20000 in
theorem kg_X1_removePlace_1 : ∀ q ∈ kl_X1_removePlace_1, Gd 8 q := List.forall_mem_cons.mpr ⟨⟨xs_aload_n (by decide +kernel : decode (MT 8).2.1 64 = .ok (.aload_n 0, 1)) rfl, mon_aload⟩,
  List.forall_mem_cons.mpr ⟨⟨xs_getf (ci := 1) (k := 2) rfl (by decide) inX1 wg_101 (by decide +kernel : decode (MT 8).2.1 65 = .ok (.getfield 18, 3)), mon_getf⟩,
  List.forall_mem_cons.mpr ⟨⟨xs_iload_n (by decide +kernel : decode (MT 8).2.1 68 = .ok (.iload_n 2, 1)) rfl, mon_iload⟩,
  List.forall_mem_cons.mpr ⟨⟨xs_bipush (by decide +kernel : decode (MT 8).2.1 69 = .ok (.bipush 32, 2)) rfl, mon_const⟩,
  List.forall_mem_cons.mpr ⟨⟨xs_imul (by decide +kernel : decode (MT 8).2.1 71 = .ok (.imul, 1)), mon_bin⟩,
  List.forall_mem_cons.mpr ⟨⟨xs_iload_n (by decide +kernel : decode (MT 8).2.1 72 = .ok (.iload_n 1, 1)) rfl, mon_iload⟩,
  List.forall_mem_cons.mpr ⟨⟨xs_iadd (by decide +kernel : decode (MT 8).2.1 73 = .ok (.iadd, 1)), mon_bin⟩,
  List.forall_mem_cons.mpr ⟨⟨xs_iast (by decide +kernel : decode (MT 8).2.1 74 = .ok (.iastore, 1)), mon_iast⟩,
  List.forall_mem_cons.mpr ⟨⟨xs_aload_n (by decide +kernel : decode (MT 8).2.1 75 = .ok (.aload_n 0, 1)) rfl, mon_aload⟩,
  List.forall_mem_cons.mpr ⟨⟨xs_dup (by decide +kernel : decode (MT 8).2.1 76 = .ok (.dup, 1)), mon_dup⟩,
  List.forall_mem_cons.mpr ⟨⟨xs_getf (ci := 1) (k := 2) rfl (by decide) inX1 wg_101 (by decide +kernel : decode (MT 8).2.1 77 = .ok (.getfield 18, 3)), mon_getf⟩,
  List.forall_mem_cons.mpr ⟨⟨xs_iconst (by decide +kernel : decode (MT 8).2.1 80 = .ok (.iconst 1, 1)) rfl, mon_const⟩,
  List.forall_mem_cons.mpr ⟨⟨xs_iadd (by decide +kernel : decode (MT 8).2.1 81 = .ok (.iadd, 1)), mon_bin⟩,
  List.forall_mem_cons.mpr ⟨⟨xs_putf (ci := 1) (k := 2) tyX1 rfl (by decide) inX1 tyX1_ok nmX1 rfl (Or.inl ⟨rfl, rfl⟩) wg_101 (by decide +kernel : decode (MT 8).2.1 82 = .ok (.putfield 18, 3)), mon_putf⟩,
  List.forall_mem_cons.mpr ⟨⟨xs_vret (by decide +kernel : decode (MT 8).2.1 85 = .ok (.return_, 1)) rfl, mon_vret⟩,
  fun _ h => absurd h List.not_mem_nil⟩⟩⟩⟩⟩⟩⟩⟩⟩⟩⟩⟩⟩⟩⟩
def kl_X1_removePlace : List (Nat × En) := kl_X1_removePlace_0 ++ kl_X1_removePlace_1
theorem kg_X1_removePlace : ∀ q ∈ kl_X1_removePlace, Gd 8 q := by
  intro q hq
  simp only [kl_X1_removePlace, List.mem_append] at hq
  rcases hq with hq | hq
  · exact kg_X1_removePlace_0 q hq
  · exact kg_X1_removePlace_1 q hq
def kl_X2_init_0 : List (Nat × En) := [(0, .inl (xo_aload 0 1)), (1, .inl (xo_oinit 4)), (4, .inl (xo_aload 0 5)), (5, .inl (xo_const (.int 64) 7)), (7, .inl (xo_newi 0 9)), (9, .inl (xo_putf 2 0 false 12)), (12, .inl (xo_aload 0 13)), (13, .inl (xo_const (.int (-9)) 15)), (15, .inl (xo_putf 2 1 true 18)), (18, .inl (xo_vret))]
set_option maxRecDepth 20000 in
theorem kg_X2_init_0 : ∀ q ∈ kl_X2_init_0, Gd 9 q := List.forall_mem_cons.mpr ⟨⟨xs_aload_n (by decide +kernel : decode (MT 9).2.1 0 = .ok (.aload_n 0, 1)) rfl, mon_aload⟩,
  List.forall_mem_cons.mpr ⟨⟨xs_oinit wg_83 wg_22 wg_oinit (by decide) (by decide) (by decide +kernel : decode (MT 9).2.1 1 = .ok (.invokespecial 3, 3)), mon_oinit⟩,
  List.forall_mem_cons.mpr ⟨⟨xs_aload_n (by decide +kernel : decode (MT 9).2.1 4 = .ok (.aload_n 0, 1)) rfl, mon_aload⟩,
  List.forall_mem_cons.mpr ⟨⟨xs_bipush (by decide +kernel : decode (MT 9).2.1 5 = .ok (.bipush 64, 2)) rfl, mon_const⟩,
  List.forall_mem_cons.mpr ⟨⟨xs_newi (Or.inl ⟨rfl, rfl⟩) wg_44 (by decide +kernel : decode (MT 9).2.1 7 = .ok (.newarray .int, 2)), mon_newi⟩,
  List.forall_mem_cons.mpr ⟨⟨xs_putfF (ci := 2) (k := 0) tyX2 rfl (by decide) inX2 tyX2_ok nmX2 rfl rfl rfl (Or.inr ⟨rfl, Or.inr ⟨_, rfl⟩⟩) wg_84 (by decide +kernel : decode (MT 9).2.1 9 = .ok (.putfield 9, 3)), mon_putf⟩,
  List.forall_mem_cons.mpr ⟨⟨xs_aload_n (by decide +kernel : decode (MT 9).2.1 12 = .ok (.aload_n 0, 1)) rfl, mon_aload⟩,
  List.forall_mem_cons.mpr ⟨⟨xs_bipush (by decide +kernel : decode (MT 9).2.1 13 = .ok (.bipush (-9), 2)) rfl, mon_const⟩,
  List.forall_mem_cons.mpr ⟨⟨xs_putf (ci := 2) (k := 1) tyX2 rfl (by decide) inX2 tyX2_ok nmX2 rfl (Or.inl ⟨rfl, rfl⟩) wg_86 (by decide +kernel : decode (MT 9).2.1 15 = .ok (.putfield 15, 3)), mon_putf⟩,
  List.forall_mem_cons.mpr ⟨⟨xs_vret (by decide +kernel : decode (MT 9).2.1 18 = .ok (.return_, 1)) rfl, mon_vret⟩,
  fun _ h => absurd h List.not_mem_nil⟩⟩⟩⟩⟩⟩⟩⟩⟩⟩
def kl_X2_init : List (Nat × En) := kl_X2_init_0
theorem kg_X2_init : ∀ q ∈ kl_X2_init, Gd 9 q := kg_X2_init_0
def kl_X2_open_0 : List (Nat × En) := [(0, .inl (xo_aload 0 1)), (1, .inl (xo_getf 2 0 4)), (4, .inl (xo_const (.int 0) 5)), (5, .inr (194, 2, none, 8)), (8, .inl (xo_aload 0 9)), (9, .inl (xo_iload 1 10)), (10, .inl (xo_putf 2 1 true 13)), (13, .inl (xo_vret))]
set_option maxRecDepth 20000 in
theorem kg_X2_open_0 : ∀ q ∈ kl_X2_open_0, Gd 10 q := List.forall_mem_cons.mpr ⟨⟨xs_aload_n (by decide +kernel : decode (MT 10).2.1 0 = .ok (.aload_n 0, 1)) rfl, mon_aload⟩,
  List.forall_mem_cons.mpr ⟨⟨xs_getf (ci := 2) (k := 0) rfl (by decide) inX2 wg_84 (by decide +kernel : decode (MT 10).2.1 1 = .ok (.getfield 9, 3)), mon_getf⟩,
  List.forall_mem_cons.mpr ⟨⟨xs_iconst (by decide +kernel : decode (MT 10).2.1 4 = .ok (.iconst 0, 1)) rfl, mon_const⟩,
  List.forall_mem_cons.mpr ⟨xk_S (by decide +kernel : decode (MT 10).2.1 5 = .ok (.invokestatic 19, 3)) wg_641 wg_382 cal_J7_fill_53178.2.1 cal_J7_fill_53178.1 cal_J7_fill_53178.2.2.1 cal_J7_fill_53178.2.2.2 (by decide) (by decide),
  List.forall_mem_cons.mpr ⟨⟨xs_aload_n (by decide +kernel : decode (MT 10).2.1 8 = .ok (.aload_n 0, 1)) rfl, mon_aload⟩,
  List.forall_mem_cons.mpr ⟨⟨xs_iload_n (by decide +kernel : decode (MT 10).2.1 9 = .ok (.iload_n 1, 1)) rfl, mon_iload⟩,
  List.forall_mem_cons.mpr ⟨⟨xs_putf (ci := 2) (k := 1) tyX2 rfl (by decide) inX2 tyX2_ok nmX2 rfl (Or.inl ⟨rfl, rfl⟩) wg_86 (by decide +kernel : decode (MT 10).2.1 10 = .ok (.putfield 15, 3)), mon_putf⟩,
  List.forall_mem_cons.mpr ⟨⟨xs_vret (by decide +kernel : decode (MT 10).2.1 13 = .ok (.return_, 1)) rfl, mon_vret⟩,
  fun _ h => absurd h List.not_mem_nil⟩⟩⟩⟩⟩⟩⟩⟩
def kl_X2_open : List (Nat × En) := kl_X2_open_0
theorem kg_X2_open : ∀ q ∈ kl_X2_open, Gd 10 q := kg_X2_open_0
def kl_X2_close_0 : List (Nat × En) := [(0, .inl (xo_aload 0 1)), (1, .inl (xo_const (.int (-9)) 3)), (3, .inl (xo_putf 2 1 true 6)), (6, .inl (xo_vret))]
set_option maxRecDepth 20000 in
theorem kg_X2_close_0 : ∀ q ∈ kl_X2_close_0, Gd 11 q := List.forall_mem_cons.mpr ⟨⟨xs_aload_n (by decide +kernel : decode (MT 11).2.1 0 = .ok (.aload_n 0, 1)) rfl, mon_aload⟩,
  List.forall_mem_cons.mpr ⟨⟨xs_bipush (by decide +kernel : decode (MT 11).2.1 1 = .ok (.bipush (-9), 2)) rfl, mon_const⟩,
  List.forall_mem_cons.mpr ⟨⟨xs_putf (ci := 2) (k := 1) tyX2 rfl (by decide) inX2 tyX2_ok nmX2 rfl (Or.inl ⟨rfl, rfl⟩) wg_86 (by decide +kernel : decode (MT 11).2.1 3 = .ok (.putfield 15, 3)), mon_putf⟩,
  List.forall_mem_cons.mpr ⟨⟨xs_vret (by decide +kernel : decode (MT 11).2.1 6 = .ok (.return_, 1)) rfl, mon_vret⟩,
  fun _ h => absurd h List.not_mem_nil⟩⟩⟩⟩
def kl_X2_close : List (Nat × En) := kl_X2_close_0
theorem kg_X2_close : ∀ q ∈ kl_X2_close, Gd 11 q := kg_X2_close_0
def kl_X2_faultAt_0 : List (Nat × En) := [(0, .inl (xo_aload 0 1)), (1, .inl (xo_getf 2 1 4)), (4, .inl (xo_const (.int (-9)) 6)), (6, .inl (xo_if2 (fun x y => decide (¬ x = y)) 12 9)), (9, .inl (xo_const (.int (-11)) 11)), (11, .inl (xo_iret)), (12, .inl (xo_iload 1 13)), (13, .inl (xo_const (.int 0) 14)), (14, .inl (xo_aload 0 15)), (15, .inl (xo_getf 2 1 18)), (18, .inl (xo_const (.int 1) 19)), (19, .inl (xo_bin (fun x y => x - y) 20)), (20, .inr (98, 3, none, 23)), (23, .inl (xo_if1 (fun x => decide (x = 0)) 30 26)), (26, .inl (xo_const (.int 0) 27)), (27, .inl (xo_goto 32)), (30, .inl (xo_const (.int (-13)) 32)), (32, .inl (xo_iret))]
set_option maxRecDepth 20000 in
theorem kg_X2_faultAt_0 : ∀ q ∈ kl_X2_faultAt_0, Gd 12 q := List.forall_mem_cons.mpr ⟨⟨xs_aload_n (by decide +kernel : decode (MT 12).2.1 0 = .ok (.aload_n 0, 1)) rfl, mon_aload⟩,
  List.forall_mem_cons.mpr ⟨⟨xs_getf (ci := 2) (k := 1) rfl (by decide) inX2 wg_86 (by decide +kernel : decode (MT 12).2.1 1 = .ok (.getfield 15, 3)), mon_getf⟩,
  List.forall_mem_cons.mpr ⟨⟨xs_bipush (by decide +kernel : decode (MT 12).2.1 4 = .ok (.bipush (-9), 2)) rfl, mon_const⟩,
  List.forall_mem_cons.mpr ⟨⟨xs_icmp_ne (by decide +kernel : decode (MT 12).2.1 6 = .ok (.if_icmp .ne 6, 3)) (by decide), mon_if2⟩,
  List.forall_mem_cons.mpr ⟨⟨xs_bipush (by decide +kernel : decode (MT 12).2.1 9 = .ok (.bipush (-11), 2)) rfl, mon_const⟩,
  List.forall_mem_cons.mpr ⟨⟨xs_iret (by decide +kernel : decode (MT 12).2.1 11 = .ok (.ireturn, 1)) rfl, mon_iret⟩,
  List.forall_mem_cons.mpr ⟨⟨xs_iload_n (by decide +kernel : decode (MT 12).2.1 12 = .ok (.iload_n 1, 1)) rfl, mon_iload⟩,
  List.forall_mem_cons.mpr ⟨⟨xs_iconst (by decide +kernel : decode (MT 12).2.1 13 = .ok (.iconst 0, 1)) rfl, mon_const⟩,
  List.forall_mem_cons.mpr ⟨⟨xs_aload_n (by decide +kernel : decode (MT 12).2.1 14 = .ok (.aload_n 0, 1)) rfl, mon_aload⟩,
  List.forall_mem_cons.mpr ⟨⟨xs_getf (ci := 2) (k := 1) rfl (by decide) inX2 wg_86 (by decide +kernel : decode (MT 12).2.1 15 = .ok (.getfield 15, 3)), mon_getf⟩,
  List.forall_mem_cons.mpr ⟨⟨xs_iconst (by decide +kernel : decode (MT 12).2.1 18 = .ok (.iconst 1, 1)) rfl, mon_const⟩,
  List.forall_mem_cons.mpr ⟨⟨xs_isub (by decide +kernel : decode (MT 12).2.1 19 = .ok (.isub, 1)), mon_bin⟩,
  List.forall_mem_cons.mpr ⟨xk_SN (by decide +kernel : decode (MT 12).2.1 20 = .ok (.invokestatic 25, 3)) wn_650 wg_206 cal_X9_within.2.1 cal_X9_within.1 cal_X9_within.2.2.1 cal_X9_within.2.2.2 (by decide) (by decide),
  List.forall_mem_cons.mpr ⟨⟨xs_if_eq (by decide +kernel : decode (MT 12).2.1 23 = .ok (.ifCond .eq 7, 3)) (by decide), mon_if1⟩,
  List.forall_mem_cons.mpr ⟨⟨xs_iconst (by decide +kernel : decode (MT 12).2.1 26 = .ok (.iconst 0, 1)) rfl, mon_const⟩,
  List.forall_mem_cons.mpr ⟨⟨xs_goto (by decide +kernel : decode (MT 12).2.1 27 = .ok (.goto 5, 3)) (by decide), mon_goto⟩,
  List.forall_mem_cons.mpr ⟨⟨xs_bipush (by decide +kernel : decode (MT 12).2.1 30 = .ok (.bipush (-13), 2)) rfl, mon_const⟩,
  List.forall_mem_cons.mpr ⟨⟨xs_iret (by decide +kernel : decode (MT 12).2.1 32 = .ok (.ireturn, 1)) rfl, mon_iret⟩,
  fun _ h => absurd h List.not_mem_nil⟩⟩⟩⟩⟩⟩⟩⟩⟩⟩⟩⟩⟩⟩⟩⟩⟩⟩
def kl_X2_faultAt : List (Nat × En) := kl_X2_faultAt_0
theorem kg_X2_faultAt : ∀ q ∈ kl_X2_faultAt, Gd 12 q := kg_X2_faultAt_0
def kl_X3_init_0 : List (Nat × En) := [(0, .inl (xo_aload 0 1)), (1, .inl (xo_oinit 4)), (4, .inl (xo_aload 0 5)), (5, .inl (xo_const (.int 66) 7)), (7, .inl (xo_newi 0 9)), (9, .inl (xo_putf 3 0 false 12)), (12, .inl (xo_aload 0 13)), (13, .inl (xo_const (.int 0) 14)), (14, .inl (xo_putf 3 1 true 17)), (17, .inl (xo_vret))]
set_option maxRecDepth 20000 in
theorem kg_X3_init_0 : ∀ q ∈ kl_X3_init_0, Gd 13 q := List.forall_mem_cons.mpr ⟨⟨xs_aload_n (by decide +kernel : decode (MT 13).2.1 0 = .ok (.aload_n 0, 1)) rfl, mon_aload⟩,
  List.forall_mem_cons.mpr ⟨⟨xs_oinit wg_114 wg_22 wg_oinit (by decide) (by decide) (by decide +kernel : decode (MT 13).2.1 1 = .ok (.invokespecial 3, 3)), mon_oinit⟩,
  List.forall_mem_cons.mpr ⟨⟨xs_aload_n (by decide +kernel : decode (MT 13).2.1 4 = .ok (.aload_n 0, 1)) rfl, mon_aload⟩,
  List.forall_mem_cons.mpr ⟨⟨xs_bipush (by decide +kernel : decode (MT 13).2.1 5 = .ok (.bipush 66, 2)) rfl, mon_const⟩,
  List.forall_mem_cons.mpr ⟨⟨xs_newi (Or.inl ⟨rfl, rfl⟩) wg_44 (by decide +kernel : decode (MT 13).2.1 7 = .ok (.newarray .int, 2)), mon_newi⟩,
  List.forall_mem_cons.mpr ⟨⟨xs_putfF (ci := 3) (k := 0) tyX3 rfl (by decide) inX3 tyX3_ok nmX3 rfl rfl rfl (Or.inr ⟨rfl, Or.inr ⟨_, rfl⟩⟩) wg_115 (by decide +kernel : decode (MT 13).2.1 9 = .ok (.putfield 9, 3)), mon_putf⟩,
  List.forall_mem_cons.mpr ⟨⟨xs_aload_n (by decide +kernel : decode (MT 13).2.1 12 = .ok (.aload_n 0, 1)) rfl, mon_aload⟩,
  List.forall_mem_cons.mpr ⟨⟨xs_iconst (by decide +kernel : decode (MT 13).2.1 13 = .ok (.iconst 0, 1)) rfl, mon_const⟩,
  List.forall_mem_cons.mpr ⟨⟨xs_putf (ci := 3) (k := 1) tyX3 rfl (by decide) inX3 tyX3_ok nmX3 rfl (Or.inl ⟨rfl, rfl⟩) wg_116 (by decide +kernel : decode (MT 13).2.1 14 = .ok (.putfield 15, 3)), mon_putf⟩,
  List.forall_mem_cons.mpr ⟨⟨xs_vret (by decide +kernel : decode (MT 13).2.1 17 = .ok (.return_, 1)) rfl, mon_vret⟩,
  fun _ h => absurd h List.not_mem_nil⟩⟩⟩⟩⟩⟩⟩⟩⟩⟩
def kl_X3_init : List (Nat × En) := kl_X3_init_0
theorem kg_X3_init : ∀ q ∈ kl_X3_init, Gd 13 q := kg_X3_init_0
def kl_X3_lengthOf_0 : List (Nat × En) := [(0, .inl (xo_const (.int 0) 1)), (1, .inl (xo_istore 1 2)), (2, .inl (xo_const (.int 0) 3)), (3, .inl (xo_istore 2 4)), (4, .inl (xo_iload 2 5)), (5, .inl (xo_const (.int 8) 7)), (7, .inl (xo_if2 (fun x y => decide (x ≥ y)) 29 10)), (10, .inl (xo_iload 0 11)), (11, .inl (xo_const (.int 2) 12)), (12, .inl (xo_iload 2 13)), (13, .inl (xo_bin (fun x y => x * y) 14)), (14, .inl (xo_bin (fun x y => (x.toUInt32 >>> (y.toUInt32 &&& Int32.toUInt32 31)).toInt32) 15)), (15, .inl (xo_const (.int 3) 16)), (16, .inl (xo_bin (fun x y => x &&& y) 17)), (17, .inl (xo_if1 (fun x => decide (x = 0)) 23 20)), (20, .inl (xo_iinc 1 1 23)), (23, .inl (xo_iinc 2 1 26)), (26, .inl (xo_goto 4)), (29, .inl (xo_iload 1 30)), (30, .inl (xo_iret))]
set_option maxRecDepth 20000 in
theorem kg_X3_lengthOf_0 : ∀ q ∈ kl_X3_lengthOf_0, Gd 14 q := List.forall_mem_cons.mpr ⟨⟨xs_iconst (by decide +kernel : decode (MT 14).2.1 0 = .ok (.iconst 0, 1)) rfl, mon_const⟩,
  List.forall_mem_cons.mpr ⟨⟨xs_istore_n (by decide +kernel : decode (MT 14).2.1 1 = .ok (.istore_n 1, 1)) rfl, mon_istore⟩,
  List.forall_mem_cons.mpr ⟨⟨xs_iconst (by decide +kernel : decode (MT 14).2.1 2 = .ok (.iconst 0, 1)) rfl, mon_const⟩,
  List.forall_mem_cons.mpr ⟨⟨xs_istore_n (by decide +kernel : decode (MT 14).2.1 3 = .ok (.istore_n 2, 1)) rfl, mon_istore⟩,
  List.forall_mem_cons.mpr ⟨⟨xs_iload_n (by decide +kernel : decode (MT 14).2.1 4 = .ok (.iload_n 2, 1)) rfl, mon_iload⟩,
  List.forall_mem_cons.mpr ⟨⟨xs_bipush (by decide +kernel : decode (MT 14).2.1 5 = .ok (.bipush 8, 2)) rfl, mon_const⟩,
  List.forall_mem_cons.mpr ⟨⟨xs_icmp_ge (by decide +kernel : decode (MT 14).2.1 7 = .ok (.if_icmp .ge 22, 3)) (by decide), mon_if2⟩,
  List.forall_mem_cons.mpr ⟨⟨xs_iload_n (by decide +kernel : decode (MT 14).2.1 10 = .ok (.iload_n 0, 1)) rfl, mon_iload⟩,
  List.forall_mem_cons.mpr ⟨⟨xs_iconst (by decide +kernel : decode (MT 14).2.1 11 = .ok (.iconst 2, 1)) rfl, mon_const⟩,
  List.forall_mem_cons.mpr ⟨⟨xs_iload_n (by decide +kernel : decode (MT 14).2.1 12 = .ok (.iload_n 2, 1)) rfl, mon_iload⟩,
  List.forall_mem_cons.mpr ⟨⟨xs_imul (by decide +kernel : decode (MT 14).2.1 13 = .ok (.imul, 1)), mon_bin⟩,
  List.forall_mem_cons.mpr ⟨⟨xs_iushr (by decide +kernel : decode (MT 14).2.1 14 = .ok (.iushr, 1)), mon_bin⟩,
  List.forall_mem_cons.mpr ⟨⟨xs_iconst (by decide +kernel : decode (MT 14).2.1 15 = .ok (.iconst 3, 1)) rfl, mon_const⟩,
  List.forall_mem_cons.mpr ⟨⟨xs_iand (by decide +kernel : decode (MT 14).2.1 16 = .ok (.iand, 1)), mon_bin⟩,
  List.forall_mem_cons.mpr ⟨⟨xs_if_eq (by decide +kernel : decode (MT 14).2.1 17 = .ok (.ifCond .eq 6, 3)) (by decide), mon_if1⟩,
  List.forall_mem_cons.mpr ⟨⟨xs_iinc (by decide +kernel : decode (MT 14).2.1 20 = .ok (.iinc 1 1, 3)) rfl, mon_iinc⟩,
  List.forall_mem_cons.mpr ⟨⟨xs_iinc (by decide +kernel : decode (MT 14).2.1 23 = .ok (.iinc 2 1, 3)) rfl, mon_iinc⟩,
  List.forall_mem_cons.mpr ⟨⟨xs_goto (by decide +kernel : decode (MT 14).2.1 26 = .ok (.goto (-22), 3)) (by decide), mon_goto⟩,
  List.forall_mem_cons.mpr ⟨⟨xs_iload_n (by decide +kernel : decode (MT 14).2.1 29 = .ok (.iload_n 1, 1)) rfl, mon_iload⟩,
  List.forall_mem_cons.mpr ⟨⟨xs_iret (by decide +kernel : decode (MT 14).2.1 30 = .ok (.ireturn, 1)) rfl, mon_iret⟩,
  fun _ h => absurd h List.not_mem_nil⟩⟩⟩⟩⟩⟩⟩⟩⟩⟩⟩⟩⟩⟩⟩⟩⟩⟩⟩⟩
def kl_X3_lengthOf : List (Nat × En) := kl_X3_lengthOf_0
theorem kg_X3_lengthOf : ∀ q ∈ kl_X3_lengthOf, Gd 14 q := kg_X3_lengthOf_0
def kl_X3_clear_0 : List (Nat × En) := [(0, .inl (xo_aload 0 1)), (1, .inl (xo_const (.int 0) 2)), (2, .inl (xo_putf 3 1 true 5)), (5, .inl (xo_vret))]
set_option maxRecDepth 20000 in
theorem kg_X3_clear_0 : ∀ q ∈ kl_X3_clear_0, Gd 15 q := List.forall_mem_cons.mpr ⟨⟨xs_aload_n (by decide +kernel : decode (MT 15).2.1 0 = .ok (.aload_n 0, 1)) rfl, mon_aload⟩,
  List.forall_mem_cons.mpr ⟨⟨xs_iconst (by decide +kernel : decode (MT 15).2.1 1 = .ok (.iconst 0, 1)) rfl, mon_const⟩,
  List.forall_mem_cons.mpr ⟨⟨xs_putf (ci := 3) (k := 1) tyX3 rfl (by decide) inX3 tyX3_ok nmX3 rfl (Or.inl ⟨rfl, rfl⟩) wg_116 (by decide +kernel : decode (MT 15).2.1 2 = .ok (.putfield 15, 3)), mon_putf⟩,
  List.forall_mem_cons.mpr ⟨⟨xs_vret (by decide +kernel : decode (MT 15).2.1 5 = .ok (.return_, 1)) rfl, mon_vret⟩,
  fun _ h => absurd h List.not_mem_nil⟩⟩⟩⟩
def kl_X3_clear : List (Nat × En) := kl_X3_clear_0
theorem kg_X3_clear : ∀ q ∈ kl_X3_clear, Gd 15 q := kg_X3_clear_0
def kl_X3_addAll_0 : List (Nat × En) := [(0, .inl (xo_aload 1 1)), (1, .inl (xo_getf 6 0 4)), (4, .inl (xo_astore 3 5)), (5, .inl (xo_aload 3 6)), (6, .inl (xo_alen 7)), (7, .inl (xo_istore 4 9)), (9, .inl (xo_const (.int 0) 10)), (10, .inl (xo_istore 5 12)), (12, .inl (xo_iload 5 14)), (14, .inl (xo_iload 4 16)), (16, .inl (xo_if2 (fun x y => decide (x ≥ y)) 46 19)), (19, .inl (xo_aload 3 20)), (20, .inl (xo_iload 5 22)), (22, .inl (xo_aald 23)), (23, .inl (xo_astore 6 25)), (25, .inl (xo_aload 6 27)), (27, .inl (xo_null 40 30)), (30, .inl (xo_aload 0 31)), (31, .inl (xo_aload 6 33)), (33, .inl (xo_iload 2 34)), (34, .inr (56, 2, (some 8), 37)), (37, .inr (17, 2, (some 3), 40)), (40, .inl (xo_iinc 5 1 43)), (43, .inl (xo_goto 12)), (46, .inl (xo_vret))]
set_option maxRecDepth 20000 in
theorem kg_X3_addAll_0 : ∀ q ∈ kl_X3_addAll_0, Gd 16 q := List.forall_mem_cons.mpr ⟨⟨xs_aload_n (by decide +kernel : decode (MT 16).2.1 0 = .ok (.aload_n 1, 1)) rfl, mon_aload⟩,
  List.forall_mem_cons.mpr ⟨⟨xs_getfN (ci := 6) (k := 0) rfl (by decide) inX6 wn_54 (by decide +kernel : decode (MT 16).2.1 1 = .ok (.getfield 19, 3)), mon_getf⟩,
  List.forall_mem_cons.mpr ⟨⟨xs_astore_n (by decide +kernel : decode (MT 16).2.1 4 = .ok (.astore_n 3, 1)) rfl, mon_astore⟩,
  List.forall_mem_cons.mpr ⟨⟨xs_aload_n (by decide +kernel : decode (MT 16).2.1 5 = .ok (.aload_n 3, 1)) rfl, mon_aload⟩,
  List.forall_mem_cons.mpr ⟨⟨xs_alen (by decide +kernel : decode (MT 16).2.1 6 = .ok (.arraylength, 1)), mon_alen⟩,
  List.forall_mem_cons.mpr ⟨⟨xs_istore (by decide +kernel : decode (MT 16).2.1 7 = .ok (.istore 4, 2)), mon_istore⟩,
  List.forall_mem_cons.mpr ⟨⟨xs_iconst (by decide +kernel : decode (MT 16).2.1 9 = .ok (.iconst 0, 1)) rfl, mon_const⟩,
  List.forall_mem_cons.mpr ⟨⟨xs_istore (by decide +kernel : decode (MT 16).2.1 10 = .ok (.istore 5, 2)), mon_istore⟩,
  List.forall_mem_cons.mpr ⟨⟨xs_iload (by decide +kernel : decode (MT 16).2.1 12 = .ok (.iload 5, 2)), mon_iload⟩,
  List.forall_mem_cons.mpr ⟨⟨xs_iload (by decide +kernel : decode (MT 16).2.1 14 = .ok (.iload 4, 2)), mon_iload⟩,
  List.forall_mem_cons.mpr ⟨⟨xs_icmp_ge (by decide +kernel : decode (MT 16).2.1 16 = .ok (.if_icmp .ge 30, 3)) (by decide), mon_if2⟩,
  List.forall_mem_cons.mpr ⟨⟨xs_aload_n (by decide +kernel : decode (MT 16).2.1 19 = .ok (.aload_n 3, 1)) rfl, mon_aload⟩,
  List.forall_mem_cons.mpr ⟨⟨xs_iload (by decide +kernel : decode (MT 16).2.1 20 = .ok (.iload 5, 2)), mon_iload⟩,
  List.forall_mem_cons.mpr ⟨⟨xs_aald (by decide +kernel : decode (MT 16).2.1 22 = .ok (.aaload, 1)), mon_aald⟩,
  List.forall_mem_cons.mpr ⟨⟨xs_astore (by decide +kernel : decode (MT 16).2.1 23 = .ok (.astore 6, 2)), mon_astore⟩,
  List.forall_mem_cons.mpr ⟨⟨xs_aload (by decide +kernel : decode (MT 16).2.1 25 = .ok (.aload 6, 2)), mon_aload⟩,
  List.forall_mem_cons.mpr ⟨⟨xs_ifnull (by decide +kernel : decode (MT 16).2.1 27 = .ok (.ifnull 13, 3)) (by decide), mon_null⟩,
  List.forall_mem_cons.mpr ⟨⟨xs_aload_n (by decide +kernel : decode (MT 16).2.1 30 = .ok (.aload_n 0, 1)) rfl, mon_aload⟩,
  List.forall_mem_cons.mpr ⟨⟨xs_aload (by decide +kernel : decode (MT 16).2.1 31 = .ok (.aload 6, 2)), mon_aload⟩,
  List.forall_mem_cons.mpr ⟨⟨xs_iload_n (by decide +kernel : decode (MT 16).2.1 33 = .ok (.iload_n 2, 1)) rfl, mon_iload⟩,
  List.forall_mem_cons.mpr ⟨xk_V (ci := 8) (by decide +kernel : decode (MT 16).2.1 34 = .ok (.invokevirtual 25, 3)) rfl wg_550 wg_327 wg_328 cal_X8_kindCode.2.1 cal_X8_kindCode.1 cal_X8_kindCode.2.2.1 rfl cal_X8_kindCode.2.2.2 (by decide) (by decide),
  List.forall_mem_cons.mpr ⟨xk_V (ci := 3) (by decide +kernel : decode (MT 16).2.1 37 = .ok (.invokevirtual 31, 3)) rfl wg_551 wg_553 wg_s12 cal_X3_add.2.1 cal_X3_add.1 cal_X3_add.2.2.1 rfl cal_X3_add.2.2.2 (by decide) (by decide),
  List.forall_mem_cons.mpr ⟨⟨xs_iinc (by decide +kernel : decode (MT 16).2.1 40 = .ok (.iinc 5 1, 3)) rfl, mon_iinc⟩,
  List.forall_mem_cons.mpr ⟨⟨xs_goto (by decide +kernel : decode (MT 16).2.1 43 = .ok (.goto (-31), 3)) (by decide), mon_goto⟩,
  List.forall_mem_cons.mpr ⟨⟨xs_vret (by decide +kernel : decode (MT 16).2.1 46 = .ok (.return_, 1)) rfl, mon_vret⟩,
  fun _ h => absurd h List.not_mem_nil⟩⟩⟩⟩⟩⟩⟩⟩⟩⟩⟩⟩⟩⟩⟩⟩⟩⟩⟩⟩⟩⟩⟩⟩⟩
def kl_X3_addAll : List (Nat × En) := kl_X3_addAll_0
theorem kg_X3_addAll : ∀ q ∈ kl_X3_addAll, Gd 16 q := kg_X3_addAll_0
def kl_X3_add_0 : List (Nat × En) := [(0, .inl (xo_aload 0 1)), (1, .inl (xo_iload 1 2)), (2, .inr (18, 2, (some 3), 5)), (5, .inl (xo_if1 (fun x => decide (¬ x = 0)) 40 8)), (8, .inl (xo_aload 0 9)), (9, .inl (xo_getf 3 1 12)), (12, .inl (xo_aload 0 13)), (13, .inl (xo_getf 3 0 16)), (16, .inl (xo_alen 17)), (17, .inl (xo_if2 (fun x y => decide (x ≥ y)) 40 20)), (20, .inl (xo_aload 0 21)), (21, .inl (xo_getf 3 0 24)), (24, .inl (xo_aload 0 25)), (25, .inl (xo_getf 3 1 28)), (28, .inl (xo_iload 1 29)), (29, .inl (xo_iast 30)), (30, .inl (xo_aload 0 31)), (31, .inl (xo_dup 32)), (32, .inl (xo_getf 3 1 35)), (35, .inl (xo_const (.int 1) 36)), (36, .inl (xo_bin (fun x y => x + y) 37)), (37, .inl (xo_putf 3 1 true 40)), (40, .inl (xo_vret))]
set_option maxRecDepth 20000 in
theorem kg_X3_add_0 : ∀ q ∈ kl_X3_add_0, Gd 17 q := List.forall_mem_cons.mpr ⟨⟨xs_aload_n (by decide +kernel : decode (MT 17).2.1 0 = .ok (.aload_n 0, 1)) rfl, mon_aload⟩,
  List.forall_mem_cons.mpr ⟨⟨xs_iload_n (by decide +kernel : decode (MT 17).2.1 1 = .ok (.iload_n 1, 1)) rfl, mon_iload⟩,
  List.forall_mem_cons.mpr ⟨xk_V (ci := 3) (by decide +kernel : decode (MT 17).2.1 2 = .ok (.invokevirtual 35, 3)) rfl wg_555 wg_557 wg_s13 cal_X3_has.2.1 cal_X3_has.1 cal_X3_has.2.2.1 rfl cal_X3_has.2.2.2 (by decide) (by decide),
  List.forall_mem_cons.mpr ⟨⟨xs_if_ne (by decide +kernel : decode (MT 17).2.1 5 = .ok (.ifCond .ne 35, 3)) (by decide), mon_if1⟩,
  List.forall_mem_cons.mpr ⟨⟨xs_aload_n (by decide +kernel : decode (MT 17).2.1 8 = .ok (.aload_n 0, 1)) rfl, mon_aload⟩,
  List.forall_mem_cons.mpr ⟨⟨xs_getf (ci := 3) (k := 1) rfl (by decide) inX3 wg_116 (by decide +kernel : decode (MT 17).2.1 9 = .ok (.getfield 15, 3)), mon_getf⟩,
  List.forall_mem_cons.mpr ⟨⟨xs_aload_n (by decide +kernel : decode (MT 17).2.1 12 = .ok (.aload_n 0, 1)) rfl, mon_aload⟩,
  List.forall_mem_cons.mpr ⟨⟨xs_getf (ci := 3) (k := 0) rfl (by decide) inX3 wg_115 (by decide +kernel : decode (MT 17).2.1 13 = .ok (.getfield 9, 3)), mon_getf⟩,
  List.forall_mem_cons.mpr ⟨⟨xs_alen (by decide +kernel : decode (MT 17).2.1 16 = .ok (.arraylength, 1)), mon_alen⟩,
  List.forall_mem_cons.mpr ⟨⟨xs_icmp_ge (by decide +kernel : decode (MT 17).2.1 17 = .ok (.if_icmp .ge 23, 3)) (by decide), mon_if2⟩,
  List.forall_mem_cons.mpr ⟨⟨xs_aload_n (by decide +kernel : decode (MT 17).2.1 20 = .ok (.aload_n 0, 1)) rfl, mon_aload⟩,
  List.forall_mem_cons.mpr ⟨⟨xs_getf (ci := 3) (k := 0) rfl (by decide) inX3 wg_115 (by decide +kernel : decode (MT 17).2.1 21 = .ok (.getfield 9, 3)), mon_getf⟩,
  List.forall_mem_cons.mpr ⟨⟨xs_aload_n (by decide +kernel : decode (MT 17).2.1 24 = .ok (.aload_n 0, 1)) rfl, mon_aload⟩,
  List.forall_mem_cons.mpr ⟨⟨xs_getf (ci := 3) (k := 1) rfl (by decide) inX3 wg_116 (by decide +kernel : decode (MT 17).2.1 25 = .ok (.getfield 15, 3)), mon_getf⟩,
  List.forall_mem_cons.mpr ⟨⟨xs_iload_n (by decide +kernel : decode (MT 17).2.1 28 = .ok (.iload_n 1, 1)) rfl, mon_iload⟩,
  List.forall_mem_cons.mpr ⟨⟨xs_iast (by decide +kernel : decode (MT 17).2.1 29 = .ok (.iastore, 1)), mon_iast⟩,
  List.forall_mem_cons.mpr ⟨⟨xs_aload_n (by decide +kernel : decode (MT 17).2.1 30 = .ok (.aload_n 0, 1)) rfl, mon_aload⟩,
  List.forall_mem_cons.mpr ⟨⟨xs_dup (by decide +kernel : decode (MT 17).2.1 31 = .ok (.dup, 1)), mon_dup⟩,
  List.forall_mem_cons.mpr ⟨⟨xs_getf (ci := 3) (k := 1) rfl (by decide) inX3 wg_116 (by decide +kernel : decode (MT 17).2.1 32 = .ok (.getfield 15, 3)), mon_getf⟩,
  List.forall_mem_cons.mpr ⟨⟨xs_iconst (by decide +kernel : decode (MT 17).2.1 35 = .ok (.iconst 1, 1)) rfl, mon_const⟩,
  List.forall_mem_cons.mpr ⟨⟨xs_iadd (by decide +kernel : decode (MT 17).2.1 36 = .ok (.iadd, 1)), mon_bin⟩,
  List.forall_mem_cons.mpr ⟨⟨xs_putf (ci := 3) (k := 1) tyX3 rfl (by decide) inX3 tyX3_ok nmX3 rfl (Or.inl ⟨rfl, rfl⟩) wg_116 (by decide +kernel : decode (MT 17).2.1 37 = .ok (.putfield 15, 3)), mon_putf⟩,
  List.forall_mem_cons.mpr ⟨⟨xs_vret (by decide +kernel : decode (MT 17).2.1 40 = .ok (.return_, 1)) rfl, mon_vret⟩,
  fun _ h => absurd h List.not_mem_nil⟩⟩⟩⟩⟩⟩⟩⟩⟩⟩⟩⟩⟩⟩⟩⟩⟩⟩⟩⟩⟩⟩⟩
def kl_X3_add : List (Nat × En) := kl_X3_add_0
theorem kg_X3_add : ∀ q ∈ kl_X3_add, Gd 17 q := kg_X3_add_0
def kl_X3_has_0 : List (Nat × En) := [(0, .inl (xo_const (.int 0) 1)), (1, .inl (xo_istore 2 2)), (2, .inl (xo_iload 2 3)), (3, .inl (xo_aload 0 4)), (4, .inl (xo_getf 3 1 7)), (7, .inl (xo_if2 (fun x y => decide (x ≥ y)) 28 10)), (10, .inl (xo_aload 0 11)), (11, .inl (xo_getf 3 0 14)), (14, .inl (xo_iload 2 15)), (15, .inl (xo_iald 16)), (16, .inl (xo_iload 1 17)), (17, .inl (xo_if2 (fun x y => decide (¬ x = y)) 22 20)), (20, .inl (xo_const (.int 1) 21)), (21, .inl (xo_zret)), (22, .inl (xo_iinc 2 1 25)), (25, .inl (xo_goto 2)), (28, .inl (xo_const (.int 0) 29)), (29, .inl (xo_zret))]
set_option maxRecDepth 20000 in
theorem kg_X3_has_0 : ∀ q ∈ kl_X3_has_0, Gd 18 q := List.forall_mem_cons.mpr ⟨⟨xs_iconst (by decide +kernel : decode (MT 18).2.1 0 = .ok (.iconst 0, 1)) rfl, mon_const⟩,
  List.forall_mem_cons.mpr ⟨⟨xs_istore_n (by decide +kernel : decode (MT 18).2.1 1 = .ok (.istore_n 2, 1)) rfl, mon_istore⟩,
  List.forall_mem_cons.mpr ⟨⟨xs_iload_n (by decide +kernel : decode (MT 18).2.1 2 = .ok (.iload_n 2, 1)) rfl, mon_iload⟩,
  List.forall_mem_cons.mpr ⟨⟨xs_aload_n (by decide +kernel : decode (MT 18).2.1 3 = .ok (.aload_n 0, 1)) rfl, mon_aload⟩,
  List.forall_mem_cons.mpr ⟨⟨xs_getf (ci := 3) (k := 1) rfl (by decide) inX3 wg_116 (by decide +kernel : decode (MT 18).2.1 4 = .ok (.getfield 15, 3)), mon_getf⟩,
  List.forall_mem_cons.mpr ⟨⟨xs_icmp_ge (by decide +kernel : decode (MT 18).2.1 7 = .ok (.if_icmp .ge 21, 3)) (by decide), mon_if2⟩,
  List.forall_mem_cons.mpr ⟨⟨xs_aload_n (by decide +kernel : decode (MT 18).2.1 10 = .ok (.aload_n 0, 1)) rfl, mon_aload⟩,
  List.forall_mem_cons.mpr ⟨⟨xs_getf (ci := 3) (k := 0) rfl (by decide) inX3 wg_115 (by decide +kernel : decode (MT 18).2.1 11 = .ok (.getfield 9, 3)), mon_getf⟩,
  List.forall_mem_cons.mpr ⟨⟨xs_iload_n (by decide +kernel : decode (MT 18).2.1 14 = .ok (.iload_n 2, 1)) rfl, mon_iload⟩,
  List.forall_mem_cons.mpr ⟨⟨xs_iald (by decide +kernel : decode (MT 18).2.1 15 = .ok (.iaload, 1)), mon_iald⟩,
  List.forall_mem_cons.mpr ⟨⟨xs_iload_n (by decide +kernel : decode (MT 18).2.1 16 = .ok (.iload_n 1, 1)) rfl, mon_iload⟩,
  List.forall_mem_cons.mpr ⟨⟨xs_icmp_ne (by decide +kernel : decode (MT 18).2.1 17 = .ok (.if_icmp .ne 5, 3)) (by decide), mon_if2⟩,
  List.forall_mem_cons.mpr ⟨⟨xs_iconst (by decide +kernel : decode (MT 18).2.1 20 = .ok (.iconst 1, 1)) rfl, mon_const⟩,
  List.forall_mem_cons.mpr ⟨⟨xs_zret (by decide +kernel : decode (MT 18).2.1 21 = .ok (.ireturn, 1)) rfl, mon_zret⟩,
  List.forall_mem_cons.mpr ⟨⟨xs_iinc (by decide +kernel : decode (MT 18).2.1 22 = .ok (.iinc 2 1, 3)) rfl, mon_iinc⟩,
  List.forall_mem_cons.mpr ⟨⟨xs_goto (by decide +kernel : decode (MT 18).2.1 25 = .ok (.goto (-23), 3)) (by decide), mon_goto⟩,
  List.forall_mem_cons.mpr ⟨⟨xs_iconst (by decide +kernel : decode (MT 18).2.1 28 = .ok (.iconst 0, 1)) rfl, mon_const⟩,
  List.forall_mem_cons.mpr ⟨⟨xs_zret (by decide +kernel : decode (MT 18).2.1 29 = .ok (.ireturn, 1)) rfl, mon_zret⟩,
  fun _ h => absurd h List.not_mem_nil⟩⟩⟩⟩⟩⟩⟩⟩⟩⟩⟩⟩⟩⟩⟩⟩⟩⟩
def kl_X3_has : List (Nat × En) := kl_X3_has_0
theorem kg_X3_has : ∀ q ∈ kl_X3_has, Gd 18 q := kg_X3_has_0
def kl_X3_countAhead_0 : List (Nat × En) := [(0, .inl (xo_const (.int 0) 1)), (1, .inl (xo_istore 2 2)), (2, .inl (xo_const (.int 0) 3)), (3, .inl (xo_istore 3 4)), (4, .inl (xo_iload 3 5)), (5, .inl (xo_aload 0 6)), (6, .inl (xo_getf 3 1 9)), (9, .inl (xo_if2 (fun x y => decide (x ≥ y)) 31 12)), (12, .inl (xo_aload 0 13)), (13, .inl (xo_getf 3 0 16)), (16, .inl (xo_iload 3 17)), (17, .inl (xo_iald 18)), (18, .inl (xo_iload 1 19)), (19, .inl (xo_if2 (fun x y => decide (x ≥ y)) 25 22)), (22, .inl (xo_iinc 2 1 25)), (25, .inl (xo_iinc 3 1 28)), (28, .inl (xo_goto 4)), (31, .inl (xo_iload 2 32)), (32, .inl (xo_iret))]
set_option maxRecDepth 20000 in
theorem kg_X3_countAhead_0 : ∀ q ∈ kl_X3_countAhead_0, Gd 19 q := List.forall_mem_cons.mpr ⟨⟨xs_iconst (by decide +kernel : decode (MT 19).2.1 0 = .ok (.iconst 0, 1)) rfl, mon_const⟩,
  List.forall_mem_cons.mpr ⟨⟨xs_istore_n (by decide +kernel : decode (MT 19).2.1 1 = .ok (.istore_n 2, 1)) rfl, mon_istore⟩,
  List.forall_mem_cons.mpr ⟨⟨xs_iconst (by decide +kernel : decode (MT 19).2.1 2 = .ok (.iconst 0, 1)) rfl, mon_const⟩,
  List.forall_mem_cons.mpr ⟨⟨xs_istore_n (by decide +kernel : decode (MT 19).2.1 3 = .ok (.istore_n 3, 1)) rfl, mon_istore⟩,
  List.forall_mem_cons.mpr ⟨⟨xs_iload_n (by decide +kernel : decode (MT 19).2.1 4 = .ok (.iload_n 3, 1)) rfl, mon_iload⟩,
  List.forall_mem_cons.mpr ⟨⟨xs_aload_n (by decide +kernel : decode (MT 19).2.1 5 = .ok (.aload_n 0, 1)) rfl, mon_aload⟩,
  List.forall_mem_cons.mpr ⟨⟨xs_getf (ci := 3) (k := 1) rfl (by decide) inX3 wg_116 (by decide +kernel : decode (MT 19).2.1 6 = .ok (.getfield 15, 3)), mon_getf⟩,
  List.forall_mem_cons.mpr ⟨⟨xs_icmp_ge (by decide +kernel : decode (MT 19).2.1 9 = .ok (.if_icmp .ge 22, 3)) (by decide), mon_if2⟩,
  List.forall_mem_cons.mpr ⟨⟨xs_aload_n (by decide +kernel : decode (MT 19).2.1 12 = .ok (.aload_n 0, 1)) rfl, mon_aload⟩,
  List.forall_mem_cons.mpr ⟨⟨xs_getf (ci := 3) (k := 0) rfl (by decide) inX3 wg_115 (by decide +kernel : decode (MT 19).2.1 13 = .ok (.getfield 9, 3)), mon_getf⟩,
  List.forall_mem_cons.mpr ⟨⟨xs_iload_n (by decide +kernel : decode (MT 19).2.1 16 = .ok (.iload_n 3, 1)) rfl, mon_iload⟩,
  List.forall_mem_cons.mpr ⟨⟨xs_iald (by decide +kernel : decode (MT 19).2.1 17 = .ok (.iaload, 1)), mon_iald⟩,
  List.forall_mem_cons.mpr ⟨⟨xs_iload_n (by decide +kernel : decode (MT 19).2.1 18 = .ok (.iload_n 1, 1)) rfl, mon_iload⟩,
  List.forall_mem_cons.mpr ⟨⟨xs_icmp_ge (by decide +kernel : decode (MT 19).2.1 19 = .ok (.if_icmp .ge 6, 3)) (by decide), mon_if2⟩,
  List.forall_mem_cons.mpr ⟨⟨xs_iinc (by decide +kernel : decode (MT 19).2.1 22 = .ok (.iinc 2 1, 3)) rfl, mon_iinc⟩,
  List.forall_mem_cons.mpr ⟨⟨xs_iinc (by decide +kernel : decode (MT 19).2.1 25 = .ok (.iinc 3 1, 3)) rfl, mon_iinc⟩,
  List.forall_mem_cons.mpr ⟨⟨xs_goto (by decide +kernel : decode (MT 19).2.1 28 = .ok (.goto (-24), 3)) (by decide), mon_goto⟩,
  List.forall_mem_cons.mpr ⟨⟨xs_iload_n (by decide +kernel : decode (MT 19).2.1 31 = .ok (.iload_n 2, 1)) rfl, mon_iload⟩,
  List.forall_mem_cons.mpr ⟨⟨xs_iret (by decide +kernel : decode (MT 19).2.1 32 = .ok (.ireturn, 1)) rfl, mon_iret⟩,
  fun _ h => absurd h List.not_mem_nil⟩⟩⟩⟩⟩⟩⟩⟩⟩⟩⟩⟩⟩⟩⟩⟩⟩⟩⟩
def kl_X3_countAhead : List (Nat × En) := kl_X3_countAhead_0
theorem kg_X3_countAhead : ∀ q ∈ kl_X3_countAhead, Gd 19 q := kg_X3_countAhead_0
def kl_X3_countNotIn_0 : List (Nat × En) := [(0, .inl (xo_const (.int 0) 1)), (1, .inl (xo_istore 2 2)), (2, .inl (xo_const (.int 0) 3)), (3, .inl (xo_istore 3 4)), (4, .inl (xo_iload 3 5)), (5, .inl (xo_aload 0 6)), (6, .inl (xo_getf 3 1 9)), (9, .inl (xo_if2 (fun x y => decide (x ≥ y)) 34 12)), (12, .inl (xo_aload 1 13)), (13, .inl (xo_aload 0 14)), (14, .inl (xo_getf 3 0 17)), (17, .inl (xo_iload 3 18)), (18, .inl (xo_iald 19)), (19, .inr (18, 2, (some 3), 22)), (22, .inl (xo_if1 (fun x => decide (¬ x = 0)) 28 25)), (25, .inl (xo_iinc 2 1 28)), (28, .inl (xo_iinc 3 1 31)), (31, .inl (xo_goto 4)), (34, .inl (xo_iload 2 35)), (35, .inl (xo_iret))]
set_option maxRecDepth 20000 in
theorem kg_X3_countNotIn_0 : ∀ q ∈ kl_X3_countNotIn_0, Gd 20 q := List.forall_mem_cons.mpr ⟨⟨xs_iconst (by decide +kernel : decode (MT 20).2.1 0 = .ok (.iconst 0, 1)) rfl, mon_const⟩,
  List.forall_mem_cons.mpr ⟨⟨xs_istore_n (by decide +kernel : decode (MT 20).2.1 1 = .ok (.istore_n 2, 1)) rfl, mon_istore⟩,
  List.forall_mem_cons.mpr ⟨⟨xs_iconst (by decide +kernel : decode (MT 20).2.1 2 = .ok (.iconst 0, 1)) rfl, mon_const⟩,
  List.forall_mem_cons.mpr ⟨⟨xs_istore_n (by decide +kernel : decode (MT 20).2.1 3 = .ok (.istore_n 3, 1)) rfl, mon_istore⟩,
  List.forall_mem_cons.mpr ⟨⟨xs_iload_n (by decide +kernel : decode (MT 20).2.1 4 = .ok (.iload_n 3, 1)) rfl, mon_iload⟩,
  List.forall_mem_cons.mpr ⟨⟨xs_aload_n (by decide +kernel : decode (MT 20).2.1 5 = .ok (.aload_n 0, 1)) rfl, mon_aload⟩,
  List.forall_mem_cons.mpr ⟨⟨xs_getf (ci := 3) (k := 1) rfl (by decide) inX3 wg_116 (by decide +kernel : decode (MT 20).2.1 6 = .ok (.getfield 15, 3)), mon_getf⟩,
  List.forall_mem_cons.mpr ⟨⟨xs_icmp_ge (by decide +kernel : decode (MT 20).2.1 9 = .ok (.if_icmp .ge 25, 3)) (by decide), mon_if2⟩,
  List.forall_mem_cons.mpr ⟨⟨xs_aload_n (by decide +kernel : decode (MT 20).2.1 12 = .ok (.aload_n 1, 1)) rfl, mon_aload⟩,
  List.forall_mem_cons.mpr ⟨⟨xs_aload_n (by decide +kernel : decode (MT 20).2.1 13 = .ok (.aload_n 0, 1)) rfl, mon_aload⟩,
  List.forall_mem_cons.mpr ⟨⟨xs_getf (ci := 3) (k := 0) rfl (by decide) inX3 wg_115 (by decide +kernel : decode (MT 20).2.1 14 = .ok (.getfield 9, 3)), mon_getf⟩,
  List.forall_mem_cons.mpr ⟨⟨xs_iload_n (by decide +kernel : decode (MT 20).2.1 17 = .ok (.iload_n 3, 1)) rfl, mon_iload⟩,
  List.forall_mem_cons.mpr ⟨⟨xs_iald (by decide +kernel : decode (MT 20).2.1 18 = .ok (.iaload, 1)), mon_iald⟩,
  List.forall_mem_cons.mpr ⟨xk_V (ci := 3) (by decide +kernel : decode (MT 20).2.1 19 = .ok (.invokevirtual 35, 3)) rfl wg_555 wg_557 wg_s13 cal_X3_has.2.1 cal_X3_has.1 cal_X3_has.2.2.1 rfl cal_X3_has.2.2.2 (by decide) (by decide),
  List.forall_mem_cons.mpr ⟨⟨xs_if_ne (by decide +kernel : decode (MT 20).2.1 22 = .ok (.ifCond .ne 6, 3)) (by decide), mon_if1⟩,
  List.forall_mem_cons.mpr ⟨⟨xs_iinc (by decide +kernel : decode (MT 20).2.1 25 = .ok (.iinc 2 1, 3)) rfl, mon_iinc⟩,
  List.forall_mem_cons.mpr ⟨⟨xs_iinc (by decide +kernel : decode (MT 20).2.1 28 = .ok (.iinc 3 1, 3)) rfl, mon_iinc⟩,
  List.forall_mem_cons.mpr ⟨⟨xs_goto (by decide +kernel : decode (MT 20).2.1 31 = .ok (.goto (-27), 3)) (by decide), mon_goto⟩,
  List.forall_mem_cons.mpr ⟨⟨xs_iload_n (by decide +kernel : decode (MT 20).2.1 34 = .ok (.iload_n 2, 1)) rfl, mon_iload⟩,
  List.forall_mem_cons.mpr ⟨⟨xs_iret (by decide +kernel : decode (MT 20).2.1 35 = .ok (.ireturn, 1)) rfl, mon_iret⟩,
  fun _ h => absurd h List.not_mem_nil⟩⟩⟩⟩⟩⟩⟩⟩⟩⟩⟩⟩⟩⟩⟩⟩⟩⟩⟩⟩
def kl_X3_countNotIn : List (Nat × En) := kl_X3_countNotIn_0
theorem kg_X3_countNotIn : ∀ q ∈ kl_X3_countNotIn, Gd 20 q := kg_X3_countNotIn_0
def kl_X4_init_0 : List (Nat × En) := [(0, .inl (xo_aload 0 1)), (1, .inl (xo_oinit 4)), (4, .inl (xo_aload 0 5)), (5, .inl (xo_new 3 [.null, .int 0] 8)), (8, .inl (xo_dup 9)), (9, .inr (13, 1, (some 3), 12)), (12, .inl (xo_putf 4 0 false 15)), (15, .inl (xo_aload 0 16)), (16, .inl (xo_new 3 [.null, .int 0] 19)), (19, .inl (xo_dup 20)), (20, .inr (13, 1, (some 3), 23)), (23, .inl (xo_putf 4 1 false 26)), (26, .inl (xo_aload 0 27)), (27, .inl (xo_const (.int 0) 28)), (28, .inl (xo_putf 4 2 true 31)), (31, .inl (xo_vret))]
set_option maxRecDepth 20000 in
theorem kg_X4_init_0 : ∀ q ∈ kl_X4_init_0, Gd 21 q := List.forall_mem_cons.mpr ⟨⟨xs_aload_n (by decide +kernel : decode (MT 21).2.1 0 = .ok (.aload_n 0, 1)) rfl, mon_aload⟩,
  List.forall_mem_cons.mpr ⟨⟨xs_oinit wg_147 wg_22 wg_oinit (by decide) (by decide) (by decide +kernel : decode (MT 21).2.1 1 = .ok (.invokespecial 3, 3)), mon_oinit⟩,
  List.forall_mem_cons.mpr ⟨⟨xs_aload_n (by decide +kernel : decode (MT 21).2.1 4 = .ok (.aload_n 0, 1)) rfl, mon_aload⟩,
  List.forall_mem_cons.mpr ⟨⟨xs_new (ci := 3) tyX3 rfl inX3 tyX3_ok rfl (fun G j hj => by rcases (show j = 0 ∨ j = 1 by omega) with rfl | rfl <;> rfl) wg_148 wg_110 wg_7 (by decide +kernel : decode (MT 21).2.1 5 = .ok (.new 9, 3)), mon_new⟩,
  List.forall_mem_cons.mpr ⟨⟨xs_dup (by decide +kernel : decode (MT 21).2.1 8 = .ok (.dup, 1)), mon_dup⟩,
  List.forall_mem_cons.mpr ⟨xk_IN (ci := 3) (by decide +kernel : decode (MT 21).2.1 9 = .ok (.invokespecial 11, 3)) wn_149 wg_112 rfl rfl cal_X3_init.2.1 cal_X3_init.1 cal_X3_init.2.2.1 rfl cal_X3_init.2.2.2 (by decide) (by decide),
  List.forall_mem_cons.mpr ⟨⟨xs_putfF (ci := 4) (k := 0) tyX4 rfl (by decide) inX4 tyX4_ok nmX4 rfl rfl rfl (Or.inr ⟨rfl, Or.inl ⟨_, rfl⟩⟩) wg_150 (by decide +kernel : decode (MT 21).2.1 12 = .ok (.putfield 12, 3)), mon_putf⟩,
  List.forall_mem_cons.mpr ⟨⟨xs_aload_n (by decide +kernel : decode (MT 21).2.1 15 = .ok (.aload_n 0, 1)) rfl, mon_aload⟩,
  List.forall_mem_cons.mpr ⟨⟨xs_new (ci := 3) tyX3 rfl inX3 tyX3_ok rfl (fun G j hj => by rcases (show j = 0 ∨ j = 1 by omega) with rfl | rfl <;> rfl) wg_148 wg_110 wg_7 (by decide +kernel : decode (MT 21).2.1 16 = .ok (.new 9, 3)), mon_new⟩,
  List.forall_mem_cons.mpr ⟨⟨xs_dup (by decide +kernel : decode (MT 21).2.1 19 = .ok (.dup, 1)), mon_dup⟩,
  List.forall_mem_cons.mpr ⟨xk_IN (ci := 3) (by decide +kernel : decode (MT 21).2.1 20 = .ok (.invokespecial 11, 3)) wn_149 wg_112 rfl rfl cal_X3_init.2.1 cal_X3_init.1 cal_X3_init.2.2.1 rfl cal_X3_init.2.2.2 (by decide) (by decide),
  List.forall_mem_cons.mpr ⟨⟨xs_putfF (ci := 4) (k := 1) tyX4 rfl (by decide) inX4 tyX4_ok nmX4 rfl rfl rfl (Or.inr ⟨rfl, Or.inl ⟨_, rfl⟩⟩) wg_151 (by decide +kernel : decode (MT 21).2.1 23 = .ok (.putfield 18, 3)), mon_putf⟩,
  List.forall_mem_cons.mpr ⟨⟨xs_aload_n (by decide +kernel : decode (MT 21).2.1 26 = .ok (.aload_n 0, 1)) rfl, mon_aload⟩,
  List.forall_mem_cons.mpr ⟨⟨xs_iconst (by decide +kernel : decode (MT 21).2.1 27 = .ok (.iconst 0, 1)) rfl, mon_const⟩,
  List.forall_mem_cons.mpr ⟨⟨xs_putf (ci := 4) (k := 2) tyX4 rfl (by decide) inX4 tyX4_ok nmX4 rfl (Or.inl ⟨rfl, rfl⟩) wg_152 (by decide +kernel : decode (MT 21).2.1 28 = .ok (.putfield 21, 3)), mon_putf⟩,
  List.forall_mem_cons.mpr ⟨⟨xs_vret (by decide +kernel : decode (MT 21).2.1 31 = .ok (.return_, 1)) rfl, mon_vret⟩,
  fun _ h => absurd h List.not_mem_nil⟩⟩⟩⟩⟩⟩⟩⟩⟩⟩⟩⟩⟩⟩⟩⟩
def kl_X4_init : List (Nat × En) := kl_X4_init_0
theorem kg_X4_init : ∀ q ∈ kl_X4_init, Gd 21 q := kg_X4_init_0
def kl_X4_nameAt_0 : List (Nat × En) := [(0, .inl (xo_aload 0 1)), (1, .inl (xo_getf 4 0 4)), (4, .inr (15, 1, (some 3), 7)), (7, .inl (xo_const (.int (-9)) 9)), (9, .inl (xo_istore 4 11)), (11, .inl (xo_const (.int 0) 12)), (12, .inl (xo_istore 5 14)), (14, .inl (xo_const (.int 0) 15)), (15, .inl (xo_istore 6 17)), (17, .inl (xo_iload 6 19)), (19, .inl (xo_iload 1 20)), (20, .inl (xo_if2 (fun x y => decide (x > y)) 74 23)), (23, .inl (xo_aload 0 24)), (24, .inl (xo_aload 2 25)), (25, .inl (xo_iload 5 27)), (27, .inl (xo_iload 3 28)), (28, .inr (23, 4, (some 4), 31)), (31, .inl (xo_istore 4 33)), (33, .inl (xo_aload 2 34)), (34, .inl (xo_iload 4 36)), (36, .inr (39, 2, (some 7), 39)), (39, .inl (xo_astore 7 41)), (41, .inl (xo_aload 7 43)), (43, .inl (xo_null 46 49)), (46, .inl (xo_const (.int (-9)) 48)), (48, .inl (xo_iret)), (49, .inl (xo_iload 5 51)), (51, .inl (xo_const (.int 1) 52)), (52, .inl (xo_iload 4 54)), (54, .inl (xo_bin (fun x y => x <<< (y &&& 31)) 55)), (55, .inl (xo_bin (fun x y => x ||| y) 56)), (56, .inl (xo_istore 5 58)), (58, .inl (xo_aload 0 59)), (59, .inl (xo_getf 4 0 62)), (62, .inl (xo_aload 7 64)), (64, .inl (xo_iload 3 65)), (65, .inr (16, 3, (some 3), 68)), (68, .inl (xo_iinc 6 1 71)), (71, .inl (xo_goto 17)), (74, .inl (xo_iload 4 76))]
set_option maxRecDepth 20000 in
theorem kg_X4_nameAt_0 : ∀ q ∈ kl_X4_nameAt_0, Gd 22 q := List.forall_mem_cons.mpr ⟨⟨xs_aload_n (by decide +kernel : decode (MT 22).2.1 0 = .ok (.aload_n 0, 1)) rfl, mon_aload⟩,
  List.forall_mem_cons.mpr ⟨⟨xs_getf (ci := 4) (k := 0) rfl (by decide) inX4 wg_150 (by decide +kernel : decode (MT 22).2.1 1 = .ok (.getfield 12, 3)), mon_getf⟩,
  List.forall_mem_cons.mpr ⟨xk_V (ci := 3) (by decide +kernel : decode (MT 22).2.1 4 = .ok (.invokevirtual 25, 3)) rfl wg_610 wg_543 wg_544 cal_X3_clear.2.1 cal_X3_clear.1 cal_X3_clear.2.2.1 rfl cal_X3_clear.2.2.2 (by decide) (by decide),
  List.forall_mem_cons.mpr ⟨⟨xs_bipush (by decide +kernel : decode (MT 22).2.1 7 = .ok (.bipush (-9), 2)) rfl, mon_const⟩,
  List.forall_mem_cons.mpr ⟨⟨xs_istore (by decide +kernel : decode (MT 22).2.1 9 = .ok (.istore 4, 2)), mon_istore⟩,
  List.forall_mem_cons.mpr ⟨⟨xs_iconst (by decide +kernel : decode (MT 22).2.1 11 = .ok (.iconst 0, 1)) rfl, mon_const⟩,
  List.forall_mem_cons.mpr ⟨⟨xs_istore (by decide +kernel : decode (MT 22).2.1 12 = .ok (.istore 5, 2)), mon_istore⟩,
  List.forall_mem_cons.mpr ⟨⟨xs_iconst (by decide +kernel : decode (MT 22).2.1 14 = .ok (.iconst 0, 1)) rfl, mon_const⟩,
  List.forall_mem_cons.mpr ⟨⟨xs_istore (by decide +kernel : decode (MT 22).2.1 15 = .ok (.istore 6, 2)), mon_istore⟩,
  List.forall_mem_cons.mpr ⟨⟨xs_iload (by decide +kernel : decode (MT 22).2.1 17 = .ok (.iload 6, 2)), mon_iload⟩,
  List.forall_mem_cons.mpr ⟨⟨xs_iload_n (by decide +kernel : decode (MT 22).2.1 19 = .ok (.iload_n 1, 1)) rfl, mon_iload⟩,
  List.forall_mem_cons.mpr ⟨⟨xs_icmp_gt (by decide +kernel : decode (MT 22).2.1 20 = .ok (.if_icmp .gt 54, 3)) (by decide), mon_if2⟩,
  List.forall_mem_cons.mpr ⟨⟨xs_aload_n (by decide +kernel : decode (MT 22).2.1 23 = .ok (.aload_n 0, 1)) rfl, mon_aload⟩,
  List.forall_mem_cons.mpr ⟨⟨xs_aload_n (by decide +kernel : decode (MT 22).2.1 24 = .ok (.aload_n 2, 1)) rfl, mon_aload⟩,
  List.forall_mem_cons.mpr ⟨⟨xs_iload (by decide +kernel : decode (MT 22).2.1 25 = .ok (.iload 5, 2)), mon_iload⟩,
  List.forall_mem_cons.mpr ⟨⟨xs_iload_n (by decide +kernel : decode (MT 22).2.1 27 = .ok (.iload_n 3, 1)) rfl, mon_iload⟩,
  List.forall_mem_cons.mpr ⟨xk_V (ci := 4) (by decide +kernel : decode (MT 22).2.1 28 = .ok (.invokevirtual 28, 3)) rfl wg_611 wg_613 wg_s15 cal_X4_nextName.2.1 cal_X4_nextName.1 cal_X4_nextName.2.2.1 rfl cal_X4_nextName.2.2.2 (by decide) (by decide),
  List.forall_mem_cons.mpr ⟨⟨xs_istore (by decide +kernel : decode (MT 22).2.1 31 = .ok (.istore 4, 2)), mon_istore⟩,
  List.forall_mem_cons.mpr ⟨⟨xs_aload_n (by decide +kernel : decode (MT 22).2.1 33 = .ok (.aload_n 2, 1)) rfl, mon_aload⟩,
  List.forall_mem_cons.mpr ⟨⟨xs_iload (by decide +kernel : decode (MT 22).2.1 34 = .ok (.iload 4, 2)), mon_iload⟩,
  List.forall_mem_cons.mpr ⟨xk_V (ci := 7) (by decide +kernel : decode (MT 22).2.1 36 = .ok (.invokevirtual 32, 3)) rfl wg_615 wg_509 wg_510 cal_X7_at.2.1 cal_X7_at.1 cal_X7_at.2.2.1 rfl cal_X7_at.2.2.2 (by decide) (by decide),
  List.forall_mem_cons.mpr ⟨⟨xs_astore (by decide +kernel : decode (MT 22).2.1 39 = .ok (.astore 7, 2)), mon_astore⟩,
  List.forall_mem_cons.mpr ⟨⟨xs_aload (by decide +kernel : decode (MT 22).2.1 41 = .ok (.aload 7, 2)), mon_aload⟩,
  List.forall_mem_cons.mpr ⟨⟨xs_ifnonnull (by decide +kernel : decode (MT 22).2.1 43 = .ok (.ifnonnull 6, 3)) (by decide), mon_null⟩,
  List.forall_mem_cons.mpr ⟨⟨xs_bipush (by decide +kernel : decode (MT 22).2.1 46 = .ok (.bipush (-9), 2)) rfl, mon_const⟩,
  List.forall_mem_cons.mpr ⟨⟨xs_iret (by decide +kernel : decode (MT 22).2.1 48 = .ok (.ireturn, 1)) rfl, mon_iret⟩,
  List.forall_mem_cons.mpr ⟨⟨xs_iload (by decide +kernel : decode (MT 22).2.1 49 = .ok (.iload 5, 2)), mon_iload⟩,
  List.forall_mem_cons.mpr ⟨⟨xs_iconst (by decide +kernel : decode (MT 22).2.1 51 = .ok (.iconst 1, 1)) rfl, mon_const⟩,
  List.forall_mem_cons.mpr ⟨⟨xs_iload (by decide +kernel : decode (MT 22).2.1 52 = .ok (.iload 4, 2)), mon_iload⟩,
  List.forall_mem_cons.mpr ⟨⟨xs_ishl (by decide +kernel : decode (MT 22).2.1 54 = .ok (.ishl, 1)), mon_bin⟩,
  List.forall_mem_cons.mpr ⟨⟨xs_ior (by decide +kernel : decode (MT 22).2.1 55 = .ok (.ior, 1)), mon_bin⟩,
  List.forall_mem_cons.mpr ⟨⟨xs_istore (by decide +kernel : decode (MT 22).2.1 56 = .ok (.istore 5, 2)), mon_istore⟩,
  List.forall_mem_cons.mpr ⟨⟨xs_aload_n (by decide +kernel : decode (MT 22).2.1 58 = .ok (.aload_n 0, 1)) rfl, mon_aload⟩,
  List.forall_mem_cons.mpr ⟨⟨xs_getf (ci := 4) (k := 0) rfl (by decide) inX4 wg_150 (by decide +kernel : decode (MT 22).2.1 59 = .ok (.getfield 12, 3)), mon_getf⟩,
  List.forall_mem_cons.mpr ⟨⟨xs_aload (by decide +kernel : decode (MT 22).2.1 62 = .ok (.aload 7, 2)), mon_aload⟩,
  List.forall_mem_cons.mpr ⟨⟨xs_iload_n (by decide +kernel : decode (MT 22).2.1 64 = .ok (.iload_n 3, 1)) rfl, mon_iload⟩,
  List.forall_mem_cons.mpr ⟨xk_V (ci := 3) (by decide +kernel : decode (MT 22).2.1 65 = .ok (.invokevirtual 38, 3)) rfl wg_616 wg_547 wg_548 cal_X3_addAll.2.1 cal_X3_addAll.1 cal_X3_addAll.2.2.1 rfl cal_X3_addAll.2.2.2 (by decide) (by decide),
  List.forall_mem_cons.mpr ⟨⟨xs_iinc (by decide +kernel : decode (MT 22).2.1 68 = .ok (.iinc 6 1, 3)) rfl, mon_iinc⟩,
  List.forall_mem_cons.mpr ⟨⟨xs_goto (by decide +kernel : decode (MT 22).2.1 71 = .ok (.goto (-54), 3)) (by decide), mon_goto⟩,
  List.forall_mem_cons.mpr ⟨⟨xs_iload (by decide +kernel : decode (MT 22).2.1 74 = .ok (.iload 4, 2)), mon_iload⟩,
  fun _ h => absurd h List.not_mem_nil⟩⟩⟩⟩⟩⟩⟩⟩⟩⟩⟩⟩⟩⟩⟩⟩⟩⟩⟩⟩⟩⟩⟩⟩⟩⟩⟩⟩⟩⟩⟩⟩⟩⟩⟩⟩⟩⟩⟩⟩
def kl_X4_nameAt_1 : List (Nat × En) := [(76, .inl (xo_iret))]
set_option maxRecDepth 20000 in
theorem kg_X4_nameAt_1 : ∀ q ∈ kl_X4_nameAt_1, Gd 22 q := List.forall_mem_cons.mpr ⟨⟨xs_iret (by decide +kernel : decode (MT 22).2.1 76 = .ok (.ireturn, 1)) rfl, mon_iret⟩,
  fun _ h => absurd h List.not_mem_nil⟩
def kl_X4_nameAt : List (Nat × En) := kl_X4_nameAt_0 ++ kl_X4_nameAt_1
theorem kg_X4_nameAt : ∀ q ∈ kl_X4_nameAt, Gd 22 q := by
  intro q hq
  simp only [kl_X4_nameAt, List.mem_append] at hq
  rcases hq with hq | hq
  · exact kg_X4_nameAt_0 q hq
  · exact kg_X4_nameAt_1 q hq
def kl_X4_nextName_0 : List (Nat × En) := [(0, .inl (xo_const (.int (-9)) 2)), (2, .inl (xo_istore 4 4)), (4, .inl (xo_const (.int 0) 5)), (5, .inl (xo_istore 5 7)), (7, .inl (xo_iload 5 9)), (9, .inl (xo_const (.int 26) 11)), (11, .inl (xo_if2 (fun x y => decide (x ≥ y)) 101 14)), (14, .inl (xo_aload 1 15)), (15, .inl (xo_iload 5 17)), (17, .inr (39, 2, (some 7), 20)), (20, .inl (xo_astore 6 22)), (22, .inl (xo_aload 6 24)), (24, .inl (xo_null 95 27)), (27, .inl (xo_iload 2 28)), (28, .inl (xo_iload 5 30)), (30, .inl (xo_bin (fun x y => (x.toUInt32 >>> (y.toUInt32 &&& Int32.toUInt32 31)).toInt32) 31)), (31, .inl (xo_const (.int 1) 32)), (32, .inl (xo_bin (fun x y => x &&& y) 33)), (33, .inl (xo_if1 (fun x => decide (x = 0)) 39 36)), (36, .inl (xo_goto 95)), (39, .inl (xo_aload 0 40)), (40, .inl (xo_getf 4 1 43)), (43, .inr (15, 1, (some 3), 46)), (46, .inl (xo_aload 0 47)), (47, .inl (xo_getf 4 1 50)), (50, .inl (xo_aload 6 52)), (52, .inl (xo_iload 3 53)), (53, .inr (16, 3, (some 3), 56)), (56, .inl (xo_aload 0 57)), (57, .inl (xo_getf 4 1 60)), (60, .inl (xo_aload 0 61)), (61, .inl (xo_getf 4 0 64)), (64, .inr (20, 2, (some 3), 67)), (67, .inl (xo_istore 7 69)), (69, .inl (xo_iload 4 71)), (71, .inl (xo_const (.int (-9)) 73)), (73, .inl (xo_if2 (fun x y => decide (x = y)) 85 76)), (76, .inl (xo_iload 7 78)), (78, .inl (xo_aload 0 79)), (79, .inl (xo_getf 4 2 82))]
set_option maxRecDepth 20000 in
theorem kg_X4_nextName_0 : ∀ q ∈ kl_X4_nextName_0, Gd 23 q := List.forall_mem_cons.mpr ⟨⟨xs_bipush (by decide +kernel : decode (MT 23).2.1 0 = .ok (.bipush (-9), 2)) rfl, mon_const⟩,
  List.forall_mem_cons.mpr ⟨⟨xs_istore (by decide +kernel : decode (MT 23).2.1 2 = .ok (.istore 4, 2)), mon_istore⟩,
  List.forall_mem_cons.mpr ⟨⟨xs_iconst (by decide +kernel : decode (MT 23).2.1 4 = .ok (.iconst 0, 1)) rfl, mon_const⟩,
  List.forall_mem_cons.mpr ⟨⟨xs_istore (by decide +kernel : decode (MT 23).2.1 5 = .ok (.istore 5, 2)), mon_istore⟩,
  List.forall_mem_cons.mpr ⟨⟨xs_iload (by decide +kernel : decode (MT 23).2.1 7 = .ok (.iload 5, 2)), mon_iload⟩,
  List.forall_mem_cons.mpr ⟨⟨xs_bipush (by decide +kernel : decode (MT 23).2.1 9 = .ok (.bipush 26, 2)) rfl, mon_const⟩,
  List.forall_mem_cons.mpr ⟨⟨xs_icmp_ge (by decide +kernel : decode (MT 23).2.1 11 = .ok (.if_icmp .ge 90, 3)) (by decide), mon_if2⟩,
  List.forall_mem_cons.mpr ⟨⟨xs_aload_n (by decide +kernel : decode (MT 23).2.1 14 = .ok (.aload_n 1, 1)) rfl, mon_aload⟩,
  List.forall_mem_cons.mpr ⟨⟨xs_iload (by decide +kernel : decode (MT 23).2.1 15 = .ok (.iload 5, 2)), mon_iload⟩,
  List.forall_mem_cons.mpr ⟨xk_V (ci := 7) (by decide +kernel : decode (MT 23).2.1 17 = .ok (.invokevirtual 32, 3)) rfl wg_615 wg_509 wg_510 cal_X7_at.2.1 cal_X7_at.1 cal_X7_at.2.2.1 rfl cal_X7_at.2.2.2 (by decide) (by decide),
  List.forall_mem_cons.mpr ⟨⟨xs_astore (by decide +kernel : decode (MT 23).2.1 20 = .ok (.astore 6, 2)), mon_astore⟩,
  List.forall_mem_cons.mpr ⟨⟨xs_aload (by decide +kernel : decode (MT 23).2.1 22 = .ok (.aload 6, 2)), mon_aload⟩,
  List.forall_mem_cons.mpr ⟨⟨xs_ifnull (by decide +kernel : decode (MT 23).2.1 24 = .ok (.ifnull 71, 3)) (by decide), mon_null⟩,
  List.forall_mem_cons.mpr ⟨⟨xs_iload_n (by decide +kernel : decode (MT 23).2.1 27 = .ok (.iload_n 2, 1)) rfl, mon_iload⟩,
  List.forall_mem_cons.mpr ⟨⟨xs_iload (by decide +kernel : decode (MT 23).2.1 28 = .ok (.iload 5, 2)), mon_iload⟩,
  List.forall_mem_cons.mpr ⟨⟨xs_iushr (by decide +kernel : decode (MT 23).2.1 30 = .ok (.iushr, 1)), mon_bin⟩,
  List.forall_mem_cons.mpr ⟨⟨xs_iconst (by decide +kernel : decode (MT 23).2.1 31 = .ok (.iconst 1, 1)) rfl, mon_const⟩,
  List.forall_mem_cons.mpr ⟨⟨xs_iand (by decide +kernel : decode (MT 23).2.1 32 = .ok (.iand, 1)), mon_bin⟩,
  List.forall_mem_cons.mpr ⟨⟨xs_if_eq (by decide +kernel : decode (MT 23).2.1 33 = .ok (.ifCond .eq 6, 3)) (by decide), mon_if1⟩,
  List.forall_mem_cons.mpr ⟨⟨xs_goto (by decide +kernel : decode (MT 23).2.1 36 = .ok (.goto 59, 3)) (by decide), mon_goto⟩,
  List.forall_mem_cons.mpr ⟨⟨xs_aload_n (by decide +kernel : decode (MT 23).2.1 39 = .ok (.aload_n 0, 1)) rfl, mon_aload⟩,
  List.forall_mem_cons.mpr ⟨⟨xs_getf (ci := 4) (k := 1) rfl (by decide) inX4 wg_151 (by decide +kernel : decode (MT 23).2.1 40 = .ok (.getfield 18, 3)), mon_getf⟩,
  List.forall_mem_cons.mpr ⟨xk_V (ci := 3) (by decide +kernel : decode (MT 23).2.1 43 = .ok (.invokevirtual 25, 3)) rfl wg_610 wg_543 wg_544 cal_X3_clear.2.1 cal_X3_clear.1 cal_X3_clear.2.2.1 rfl cal_X3_clear.2.2.2 (by decide) (by decide),
  List.forall_mem_cons.mpr ⟨⟨xs_aload_n (by decide +kernel : decode (MT 23).2.1 46 = .ok (.aload_n 0, 1)) rfl, mon_aload⟩,
  List.forall_mem_cons.mpr ⟨⟨xs_getf (ci := 4) (k := 1) rfl (by decide) inX4 wg_151 (by decide +kernel : decode (MT 23).2.1 47 = .ok (.getfield 18, 3)), mon_getf⟩,
  List.forall_mem_cons.mpr ⟨⟨xs_aload (by decide +kernel : decode (MT 23).2.1 50 = .ok (.aload 6, 2)), mon_aload⟩,
  List.forall_mem_cons.mpr ⟨⟨xs_iload_n (by decide +kernel : decode (MT 23).2.1 52 = .ok (.iload_n 3, 1)) rfl, mon_iload⟩,
  List.forall_mem_cons.mpr ⟨xk_V (ci := 3) (by decide +kernel : decode (MT 23).2.1 53 = .ok (.invokevirtual 38, 3)) rfl wg_616 wg_547 wg_548 cal_X3_addAll.2.1 cal_X3_addAll.1 cal_X3_addAll.2.2.1 rfl cal_X3_addAll.2.2.2 (by decide) (by decide),
  List.forall_mem_cons.mpr ⟨⟨xs_aload_n (by decide +kernel : decode (MT 23).2.1 56 = .ok (.aload_n 0, 1)) rfl, mon_aload⟩,
  List.forall_mem_cons.mpr ⟨⟨xs_getf (ci := 4) (k := 1) rfl (by decide) inX4 wg_151 (by decide +kernel : decode (MT 23).2.1 57 = .ok (.getfield 18, 3)), mon_getf⟩,
  List.forall_mem_cons.mpr ⟨⟨xs_aload_n (by decide +kernel : decode (MT 23).2.1 60 = .ok (.aload_n 0, 1)) rfl, mon_aload⟩,
  List.forall_mem_cons.mpr ⟨⟨xs_getf (ci := 4) (k := 0) rfl (by decide) inX4 wg_150 (by decide +kernel : decode (MT 23).2.1 61 = .ok (.getfield 12, 3)), mon_getf⟩,
  List.forall_mem_cons.mpr ⟨xk_V (ci := 3) (by decide +kernel : decode (MT 23).2.1 64 = .ok (.invokevirtual 42, 3)) rfl wg_617 wg_618 wg_619 cal_X3_countNotIn.2.1 cal_X3_countNotIn.1 cal_X3_countNotIn.2.2.1 rfl cal_X3_countNotIn.2.2.2 (by decide) (by decide),
  List.forall_mem_cons.mpr ⟨⟨xs_istore (by decide +kernel : decode (MT 23).2.1 67 = .ok (.istore 7, 2)), mon_istore⟩,
  List.forall_mem_cons.mpr ⟨⟨xs_iload (by decide +kernel : decode (MT 23).2.1 69 = .ok (.iload 4, 2)), mon_iload⟩,
  List.forall_mem_cons.mpr ⟨⟨xs_bipush (by decide +kernel : decode (MT 23).2.1 71 = .ok (.bipush (-9), 2)) rfl, mon_const⟩,
  List.forall_mem_cons.mpr ⟨⟨xs_icmp_eq (by decide +kernel : decode (MT 23).2.1 73 = .ok (.if_icmp .eq 12, 3)) (by decide), mon_if2⟩,
  List.forall_mem_cons.mpr ⟨⟨xs_iload (by decide +kernel : decode (MT 23).2.1 76 = .ok (.iload 7, 2)), mon_iload⟩,
  List.forall_mem_cons.mpr ⟨⟨xs_aload_n (by decide +kernel : decode (MT 23).2.1 78 = .ok (.aload_n 0, 1)) rfl, mon_aload⟩,
  List.forall_mem_cons.mpr ⟨⟨xs_getf (ci := 4) (k := 2) rfl (by decide) inX4 wg_152 (by decide +kernel : decode (MT 23).2.1 79 = .ok (.getfield 21, 3)), mon_getf⟩,
  fun _ h => absurd h List.not_mem_nil⟩⟩⟩⟩⟩⟩⟩⟩⟩⟩⟩⟩⟩⟩⟩⟩⟩⟩⟩⟩⟩⟩⟩⟩⟩⟩⟩⟩⟩⟩⟩⟩⟩⟩⟩⟩⟩⟩⟩⟩
def kl_X4_nextName_1 : List (Nat × En) := [(82, .inl (xo_if2 (fun x y => decide (x ≥ y)) 95 85)), (85, .inl (xo_iload 5 87)), (87, .inl (xo_istore 4 89)), (89, .inl (xo_aload 0 90)), (90, .inl (xo_iload 7 92)), (92, .inl (xo_putf 4 2 true 95)), (95, .inl (xo_iinc 5 1 98)), (98, .inl (xo_goto 7)), (101, .inl (xo_iload 4 103)), (103, .inl (xo_iret))]
set_option maxRecDepth 20000 in
theorem kg_X4_nextName_1 : ∀ q ∈ kl_X4_nextName_1, Gd 23 q := List.forall_mem_cons.mpr ⟨⟨xs_icmp_ge (by decide +kernel : decode (MT 23).2.1 82 = .ok (.if_icmp .ge 13, 3)) (by decide), mon_if2⟩,
  List.forall_mem_cons.mpr ⟨⟨xs_iload (by decide +kernel : decode (MT 23).2.1 85 = .ok (.iload 5, 2)), mon_iload⟩,
  List.forall_mem_cons.mpr ⟨⟨xs_istore (by decide +kernel : decode (MT 23).2.1 87 = .ok (.istore 4, 2)), mon_istore⟩,
  List.forall_mem_cons.mpr ⟨⟨xs_aload_n (by decide +kernel : decode (MT 23).2.1 89 = .ok (.aload_n 0, 1)) rfl, mon_aload⟩,
  List.forall_mem_cons.mpr ⟨⟨xs_iload (by decide +kernel : decode (MT 23).2.1 90 = .ok (.iload 7, 2)), mon_iload⟩,
  List.forall_mem_cons.mpr ⟨⟨xs_putf (ci := 4) (k := 2) tyX4 rfl (by decide) inX4 tyX4_ok nmX4 rfl (Or.inl ⟨rfl, rfl⟩) wg_152 (by decide +kernel : decode (MT 23).2.1 92 = .ok (.putfield 21, 3)), mon_putf⟩,
  List.forall_mem_cons.mpr ⟨⟨xs_iinc (by decide +kernel : decode (MT 23).2.1 95 = .ok (.iinc 5 1, 3)) rfl, mon_iinc⟩,
  List.forall_mem_cons.mpr ⟨⟨xs_goto (by decide +kernel : decode (MT 23).2.1 98 = .ok (.goto (-91), 3)) (by decide), mon_goto⟩,
  List.forall_mem_cons.mpr ⟨⟨xs_iload (by decide +kernel : decode (MT 23).2.1 101 = .ok (.iload 4, 2)), mon_iload⟩,
  List.forall_mem_cons.mpr ⟨⟨xs_iret (by decide +kernel : decode (MT 23).2.1 103 = .ok (.ireturn, 1)) rfl, mon_iret⟩,
  fun _ h => absurd h List.not_mem_nil⟩⟩⟩⟩⟩⟩⟩⟩⟩⟩
def kl_X4_nextName : List (Nat × En) := kl_X4_nextName_0 ++ kl_X4_nextName_1
theorem kg_X4_nextName : ∀ q ∈ kl_X4_nextName, Gd 23 q := by
  intro q hq
  simp only [kl_X4_nextName, List.mem_append] at hq
  rcases hq with hq | hq
  · exact kg_X4_nextName_0 q hq
  · exact kg_X4_nextName_1 q hq
def kl_X5_init_0 : List (Nat × En) := [(0, .inl (xo_aload 0 1)), (1, .inl (xo_oinit 4)), (4, .inl (xo_aload 0 5)), (5, .inl (xo_const (.int 8) 7)), (7, .inl (xo_newi 0 9)), (9, .inl (xo_putf 5 0 false 12)), (12, .inl (xo_aload 0 13)), (13, .inl (xo_const (.int 8) 15)), (15, .inl (xo_newi 0 17)), (17, .inl (xo_putf 5 1 false 20)), (20, .inl (xo_aload 0 21)), (21, .inl (xo_const (.int 0) 22)), (22, .inl (xo_putf 5 2 true 25)), (25, .inl (xo_vret))]
set_option maxRecDepth 20000 in
theorem kg_X5_init_0 : ∀ q ∈ kl_X5_init_0, Gd 24 q := List.forall_mem_cons.mpr ⟨⟨xs_aload_n (by decide +kernel : decode (MT 24).2.1 0 = .ok (.aload_n 0, 1)) rfl, mon_aload⟩,
  List.forall_mem_cons.mpr ⟨⟨xs_oinit wg_29 wg_22 wg_oinit (by decide) (by decide) (by decide +kernel : decode (MT 24).2.1 1 = .ok (.invokespecial 3, 3)), mon_oinit⟩,
  List.forall_mem_cons.mpr ⟨⟨xs_aload_n (by decide +kernel : decode (MT 24).2.1 4 = .ok (.aload_n 0, 1)) rfl, mon_aload⟩,
  List.forall_mem_cons.mpr ⟨⟨xs_bipush (by decide +kernel : decode (MT 24).2.1 5 = .ok (.bipush 8, 2)) rfl, mon_const⟩,
  List.forall_mem_cons.mpr ⟨⟨xs_newi (Or.inl ⟨rfl, rfl⟩) wg_44 (by decide +kernel : decode (MT 24).2.1 7 = .ok (.newarray .int, 2)), mon_newi⟩,
  List.forall_mem_cons.mpr ⟨⟨xs_putfF (ci := 5) (k := 0) tyX5 rfl (by decide) inX5 tyX5_ok nmX5 rfl rfl rfl (Or.inr ⟨rfl, Or.inr ⟨_, rfl⟩⟩) wg_30 (by decide +kernel : decode (MT 24).2.1 9 = .ok (.putfield 9, 3)), mon_putf⟩,
  List.forall_mem_cons.mpr ⟨⟨xs_aload_n (by decide +kernel : decode (MT 24).2.1 12 = .ok (.aload_n 0, 1)) rfl, mon_aload⟩,
  List.forall_mem_cons.mpr ⟨⟨xs_bipush (by decide +kernel : decode (MT 24).2.1 13 = .ok (.bipush 8, 2)) rfl, mon_const⟩,
  List.forall_mem_cons.mpr ⟨⟨xs_newi (Or.inl ⟨rfl, rfl⟩) wg_44 (by decide +kernel : decode (MT 24).2.1 15 = .ok (.newarray .int, 2)), mon_newi⟩,
  List.forall_mem_cons.mpr ⟨⟨xs_putfF (ci := 5) (k := 1) tyX5 rfl (by decide) inX5 tyX5_ok nmX5 rfl rfl rfl (Or.inr ⟨rfl, Or.inr ⟨_, rfl⟩⟩) wg_32 (by decide +kernel : decode (MT 24).2.1 17 = .ok (.putfield 15, 3)), mon_putf⟩,
  List.forall_mem_cons.mpr ⟨⟨xs_aload_n (by decide +kernel : decode (MT 24).2.1 20 = .ok (.aload_n 0, 1)) rfl, mon_aload⟩,
  List.forall_mem_cons.mpr ⟨⟨xs_iconst (by decide +kernel : decode (MT 24).2.1 21 = .ok (.iconst 0, 1)) rfl, mon_const⟩,
  List.forall_mem_cons.mpr ⟨⟨xs_putf (ci := 5) (k := 2) tyX5 rfl (by decide) inX5 tyX5_ok nmX5 rfl (Or.inl ⟨rfl, rfl⟩) wg_35 (by decide +kernel : decode (MT 24).2.1 22 = .ok (.putfield 18, 3)), mon_putf⟩,
  List.forall_mem_cons.mpr ⟨⟨xs_vret (by decide +kernel : decode (MT 24).2.1 25 = .ok (.return_, 1)) rfl, mon_vret⟩,
  fun _ h => absurd h List.not_mem_nil⟩⟩⟩⟩⟩⟩⟩⟩⟩⟩⟩⟩⟩⟩
def kl_X5_init : List (Nat × En) := kl_X5_init_0
theorem kg_X5_init : ∀ q ∈ kl_X5_init, Gd 24 q := kg_X5_init_0
def kl_X5_endsAt_0 : List (Nat × En) := [(0, .inl (xo_aload 0 1)), (1, .inl (xo_getf 5 2 4)), (4, .inl (xo_if1 (fun x => decide (x ≤ 0)) 41 7)), (7, .inl (xo_aload 0 8)), (8, .inl (xo_getf 5 0 11)), (11, .inl (xo_aload 0 12)), (12, .inl (xo_getf 5 2 15)), (15, .inl (xo_const (.int 1) 16)), (16, .inl (xo_bin (fun x y => x - y) 17)), (17, .inl (xo_iald 18)), (18, .inl (xo_iload 1 19)), (19, .inl (xo_if2 (fun x y => decide (¬ x = y)) 41 22)), (22, .inl (xo_aload 0 23)), (23, .inl (xo_getf 5 1 26)), (26, .inl (xo_aload 0 27)), (27, .inl (xo_getf 5 2 30)), (30, .inl (xo_const (.int 1) 31)), (31, .inl (xo_bin (fun x y => x - y) 32)), (32, .inl (xo_iald 33)), (33, .inl (xo_iload 2 34)), (34, .inl (xo_if2 (fun x y => decide (¬ x = y)) 41 37)), (37, .inl (xo_const (.int 1) 38)), (38, .inl (xo_goto 42)), (41, .inl (xo_const (.int 0) 42)), (42, .inl (xo_zret))]
set_option maxRecDepth 20000 in
theorem kg_X5_endsAt_0 : ∀ q ∈ kl_X5_endsAt_0, Gd 25 q := List.forall_mem_cons.mpr ⟨⟨xs_aload_n (by decide +kernel : decode (MT 25).2.1 0 = .ok (.aload_n 0, 1)) rfl, mon_aload⟩,
  List.forall_mem_cons.mpr ⟨⟨xs_getf (ci := 5) (k := 2) rfl (by decide) inX5 wg_35 (by decide +kernel : decode (MT 25).2.1 1 = .ok (.getfield 18, 3)), mon_getf⟩,
  List.forall_mem_cons.mpr ⟨⟨xs_if_le (by decide +kernel : decode (MT 25).2.1 4 = .ok (.ifCond .le 37, 3)) (by decide), mon_if1⟩,
  List.forall_mem_cons.mpr ⟨⟨xs_aload_n (by decide +kernel : decode (MT 25).2.1 7 = .ok (.aload_n 0, 1)) rfl, mon_aload⟩,
  List.forall_mem_cons.mpr ⟨⟨xs_getf (ci := 5) (k := 0) rfl (by decide) inX5 wg_30 (by decide +kernel : decode (MT 25).2.1 8 = .ok (.getfield 9, 3)), mon_getf⟩,
  List.forall_mem_cons.mpr ⟨⟨xs_aload_n (by decide +kernel : decode (MT 25).2.1 11 = .ok (.aload_n 0, 1)) rfl, mon_aload⟩,
  List.forall_mem_cons.mpr ⟨⟨xs_getf (ci := 5) (k := 2) rfl (by decide) inX5 wg_35 (by decide +kernel : decode (MT 25).2.1 12 = .ok (.getfield 18, 3)), mon_getf⟩,
  List.forall_mem_cons.mpr ⟨⟨xs_iconst (by decide +kernel : decode (MT 25).2.1 15 = .ok (.iconst 1, 1)) rfl, mon_const⟩,
  List.forall_mem_cons.mpr ⟨⟨xs_isub (by decide +kernel : decode (MT 25).2.1 16 = .ok (.isub, 1)), mon_bin⟩,
  List.forall_mem_cons.mpr ⟨⟨xs_iald (by decide +kernel : decode (MT 25).2.1 17 = .ok (.iaload, 1)), mon_iald⟩,
  List.forall_mem_cons.mpr ⟨⟨xs_iload_n (by decide +kernel : decode (MT 25).2.1 18 = .ok (.iload_n 1, 1)) rfl, mon_iload⟩,
  List.forall_mem_cons.mpr ⟨⟨xs_icmp_ne (by decide +kernel : decode (MT 25).2.1 19 = .ok (.if_icmp .ne 22, 3)) (by decide), mon_if2⟩,
  List.forall_mem_cons.mpr ⟨⟨xs_aload_n (by decide +kernel : decode (MT 25).2.1 22 = .ok (.aload_n 0, 1)) rfl, mon_aload⟩,
  List.forall_mem_cons.mpr ⟨⟨xs_getf (ci := 5) (k := 1) rfl (by decide) inX5 wg_32 (by decide +kernel : decode (MT 25).2.1 23 = .ok (.getfield 15, 3)), mon_getf⟩,
  List.forall_mem_cons.mpr ⟨⟨xs_aload_n (by decide +kernel : decode (MT 25).2.1 26 = .ok (.aload_n 0, 1)) rfl, mon_aload⟩,
  List.forall_mem_cons.mpr ⟨⟨xs_getf (ci := 5) (k := 2) rfl (by decide) inX5 wg_35 (by decide +kernel : decode (MT 25).2.1 27 = .ok (.getfield 18, 3)), mon_getf⟩,
  List.forall_mem_cons.mpr ⟨⟨xs_iconst (by decide +kernel : decode (MT 25).2.1 30 = .ok (.iconst 1, 1)) rfl, mon_const⟩,
  List.forall_mem_cons.mpr ⟨⟨xs_isub (by decide +kernel : decode (MT 25).2.1 31 = .ok (.isub, 1)), mon_bin⟩,
  List.forall_mem_cons.mpr ⟨⟨xs_iald (by decide +kernel : decode (MT 25).2.1 32 = .ok (.iaload, 1)), mon_iald⟩,
  List.forall_mem_cons.mpr ⟨⟨xs_iload_n (by decide +kernel : decode (MT 25).2.1 33 = .ok (.iload_n 2, 1)) rfl, mon_iload⟩,
  List.forall_mem_cons.mpr ⟨⟨xs_icmp_ne (by decide +kernel : decode (MT 25).2.1 34 = .ok (.if_icmp .ne 7, 3)) (by decide), mon_if2⟩,
  List.forall_mem_cons.mpr ⟨⟨xs_iconst (by decide +kernel : decode (MT 25).2.1 37 = .ok (.iconst 1, 1)) rfl, mon_const⟩,
  List.forall_mem_cons.mpr ⟨⟨xs_goto (by decide +kernel : decode (MT 25).2.1 38 = .ok (.goto 4, 3)) (by decide), mon_goto⟩,
  List.forall_mem_cons.mpr ⟨⟨xs_iconst (by decide +kernel : decode (MT 25).2.1 41 = .ok (.iconst 0, 1)) rfl, mon_const⟩,
  List.forall_mem_cons.mpr ⟨⟨xs_zret (by decide +kernel : decode (MT 25).2.1 42 = .ok (.ireturn, 1)) rfl, mon_zret⟩,
  fun _ h => absurd h List.not_mem_nil⟩⟩⟩⟩⟩⟩⟩⟩⟩⟩⟩⟩⟩⟩⟩⟩⟩⟩⟩⟩⟩⟩⟩⟩⟩
def kl_X5_endsAt : List (Nat × En) := kl_X5_endsAt_0
theorem kg_X5_endsAt : ∀ q ∈ kl_X5_endsAt, Gd 25 q := kg_X5_endsAt_0
def kl_X5_add_0 : List (Nat × En) := [(0, .inl (xo_aload 0 1)), (1, .inl (xo_getf 5 2 4)), (4, .inl (xo_const (.int 8) 6)), (6, .inl (xo_if2 (fun x y => decide (x < y)) 11 9)), (9, .inl (xo_const (.int 0) 10)), (10, .inl (xo_zret)), (11, .inl (xo_aload 0 12)), (12, .inl (xo_getf 5 0 15)), (15, .inl (xo_aload 0 16)), (16, .inl (xo_getf 5 2 19)), (19, .inl (xo_iload 1 20)), (20, .inl (xo_iast 21)), (21, .inl (xo_aload 0 22)), (22, .inl (xo_getf 5 1 25)), (25, .inl (xo_aload 0 26)), (26, .inl (xo_getf 5 2 29)), (29, .inl (xo_iload 2 30)), (30, .inl (xo_iast 31)), (31, .inl (xo_aload 0 32)), (32, .inl (xo_dup 33)), (33, .inl (xo_getf 5 2 36)), (36, .inl (xo_const (.int 1) 37)), (37, .inl (xo_bin (fun x y => x + y) 38)), (38, .inl (xo_putf 5 2 true 41)), (41, .inl (xo_const (.int 1) 42)), (42, .inl (xo_zret))]
set_option maxRecDepth 20000 in
theorem kg_X5_add_0 : ∀ q ∈ kl_X5_add_0, Gd 26 q := List.forall_mem_cons.mpr ⟨⟨xs_aload_n (by decide +kernel : decode (MT 26).2.1 0 = .ok (.aload_n 0, 1)) rfl, mon_aload⟩,
  List.forall_mem_cons.mpr ⟨⟨xs_getf (ci := 5) (k := 2) rfl (by decide) inX5 wg_35 (by decide +kernel : decode (MT 26).2.1 1 = .ok (.getfield 18, 3)), mon_getf⟩,
  List.forall_mem_cons.mpr ⟨⟨xs_bipush (by decide +kernel : decode (MT 26).2.1 4 = .ok (.bipush 8, 2)) rfl, mon_const⟩,
  List.forall_mem_cons.mpr ⟨⟨xs_icmp_lt (by decide +kernel : decode (MT 26).2.1 6 = .ok (.if_icmp .lt 5, 3)) (by decide), mon_if2⟩,
  List.forall_mem_cons.mpr ⟨⟨xs_iconst (by decide +kernel : decode (MT 26).2.1 9 = .ok (.iconst 0, 1)) rfl, mon_const⟩,
  List.forall_mem_cons.mpr ⟨⟨xs_zret (by decide +kernel : decode (MT 26).2.1 10 = .ok (.ireturn, 1)) rfl, mon_zret⟩,
  List.forall_mem_cons.mpr ⟨⟨xs_aload_n (by decide +kernel : decode (MT 26).2.1 11 = .ok (.aload_n 0, 1)) rfl, mon_aload⟩,
  List.forall_mem_cons.mpr ⟨⟨xs_getf (ci := 5) (k := 0) rfl (by decide) inX5 wg_30 (by decide +kernel : decode (MT 26).2.1 12 = .ok (.getfield 9, 3)), mon_getf⟩,
  List.forall_mem_cons.mpr ⟨⟨xs_aload_n (by decide +kernel : decode (MT 26).2.1 15 = .ok (.aload_n 0, 1)) rfl, mon_aload⟩,
  List.forall_mem_cons.mpr ⟨⟨xs_getf (ci := 5) (k := 2) rfl (by decide) inX5 wg_35 (by decide +kernel : decode (MT 26).2.1 16 = .ok (.getfield 18, 3)), mon_getf⟩,
  List.forall_mem_cons.mpr ⟨⟨xs_iload_n (by decide +kernel : decode (MT 26).2.1 19 = .ok (.iload_n 1, 1)) rfl, mon_iload⟩,
  List.forall_mem_cons.mpr ⟨⟨xs_iast (by decide +kernel : decode (MT 26).2.1 20 = .ok (.iastore, 1)), mon_iast⟩,
  List.forall_mem_cons.mpr ⟨⟨xs_aload_n (by decide +kernel : decode (MT 26).2.1 21 = .ok (.aload_n 0, 1)) rfl, mon_aload⟩,
  List.forall_mem_cons.mpr ⟨⟨xs_getf (ci := 5) (k := 1) rfl (by decide) inX5 wg_32 (by decide +kernel : decode (MT 26).2.1 22 = .ok (.getfield 15, 3)), mon_getf⟩,
  List.forall_mem_cons.mpr ⟨⟨xs_aload_n (by decide +kernel : decode (MT 26).2.1 25 = .ok (.aload_n 0, 1)) rfl, mon_aload⟩,
  List.forall_mem_cons.mpr ⟨⟨xs_getf (ci := 5) (k := 2) rfl (by decide) inX5 wg_35 (by decide +kernel : decode (MT 26).2.1 26 = .ok (.getfield 18, 3)), mon_getf⟩,
  List.forall_mem_cons.mpr ⟨⟨xs_iload_n (by decide +kernel : decode (MT 26).2.1 29 = .ok (.iload_n 2, 1)) rfl, mon_iload⟩,
  List.forall_mem_cons.mpr ⟨⟨xs_iast (by decide +kernel : decode (MT 26).2.1 30 = .ok (.iastore, 1)), mon_iast⟩,
  List.forall_mem_cons.mpr ⟨⟨xs_aload_n (by decide +kernel : decode (MT 26).2.1 31 = .ok (.aload_n 0, 1)) rfl, mon_aload⟩,
  List.forall_mem_cons.mpr ⟨⟨xs_dup (by decide +kernel : decode (MT 26).2.1 32 = .ok (.dup, 1)), mon_dup⟩,
  List.forall_mem_cons.mpr ⟨⟨xs_getf (ci := 5) (k := 2) rfl (by decide) inX5 wg_35 (by decide +kernel : decode (MT 26).2.1 33 = .ok (.getfield 18, 3)), mon_getf⟩,
  List.forall_mem_cons.mpr ⟨⟨xs_iconst (by decide +kernel : decode (MT 26).2.1 36 = .ok (.iconst 1, 1)) rfl, mon_const⟩,
  List.forall_mem_cons.mpr ⟨⟨xs_iadd (by decide +kernel : decode (MT 26).2.1 37 = .ok (.iadd, 1)), mon_bin⟩,
  List.forall_mem_cons.mpr ⟨⟨xs_putf (ci := 5) (k := 2) tyX5 rfl (by decide) inX5 tyX5_ok nmX5 rfl (Or.inl ⟨rfl, rfl⟩) wg_35 (by decide +kernel : decode (MT 26).2.1 38 = .ok (.putfield 18, 3)), mon_putf⟩,
  List.forall_mem_cons.mpr ⟨⟨xs_iconst (by decide +kernel : decode (MT 26).2.1 41 = .ok (.iconst 1, 1)) rfl, mon_const⟩,
  List.forall_mem_cons.mpr ⟨⟨xs_zret (by decide +kernel : decode (MT 26).2.1 42 = .ok (.ireturn, 1)) rfl, mon_zret⟩,
  fun _ h => absurd h List.not_mem_nil⟩⟩⟩⟩⟩⟩⟩⟩⟩⟩⟩⟩⟩⟩⟩⟩⟩⟩⟩⟩⟩⟩⟩⟩⟩⟩
def kl_X5_add : List (Nat × En) := kl_X5_add_0
theorem kg_X5_add : ∀ q ∈ kl_X5_add, Gd 26 q := kg_X5_add_0
def kl_X5_clear_0 : List (Nat × En) := [(0, .inl (xo_aload 0 1)), (1, .inl (xo_const (.int 0) 2)), (2, .inl (xo_putf 5 2 true 5)), (5, .inl (xo_vret))]
set_option maxRecDepth 20000 in
theorem kg_X5_clear_0 : ∀ q ∈ kl_X5_clear_0, Gd 27 q := List.forall_mem_cons.mpr ⟨⟨xs_aload_n (by decide +kernel : decode (MT 27).2.1 0 = .ok (.aload_n 0, 1)) rfl, mon_aload⟩,
  List.forall_mem_cons.mpr ⟨⟨xs_iconst (by decide +kernel : decode (MT 27).2.1 1 = .ok (.iconst 0, 1)) rfl, mon_const⟩,
  List.forall_mem_cons.mpr ⟨⟨xs_putf (ci := 5) (k := 2) tyX5 rfl (by decide) inX5 tyX5_ok nmX5 rfl (Or.inl ⟨rfl, rfl⟩) wg_35 (by decide +kernel : decode (MT 27).2.1 2 = .ok (.putfield 18, 3)), mon_putf⟩,
  List.forall_mem_cons.mpr ⟨⟨xs_vret (by decide +kernel : decode (MT 27).2.1 5 = .ok (.return_, 1)) rfl, mon_vret⟩,
  fun _ h => absurd h List.not_mem_nil⟩⟩⟩⟩
def kl_X5_clear : List (Nat × En) := kl_X5_clear_0
theorem kg_X5_clear : ∀ q ∈ kl_X5_clear, Gd 27 q := kg_X5_clear_0
def kl_X6_init_0 : List (Nat × En) := [(0, .inl (xo_aload 0 1)), (1, .inl (xo_oinit 4)), (4, .inl (xo_aload 0 5)), (5, .inl (xo_const (.int 6) 7)), (7, .inl (xo_newr 3 10)), (10, .inl (xo_putf 6 0 false 13)), (13, .inl (xo_aload 0 14)), (14, .inl (xo_const (.int 0) 15)), (15, .inl (xo_putf 6 1 true 18)), (18, .inl (xo_vret))]
set_option maxRecDepth 20000 in
theorem kg_X6_init_0 : ∀ q ∈ kl_X6_init_0, Gd 28 q := List.forall_mem_cons.mpr ⟨⟨xs_aload_n (by decide +kernel : decode (MT 28).2.1 0 = .ok (.aload_n 0, 1)) rfl, mon_aload⟩,
  List.forall_mem_cons.mpr ⟨⟨xs_oinit wg_50 wg_22 wg_oinit (by decide) (by decide) (by decide +kernel : decode (MT 28).2.1 1 = .ok (.invokespecial 3, 3)), mon_oinit⟩,
  List.forall_mem_cons.mpr ⟨⟨xs_aload_n (by decide +kernel : decode (MT 28).2.1 4 = .ok (.aload_n 0, 1)) rfl, mon_aload⟩,
  List.forall_mem_cons.mpr ⟨⟨xs_bipush (by decide +kernel : decode (MT 28).2.1 5 = .ok (.bipush 6, 2)) rfl, mon_const⟩,
  List.forall_mem_cons.mpr ⟨⟨xs_newr (Or.inl ⟨rfl, rfl⟩) wg_51 wn_52 (by decide +kernel : decode (MT 28).2.1 7 = .ok (.anewarray 9, 3)), mon_newr⟩,
  List.forall_mem_cons.mpr ⟨⟨xs_putfF (ci := 6) (k := 0) tyX6 rfl (by decide) inX6 tyX6_ok nmX6 rfl rfl rfl (Or.inr ⟨rfl, Or.inr ⟨_, rfl⟩⟩) wg_53 (by decide +kernel : decode (MT 28).2.1 10 = .ok (.putfield 11, 3)), mon_putf⟩,
  List.forall_mem_cons.mpr ⟨⟨xs_aload_n (by decide +kernel : decode (MT 28).2.1 13 = .ok (.aload_n 0, 1)) rfl, mon_aload⟩,
  List.forall_mem_cons.mpr ⟨⟨xs_iconst (by decide +kernel : decode (MT 28).2.1 14 = .ok (.iconst 0, 1)) rfl, mon_const⟩,
  List.forall_mem_cons.mpr ⟨⟨xs_putf (ci := 6) (k := 1) tyX6 rfl (by decide) inX6 tyX6_ok nmX6 rfl (Or.inl ⟨rfl, rfl⟩) wg_55 (by decide +kernel : decode (MT 28).2.1 15 = .ok (.putfield 17, 3)), mon_putf⟩,
  List.forall_mem_cons.mpr ⟨⟨xs_vret (by decide +kernel : decode (MT 28).2.1 18 = .ok (.return_, 1)) rfl, mon_vret⟩,
  fun _ h => absurd h List.not_mem_nil⟩⟩⟩⟩⟩⟩⟩⟩⟩⟩
def kl_X6_init : List (Nat × En) := kl_X6_init_0
theorem kg_X6_init : ∀ q ∈ kl_X6_init, Gd 28 q := kg_X6_init_0
def kl_X6_at_0 : List (Nat × En) := [(0, .inl (xo_iload 1 1)), (1, .inl (xo_const (.int 0) 2)), (2, .inl (xo_const (.int 5) 3)), (3, .inr (98, 3, none, 6)), (6, .inl (xo_if1 (fun x => decide (x = 0)) 18 9)), (9, .inl (xo_aload 0 10)), (10, .inl (xo_getf 6 0 13)), (13, .inl (xo_iload 1 14)), (14, .inl (xo_aald 15)), (15, .inl (xo_goto 19)), (18, .inl (xo_const .null 19)), (19, .inl (xo_aret))]
set_option maxRecDepth 20000 in
theorem kg_X6_at_0 : ∀ q ∈ kl_X6_at_0, Gd 29 q := List.forall_mem_cons.mpr ⟨⟨xs_iload_n (by decide +kernel : decode (MT 29).2.1 0 = .ok (.iload_n 1, 1)) rfl, mon_iload⟩,
  List.forall_mem_cons.mpr ⟨⟨xs_iconst (by decide +kernel : decode (MT 29).2.1 1 = .ok (.iconst 0, 1)) rfl, mon_const⟩,
  List.forall_mem_cons.mpr ⟨⟨xs_iconst (by decide +kernel : decode (MT 29).2.1 2 = .ok (.iconst 5, 1)) rfl, mon_const⟩,
  List.forall_mem_cons.mpr ⟨xk_SN (by decide +kernel : decode (MT 29).2.1 3 = .ok (.invokestatic 21, 3)) wn_325 wg_206 cal_X9_within.2.1 cal_X9_within.1 cal_X9_within.2.2.1 cal_X9_within.2.2.2 (by decide) (by decide),
  List.forall_mem_cons.mpr ⟨⟨xs_if_eq (by decide +kernel : decode (MT 29).2.1 6 = .ok (.ifCond .eq 12, 3)) (by decide), mon_if1⟩,
  List.forall_mem_cons.mpr ⟨⟨xs_aload_n (by decide +kernel : decode (MT 29).2.1 9 = .ok (.aload_n 0, 1)) rfl, mon_aload⟩,
  List.forall_mem_cons.mpr ⟨⟨xs_getf (ci := 6) (k := 0) rfl (by decide) inX6 wg_53 (by decide +kernel : decode (MT 29).2.1 10 = .ok (.getfield 11, 3)), mon_getf⟩,
  List.forall_mem_cons.mpr ⟨⟨xs_iload_n (by decide +kernel : decode (MT 29).2.1 13 = .ok (.iload_n 1, 1)) rfl, mon_iload⟩,
  List.forall_mem_cons.mpr ⟨⟨xs_aald (by decide +kernel : decode (MT 29).2.1 14 = .ok (.aaload, 1)), mon_aald⟩,
  List.forall_mem_cons.mpr ⟨⟨xs_goto (by decide +kernel : decode (MT 29).2.1 15 = .ok (.goto 4, 3)) (by decide), mon_goto⟩,
  List.forall_mem_cons.mpr ⟨⟨xs_anull (by decide +kernel : decode (MT 29).2.1 18 = .ok (.aconst_null, 1)), mon_const⟩,
  List.forall_mem_cons.mpr ⟨⟨xs_aret (by decide +kernel : decode (MT 29).2.1 19 = .ok (.areturn, 1)) rfl (Or.inl ⟨_, rfl⟩), mon_aret⟩,
  fun _ h => absurd h List.not_mem_nil⟩⟩⟩⟩⟩⟩⟩⟩⟩⟩⟩⟩
def kl_X6_at : List (Nat × En) := kl_X6_at_0
theorem kg_X6_at : ∀ q ∈ kl_X6_at, Gd 29 q := kg_X6_at_0
def kl_X6_add_0 : List (Nat × En) := [(0, .inl (xo_aload 0 1)), (1, .inl (xo_getf 6 1 4)), (4, .inl (xo_const (.int 6) 6)), (6, .inl (xo_if2 (fun x y => decide (x ≥ y)) 29 9)), (9, .inl (xo_aload 0 10)), (10, .inl (xo_getf 6 0 13)), (13, .inl (xo_aload 0 14)), (14, .inl (xo_getf 6 1 17)), (17, .inl (xo_aload 1 18)), (18, .inl (xo_aast 19)), (19, .inl (xo_aload 0 20)), (20, .inl (xo_dup 21)), (21, .inl (xo_getf 6 1 24)), (24, .inl (xo_const (.int 1) 25)), (25, .inl (xo_bin (fun x y => x + y) 26)), (26, .inl (xo_putf 6 1 true 29)), (29, .inl (xo_vret))]
set_option maxRecDepth 20000 in
theorem kg_X6_add_0 : ∀ q ∈ kl_X6_add_0, Gd 30 q := List.forall_mem_cons.mpr ⟨⟨xs_aload_n (by decide +kernel : decode (MT 30).2.1 0 = .ok (.aload_n 0, 1)) rfl, mon_aload⟩,
  List.forall_mem_cons.mpr ⟨⟨xs_getf (ci := 6) (k := 1) rfl (by decide) inX6 wg_55 (by decide +kernel : decode (MT 30).2.1 1 = .ok (.getfield 17, 3)), mon_getf⟩,
  List.forall_mem_cons.mpr ⟨⟨xs_bipush (by decide +kernel : decode (MT 30).2.1 4 = .ok (.bipush 6, 2)) rfl, mon_const⟩,
  List.forall_mem_cons.mpr ⟨⟨xs_icmp_ge (by decide +kernel : decode (MT 30).2.1 6 = .ok (.if_icmp .ge 23, 3)) (by decide), mon_if2⟩,
  List.forall_mem_cons.mpr ⟨⟨xs_aload_n (by decide +kernel : decode (MT 30).2.1 9 = .ok (.aload_n 0, 1)) rfl, mon_aload⟩,
  List.forall_mem_cons.mpr ⟨⟨xs_getf (ci := 6) (k := 0) rfl (by decide) inX6 wg_53 (by decide +kernel : decode (MT 30).2.1 10 = .ok (.getfield 11, 3)), mon_getf⟩,
  List.forall_mem_cons.mpr ⟨⟨xs_aload_n (by decide +kernel : decode (MT 30).2.1 13 = .ok (.aload_n 0, 1)) rfl, mon_aload⟩,
  List.forall_mem_cons.mpr ⟨⟨xs_getf (ci := 6) (k := 1) rfl (by decide) inX6 wg_55 (by decide +kernel : decode (MT 30).2.1 14 = .ok (.getfield 17, 3)), mon_getf⟩,
  List.forall_mem_cons.mpr ⟨⟨xs_aload_n (by decide +kernel : decode (MT 30).2.1 17 = .ok (.aload_n 1, 1)) rfl, mon_aload⟩,
  List.forall_mem_cons.mpr ⟨⟨xs_aast (by decide +kernel : decode (MT 30).2.1 18 = .ok (.aastore, 1)), mon_aast⟩,
  List.forall_mem_cons.mpr ⟨⟨xs_aload_n (by decide +kernel : decode (MT 30).2.1 19 = .ok (.aload_n 0, 1)) rfl, mon_aload⟩,
  List.forall_mem_cons.mpr ⟨⟨xs_dup (by decide +kernel : decode (MT 30).2.1 20 = .ok (.dup, 1)), mon_dup⟩,
  List.forall_mem_cons.mpr ⟨⟨xs_getf (ci := 6) (k := 1) rfl (by decide) inX6 wg_55 (by decide +kernel : decode (MT 30).2.1 21 = .ok (.getfield 17, 3)), mon_getf⟩,
  List.forall_mem_cons.mpr ⟨⟨xs_iconst (by decide +kernel : decode (MT 30).2.1 24 = .ok (.iconst 1, 1)) rfl, mon_const⟩,
  List.forall_mem_cons.mpr ⟨⟨xs_iadd (by decide +kernel : decode (MT 30).2.1 25 = .ok (.iadd, 1)), mon_bin⟩,
  List.forall_mem_cons.mpr ⟨⟨xs_putf (ci := 6) (k := 1) tyX6 rfl (by decide) inX6 tyX6_ok nmX6 rfl (Or.inl ⟨rfl, rfl⟩) wg_55 (by decide +kernel : decode (MT 30).2.1 26 = .ok (.putfield 17, 3)), mon_putf⟩,
  List.forall_mem_cons.mpr ⟨⟨xs_vret (by decide +kernel : decode (MT 30).2.1 29 = .ok (.return_, 1)) rfl, mon_vret⟩,
  fun _ h => absurd h List.not_mem_nil⟩⟩⟩⟩⟩⟩⟩⟩⟩⟩⟩⟩⟩⟩⟩⟩⟩
def kl_X6_add : List (Nat × En) := kl_X6_add_0
theorem kg_X6_add : ∀ q ∈ kl_X6_add, Gd 30 q := kg_X6_add_0
def kl_X6_removeLast_0 : List (Nat × En) := [(0, .inl (xo_aload 0 1)), (1, .inl (xo_getf 6 1 4)), (4, .inl (xo_if1 (fun x => decide (x ≤ 0)) 27 7)), (7, .inl (xo_aload 0 8)), (8, .inl (xo_dup 9)), (9, .inl (xo_getf 6 1 12)), (12, .inl (xo_const (.int 1) 13)), (13, .inl (xo_bin (fun x y => x - y) 14)), (14, .inl (xo_putf 6 1 true 17)), (17, .inl (xo_aload 0 18)), (18, .inl (xo_getf 6 0 21)), (21, .inl (xo_aload 0 22)), (22, .inl (xo_getf 6 1 25)), (25, .inl (xo_const .null 26)), (26, .inl (xo_aast 27)), (27, .inl (xo_vret))]
set_option maxRecDepth 20000 in
theorem kg_X6_removeLast_0 : ∀ q ∈ kl_X6_removeLast_0, Gd 31 q := List.forall_mem_cons.mpr ⟨⟨xs_aload_n (by decide +kernel : decode (MT 31).2.1 0 = .ok (.aload_n 0, 1)) rfl, mon_aload⟩,
  List.forall_mem_cons.mpr ⟨⟨xs_getf (ci := 6) (k := 1) rfl (by decide) inX6 wg_55 (by decide +kernel : decode (MT 31).2.1 1 = .ok (.getfield 17, 3)), mon_getf⟩,
  List.forall_mem_cons.mpr ⟨⟨xs_if_le (by decide +kernel : decode (MT 31).2.1 4 = .ok (.ifCond .le 23, 3)) (by decide), mon_if1⟩,
  List.forall_mem_cons.mpr ⟨⟨xs_aload_n (by decide +kernel : decode (MT 31).2.1 7 = .ok (.aload_n 0, 1)) rfl, mon_aload⟩,
  List.forall_mem_cons.mpr ⟨⟨xs_dup (by decide +kernel : decode (MT 31).2.1 8 = .ok (.dup, 1)), mon_dup⟩,
  List.forall_mem_cons.mpr ⟨⟨xs_getf (ci := 6) (k := 1) rfl (by decide) inX6 wg_55 (by decide +kernel : decode (MT 31).2.1 9 = .ok (.getfield 17, 3)), mon_getf⟩,
  List.forall_mem_cons.mpr ⟨⟨xs_iconst (by decide +kernel : decode (MT 31).2.1 12 = .ok (.iconst 1, 1)) rfl, mon_const⟩,
  List.forall_mem_cons.mpr ⟨⟨xs_isub (by decide +kernel : decode (MT 31).2.1 13 = .ok (.isub, 1)), mon_bin⟩,
  List.forall_mem_cons.mpr ⟨⟨xs_putf (ci := 6) (k := 1) tyX6 rfl (by decide) inX6 tyX6_ok nmX6 rfl (Or.inl ⟨rfl, rfl⟩) wg_55 (by decide +kernel : decode (MT 31).2.1 14 = .ok (.putfield 17, 3)), mon_putf⟩,
  List.forall_mem_cons.mpr ⟨⟨xs_aload_n (by decide +kernel : decode (MT 31).2.1 17 = .ok (.aload_n 0, 1)) rfl, mon_aload⟩,
  List.forall_mem_cons.mpr ⟨⟨xs_getf (ci := 6) (k := 0) rfl (by decide) inX6 wg_53 (by decide +kernel : decode (MT 31).2.1 18 = .ok (.getfield 11, 3)), mon_getf⟩,
  List.forall_mem_cons.mpr ⟨⟨xs_aload_n (by decide +kernel : decode (MT 31).2.1 21 = .ok (.aload_n 0, 1)) rfl, mon_aload⟩,
  List.forall_mem_cons.mpr ⟨⟨xs_getf (ci := 6) (k := 1) rfl (by decide) inX6 wg_55 (by decide +kernel : decode (MT 31).2.1 22 = .ok (.getfield 17, 3)), mon_getf⟩,
  List.forall_mem_cons.mpr ⟨⟨xs_anull (by decide +kernel : decode (MT 31).2.1 25 = .ok (.aconst_null, 1)), mon_const⟩,
  List.forall_mem_cons.mpr ⟨⟨xs_aast (by decide +kernel : decode (MT 31).2.1 26 = .ok (.aastore, 1)), mon_aast⟩,
  List.forall_mem_cons.mpr ⟨⟨xs_vret (by decide +kernel : decode (MT 31).2.1 27 = .ok (.return_, 1)) rfl, mon_vret⟩,
  fun _ h => absurd h List.not_mem_nil⟩⟩⟩⟩⟩⟩⟩⟩⟩⟩⟩⟩⟩⟩⟩⟩
def kl_X6_removeLast : List (Nat × En) := kl_X6_removeLast_0
theorem kg_X6_removeLast : ∀ q ∈ kl_X6_removeLast, Gd 31 q := kg_X6_removeLast_0
def kl_X6_clear_0 : List (Nat × En) := [(0, .inl (xo_const (.int 0) 1)), (1, .inl (xo_istore 1 2)), (2, .inl (xo_iload 1 3)), (3, .inl (xo_const (.int 6) 5)), (5, .inl (xo_if2 (fun x y => decide (x ≥ y)) 21 8)), (8, .inl (xo_aload 0 9)), (9, .inl (xo_getf 6 0 12)), (12, .inl (xo_iload 1 13)), (13, .inl (xo_const .null 14)), (14, .inl (xo_aast 15)), (15, .inl (xo_iinc 1 1 18)), (18, .inl (xo_goto 2)), (21, .inl (xo_aload 0 22)), (22, .inl (xo_const (.int 0) 23)), (23, .inl (xo_putf 6 1 true 26)), (26, .inl (xo_vret))]
set_option maxRecDepth 20000 in
theorem kg_X6_clear_0 : ∀ q ∈ kl_X6_clear_0, Gd 32 q := List.forall_mem_cons.mpr ⟨⟨xs_iconst (by decide +kernel : decode (MT 32).2.1 0 = .ok (.iconst 0, 1)) rfl, mon_const⟩,
  List.forall_mem_cons.mpr ⟨⟨xs_istore_n (by decide +kernel : decode (MT 32).2.1 1 = .ok (.istore_n 1, 1)) rfl, mon_istore⟩,
  List.forall_mem_cons.mpr ⟨⟨xs_iload_n (by decide +kernel : decode (MT 32).2.1 2 = .ok (.iload_n 1, 1)) rfl, mon_iload⟩,
  List.forall_mem_cons.mpr ⟨⟨xs_bipush (by decide +kernel : decode (MT 32).2.1 3 = .ok (.bipush 6, 2)) rfl, mon_const⟩,
  List.forall_mem_cons.mpr ⟨⟨xs_icmp_ge (by decide +kernel : decode (MT 32).2.1 5 = .ok (.if_icmp .ge 16, 3)) (by decide), mon_if2⟩,
  List.forall_mem_cons.mpr ⟨⟨xs_aload_n (by decide +kernel : decode (MT 32).2.1 8 = .ok (.aload_n 0, 1)) rfl, mon_aload⟩,
  List.forall_mem_cons.mpr ⟨⟨xs_getf (ci := 6) (k := 0) rfl (by decide) inX6 wg_53 (by decide +kernel : decode (MT 32).2.1 9 = .ok (.getfield 11, 3)), mon_getf⟩,
  List.forall_mem_cons.mpr ⟨⟨xs_iload_n (by decide +kernel : decode (MT 32).2.1 12 = .ok (.iload_n 1, 1)) rfl, mon_iload⟩,
  List.forall_mem_cons.mpr ⟨⟨xs_anull (by decide +kernel : decode (MT 32).2.1 13 = .ok (.aconst_null, 1)), mon_const⟩,
  List.forall_mem_cons.mpr ⟨⟨xs_aast (by decide +kernel : decode (MT 32).2.1 14 = .ok (.aastore, 1)), mon_aast⟩,
  List.forall_mem_cons.mpr ⟨⟨xs_iinc (by decide +kernel : decode (MT 32).2.1 15 = .ok (.iinc 1 1, 3)) rfl, mon_iinc⟩,
  List.forall_mem_cons.mpr ⟨⟨xs_goto (by decide +kernel : decode (MT 32).2.1 18 = .ok (.goto (-16), 3)) (by decide), mon_goto⟩,
  List.forall_mem_cons.mpr ⟨⟨xs_aload_n (by decide +kernel : decode (MT 32).2.1 21 = .ok (.aload_n 0, 1)) rfl, mon_aload⟩,
  List.forall_mem_cons.mpr ⟨⟨xs_iconst (by decide +kernel : decode (MT 32).2.1 22 = .ok (.iconst 0, 1)) rfl, mon_const⟩,
  List.forall_mem_cons.mpr ⟨⟨xs_putf (ci := 6) (k := 1) tyX6 rfl (by decide) inX6 tyX6_ok nmX6 rfl (Or.inl ⟨rfl, rfl⟩) wg_55 (by decide +kernel : decode (MT 32).2.1 23 = .ok (.putfield 17, 3)), mon_putf⟩,
  List.forall_mem_cons.mpr ⟨⟨xs_vret (by decide +kernel : decode (MT 32).2.1 26 = .ok (.return_, 1)) rfl, mon_vret⟩,
  fun _ h => absurd h List.not_mem_nil⟩⟩⟩⟩⟩⟩⟩⟩⟩⟩⟩⟩⟩⟩⟩⟩
def kl_X6_clear : List (Nat × En) := kl_X6_clear_0
theorem kg_X6_clear : ∀ q ∈ kl_X6_clear, Gd 32 q := kg_X6_clear_0
def kl_X6_copyFrom_0 : List (Nat × En) := [(0, .inl (xo_const (.int 0) 1)), (1, .inl (xo_istore 2 2)), (2, .inl (xo_iload 2 3)), (3, .inl (xo_const (.int 6) 5)), (5, .inl (xo_if2 (fun x y => decide (x ≥ y)) 26 8)), (8, .inl (xo_aload 0 9)), (9, .inl (xo_getf 6 0 12)), (12, .inl (xo_iload 2 13)), (13, .inl (xo_aload 1 14)), (14, .inl (xo_getf 6 0 17)), (17, .inl (xo_iload 2 18)), (18, .inl (xo_aald 19)), (19, .inl (xo_aast 20)), (20, .inl (xo_iinc 2 1 23)), (23, .inl (xo_goto 2)), (26, .inl (xo_aload 0 27)), (27, .inl (xo_aload 1 28)), (28, .inl (xo_getf 6 1 31)), (31, .inl (xo_putf 6 1 true 34)), (34, .inl (xo_vret))]
set_option maxRecDepth 20000 in
theorem kg_X6_copyFrom_0 : ∀ q ∈ kl_X6_copyFrom_0, Gd 33 q := List.forall_mem_cons.mpr ⟨⟨xs_iconst (by decide +kernel : decode (MT 33).2.1 0 = .ok (.iconst 0, 1)) rfl, mon_const⟩,
  List.forall_mem_cons.mpr ⟨⟨xs_istore_n (by decide +kernel : decode (MT 33).2.1 1 = .ok (.istore_n 2, 1)) rfl, mon_istore⟩,
  List.forall_mem_cons.mpr ⟨⟨xs_iload_n (by decide +kernel : decode (MT 33).2.1 2 = .ok (.iload_n 2, 1)) rfl, mon_iload⟩,
  List.forall_mem_cons.mpr ⟨⟨xs_bipush (by decide +kernel : decode (MT 33).2.1 3 = .ok (.bipush 6, 2)) rfl, mon_const⟩,
  List.forall_mem_cons.mpr ⟨⟨xs_icmp_ge (by decide +kernel : decode (MT 33).2.1 5 = .ok (.if_icmp .ge 21, 3)) (by decide), mon_if2⟩,
  List.forall_mem_cons.mpr ⟨⟨xs_aload_n (by decide +kernel : decode (MT 33).2.1 8 = .ok (.aload_n 0, 1)) rfl, mon_aload⟩,
  List.forall_mem_cons.mpr ⟨⟨xs_getf (ci := 6) (k := 0) rfl (by decide) inX6 wg_53 (by decide +kernel : decode (MT 33).2.1 9 = .ok (.getfield 11, 3)), mon_getf⟩,
  List.forall_mem_cons.mpr ⟨⟨xs_iload_n (by decide +kernel : decode (MT 33).2.1 12 = .ok (.iload_n 2, 1)) rfl, mon_iload⟩,
  List.forall_mem_cons.mpr ⟨⟨xs_aload_n (by decide +kernel : decode (MT 33).2.1 13 = .ok (.aload_n 1, 1)) rfl, mon_aload⟩,
  List.forall_mem_cons.mpr ⟨⟨xs_getf (ci := 6) (k := 0) rfl (by decide) inX6 wg_53 (by decide +kernel : decode (MT 33).2.1 14 = .ok (.getfield 11, 3)), mon_getf⟩,
  List.forall_mem_cons.mpr ⟨⟨xs_iload_n (by decide +kernel : decode (MT 33).2.1 17 = .ok (.iload_n 2, 1)) rfl, mon_iload⟩,
  List.forall_mem_cons.mpr ⟨⟨xs_aald (by decide +kernel : decode (MT 33).2.1 18 = .ok (.aaload, 1)), mon_aald⟩,
  List.forall_mem_cons.mpr ⟨⟨xs_aast (by decide +kernel : decode (MT 33).2.1 19 = .ok (.aastore, 1)), mon_aast⟩,
  List.forall_mem_cons.mpr ⟨⟨xs_iinc (by decide +kernel : decode (MT 33).2.1 20 = .ok (.iinc 2 1, 3)) rfl, mon_iinc⟩,
  List.forall_mem_cons.mpr ⟨⟨xs_goto (by decide +kernel : decode (MT 33).2.1 23 = .ok (.goto (-21), 3)) (by decide), mon_goto⟩,
  List.forall_mem_cons.mpr ⟨⟨xs_aload_n (by decide +kernel : decode (MT 33).2.1 26 = .ok (.aload_n 0, 1)) rfl, mon_aload⟩,
  List.forall_mem_cons.mpr ⟨⟨xs_aload_n (by decide +kernel : decode (MT 33).2.1 27 = .ok (.aload_n 1, 1)) rfl, mon_aload⟩,
  List.forall_mem_cons.mpr ⟨⟨xs_getf (ci := 6) (k := 1) rfl (by decide) inX6 wg_55 (by decide +kernel : decode (MT 33).2.1 28 = .ok (.getfield 17, 3)), mon_getf⟩,
  List.forall_mem_cons.mpr ⟨⟨xs_putf (ci := 6) (k := 1) tyX6 rfl (by decide) inX6 tyX6_ok nmX6 rfl (Or.inl ⟨rfl, rfl⟩) wg_55 (by decide +kernel : decode (MT 33).2.1 31 = .ok (.putfield 17, 3)), mon_putf⟩,
  List.forall_mem_cons.mpr ⟨⟨xs_vret (by decide +kernel : decode (MT 33).2.1 34 = .ok (.return_, 1)) rfl, mon_vret⟩,
  fun _ h => absurd h List.not_mem_nil⟩⟩⟩⟩⟩⟩⟩⟩⟩⟩⟩⟩⟩⟩⟩⟩⟩⟩⟩⟩
def kl_X6_copyFrom : List (Nat × En) := kl_X6_copyFrom_0
theorem kg_X6_copyFrom : ∀ q ∈ kl_X6_copyFrom, Gd 33 q := kg_X6_copyFrom_0
def kl_X6_gatherInk_0 : List (Nat × En) := [(0, .inl (xo_aload 1 1)), (1, .inl (xo_const (.int 0) 2)), (2, .inr (194, 2, none, 5)), (5, .inl (xo_aload 0 6)), (6, .inl (xo_getf 6 0 9)), (9, .inl (xo_astore 2 10)), (10, .inl (xo_aload 2 11)), (11, .inl (xo_alen 12)), (12, .inl (xo_istore 3 13)), (13, .inl (xo_const (.int 0) 14)), (14, .inl (xo_istore 4 16)), (16, .inl (xo_iload 4 18)), (18, .inl (xo_iload 3 19)), (19, .inl (xo_if2 (fun x y => decide (x ≥ y)) 45 22)), (22, .inl (xo_aload 2 23)), (23, .inl (xo_iload 4 25)), (25, .inl (xo_aald 26)), (26, .inl (xo_astore 5 28)), (28, .inl (xo_aload 5 30)), (30, .inl (xo_null 39 33)), (33, .inl (xo_aload 5 35)), (35, .inl (xo_aload 1 36)), (36, .inr (61, 2, (some 8), 39)), (39, .inl (xo_iinc 4 1 42)), (42, .inl (xo_goto 16)), (45, .inl (xo_vret))]
set_option maxRecDepth 20000 in
theorem kg_X6_gatherInk_0 : ∀ q ∈ kl_X6_gatherInk_0, Gd 34 q := List.forall_mem_cons.mpr ⟨⟨xs_aload_n (by decide +kernel : decode (MT 34).2.1 0 = .ok (.aload_n 1, 1)) rfl, mon_aload⟩,
  List.forall_mem_cons.mpr ⟨⟨xs_iconst (by decide +kernel : decode (MT 34).2.1 1 = .ok (.iconst 0, 1)) rfl, mon_const⟩,
  List.forall_mem_cons.mpr ⟨xk_S (by decide +kernel : decode (MT 34).2.1 2 = .ok (.invokestatic 25, 3)) wg_381 wg_382 cal_J7_fill_53178.2.1 cal_J7_fill_53178.1 cal_J7_fill_53178.2.2.1 cal_J7_fill_53178.2.2.2 (by decide) (by decide),
  List.forall_mem_cons.mpr ⟨⟨xs_aload_n (by decide +kernel : decode (MT 34).2.1 5 = .ok (.aload_n 0, 1)) rfl, mon_aload⟩,
  List.forall_mem_cons.mpr ⟨⟨xs_getf (ci := 6) (k := 0) rfl (by decide) inX6 wg_53 (by decide +kernel : decode (MT 34).2.1 6 = .ok (.getfield 11, 3)), mon_getf⟩,
  List.forall_mem_cons.mpr ⟨⟨xs_astore_n (by decide +kernel : decode (MT 34).2.1 9 = .ok (.astore_n 2, 1)) rfl, mon_astore⟩,
  List.forall_mem_cons.mpr ⟨⟨xs_aload_n (by decide +kernel : decode (MT 34).2.1 10 = .ok (.aload_n 2, 1)) rfl, mon_aload⟩,
  List.forall_mem_cons.mpr ⟨⟨xs_alen (by decide +kernel : decode (MT 34).2.1 11 = .ok (.arraylength, 1)), mon_alen⟩,
  List.forall_mem_cons.mpr ⟨⟨xs_istore_n (by decide +kernel : decode (MT 34).2.1 12 = .ok (.istore_n 3, 1)) rfl, mon_istore⟩,
  List.forall_mem_cons.mpr ⟨⟨xs_iconst (by decide +kernel : decode (MT 34).2.1 13 = .ok (.iconst 0, 1)) rfl, mon_const⟩,
  List.forall_mem_cons.mpr ⟨⟨xs_istore (by decide +kernel : decode (MT 34).2.1 14 = .ok (.istore 4, 2)), mon_istore⟩,
  List.forall_mem_cons.mpr ⟨⟨xs_iload (by decide +kernel : decode (MT 34).2.1 16 = .ok (.iload 4, 2)), mon_iload⟩,
  List.forall_mem_cons.mpr ⟨⟨xs_iload_n (by decide +kernel : decode (MT 34).2.1 18 = .ok (.iload_n 3, 1)) rfl, mon_iload⟩,
  List.forall_mem_cons.mpr ⟨⟨xs_icmp_ge (by decide +kernel : decode (MT 34).2.1 19 = .ok (.if_icmp .ge 26, 3)) (by decide), mon_if2⟩,
  List.forall_mem_cons.mpr ⟨⟨xs_aload_n (by decide +kernel : decode (MT 34).2.1 22 = .ok (.aload_n 2, 1)) rfl, mon_aload⟩,
  List.forall_mem_cons.mpr ⟨⟨xs_iload (by decide +kernel : decode (MT 34).2.1 23 = .ok (.iload 4, 2)), mon_iload⟩,
  List.forall_mem_cons.mpr ⟨⟨xs_aald (by decide +kernel : decode (MT 34).2.1 25 = .ok (.aaload, 1)), mon_aald⟩,
  List.forall_mem_cons.mpr ⟨⟨xs_astore (by decide +kernel : decode (MT 34).2.1 26 = .ok (.astore 5, 2)), mon_astore⟩,
  List.forall_mem_cons.mpr ⟨⟨xs_aload (by decide +kernel : decode (MT 34).2.1 28 = .ok (.aload 5, 2)), mon_aload⟩,
  List.forall_mem_cons.mpr ⟨⟨xs_ifnull (by decide +kernel : decode (MT 34).2.1 30 = .ok (.ifnull 9, 3)) (by decide), mon_null⟩,
  List.forall_mem_cons.mpr ⟨⟨xs_aload (by decide +kernel : decode (MT 34).2.1 33 = .ok (.aload 5, 2)), mon_aload⟩,
  List.forall_mem_cons.mpr ⟨⟨xs_aload_n (by decide +kernel : decode (MT 34).2.1 35 = .ok (.aload_n 1, 1)) rfl, mon_aload⟩,
  List.forall_mem_cons.mpr ⟨xk_V (ci := 8) (by decide +kernel : decode (MT 34).2.1 36 = .ok (.invokevirtual 31, 3)) rfl wg_384 wg_385 wg_386 cal_X8_addInkTo.2.1 cal_X8_addInkTo.1 cal_X8_addInkTo.2.2.1 rfl cal_X8_addInkTo.2.2.2 (by decide) (by decide),
  List.forall_mem_cons.mpr ⟨⟨xs_iinc (by decide +kernel : decode (MT 34).2.1 39 = .ok (.iinc 4 1, 3)) rfl, mon_iinc⟩,
  List.forall_mem_cons.mpr ⟨⟨xs_goto (by decide +kernel : decode (MT 34).2.1 42 = .ok (.goto (-26), 3)) (by decide), mon_goto⟩,
  List.forall_mem_cons.mpr ⟨⟨xs_vret (by decide +kernel : decode (MT 34).2.1 45 = .ok (.return_, 1)) rfl, mon_vret⟩,
  fun _ h => absurd h List.not_mem_nil⟩⟩⟩⟩⟩⟩⟩⟩⟩⟩⟩⟩⟩⟩⟩⟩⟩⟩⟩⟩⟩⟩⟩⟩⟩⟩
def kl_X6_gatherInk : List (Nat × En) := kl_X6_gatherInk_0
theorem kg_X6_gatherInk : ∀ q ∈ kl_X6_gatherInk, Gd 34 q := kg_X6_gatherInk_0
def kl_X6_countSteps_0 : List (Nat × En) := [(0, .inl (xo_const (.int 0) 1)), (1, .inl (xo_istore 1 2)), (2, .inl (xo_aload 0 3)), (3, .inl (xo_getf 6 0 6)), (6, .inl (xo_astore 2 7)), (7, .inl (xo_aload 2 8)), (8, .inl (xo_alen 9)), (9, .inl (xo_istore 3 10)), (10, .inl (xo_const (.int 0) 11)), (11, .inl (xo_istore 4 13)), (13, .inl (xo_iload 4 15)), (15, .inl (xo_iload 3 16)), (16, .inl (xo_if2 (fun x y => decide (x ≥ y)) 44 19)), (19, .inl (xo_aload 2 20)), (20, .inl (xo_iload 4 22)), (22, .inl (xo_aald 23)), (23, .inl (xo_astore 5 25)), (25, .inl (xo_aload 5 27)), (27, .inl (xo_null 38 30)), (30, .inl (xo_iload 1 31)), (31, .inl (xo_aload 5 33)), (33, .inr (47, 1, (some 8), 36)), (36, .inl (xo_bin (fun x y => x + y) 37)), (37, .inl (xo_istore 1 38)), (38, .inl (xo_iinc 4 1 41)), (41, .inl (xo_goto 13)), (44, .inl (xo_iload 1 45)), (45, .inl (xo_iret))]
set_option maxRecDepth 20000 in
theorem kg_X6_countSteps_0 : ∀ q ∈ kl_X6_countSteps_0, Gd 35 q := List.forall_mem_cons.mpr ⟨⟨xs_iconst (by decide +kernel : decode (MT 35).2.1 0 = .ok (.iconst 0, 1)) rfl, mon_const⟩,
  List.forall_mem_cons.mpr ⟨⟨xs_istore_n (by decide +kernel : decode (MT 35).2.1 1 = .ok (.istore_n 1, 1)) rfl, mon_istore⟩,
  List.forall_mem_cons.mpr ⟨⟨xs_aload_n (by decide +kernel : decode (MT 35).2.1 2 = .ok (.aload_n 0, 1)) rfl, mon_aload⟩,
  List.forall_mem_cons.mpr ⟨⟨xs_getf (ci := 6) (k := 0) rfl (by decide) inX6 wg_53 (by decide +kernel : decode (MT 35).2.1 3 = .ok (.getfield 11, 3)), mon_getf⟩,
  List.forall_mem_cons.mpr ⟨⟨xs_astore_n (by decide +kernel : decode (MT 35).2.1 6 = .ok (.astore_n 2, 1)) rfl, mon_astore⟩,
  List.forall_mem_cons.mpr ⟨⟨xs_aload_n (by decide +kernel : decode (MT 35).2.1 7 = .ok (.aload_n 2, 1)) rfl, mon_aload⟩,
  List.forall_mem_cons.mpr ⟨⟨xs_alen (by decide +kernel : decode (MT 35).2.1 8 = .ok (.arraylength, 1)), mon_alen⟩,
  List.forall_mem_cons.mpr ⟨⟨xs_istore_n (by decide +kernel : decode (MT 35).2.1 9 = .ok (.istore_n 3, 1)) rfl, mon_istore⟩,
  List.forall_mem_cons.mpr ⟨⟨xs_iconst (by decide +kernel : decode (MT 35).2.1 10 = .ok (.iconst 0, 1)) rfl, mon_const⟩,
  List.forall_mem_cons.mpr ⟨⟨xs_istore (by decide +kernel : decode (MT 35).2.1 11 = .ok (.istore 4, 2)), mon_istore⟩,
  List.forall_mem_cons.mpr ⟨⟨xs_iload (by decide +kernel : decode (MT 35).2.1 13 = .ok (.iload 4, 2)), mon_iload⟩,
  List.forall_mem_cons.mpr ⟨⟨xs_iload_n (by decide +kernel : decode (MT 35).2.1 15 = .ok (.iload_n 3, 1)) rfl, mon_iload⟩,
  List.forall_mem_cons.mpr ⟨⟨xs_icmp_ge (by decide +kernel : decode (MT 35).2.1 16 = .ok (.if_icmp .ge 28, 3)) (by decide), mon_if2⟩,
  List.forall_mem_cons.mpr ⟨⟨xs_aload_n (by decide +kernel : decode (MT 35).2.1 19 = .ok (.aload_n 2, 1)) rfl, mon_aload⟩,
  List.forall_mem_cons.mpr ⟨⟨xs_iload (by decide +kernel : decode (MT 35).2.1 20 = .ok (.iload 4, 2)), mon_iload⟩,
  List.forall_mem_cons.mpr ⟨⟨xs_aald (by decide +kernel : decode (MT 35).2.1 22 = .ok (.aaload, 1)), mon_aald⟩,
  List.forall_mem_cons.mpr ⟨⟨xs_astore (by decide +kernel : decode (MT 35).2.1 23 = .ok (.astore 5, 2)), mon_astore⟩,
  List.forall_mem_cons.mpr ⟨⟨xs_aload (by decide +kernel : decode (MT 35).2.1 25 = .ok (.aload 5, 2)), mon_aload⟩,
  List.forall_mem_cons.mpr ⟨⟨xs_ifnull (by decide +kernel : decode (MT 35).2.1 27 = .ok (.ifnull 11, 3)) (by decide), mon_null⟩,
  List.forall_mem_cons.mpr ⟨⟨xs_iload_n (by decide +kernel : decode (MT 35).2.1 30 = .ok (.iload_n 1, 1)) rfl, mon_iload⟩,
  List.forall_mem_cons.mpr ⟨⟨xs_aload (by decide +kernel : decode (MT 35).2.1 31 = .ok (.aload 5, 2)), mon_aload⟩,
  List.forall_mem_cons.mpr ⟨xk_V (ci := 8) (by decide +kernel : decode (MT 35).2.1 33 = .ok (.invokevirtual 35, 3)) rfl wg_675 wg_676 wg_677 cal_X8_countSteps.2.1 cal_X8_countSteps.1 cal_X8_countSteps.2.2.1 rfl cal_X8_countSteps.2.2.2 (by decide) (by decide),
  List.forall_mem_cons.mpr ⟨⟨xs_iadd (by decide +kernel : decode (MT 35).2.1 36 = .ok (.iadd, 1)), mon_bin⟩,
  List.forall_mem_cons.mpr ⟨⟨xs_istore_n (by decide +kernel : decode (MT 35).2.1 37 = .ok (.istore_n 1, 1)) rfl, mon_istore⟩,
  List.forall_mem_cons.mpr ⟨⟨xs_iinc (by decide +kernel : decode (MT 35).2.1 38 = .ok (.iinc 4 1, 3)) rfl, mon_iinc⟩,
  List.forall_mem_cons.mpr ⟨⟨xs_goto (by decide +kernel : decode (MT 35).2.1 41 = .ok (.goto (-28), 3)) (by decide), mon_goto⟩,
  List.forall_mem_cons.mpr ⟨⟨xs_iload_n (by decide +kernel : decode (MT 35).2.1 44 = .ok (.iload_n 1, 1)) rfl, mon_iload⟩,
  List.forall_mem_cons.mpr ⟨⟨xs_iret (by decide +kernel : decode (MT 35).2.1 45 = .ok (.ireturn, 1)) rfl, mon_iret⟩,
  fun _ h => absurd h List.not_mem_nil⟩⟩⟩⟩⟩⟩⟩⟩⟩⟩⟩⟩⟩⟩⟩⟩⟩⟩⟩⟩⟩⟩⟩⟩⟩⟩⟩⟩
def kl_X6_countSteps : List (Nat × En) := kl_X6_countSteps_0
theorem kg_X6_countSteps : ∀ q ∈ kl_X6_countSteps, Gd 35 q := kg_X6_countSteps_0
def kl_X6_countWrong_0 : List (Nat × En) := [(0, .inl (xo_const (.int 0) 1)), (1, .inl (xo_istore 2 2)), (2, .inl (xo_aload 0 3)), (3, .inl (xo_getf 6 0 6)), (6, .inl (xo_astore 3 7)), (7, .inl (xo_aload 3 8)), (8, .inl (xo_alen 9)), (9, .inl (xo_istore 4 11)), (11, .inl (xo_const (.int 0) 12)), (12, .inl (xo_istore 5 14)), (14, .inl (xo_iload 5 16)), (16, .inl (xo_iload 4 18)), (18, .inl (xo_if2 (fun x y => decide (x ≥ y)) 57 21)), (21, .inl (xo_aload 3 22)), (22, .inl (xo_iload 5 24)), (24, .inl (xo_aald 25)), (25, .inl (xo_astore 6 27)), (27, .inl (xo_aload 6 29)), (29, .inl (xo_null 51 32)), (32, .inl (xo_iload 2 33)), (33, .inl (xo_aload 6 35)), (35, .inl (xo_aload 6 37)), (37, .inl (xo_getf 8 1 40)), (40, .inl (xo_aload 6 42)), (42, .inl (xo_getf 8 2 45)), (45, .inl (xo_iload 1 46)), (46, .inr (55, 4, (some 8), 49)), (49, .inl (xo_bin (fun x y => x + y) 50)), (50, .inl (xo_istore 2 51)), (51, .inl (xo_iinc 5 1 54)), (54, .inl (xo_goto 14)), (57, .inl (xo_iload 2 58)), (58, .inl (xo_iret))]
set_option maxRecDepth 20000 in
theorem kg_X6_countWrong_0 : ∀ q ∈ kl_X6_countWrong_0, Gd 36 q := List.forall_mem_cons.mpr ⟨⟨xs_iconst (by decide +kernel : decode (MT 36).2.1 0 = .ok (.iconst 0, 1)) rfl, mon_const⟩,
  List.forall_mem_cons.mpr ⟨⟨xs_istore_n (by decide +kernel : decode (MT 36).2.1 1 = .ok (.istore_n 2, 1)) rfl, mon_istore⟩,
  List.forall_mem_cons.mpr ⟨⟨xs_aload_n (by decide +kernel : decode (MT 36).2.1 2 = .ok (.aload_n 0, 1)) rfl, mon_aload⟩,
  List.forall_mem_cons.mpr ⟨⟨xs_getf (ci := 6) (k := 0) rfl (by decide) inX6 wg_53 (by decide +kernel : decode (MT 36).2.1 3 = .ok (.getfield 11, 3)), mon_getf⟩,
  List.forall_mem_cons.mpr ⟨⟨xs_astore_n (by decide +kernel : decode (MT 36).2.1 6 = .ok (.astore_n 3, 1)) rfl, mon_astore⟩,
  List.forall_mem_cons.mpr ⟨⟨xs_aload_n (by decide +kernel : decode (MT 36).2.1 7 = .ok (.aload_n 3, 1)) rfl, mon_aload⟩,
  List.forall_mem_cons.mpr ⟨⟨xs_alen (by decide +kernel : decode (MT 36).2.1 8 = .ok (.arraylength, 1)), mon_alen⟩,
  List.forall_mem_cons.mpr ⟨⟨xs_istore (by decide +kernel : decode (MT 36).2.1 9 = .ok (.istore 4, 2)), mon_istore⟩,
  List.forall_mem_cons.mpr ⟨⟨xs_iconst (by decide +kernel : decode (MT 36).2.1 11 = .ok (.iconst 0, 1)) rfl, mon_const⟩,
  List.forall_mem_cons.mpr ⟨⟨xs_istore (by decide +kernel : decode (MT 36).2.1 12 = .ok (.istore 5, 2)), mon_istore⟩,
  List.forall_mem_cons.mpr ⟨⟨xs_iload (by decide +kernel : decode (MT 36).2.1 14 = .ok (.iload 5, 2)), mon_iload⟩,
  List.forall_mem_cons.mpr ⟨⟨xs_iload (by decide +kernel : decode (MT 36).2.1 16 = .ok (.iload 4, 2)), mon_iload⟩,
  List.forall_mem_cons.mpr ⟨⟨xs_icmp_ge (by decide +kernel : decode (MT 36).2.1 18 = .ok (.if_icmp .ge 39, 3)) (by decide), mon_if2⟩,
  List.forall_mem_cons.mpr ⟨⟨xs_aload_n (by decide +kernel : decode (MT 36).2.1 21 = .ok (.aload_n 3, 1)) rfl, mon_aload⟩,
  List.forall_mem_cons.mpr ⟨⟨xs_iload (by decide +kernel : decode (MT 36).2.1 22 = .ok (.iload 5, 2)), mon_iload⟩,
  List.forall_mem_cons.mpr ⟨⟨xs_aald (by decide +kernel : decode (MT 36).2.1 24 = .ok (.aaload, 1)), mon_aald⟩,
  List.forall_mem_cons.mpr ⟨⟨xs_astore (by decide +kernel : decode (MT 36).2.1 25 = .ok (.astore 6, 2)), mon_astore⟩,
  List.forall_mem_cons.mpr ⟨⟨xs_aload (by decide +kernel : decode (MT 36).2.1 27 = .ok (.aload 6, 2)), mon_aload⟩,
  List.forall_mem_cons.mpr ⟨⟨xs_ifnull (by decide +kernel : decode (MT 36).2.1 29 = .ok (.ifnull 22, 3)) (by decide), mon_null⟩,
  List.forall_mem_cons.mpr ⟨⟨xs_iload_n (by decide +kernel : decode (MT 36).2.1 32 = .ok (.iload_n 2, 1)) rfl, mon_iload⟩,
  List.forall_mem_cons.mpr ⟨⟨xs_aload (by decide +kernel : decode (MT 36).2.1 33 = .ok (.aload 6, 2)), mon_aload⟩,
  List.forall_mem_cons.mpr ⟨⟨xs_aload (by decide +kernel : decode (MT 36).2.1 35 = .ok (.aload 6, 2)), mon_aload⟩,
  List.forall_mem_cons.mpr ⟨⟨xs_getfN (ci := 8) (k := 1) rfl (by decide) inX8 wn_282 (by decide +kernel : decode (MT 36).2.1 37 = .ok (.getfield 39, 3)), mon_getf⟩,
  List.forall_mem_cons.mpr ⟨⟨xs_aload (by decide +kernel : decode (MT 36).2.1 40 = .ok (.aload 6, 2)), mon_aload⟩,
  List.forall_mem_cons.mpr ⟨⟨xs_getfN (ci := 8) (k := 2) rfl (by decide) inX8 wn_285 (by decide +kernel : decode (MT 36).2.1 42 = .ok (.getfield 42, 3)), mon_getf⟩,
  List.forall_mem_cons.mpr ⟨⟨xs_iload_n (by decide +kernel : decode (MT 36).2.1 45 = .ok (.iload_n 1, 1)) rfl, mon_iload⟩,
  List.forall_mem_cons.mpr ⟨xk_V (ci := 8) (by decide +kernel : decode (MT 36).2.1 46 = .ok (.invokevirtual 45, 3)) rfl wg_436 wg_355 wg_356 cal_X8_countWrong.2.1 cal_X8_countWrong.1 cal_X8_countWrong.2.2.1 rfl cal_X8_countWrong.2.2.2 (by decide) (by decide),
  List.forall_mem_cons.mpr ⟨⟨xs_iadd (by decide +kernel : decode (MT 36).2.1 49 = .ok (.iadd, 1)), mon_bin⟩,
  List.forall_mem_cons.mpr ⟨⟨xs_istore_n (by decide +kernel : decode (MT 36).2.1 50 = .ok (.istore_n 2, 1)) rfl, mon_istore⟩,
  List.forall_mem_cons.mpr ⟨⟨xs_iinc (by decide +kernel : decode (MT 36).2.1 51 = .ok (.iinc 5 1, 3)) rfl, mon_iinc⟩,
  List.forall_mem_cons.mpr ⟨⟨xs_goto (by decide +kernel : decode (MT 36).2.1 54 = .ok (.goto (-40), 3)) (by decide), mon_goto⟩,
  List.forall_mem_cons.mpr ⟨⟨xs_iload_n (by decide +kernel : decode (MT 36).2.1 57 = .ok (.iload_n 2, 1)) rfl, mon_iload⟩,
  List.forall_mem_cons.mpr ⟨⟨xs_iret (by decide +kernel : decode (MT 36).2.1 58 = .ok (.ireturn, 1)) rfl, mon_iret⟩,
  fun _ h => absurd h List.not_mem_nil⟩⟩⟩⟩⟩⟩⟩⟩⟩⟩⟩⟩⟩⟩⟩⟩⟩⟩⟩⟩⟩⟩⟩⟩⟩⟩⟩⟩⟩⟩⟩⟩⟩
def kl_X6_countWrong : List (Nat × En) := kl_X6_countWrong_0
theorem kg_X6_countWrong : ∀ q ∈ kl_X6_countWrong, Gd 36 q := kg_X6_countWrong_0
def kl_X6_countWrongWithNib_0 : List (Nat × En) := [(0, .inl (xo_const (.int 0) 1)), (1, .inl (xo_istore 4 3)), (3, .inl (xo_aload 0 4)), (4, .inl (xo_getf 6 0 7)), (7, .inl (xo_astore 5 9)), (9, .inl (xo_aload 5 11)), (11, .inl (xo_alen 12)), (12, .inl (xo_istore 6 14)), (14, .inl (xo_const (.int 0) 15)), (15, .inl (xo_istore 7 17)), (17, .inl (xo_iload 7 19)), (19, .inl (xo_iload 6 21)), (21, .inl (xo_if2 (fun x y => decide (x ≥ y)) 55 24)), (24, .inl (xo_aload 5 26)), (26, .inl (xo_iload 7 28)), (28, .inl (xo_aald 29)), (29, .inl (xo_astore 8 31)), (31, .inl (xo_aload 8 33)), (33, .inl (xo_null 49 36)), (36, .inl (xo_iload 4 38)), (38, .inl (xo_aload 8 40)), (40, .inl (xo_iload 1 41)), (41, .inl (xo_iload 2 42)), (42, .inl (xo_iload 3 43)), (43, .inr (55, 4, (some 8), 46)), (46, .inl (xo_bin (fun x y => x + y) 47)), (47, .inl (xo_istore 4 49)), (49, .inl (xo_iinc 7 1 52)), (52, .inl (xo_goto 17)), (55, .inl (xo_iload 4 57)), (57, .inl (xo_iret))]
set_option maxRecDepth 20000 in
theorem kg_X6_countWrongWithNib_0 : ∀ q ∈ kl_X6_countWrongWithNib_0, Gd 37 q := List.forall_mem_cons.mpr ⟨⟨xs_iconst (by decide +kernel : decode (MT 37).2.1 0 = .ok (.iconst 0, 1)) rfl, mon_const⟩,
  List.forall_mem_cons.mpr ⟨⟨xs_istore (by decide +kernel : decode (MT 37).2.1 1 = .ok (.istore 4, 2)), mon_istore⟩,
  List.forall_mem_cons.mpr ⟨⟨xs_aload_n (by decide +kernel : decode (MT 37).2.1 3 = .ok (.aload_n 0, 1)) rfl, mon_aload⟩,
  List.forall_mem_cons.mpr ⟨⟨xs_getf (ci := 6) (k := 0) rfl (by decide) inX6 wg_53 (by decide +kernel : decode (MT 37).2.1 4 = .ok (.getfield 11, 3)), mon_getf⟩,
  List.forall_mem_cons.mpr ⟨⟨xs_astore (by decide +kernel : decode (MT 37).2.1 7 = .ok (.astore 5, 2)), mon_astore⟩,
  List.forall_mem_cons.mpr ⟨⟨xs_aload (by decide +kernel : decode (MT 37).2.1 9 = .ok (.aload 5, 2)), mon_aload⟩,
  List.forall_mem_cons.mpr ⟨⟨xs_alen (by decide +kernel : decode (MT 37).2.1 11 = .ok (.arraylength, 1)), mon_alen⟩,
  List.forall_mem_cons.mpr ⟨⟨xs_istore (by decide +kernel : decode (MT 37).2.1 12 = .ok (.istore 6, 2)), mon_istore⟩,
  List.forall_mem_cons.mpr ⟨⟨xs_iconst (by decide +kernel : decode (MT 37).2.1 14 = .ok (.iconst 0, 1)) rfl, mon_const⟩,
  List.forall_mem_cons.mpr ⟨⟨xs_istore (by decide +kernel : decode (MT 37).2.1 15 = .ok (.istore 7, 2)), mon_istore⟩,
  List.forall_mem_cons.mpr ⟨⟨xs_iload (by decide +kernel : decode (MT 37).2.1 17 = .ok (.iload 7, 2)), mon_iload⟩,
  List.forall_mem_cons.mpr ⟨⟨xs_iload (by decide +kernel : decode (MT 37).2.1 19 = .ok (.iload 6, 2)), mon_iload⟩,
  List.forall_mem_cons.mpr ⟨⟨xs_icmp_ge (by decide +kernel : decode (MT 37).2.1 21 = .ok (.if_icmp .ge 34, 3)) (by decide), mon_if2⟩,
  List.forall_mem_cons.mpr ⟨⟨xs_aload (by decide +kernel : decode (MT 37).2.1 24 = .ok (.aload 5, 2)), mon_aload⟩,
  List.forall_mem_cons.mpr ⟨⟨xs_iload (by decide +kernel : decode (MT 37).2.1 26 = .ok (.iload 7, 2)), mon_iload⟩,
  List.forall_mem_cons.mpr ⟨⟨xs_aald (by decide +kernel : decode (MT 37).2.1 28 = .ok (.aaload, 1)), mon_aald⟩,
  List.forall_mem_cons.mpr ⟨⟨xs_astore (by decide +kernel : decode (MT 37).2.1 29 = .ok (.astore 8, 2)), mon_astore⟩,
  List.forall_mem_cons.mpr ⟨⟨xs_aload (by decide +kernel : decode (MT 37).2.1 31 = .ok (.aload 8, 2)), mon_aload⟩,
  List.forall_mem_cons.mpr ⟨⟨xs_ifnull (by decide +kernel : decode (MT 37).2.1 33 = .ok (.ifnull 16, 3)) (by decide), mon_null⟩,
  List.forall_mem_cons.mpr ⟨⟨xs_iload (by decide +kernel : decode (MT 37).2.1 36 = .ok (.iload 4, 2)), mon_iload⟩,
  List.forall_mem_cons.mpr ⟨⟨xs_aload (by decide +kernel : decode (MT 37).2.1 38 = .ok (.aload 8, 2)), mon_aload⟩,
  List.forall_mem_cons.mpr ⟨⟨xs_iload_n (by decide +kernel : decode (MT 37).2.1 40 = .ok (.iload_n 1, 1)) rfl, mon_iload⟩,
  List.forall_mem_cons.mpr ⟨⟨xs_iload_n (by decide +kernel : decode (MT 37).2.1 41 = .ok (.iload_n 2, 1)) rfl, mon_iload⟩,
  List.forall_mem_cons.mpr ⟨⟨xs_iload_n (by decide +kernel : decode (MT 37).2.1 42 = .ok (.iload_n 3, 1)) rfl, mon_iload⟩,
  List.forall_mem_cons.mpr ⟨xk_V (ci := 8) (by decide +kernel : decode (MT 37).2.1 43 = .ok (.invokevirtual 45, 3)) rfl wg_436 wg_355 wg_356 cal_X8_countWrong.2.1 cal_X8_countWrong.1 cal_X8_countWrong.2.2.1 rfl cal_X8_countWrong.2.2.2 (by decide) (by decide),
  List.forall_mem_cons.mpr ⟨⟨xs_iadd (by decide +kernel : decode (MT 37).2.1 46 = .ok (.iadd, 1)), mon_bin⟩,
  List.forall_mem_cons.mpr ⟨⟨xs_istore (by decide +kernel : decode (MT 37).2.1 47 = .ok (.istore 4, 2)), mon_istore⟩,
  List.forall_mem_cons.mpr ⟨⟨xs_iinc (by decide +kernel : decode (MT 37).2.1 49 = .ok (.iinc 7 1, 3)) rfl, mon_iinc⟩,
  List.forall_mem_cons.mpr ⟨⟨xs_goto (by decide +kernel : decode (MT 37).2.1 52 = .ok (.goto (-35), 3)) (by decide), mon_goto⟩,
  List.forall_mem_cons.mpr ⟨⟨xs_iload (by decide +kernel : decode (MT 37).2.1 55 = .ok (.iload 4, 2)), mon_iload⟩,
  List.forall_mem_cons.mpr ⟨⟨xs_iret (by decide +kernel : decode (MT 37).2.1 57 = .ok (.ireturn, 1)) rfl, mon_iret⟩,
  fun _ h => absurd h List.not_mem_nil⟩⟩⟩⟩⟩⟩⟩⟩⟩⟩⟩⟩⟩⟩⟩⟩⟩⟩⟩⟩⟩⟩⟩⟩⟩⟩⟩⟩⟩⟩⟩
def kl_X6_countWrongWithNib : List (Nat × En) := kl_X6_countWrongWithNib_0
theorem kg_X6_countWrongWithNib : ∀ q ∈ kl_X6_countWrongWithNib, Gd 37 q := kg_X6_countWrongWithNib_0
def kl_X7_init_0 : List (Nat × En) := [(0, .inl (xo_aload 0 1)), (1, .inl (xo_oinit 4)), (4, .inl (xo_aload 0 5)), (5, .inl (xo_const (.int 26) 7)), (7, .inl (xo_newr 4 10)), (10, .inl (xo_putf 7 0 false 13)), (13, .inl (xo_aload 0 14)), (14, .inl (xo_const (.int 0) 15)), (15, .inl (xo_putf 7 1 true 18)), (18, .inl (xo_vret))]
set_option maxRecDepth 20000 in
theorem kg_X7_init_0 : ∀ q ∈ kl_X7_init_0, Gd 38 q := List.forall_mem_cons.mpr ⟨⟨xs_aload_n (by decide +kernel : decode (MT 38).2.1 0 = .ok (.aload_n 0, 1)) rfl, mon_aload⟩,
  List.forall_mem_cons.mpr ⟨⟨xs_oinit wg_67 wg_22 wg_oinit (by decide) (by decide) (by decide +kernel : decode (MT 38).2.1 1 = .ok (.invokespecial 3, 3)), mon_oinit⟩,
  List.forall_mem_cons.mpr ⟨⟨xs_aload_n (by decide +kernel : decode (MT 38).2.1 4 = .ok (.aload_n 0, 1)) rfl, mon_aload⟩,
  List.forall_mem_cons.mpr ⟨⟨xs_bipush (by decide +kernel : decode (MT 38).2.1 5 = .ok (.bipush 26, 2)) rfl, mon_const⟩,
  List.forall_mem_cons.mpr ⟨⟨xs_newr (Or.inr ⟨rfl, rfl⟩) wg_68 wn_69 (by decide +kernel : decode (MT 38).2.1 7 = .ok (.anewarray 9, 3)), mon_newr⟩,
  List.forall_mem_cons.mpr ⟨⟨xs_putfF (ci := 7) (k := 0) tyX7 rfl (by decide) inX7 tyX7_ok nmX7 rfl rfl rfl (Or.inr ⟨rfl, Or.inr ⟨_, rfl⟩⟩) wg_70 (by decide +kernel : decode (MT 38).2.1 10 = .ok (.putfield 11, 3)), mon_putf⟩,
  List.forall_mem_cons.mpr ⟨⟨xs_aload_n (by decide +kernel : decode (MT 38).2.1 13 = .ok (.aload_n 0, 1)) rfl, mon_aload⟩,
  List.forall_mem_cons.mpr ⟨⟨xs_iconst (by decide +kernel : decode (MT 38).2.1 14 = .ok (.iconst 0, 1)) rfl, mon_const⟩,
  List.forall_mem_cons.mpr ⟨⟨xs_putf (ci := 7) (k := 1) tyX7 rfl (by decide) inX7 tyX7_ok nmX7 rfl (Or.inl ⟨rfl, rfl⟩) wg_71 (by decide +kernel : decode (MT 38).2.1 15 = .ok (.putfield 17, 3)), mon_putf⟩,
  List.forall_mem_cons.mpr ⟨⟨xs_vret (by decide +kernel : decode (MT 38).2.1 18 = .ok (.return_, 1)) rfl, mon_vret⟩,
  fun _ h => absurd h List.not_mem_nil⟩⟩⟩⟩⟩⟩⟩⟩⟩⟩
def kl_X7_init : List (Nat × En) := kl_X7_init_0
theorem kg_X7_init : ∀ q ∈ kl_X7_init, Gd 38 q := kg_X7_init_0
def kl_X7_at_0 : List (Nat × En) := [(0, .inl (xo_iload 1 1)), (1, .inl (xo_const (.int 0) 2)), (2, .inl (xo_const (.int 25) 4)), (4, .inr (98, 3, none, 7)), (7, .inl (xo_if1 (fun x => decide (x = 0)) 19 10)), (10, .inl (xo_aload 0 11)), (11, .inl (xo_getf 7 0 14)), (14, .inl (xo_iload 1 15)), (15, .inl (xo_aald 16)), (16, .inl (xo_goto 20)), (19, .inl (xo_const .null 20)), (20, .inl (xo_aret))]
set_option maxRecDepth 20000 in
theorem kg_X7_at_0 : ∀ q ∈ kl_X7_at_0, Gd 39 q := List.forall_mem_cons.mpr ⟨⟨xs_iload_n (by decide +kernel : decode (MT 39).2.1 0 = .ok (.iload_n 1, 1)) rfl, mon_iload⟩,
  List.forall_mem_cons.mpr ⟨⟨xs_iconst (by decide +kernel : decode (MT 39).2.1 1 = .ok (.iconst 0, 1)) rfl, mon_const⟩,
  List.forall_mem_cons.mpr ⟨⟨xs_bipush (by decide +kernel : decode (MT 39).2.1 2 = .ok (.bipush 25, 2)) rfl, mon_const⟩,
  List.forall_mem_cons.mpr ⟨xk_SN (by decide +kernel : decode (MT 39).2.1 4 = .ok (.invokestatic 21, 3)) wn_494 wg_206 cal_X9_within.2.1 cal_X9_within.1 cal_X9_within.2.2.1 cal_X9_within.2.2.2 (by decide) (by decide),
  List.forall_mem_cons.mpr ⟨⟨xs_if_eq (by decide +kernel : decode (MT 39).2.1 7 = .ok (.ifCond .eq 12, 3)) (by decide), mon_if1⟩,
  List.forall_mem_cons.mpr ⟨⟨xs_aload_n (by decide +kernel : decode (MT 39).2.1 10 = .ok (.aload_n 0, 1)) rfl, mon_aload⟩,
  List.forall_mem_cons.mpr ⟨⟨xs_getf (ci := 7) (k := 0) rfl (by decide) inX7 wg_70 (by decide +kernel : decode (MT 39).2.1 11 = .ok (.getfield 11, 3)), mon_getf⟩,
  List.forall_mem_cons.mpr ⟨⟨xs_iload_n (by decide +kernel : decode (MT 39).2.1 14 = .ok (.iload_n 1, 1)) rfl, mon_iload⟩,
  List.forall_mem_cons.mpr ⟨⟨xs_aald (by decide +kernel : decode (MT 39).2.1 15 = .ok (.aaload, 1)), mon_aald⟩,
  List.forall_mem_cons.mpr ⟨⟨xs_goto (by decide +kernel : decode (MT 39).2.1 16 = .ok (.goto 4, 3)) (by decide), mon_goto⟩,
  List.forall_mem_cons.mpr ⟨⟨xs_anull (by decide +kernel : decode (MT 39).2.1 19 = .ok (.aconst_null, 1)), mon_const⟩,
  List.forall_mem_cons.mpr ⟨⟨xs_aret (by decide +kernel : decode (MT 39).2.1 20 = .ok (.areturn, 1)) rfl (Or.inl ⟨_, rfl⟩), mon_aret⟩,
  fun _ h => absurd h List.not_mem_nil⟩⟩⟩⟩⟩⟩⟩⟩⟩⟩⟩⟩
def kl_X7_at : List (Nat × En) := kl_X7_at_0
theorem kg_X7_at : ∀ q ∈ kl_X7_at, Gd 39 q := kg_X7_at_0
def kl_X7_put_0 : List (Nat × En) := [(0, .inl (xo_iload 1 1)), (1, .inl (xo_const (.int 0) 2)), (2, .inl (xo_const (.int 25) 4)), (4, .inr (98, 3, none, 7)), (7, .inl (xo_if1 (fun x => decide (¬ x = 0)) 12 10)), (10, .inl (xo_const (.int 0) 11)), (11, .inl (xo_zret)), (12, .inl (xo_aload 0 13)), (13, .inl (xo_getf 7 0 16)), (16, .inl (xo_iload 1 17)), (17, .inl (xo_aald 18)), (18, .inl (xo_null 21 55)), (21, .inl (xo_aload 0 22)), (22, .inl (xo_getf 7 1 25)), (25, .inl (xo_const (.int 10) 27)), (27, .inl (xo_if2 (fun x y => decide (x < y)) 32 30)), (30, .inl (xo_const (.int 0) 31)), (31, .inl (xo_zret)), (32, .inl (xo_aload 0 33)), (33, .inl (xo_getf 7 0 36)), (36, .inl (xo_iload 1 37)), (37, .inl (xo_new 6 [.null, .int 0] 40)), (40, .inl (xo_dup 41)), (41, .inr (28, 1, (some 6), 44)), (44, .inl (xo_aast 45)), (45, .inl (xo_aload 0 46)), (46, .inl (xo_dup 47)), (47, .inl (xo_getf 7 1 50)), (50, .inl (xo_const (.int 1) 51)), (51, .inl (xo_bin (fun x y => x + y) 52)), (52, .inl (xo_putf 7 1 true 55)), (55, .inl (xo_aload 0 56)), (56, .inl (xo_getf 7 0 59)), (59, .inl (xo_iload 1 60)), (60, .inl (xo_aald 61)), (61, .inl (xo_aload 2 62)), (62, .inr (33, 2, (some 6), 65)), (65, .inl (xo_const (.int 1) 66)), (66, .inl (xo_zret))]
set_option maxRecDepth 20000 in
theorem kg_X7_put_0 : ∀ q ∈ kl_X7_put_0, Gd 40 q := List.forall_mem_cons.mpr ⟨⟨xs_iload_n (by decide +kernel : decode (MT 40).2.1 0 = .ok (.iload_n 1, 1)) rfl, mon_iload⟩,
  List.forall_mem_cons.mpr ⟨⟨xs_iconst (by decide +kernel : decode (MT 40).2.1 1 = .ok (.iconst 0, 1)) rfl, mon_const⟩,
  List.forall_mem_cons.mpr ⟨⟨xs_bipush (by decide +kernel : decode (MT 40).2.1 2 = .ok (.bipush 25, 2)) rfl, mon_const⟩,
  List.forall_mem_cons.mpr ⟨xk_SN (by decide +kernel : decode (MT 40).2.1 4 = .ok (.invokestatic 21, 3)) wn_494 wg_206 cal_X9_within.2.1 cal_X9_within.1 cal_X9_within.2.2.1 cal_X9_within.2.2.2 (by decide) (by decide),
  List.forall_mem_cons.mpr ⟨⟨xs_if_ne (by decide +kernel : decode (MT 40).2.1 7 = .ok (.ifCond .ne 5, 3)) (by decide), mon_if1⟩,
  List.forall_mem_cons.mpr ⟨⟨xs_iconst (by decide +kernel : decode (MT 40).2.1 10 = .ok (.iconst 0, 1)) rfl, mon_const⟩,
  List.forall_mem_cons.mpr ⟨⟨xs_zret (by decide +kernel : decode (MT 40).2.1 11 = .ok (.ireturn, 1)) rfl, mon_zret⟩,
  List.forall_mem_cons.mpr ⟨⟨xs_aload_n (by decide +kernel : decode (MT 40).2.1 12 = .ok (.aload_n 0, 1)) rfl, mon_aload⟩,
  List.forall_mem_cons.mpr ⟨⟨xs_getf (ci := 7) (k := 0) rfl (by decide) inX7 wg_70 (by decide +kernel : decode (MT 40).2.1 13 = .ok (.getfield 11, 3)), mon_getf⟩,
  List.forall_mem_cons.mpr ⟨⟨xs_iload_n (by decide +kernel : decode (MT 40).2.1 16 = .ok (.iload_n 1, 1)) rfl, mon_iload⟩,
  List.forall_mem_cons.mpr ⟨⟨xs_aald (by decide +kernel : decode (MT 40).2.1 17 = .ok (.aaload, 1)), mon_aald⟩,
  List.forall_mem_cons.mpr ⟨⟨xs_ifnonnull (by decide +kernel : decode (MT 40).2.1 18 = .ok (.ifnonnull 37, 3)) (by decide), mon_null⟩,
  List.forall_mem_cons.mpr ⟨⟨xs_aload_n (by decide +kernel : decode (MT 40).2.1 21 = .ok (.aload_n 0, 1)) rfl, mon_aload⟩,
  List.forall_mem_cons.mpr ⟨⟨xs_getf (ci := 7) (k := 1) rfl (by decide) inX7 wg_71 (by decide +kernel : decode (MT 40).2.1 22 = .ok (.getfield 17, 3)), mon_getf⟩,
  List.forall_mem_cons.mpr ⟨⟨xs_bipush (by decide +kernel : decode (MT 40).2.1 25 = .ok (.bipush 10, 2)) rfl, mon_const⟩,
  List.forall_mem_cons.mpr ⟨⟨xs_icmp_lt (by decide +kernel : decode (MT 40).2.1 27 = .ok (.if_icmp .lt 5, 3)) (by decide), mon_if2⟩,
  List.forall_mem_cons.mpr ⟨⟨xs_iconst (by decide +kernel : decode (MT 40).2.1 30 = .ok (.iconst 0, 1)) rfl, mon_const⟩,
  List.forall_mem_cons.mpr ⟨⟨xs_zret (by decide +kernel : decode (MT 40).2.1 31 = .ok (.ireturn, 1)) rfl, mon_zret⟩,
  List.forall_mem_cons.mpr ⟨⟨xs_aload_n (by decide +kernel : decode (MT 40).2.1 32 = .ok (.aload_n 0, 1)) rfl, mon_aload⟩,
  List.forall_mem_cons.mpr ⟨⟨xs_getf (ci := 7) (k := 0) rfl (by decide) inX7 wg_70 (by decide +kernel : decode (MT 40).2.1 33 = .ok (.getfield 11, 3)), mon_getf⟩,
  List.forall_mem_cons.mpr ⟨⟨xs_iload_n (by decide +kernel : decode (MT 40).2.1 36 = .ok (.iload_n 1, 1)) rfl, mon_iload⟩,
  List.forall_mem_cons.mpr ⟨⟨xs_new (ci := 6) tyX6 rfl inX6 tyX6_ok rfl (fun G j hj => by rcases (show j = 0 ∨ j = 1 by omega) with rfl | rfl <;> rfl) wg_68 wg_46 wg_3 (by decide +kernel : decode (MT 40).2.1 37 = .ok (.new 9, 3)), mon_new⟩,
  List.forall_mem_cons.mpr ⟨⟨xs_dup (by decide +kernel : decode (MT 40).2.1 40 = .ok (.dup, 1)), mon_dup⟩,
  List.forall_mem_cons.mpr ⟨xk_IN (ci := 6) (by decide +kernel : decode (MT 40).2.1 41 = .ok (.invokespecial 25, 3)) wn_495 wg_48 rfl rfl cal_X6_init.2.1 cal_X6_init.1 cal_X6_init.2.2.1 rfl cal_X6_init.2.2.2 (by decide) (by decide),
  List.forall_mem_cons.mpr ⟨⟨xs_aast (by decide +kernel : decode (MT 40).2.1 44 = .ok (.aastore, 1)), mon_aast⟩,
  List.forall_mem_cons.mpr ⟨⟨xs_aload_n (by decide +kernel : decode (MT 40).2.1 45 = .ok (.aload_n 0, 1)) rfl, mon_aload⟩,
  List.forall_mem_cons.mpr ⟨⟨xs_dup (by decide +kernel : decode (MT 40).2.1 46 = .ok (.dup, 1)), mon_dup⟩,
  List.forall_mem_cons.mpr ⟨⟨xs_getf (ci := 7) (k := 1) rfl (by decide) inX7 wg_71 (by decide +kernel : decode (MT 40).2.1 47 = .ok (.getfield 17, 3)), mon_getf⟩,
  List.forall_mem_cons.mpr ⟨⟨xs_iconst (by decide +kernel : decode (MT 40).2.1 50 = .ok (.iconst 1, 1)) rfl, mon_const⟩,
  List.forall_mem_cons.mpr ⟨⟨xs_iadd (by decide +kernel : decode (MT 40).2.1 51 = .ok (.iadd, 1)), mon_bin⟩,
  List.forall_mem_cons.mpr ⟨⟨xs_putf (ci := 7) (k := 1) tyX7 rfl (by decide) inX7 tyX7_ok nmX7 rfl (Or.inl ⟨rfl, rfl⟩) wg_71 (by decide +kernel : decode (MT 40).2.1 52 = .ok (.putfield 17, 3)), mon_putf⟩,
  List.forall_mem_cons.mpr ⟨⟨xs_aload_n (by decide +kernel : decode (MT 40).2.1 55 = .ok (.aload_n 0, 1)) rfl, mon_aload⟩,
  List.forall_mem_cons.mpr ⟨⟨xs_getf (ci := 7) (k := 0) rfl (by decide) inX7 wg_70 (by decide +kernel : decode (MT 40).2.1 56 = .ok (.getfield 11, 3)), mon_getf⟩,
  List.forall_mem_cons.mpr ⟨⟨xs_iload_n (by decide +kernel : decode (MT 40).2.1 59 = .ok (.iload_n 1, 1)) rfl, mon_iload⟩,
  List.forall_mem_cons.mpr ⟨⟨xs_aald (by decide +kernel : decode (MT 40).2.1 60 = .ok (.aaload, 1)), mon_aald⟩,
  List.forall_mem_cons.mpr ⟨⟨xs_aload_n (by decide +kernel : decode (MT 40).2.1 61 = .ok (.aload_n 2, 1)) rfl, mon_aload⟩,
  List.forall_mem_cons.mpr ⟨xk_V (ci := 6) (by decide +kernel : decode (MT 40).2.1 62 = .ok (.invokevirtual 26, 3)) rfl wg_496 wg_497 wg_498 cal_X6_copyFrom.2.1 cal_X6_copyFrom.1 cal_X6_copyFrom.2.2.1 rfl cal_X6_copyFrom.2.2.2 (by decide) (by decide),
  List.forall_mem_cons.mpr ⟨⟨xs_iconst (by decide +kernel : decode (MT 40).2.1 65 = .ok (.iconst 1, 1)) rfl, mon_const⟩,
  List.forall_mem_cons.mpr ⟨⟨xs_zret (by decide +kernel : decode (MT 40).2.1 66 = .ok (.ireturn, 1)) rfl, mon_zret⟩,
  fun _ h => absurd h List.not_mem_nil⟩⟩⟩⟩⟩⟩⟩⟩⟩⟩⟩⟩⟩⟩⟩⟩⟩⟩⟩⟩⟩⟩⟩⟩⟩⟩⟩⟩⟩⟩⟩⟩⟩⟩⟩⟩⟩⟩⟩
def kl_X7_put : List (Nat × En) := kl_X7_put_0
theorem kg_X7_put : ∀ q ∈ kl_X7_put, Gd 40 q := kg_X7_put_0
def kl_X7_remove_0 : List (Nat × En) := [(0, .inl (xo_aload 0 1)), (1, .inl (xo_iload 1 2)), (2, .inr (39, 2, (some 7), 5)), (5, .inl (xo_null 25 8)), (8, .inl (xo_aload 0 9)), (9, .inl (xo_getf 7 0 12)), (12, .inl (xo_iload 1 13)), (13, .inl (xo_const .null 14)), (14, .inl (xo_aast 15)), (15, .inl (xo_aload 0 16)), (16, .inl (xo_dup 17)), (17, .inl (xo_getf 7 1 20)), (20, .inl (xo_const (.int 1) 21)), (21, .inl (xo_bin (fun x y => x - y) 22)), (22, .inl (xo_putf 7 1 true 25)), (25, .inl (xo_vret))]
set_option maxRecDepth 20000 in
theorem kg_X7_remove_0 : ∀ q ∈ kl_X7_remove_0, Gd 41 q := List.forall_mem_cons.mpr ⟨⟨xs_aload_n (by decide +kernel : decode (MT 41).2.1 0 = .ok (.aload_n 0, 1)) rfl, mon_aload⟩,
  List.forall_mem_cons.mpr ⟨⟨xs_iload_n (by decide +kernel : decode (MT 41).2.1 1 = .ok (.iload_n 1, 1)) rfl, mon_iload⟩,
  List.forall_mem_cons.mpr ⟨xk_V (ci := 7) (by decide +kernel : decode (MT 41).2.1 2 = .ok (.invokevirtual 30, 3)) rfl wg_521 wg_509 wg_510 cal_X7_at.2.1 cal_X7_at.1 cal_X7_at.2.2.1 rfl cal_X7_at.2.2.2 (by decide) (by decide),
  List.forall_mem_cons.mpr ⟨⟨xs_ifnull (by decide +kernel : decode (MT 41).2.1 5 = .ok (.ifnull 20, 3)) (by decide), mon_null⟩,
  List.forall_mem_cons.mpr ⟨⟨xs_aload_n (by decide +kernel : decode (MT 41).2.1 8 = .ok (.aload_n 0, 1)) rfl, mon_aload⟩,
  List.forall_mem_cons.mpr ⟨⟨xs_getf (ci := 7) (k := 0) rfl (by decide) inX7 wg_70 (by decide +kernel : decode (MT 41).2.1 9 = .ok (.getfield 11, 3)), mon_getf⟩,
  List.forall_mem_cons.mpr ⟨⟨xs_iload_n (by decide +kernel : decode (MT 41).2.1 12 = .ok (.iload_n 1, 1)) rfl, mon_iload⟩,
  List.forall_mem_cons.mpr ⟨⟨xs_anull (by decide +kernel : decode (MT 41).2.1 13 = .ok (.aconst_null, 1)), mon_const⟩,
  List.forall_mem_cons.mpr ⟨⟨xs_aast (by decide +kernel : decode (MT 41).2.1 14 = .ok (.aastore, 1)), mon_aast⟩,
  List.forall_mem_cons.mpr ⟨⟨xs_aload_n (by decide +kernel : decode (MT 41).2.1 15 = .ok (.aload_n 0, 1)) rfl, mon_aload⟩,
  List.forall_mem_cons.mpr ⟨⟨xs_dup (by decide +kernel : decode (MT 41).2.1 16 = .ok (.dup, 1)), mon_dup⟩,
  List.forall_mem_cons.mpr ⟨⟨xs_getf (ci := 7) (k := 1) rfl (by decide) inX7 wg_71 (by decide +kernel : decode (MT 41).2.1 17 = .ok (.getfield 17, 3)), mon_getf⟩,
  List.forall_mem_cons.mpr ⟨⟨xs_iconst (by decide +kernel : decode (MT 41).2.1 20 = .ok (.iconst 1, 1)) rfl, mon_const⟩,
  List.forall_mem_cons.mpr ⟨⟨xs_isub (by decide +kernel : decode (MT 41).2.1 21 = .ok (.isub, 1)), mon_bin⟩,
  List.forall_mem_cons.mpr ⟨⟨xs_putf (ci := 7) (k := 1) tyX7 rfl (by decide) inX7 tyX7_ok nmX7 rfl (Or.inl ⟨rfl, rfl⟩) wg_71 (by decide +kernel : decode (MT 41).2.1 22 = .ok (.putfield 17, 3)), mon_putf⟩,
  List.forall_mem_cons.mpr ⟨⟨xs_vret (by decide +kernel : decode (MT 41).2.1 25 = .ok (.return_, 1)) rfl, mon_vret⟩,
  fun _ h => absurd h List.not_mem_nil⟩⟩⟩⟩⟩⟩⟩⟩⟩⟩⟩⟩⟩⟩⟩⟩
def kl_X7_remove : List (Nat × En) := kl_X7_remove_0
theorem kg_X7_remove : ∀ q ∈ kl_X7_remove, Gd 41 q := kg_X7_remove_0
def kl_X7_nameAt_0 : List (Nat × En) := [(0, .inl (xo_const (.int 0) 1)), (1, .inl (xo_istore 2 2)), (2, .inl (xo_const (.int 0) 3)), (3, .inl (xo_istore 3 4)), (4, .inl (xo_iload 3 5)), (5, .inl (xo_const (.int 26) 7)), (7, .inl (xo_if2 (fun x y => decide (x ≥ y)) 35 10)), (10, .inl (xo_aload 0 11)), (11, .inl (xo_getf 7 0 14)), (14, .inl (xo_iload 3 15)), (15, .inl (xo_aald 16)), (16, .inl (xo_null 29 19)), (19, .inl (xo_iload 2 20)), (20, .inl (xo_iload 1 21)), (21, .inl (xo_if2 (fun x y => decide (¬ x = y)) 26 24)), (24, .inl (xo_iload 3 25)), (25, .inl (xo_iret)), (26, .inl (xo_iinc 2 1 29)), (29, .inl (xo_iinc 3 1 32)), (32, .inl (xo_goto 4)), (35, .inl (xo_const (.int (-9)) 37)), (37, .inl (xo_iret))]
set_option maxRecDepth 20000 in
theorem kg_X7_nameAt_0 : ∀ q ∈ kl_X7_nameAt_0, Gd 42 q := List.forall_mem_cons.mpr ⟨⟨xs_iconst (by decide +kernel : decode (MT 42).2.1 0 = .ok (.iconst 0, 1)) rfl, mon_const⟩,
  List.forall_mem_cons.mpr ⟨⟨xs_istore_n (by decide +kernel : decode (MT 42).2.1 1 = .ok (.istore_n 2, 1)) rfl, mon_istore⟩,
  List.forall_mem_cons.mpr ⟨⟨xs_iconst (by decide +kernel : decode (MT 42).2.1 2 = .ok (.iconst 0, 1)) rfl, mon_const⟩,
  List.forall_mem_cons.mpr ⟨⟨xs_istore_n (by decide +kernel : decode (MT 42).2.1 3 = .ok (.istore_n 3, 1)) rfl, mon_istore⟩,
  List.forall_mem_cons.mpr ⟨⟨xs_iload_n (by decide +kernel : decode (MT 42).2.1 4 = .ok (.iload_n 3, 1)) rfl, mon_iload⟩,
  List.forall_mem_cons.mpr ⟨⟨xs_bipush (by decide +kernel : decode (MT 42).2.1 5 = .ok (.bipush 26, 2)) rfl, mon_const⟩,
  List.forall_mem_cons.mpr ⟨⟨xs_icmp_ge (by decide +kernel : decode (MT 42).2.1 7 = .ok (.if_icmp .ge 28, 3)) (by decide), mon_if2⟩,
  List.forall_mem_cons.mpr ⟨⟨xs_aload_n (by decide +kernel : decode (MT 42).2.1 10 = .ok (.aload_n 0, 1)) rfl, mon_aload⟩,
  List.forall_mem_cons.mpr ⟨⟨xs_getf (ci := 7) (k := 0) rfl (by decide) inX7 wg_70 (by decide +kernel : decode (MT 42).2.1 11 = .ok (.getfield 11, 3)), mon_getf⟩,
  List.forall_mem_cons.mpr ⟨⟨xs_iload_n (by decide +kernel : decode (MT 42).2.1 14 = .ok (.iload_n 3, 1)) rfl, mon_iload⟩,
  List.forall_mem_cons.mpr ⟨⟨xs_aald (by decide +kernel : decode (MT 42).2.1 15 = .ok (.aaload, 1)), mon_aald⟩,
  List.forall_mem_cons.mpr ⟨⟨xs_ifnull (by decide +kernel : decode (MT 42).2.1 16 = .ok (.ifnull 13, 3)) (by decide), mon_null⟩,
  List.forall_mem_cons.mpr ⟨⟨xs_iload_n (by decide +kernel : decode (MT 42).2.1 19 = .ok (.iload_n 2, 1)) rfl, mon_iload⟩,
  List.forall_mem_cons.mpr ⟨⟨xs_iload_n (by decide +kernel : decode (MT 42).2.1 20 = .ok (.iload_n 1, 1)) rfl, mon_iload⟩,
  List.forall_mem_cons.mpr ⟨⟨xs_icmp_ne (by decide +kernel : decode (MT 42).2.1 21 = .ok (.if_icmp .ne 5, 3)) (by decide), mon_if2⟩,
  List.forall_mem_cons.mpr ⟨⟨xs_iload_n (by decide +kernel : decode (MT 42).2.1 24 = .ok (.iload_n 3, 1)) rfl, mon_iload⟩,
  List.forall_mem_cons.mpr ⟨⟨xs_iret (by decide +kernel : decode (MT 42).2.1 25 = .ok (.ireturn, 1)) rfl, mon_iret⟩,
  List.forall_mem_cons.mpr ⟨⟨xs_iinc (by decide +kernel : decode (MT 42).2.1 26 = .ok (.iinc 2 1, 3)) rfl, mon_iinc⟩,
  List.forall_mem_cons.mpr ⟨⟨xs_iinc (by decide +kernel : decode (MT 42).2.1 29 = .ok (.iinc 3 1, 3)) rfl, mon_iinc⟩,
  List.forall_mem_cons.mpr ⟨⟨xs_goto (by decide +kernel : decode (MT 42).2.1 32 = .ok (.goto (-28), 3)) (by decide), mon_goto⟩,
  List.forall_mem_cons.mpr ⟨⟨xs_bipush (by decide +kernel : decode (MT 42).2.1 35 = .ok (.bipush (-9), 2)) rfl, mon_const⟩,
  List.forall_mem_cons.mpr ⟨⟨xs_iret (by decide +kernel : decode (MT 42).2.1 37 = .ok (.ireturn, 1)) rfl, mon_iret⟩,
  fun _ h => absurd h List.not_mem_nil⟩⟩⟩⟩⟩⟩⟩⟩⟩⟩⟩⟩⟩⟩⟩⟩⟩⟩⟩⟩⟩⟩
def kl_X7_nameAt : List (Nat × En) := kl_X7_nameAt_0
theorem kg_X7_nameAt : ∀ q ∈ kl_X7_nameAt, Gd 42 q := kg_X7_nameAt_0
def kl_J6_bitCount_0f7a4_0 : List (Nat × En) := [(0, .inl (xo_iload 0 1)), (1, .inl (xo_iload 0 2)), (2, .inl (xo_const (.int 1) 3)), (3, .inl (xo_bin (fun x y => (x.toUInt32 >>> (y.toUInt32 &&& Int32.toUInt32 31)).toInt32) 4)), (4, .inl (xo_const (.int 1431655765) 7)), (7, .inl (xo_bin (fun x y => x &&& y) 8)), (8, .inl (xo_bin (fun x y => x - y) 9)), (9, .inl (xo_istore 0 10)), (10, .inl (xo_iload 0 11)), (11, .inl (xo_const (.int 858993459) 14)), (14, .inl (xo_bin (fun x y => x &&& y) 15)), (15, .inl (xo_iload 0 16)), (16, .inl (xo_const (.int 2) 17)), (17, .inl (xo_bin (fun x y => (x.toUInt32 >>> (y.toUInt32 &&& Int32.toUInt32 31)).toInt32) 18)), (18, .inl (xo_const (.int 858993459) 21)), (21, .inl (xo_bin (fun x y => x &&& y) 22)), (22, .inl (xo_bin (fun x y => x + y) 23)), (23, .inl (xo_istore 0 24)), (24, .inl (xo_iload 0 25)), (25, .inl (xo_iload 0 26)), (26, .inl (xo_const (.int 4) 27)), (27, .inl (xo_bin (fun x y => (x.toUInt32 >>> (y.toUInt32 &&& Int32.toUInt32 31)).toInt32) 28)), (28, .inl (xo_bin (fun x y => x + y) 29)), (29, .inl (xo_const (.int 252645135) 32)), (32, .inl (xo_bin (fun x y => x &&& y) 33)), (33, .inl (xo_istore 0 34)), (34, .inl (xo_iload 0 35)), (35, .inl (xo_iload 0 36)), (36, .inl (xo_const (.int 8) 38)), (38, .inl (xo_bin (fun x y => (x.toUInt32 >>> (y.toUInt32 &&& Int32.toUInt32 31)).toInt32) 39)), (39, .inl (xo_bin (fun x y => x + y) 40)), (40, .inl (xo_istore 0 41)), (41, .inl (xo_iload 0 42)), (42, .inl (xo_iload 0 43)), (43, .inl (xo_const (.int 16) 45)), (45, .inl (xo_bin (fun x y => (x.toUInt32 >>> (y.toUInt32 &&& Int32.toUInt32 31)).toInt32) 46)), (46, .inl (xo_bin (fun x y => x + y) 47)), (47, .inl (xo_istore 0 48)), (48, .inl (xo_iload 0 49)), (49, .inl (xo_const (.int 63) 51))]
set_option maxRecDepth 20000 in
theorem kg_J6_bitCount_0f7a4_0 : ∀ q ∈ kl_J6_bitCount_0f7a4_0, Gd 190 q := List.forall_mem_cons.mpr ⟨⟨xs_iload_n (by decide +kernel : decode (MT 190).2.1 0 = .ok (.iload_n 0, 1)) rfl, mon_iload⟩,
  List.forall_mem_cons.mpr ⟨⟨xs_iload_n (by decide +kernel : decode (MT 190).2.1 1 = .ok (.iload_n 0, 1)) rfl, mon_iload⟩,
  List.forall_mem_cons.mpr ⟨⟨xs_iconst (by decide +kernel : decode (MT 190).2.1 2 = .ok (.iconst 1, 1)) rfl, mon_const⟩,
  List.forall_mem_cons.mpr ⟨⟨xs_iushr (by decide +kernel : decode (MT 190).2.1 3 = .ok (.iushr, 1)), mon_bin⟩,
  List.forall_mem_cons.mpr ⟨⟨xs_ldcw (by decide +kernel : decode (MT 190).2.1 4 = .ok (.ldc_w 265, 3)) wg_404, mon_const⟩,
  List.forall_mem_cons.mpr ⟨⟨xs_iand (by decide +kernel : decode (MT 190).2.1 7 = .ok (.iand, 1)), mon_bin⟩,
  List.forall_mem_cons.mpr ⟨⟨xs_isub (by decide +kernel : decode (MT 190).2.1 8 = .ok (.isub, 1)), mon_bin⟩,
  List.forall_mem_cons.mpr ⟨⟨xs_istore_n (by decide +kernel : decode (MT 190).2.1 9 = .ok (.istore_n 0, 1)) rfl, mon_istore⟩,
  List.forall_mem_cons.mpr ⟨⟨xs_iload_n (by decide +kernel : decode (MT 190).2.1 10 = .ok (.iload_n 0, 1)) rfl, mon_iload⟩,
  List.forall_mem_cons.mpr ⟨⟨xs_ldcw (by decide +kernel : decode (MT 190).2.1 11 = .ok (.ldc_w 266, 3)) wg_405, mon_const⟩,
  List.forall_mem_cons.mpr ⟨⟨xs_iand (by decide +kernel : decode (MT 190).2.1 14 = .ok (.iand, 1)), mon_bin⟩,
  List.forall_mem_cons.mpr ⟨⟨xs_iload_n (by decide +kernel : decode (MT 190).2.1 15 = .ok (.iload_n 0, 1)) rfl, mon_iload⟩,
  List.forall_mem_cons.mpr ⟨⟨xs_iconst (by decide +kernel : decode (MT 190).2.1 16 = .ok (.iconst 2, 1)) rfl, mon_const⟩,
  List.forall_mem_cons.mpr ⟨⟨xs_iushr (by decide +kernel : decode (MT 190).2.1 17 = .ok (.iushr, 1)), mon_bin⟩,
  List.forall_mem_cons.mpr ⟨⟨xs_ldcw (by decide +kernel : decode (MT 190).2.1 18 = .ok (.ldc_w 266, 3)) wg_405, mon_const⟩,
  List.forall_mem_cons.mpr ⟨⟨xs_iand (by decide +kernel : decode (MT 190).2.1 21 = .ok (.iand, 1)), mon_bin⟩,
  List.forall_mem_cons.mpr ⟨⟨xs_iadd (by decide +kernel : decode (MT 190).2.1 22 = .ok (.iadd, 1)), mon_bin⟩,
  List.forall_mem_cons.mpr ⟨⟨xs_istore_n (by decide +kernel : decode (MT 190).2.1 23 = .ok (.istore_n 0, 1)) rfl, mon_istore⟩,
  List.forall_mem_cons.mpr ⟨⟨xs_iload_n (by decide +kernel : decode (MT 190).2.1 24 = .ok (.iload_n 0, 1)) rfl, mon_iload⟩,
  List.forall_mem_cons.mpr ⟨⟨xs_iload_n (by decide +kernel : decode (MT 190).2.1 25 = .ok (.iload_n 0, 1)) rfl, mon_iload⟩,
  List.forall_mem_cons.mpr ⟨⟨xs_iconst (by decide +kernel : decode (MT 190).2.1 26 = .ok (.iconst 4, 1)) rfl, mon_const⟩,
  List.forall_mem_cons.mpr ⟨⟨xs_iushr (by decide +kernel : decode (MT 190).2.1 27 = .ok (.iushr, 1)), mon_bin⟩,
  List.forall_mem_cons.mpr ⟨⟨xs_iadd (by decide +kernel : decode (MT 190).2.1 28 = .ok (.iadd, 1)), mon_bin⟩,
  List.forall_mem_cons.mpr ⟨⟨xs_ldcw (by decide +kernel : decode (MT 190).2.1 29 = .ok (.ldc_w 267, 3)) wg_406, mon_const⟩,
  List.forall_mem_cons.mpr ⟨⟨xs_iand (by decide +kernel : decode (MT 190).2.1 32 = .ok (.iand, 1)), mon_bin⟩,
  List.forall_mem_cons.mpr ⟨⟨xs_istore_n (by decide +kernel : decode (MT 190).2.1 33 = .ok (.istore_n 0, 1)) rfl, mon_istore⟩,
  List.forall_mem_cons.mpr ⟨⟨xs_iload_n (by decide +kernel : decode (MT 190).2.1 34 = .ok (.iload_n 0, 1)) rfl, mon_iload⟩,
  List.forall_mem_cons.mpr ⟨⟨xs_iload_n (by decide +kernel : decode (MT 190).2.1 35 = .ok (.iload_n 0, 1)) rfl, mon_iload⟩,
  List.forall_mem_cons.mpr ⟨⟨xs_bipush (by decide +kernel : decode (MT 190).2.1 36 = .ok (.bipush 8, 2)) rfl, mon_const⟩,
  List.forall_mem_cons.mpr ⟨⟨xs_iushr (by decide +kernel : decode (MT 190).2.1 38 = .ok (.iushr, 1)), mon_bin⟩,
  List.forall_mem_cons.mpr ⟨⟨xs_iadd (by decide +kernel : decode (MT 190).2.1 39 = .ok (.iadd, 1)), mon_bin⟩,
  List.forall_mem_cons.mpr ⟨⟨xs_istore_n (by decide +kernel : decode (MT 190).2.1 40 = .ok (.istore_n 0, 1)) rfl, mon_istore⟩,
  List.forall_mem_cons.mpr ⟨⟨xs_iload_n (by decide +kernel : decode (MT 190).2.1 41 = .ok (.iload_n 0, 1)) rfl, mon_iload⟩,
  List.forall_mem_cons.mpr ⟨⟨xs_iload_n (by decide +kernel : decode (MT 190).2.1 42 = .ok (.iload_n 0, 1)) rfl, mon_iload⟩,
  List.forall_mem_cons.mpr ⟨⟨xs_bipush (by decide +kernel : decode (MT 190).2.1 43 = .ok (.bipush 16, 2)) rfl, mon_const⟩,
  List.forall_mem_cons.mpr ⟨⟨xs_iushr (by decide +kernel : decode (MT 190).2.1 45 = .ok (.iushr, 1)), mon_bin⟩,
  List.forall_mem_cons.mpr ⟨⟨xs_iadd (by decide +kernel : decode (MT 190).2.1 46 = .ok (.iadd, 1)), mon_bin⟩,
  List.forall_mem_cons.mpr ⟨⟨xs_istore_n (by decide +kernel : decode (MT 190).2.1 47 = .ok (.istore_n 0, 1)) rfl, mon_istore⟩,
  List.forall_mem_cons.mpr ⟨⟨xs_iload_n (by decide +kernel : decode (MT 190).2.1 48 = .ok (.iload_n 0, 1)) rfl, mon_iload⟩,
  List.forall_mem_cons.mpr ⟨⟨xs_bipush (by decide +kernel : decode (MT 190).2.1 49 = .ok (.bipush 63, 2)) rfl, mon_const⟩,
  fun _ h => absurd h List.not_mem_nil⟩⟩⟩⟩⟩⟩⟩⟩⟩⟩⟩⟩⟩⟩⟩⟩⟩⟩⟩⟩⟩⟩⟩⟩⟩⟩⟩⟩⟩⟩⟩⟩⟩⟩⟩⟩⟩⟩⟩⟩
def kl_J6_bitCount_0f7a4_1 : List (Nat × En) := [(51, .inl (xo_bin (fun x y => x &&& y) 52)), (52, .inl (xo_iret))]
set_option maxRecDepth 20000 in
theorem kg_J6_bitCount_0f7a4_1 : ∀ q ∈ kl_J6_bitCount_0f7a4_1, Gd 190 q := List.forall_mem_cons.mpr ⟨⟨xs_iand (by decide +kernel : decode (MT 190).2.1 51 = .ok (.iand, 1)), mon_bin⟩,
  List.forall_mem_cons.mpr ⟨⟨xs_iret (by decide +kernel : decode (MT 190).2.1 52 = .ok (.ireturn, 1)) rfl, mon_iret⟩,
  fun _ h => absurd h List.not_mem_nil⟩⟩
def kl_J6_bitCount_0f7a4 : List (Nat × En) := kl_J6_bitCount_0f7a4_0 ++ kl_J6_bitCount_0f7a4_1
theorem kg_J6_bitCount_0f7a4 : ∀ q ∈ kl_J6_bitCount_0f7a4, Gd 190 q := by
  intro q hq
  simp only [kl_J6_bitCount_0f7a4, List.mem_append] at hq
  rcases hq with hq | hq
  · exact kg_J6_bitCount_0f7a4_0 q hq
  · exact kg_J6_bitCount_0f7a4_1 q hq
def kl_J9_abs_0f7a4_0 : List (Nat × En) := [(0, .inl (xo_iload 0 1)), (1, .inl (xo_if1 (fun x => decide (x ≥ 0)) 9 4)), (4, .inl (xo_iload 0 5)), (5, .inl (xo_un (fun x => -x) 6)), (6, .inl (xo_goto 10)), (9, .inl (xo_iload 0 10)), (10, .inl (xo_iret))]
set_option maxRecDepth 20000 in
theorem kg_J9_abs_0f7a4_0 : ∀ q ∈ kl_J9_abs_0f7a4_0, Gd 191 q := List.forall_mem_cons.mpr ⟨⟨xs_iload_n (by decide +kernel : decode (MT 191).2.1 0 = .ok (.iload_n 0, 1)) rfl, mon_iload⟩,
  List.forall_mem_cons.mpr ⟨⟨xs_if_ge (by decide +kernel : decode (MT 191).2.1 1 = .ok (.ifCond .ge 8, 3)) (by decide), mon_if1⟩,
  List.forall_mem_cons.mpr ⟨⟨xs_iload_n (by decide +kernel : decode (MT 191).2.1 4 = .ok (.iload_n 0, 1)) rfl, mon_iload⟩,
  List.forall_mem_cons.mpr ⟨⟨xs_ineg (by decide +kernel : decode (MT 191).2.1 5 = .ok (.ineg, 1)), mon_un⟩,
  List.forall_mem_cons.mpr ⟨⟨xs_goto (by decide +kernel : decode (MT 191).2.1 6 = .ok (.goto 4, 3)) (by decide), mon_goto⟩,
  List.forall_mem_cons.mpr ⟨⟨xs_iload_n (by decide +kernel : decode (MT 191).2.1 9 = .ok (.iload_n 0, 1)) rfl, mon_iload⟩,
  List.forall_mem_cons.mpr ⟨⟨xs_iret (by decide +kernel : decode (MT 191).2.1 10 = .ok (.ireturn, 1)) rfl, mon_iret⟩,
  fun _ h => absurd h List.not_mem_nil⟩⟩⟩⟩⟩⟩⟩
def kl_J9_abs_0f7a4 : List (Nat × En) := kl_J9_abs_0f7a4_0
theorem kg_J9_abs_0f7a4 : ∀ q ∈ kl_J9_abs_0f7a4, Gd 191 q := kg_J9_abs_0f7a4_0
def kl_J9_max_7cf53_0 : List (Nat × En) := [(0, .inl (xo_iload 0 1)), (1, .inl (xo_iload 1 2)), (2, .inl (xo_if2 (fun x y => decide (x < y)) 9 5)), (5, .inl (xo_iload 0 6)), (6, .inl (xo_goto 10)), (9, .inl (xo_iload 1 10)), (10, .inl (xo_iret))]
set_option maxRecDepth 20000 in
theorem kg_J9_max_7cf53_0 : ∀ q ∈ kl_J9_max_7cf53_0, Gd 192 q := List.forall_mem_cons.mpr ⟨⟨xs_iload_n (by decide +kernel : decode (MT 192).2.1 0 = .ok (.iload_n 0, 1)) rfl, mon_iload⟩,
  List.forall_mem_cons.mpr ⟨⟨xs_iload_n (by decide +kernel : decode (MT 192).2.1 1 = .ok (.iload_n 1, 1)) rfl, mon_iload⟩,
  List.forall_mem_cons.mpr ⟨⟨xs_icmp_lt (by decide +kernel : decode (MT 192).2.1 2 = .ok (.if_icmp .lt 7, 3)) (by decide), mon_if2⟩,
  List.forall_mem_cons.mpr ⟨⟨xs_iload_n (by decide +kernel : decode (MT 192).2.1 5 = .ok (.iload_n 0, 1)) rfl, mon_iload⟩,
  List.forall_mem_cons.mpr ⟨⟨xs_goto (by decide +kernel : decode (MT 192).2.1 6 = .ok (.goto 4, 3)) (by decide), mon_goto⟩,
  List.forall_mem_cons.mpr ⟨⟨xs_iload_n (by decide +kernel : decode (MT 192).2.1 9 = .ok (.iload_n 1, 1)) rfl, mon_iload⟩,
  List.forall_mem_cons.mpr ⟨⟨xs_iret (by decide +kernel : decode (MT 192).2.1 10 = .ok (.ireturn, 1)) rfl, mon_iret⟩,
  fun _ h => absurd h List.not_mem_nil⟩⟩⟩⟩⟩⟩⟩
def kl_J9_max_7cf53 : List (Nat × En) := kl_J9_max_7cf53_0
theorem kg_J9_max_7cf53 : ∀ q ∈ kl_J9_max_7cf53, Gd 192 q := kg_J9_max_7cf53_0
def kl_J9_min_7cf53_0 : List (Nat × En) := [(0, .inl (xo_iload 0 1)), (1, .inl (xo_iload 1 2)), (2, .inl (xo_if2 (fun x y => decide (x > y)) 9 5)), (5, .inl (xo_iload 0 6)), (6, .inl (xo_goto 10)), (9, .inl (xo_iload 1 10)), (10, .inl (xo_iret))]
set_option maxRecDepth 20000 in
theorem kg_J9_min_7cf53_0 : ∀ q ∈ kl_J9_min_7cf53_0, Gd 193 q := List.forall_mem_cons.mpr ⟨⟨xs_iload_n (by decide +kernel : decode (MT 193).2.1 0 = .ok (.iload_n 0, 1)) rfl, mon_iload⟩,
  List.forall_mem_cons.mpr ⟨⟨xs_iload_n (by decide +kernel : decode (MT 193).2.1 1 = .ok (.iload_n 1, 1)) rfl, mon_iload⟩,
  List.forall_mem_cons.mpr ⟨⟨xs_icmp_gt (by decide +kernel : decode (MT 193).2.1 2 = .ok (.if_icmp .gt 7, 3)) (by decide), mon_if2⟩,
  List.forall_mem_cons.mpr ⟨⟨xs_iload_n (by decide +kernel : decode (MT 193).2.1 5 = .ok (.iload_n 0, 1)) rfl, mon_iload⟩,
  List.forall_mem_cons.mpr ⟨⟨xs_goto (by decide +kernel : decode (MT 193).2.1 6 = .ok (.goto 4, 3)) (by decide), mon_goto⟩,
  List.forall_mem_cons.mpr ⟨⟨xs_iload_n (by decide +kernel : decode (MT 193).2.1 9 = .ok (.iload_n 1, 1)) rfl, mon_iload⟩,
  List.forall_mem_cons.mpr ⟨⟨xs_iret (by decide +kernel : decode (MT 193).2.1 10 = .ok (.ireturn, 1)) rfl, mon_iret⟩,
  fun _ h => absurd h List.not_mem_nil⟩⟩⟩⟩⟩⟩⟩
def kl_J9_min_7cf53 : List (Nat × En) := kl_J9_min_7cf53_0
theorem kg_J9_min_7cf53 : ∀ q ∈ kl_J9_min_7cf53, Gd 193 q := kg_J9_min_7cf53_0
def kl_J7_fill_53178_0 : List (Nat × En) := [(0, .inl (xo_const (.int 0) 1)), (1, .inl (xo_istore 2 2)), (2, .inl (xo_aload 0 3)), (3, .inl (xo_alen 4)), (4, .inl (xo_istore 3 5)), (5, .inl (xo_iload 2 6)), (6, .inl (xo_iload 3 7)), (7, .inl (xo_if2 (fun x y => decide (x ≥ y)) 20 10)), (10, .inl (xo_aload 0 11)), (11, .inl (xo_iload 2 12)), (12, .inl (xo_iload 1 13)), (13, .inl (xo_iast 14)), (14, .inl (xo_iinc 2 1 17)), (17, .inl (xo_goto 5)), (20, .inl (xo_vret))]
set_option maxRecDepth 20000 in
theorem kg_J7_fill_53178_0 : ∀ q ∈ kl_J7_fill_53178_0, Gd 194 q := List.forall_mem_cons.mpr ⟨⟨xs_iconst (by decide +kernel : decode (MT 194).2.1 0 = .ok (.iconst 0, 1)) rfl, mon_const⟩,
  List.forall_mem_cons.mpr ⟨⟨xs_istore_n (by decide +kernel : decode (MT 194).2.1 1 = .ok (.istore_n 2, 1)) rfl, mon_istore⟩,
  List.forall_mem_cons.mpr ⟨⟨xs_aload_n (by decide +kernel : decode (MT 194).2.1 2 = .ok (.aload_n 0, 1)) rfl, mon_aload⟩,
  List.forall_mem_cons.mpr ⟨⟨xs_alen (by decide +kernel : decode (MT 194).2.1 3 = .ok (.arraylength, 1)), mon_alen⟩,
  List.forall_mem_cons.mpr ⟨⟨xs_istore_n (by decide +kernel : decode (MT 194).2.1 4 = .ok (.istore_n 3, 1)) rfl, mon_istore⟩,
  List.forall_mem_cons.mpr ⟨⟨xs_iload_n (by decide +kernel : decode (MT 194).2.1 5 = .ok (.iload_n 2, 1)) rfl, mon_iload⟩,
  List.forall_mem_cons.mpr ⟨⟨xs_iload_n (by decide +kernel : decode (MT 194).2.1 6 = .ok (.iload_n 3, 1)) rfl, mon_iload⟩,
  List.forall_mem_cons.mpr ⟨⟨xs_icmp_ge (by decide +kernel : decode (MT 194).2.1 7 = .ok (.if_icmp .ge 13, 3)) (by decide), mon_if2⟩,
  List.forall_mem_cons.mpr ⟨⟨xs_aload_n (by decide +kernel : decode (MT 194).2.1 10 = .ok (.aload_n 0, 1)) rfl, mon_aload⟩,
  List.forall_mem_cons.mpr ⟨⟨xs_iload_n (by decide +kernel : decode (MT 194).2.1 11 = .ok (.iload_n 2, 1)) rfl, mon_iload⟩,
  List.forall_mem_cons.mpr ⟨⟨xs_iload_n (by decide +kernel : decode (MT 194).2.1 12 = .ok (.iload_n 1, 1)) rfl, mon_iload⟩,
  List.forall_mem_cons.mpr ⟨⟨xs_iast (by decide +kernel : decode (MT 194).2.1 13 = .ok (.iastore, 1)), mon_iast⟩,
  List.forall_mem_cons.mpr ⟨⟨xs_iinc (by decide +kernel : decode (MT 194).2.1 14 = .ok (.iinc 2 1, 3)) rfl, mon_iinc⟩,
  List.forall_mem_cons.mpr ⟨⟨xs_goto (by decide +kernel : decode (MT 194).2.1 17 = .ok (.goto (-12), 3)) (by decide), mon_goto⟩,
  List.forall_mem_cons.mpr ⟨⟨xs_vret (by decide +kernel : decode (MT 194).2.1 20 = .ok (.return_, 1)) rfl, mon_vret⟩,
  fun _ h => absurd h List.not_mem_nil⟩⟩⟩⟩⟩⟩⟩⟩⟩⟩⟩⟩⟩⟩⟩
def kl_J7_fill_53178 : List (Nat × En) := kl_J7_fill_53178_0
theorem kg_J7_fill_53178 : ∀ q ∈ kl_J7_fill_53178, Gd 194 q := kg_J7_fill_53178_0
def kl_J7_copyOf_59c91_0 : List (Nat × En) := [(0, .inl (xo_iload 1 1)), (1, .inl (xo_aload 0 2)), (2, .inl (xo_alen 3)), (3, .inl (xo_if2 (fun x y => decide (¬ x = y)) 14 6)), (6, .inl (xo_aload 0 7)), (7, .inl (xo_clone 10)), (10, .inl (xo_cast 13)), (13, .inl (xo_aret)), (14, .inl (xo_iload 1 15)), (15, .inl (xo_newi 0 17)), (17, .inl (xo_astore 2 18)), (18, .inl (xo_aload 0 19)), (19, .inl (xo_const (.int 0) 20)), (20, .inl (xo_aload 2 21)), (21, .inl (xo_const (.int 0) 22)), (22, .inl (xo_aload 0 23)), (23, .inl (xo_alen 24)), (24, .inl (xo_iload 1 25)), (25, .inl (xo_m2 (fun x y => if y < x then y else x) 28)), (31, .inl (xo_aload 2 32)), (32, .inl (xo_aret))]
set_option maxRecDepth 20000 in
theorem kg_J7_copyOf_59c91_0 : ∀ q ∈ kl_J7_copyOf_59c91_0, Gd 195 q := List.forall_mem_cons.mpr ⟨⟨xs_iload_n (by decide +kernel : decode (MT 195).2.1 0 = .ok (.iload_n 1, 1)) rfl, mon_iload⟩,
  List.forall_mem_cons.mpr ⟨⟨xs_aload_n (by decide +kernel : decode (MT 195).2.1 1 = .ok (.aload_n 0, 1)) rfl, mon_aload⟩,
  List.forall_mem_cons.mpr ⟨⟨xs_alen (by decide +kernel : decode (MT 195).2.1 2 = .ok (.arraylength, 1)), mon_alen⟩,
  List.forall_mem_cons.mpr ⟨⟨xs_icmp_ne (by decide +kernel : decode (MT 195).2.1 3 = .ok (.if_icmp .ne 11, 3)) (by decide), mon_if2⟩,
  List.forall_mem_cons.mpr ⟨⟨xs_aload_n (by decide +kernel : decode (MT 195).2.1 6 = .ok (.aload_n 0, 1)) rfl, mon_aload⟩,
  List.forall_mem_cons.mpr ⟨⟨xs_clone wg_245 wg_246 wg_247 wg_248 wg_249 wn_250 (by decide) (by decide) (by decide +kernel : decode (MT 195).2.1 7 = .ok (.invokevirtual 316, 3)), mon_clone⟩,
  List.forall_mem_cons.mpr ⟨⟨xs_cast wg_251 (by decide +kernel : decode (MT 195).2.1 10 = .ok (.checkcast 317, 3)), mon_cast⟩,
  List.forall_mem_cons.mpr ⟨⟨xs_aret (by decide +kernel : decode (MT 195).2.1 13 = .ok (.areturn, 1)) rfl (Or.inr ⟨_, rfl⟩), mon_aret⟩,
  List.forall_mem_cons.mpr ⟨⟨xs_iload_n (by decide +kernel : decode (MT 195).2.1 14 = .ok (.iload_n 1, 1)) rfl, mon_iload⟩,
  List.forall_mem_cons.mpr ⟨⟨xs_newi (Or.inl ⟨rfl, rfl⟩) wg_44 (by decide +kernel : decode (MT 195).2.1 15 = .ok (.newarray .int, 2)), mon_newi⟩,
  List.forall_mem_cons.mpr ⟨⟨xs_astore_n (by decide +kernel : decode (MT 195).2.1 17 = .ok (.astore_n 2, 1)) rfl, mon_astore⟩,
  List.forall_mem_cons.mpr ⟨⟨xs_aload_n (by decide +kernel : decode (MT 195).2.1 18 = .ok (.aload_n 0, 1)) rfl, mon_aload⟩,
  List.forall_mem_cons.mpr ⟨⟨xs_iconst (by decide +kernel : decode (MT 195).2.1 19 = .ok (.iconst 0, 1)) rfl, mon_const⟩,
  List.forall_mem_cons.mpr ⟨⟨xs_aload_n (by decide +kernel : decode (MT 195).2.1 20 = .ok (.aload_n 2, 1)) rfl, mon_aload⟩,
  List.forall_mem_cons.mpr ⟨⟨xs_iconst (by decide +kernel : decode (MT 195).2.1 21 = .ok (.iconst 0, 1)) rfl, mon_const⟩,
  List.forall_mem_cons.mpr ⟨⟨xs_aload_n (by decide +kernel : decode (MT 195).2.1 22 = .ok (.aload_n 0, 1)) rfl, mon_aload⟩,
  List.forall_mem_cons.mpr ⟨⟨xs_alen (by decide +kernel : decode (MT 195).2.1 23 = .ok (.arraylength, 1)), mon_alen⟩,
  List.forall_mem_cons.mpr ⟨⟨xs_iload_n (by decide +kernel : decode (MT 195).2.1 24 = .ok (.iload_n 1, 1)) rfl, mon_iload⟩,
  List.forall_mem_cons.mpr ⟨⟨xs_mmin wg_252 wg_253 wg_13 wg_mmin (by decide) (by decide) (by decide +kernel : decode (MT 195).2.1 25 = .ok (.invokestatic 304, 3)), mon_m2⟩,
  List.forall_mem_cons.mpr ⟨⟨xs_aload_n (by decide +kernel : decode (MT 195).2.1 31 = .ok (.aload_n 2, 1)) rfl, mon_aload⟩,
  List.forall_mem_cons.mpr ⟨⟨xs_aret (by decide +kernel : decode (MT 195).2.1 32 = .ok (.areturn, 1)) rfl (Or.inr ⟨_, rfl⟩), mon_aret⟩,
  fun _ h => absurd h List.not_mem_nil⟩⟩⟩⟩⟩⟩⟩⟩⟩⟩⟩⟩⟩⟩⟩⟩⟩⟩⟩⟩⟩
def kl_J7_copyOf_59c91 : List (Nat × En) := kl_J7_copyOf_59c91_0
theorem kg_J7_copyOf_59c91 : ∀ q ∈ kl_J7_copyOf_59c91, Gd 195 q := kg_J7_copyOf_59c91_0
