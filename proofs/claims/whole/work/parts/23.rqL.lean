/-! equations, place by place -/
theorem lk_none {pc : Nat} : ∀ {l : List (Nat × En)}, (∀ q ∈ l, q.1 ≠ pc) → l.lookup pc = none
  | [], _ => rfl
  | (k, e) :: l, h => by
    rw [List.lookup_cons]
    have : (pc == k) = false := by simpa using fun z => h (k, e) List.mem_cons_self z.symm
    rw [this]
    exact lk_none fun q hq => h q (List.mem_cons_of_mem _ hq)
set_option maxRecDepth 20000 in
theorem lkr_0 : ∀ q ∈ kl_L_law_0, 0 ≤ q.1 ∧ q.1 ≤ 203 := by
  have h : kl_L_law_0.all (fun q => decide (0 ≤ q.1) && decide (q.1 ≤ 203)) = true := rfl
  intro q hq
  simpa using List.all_eq_true.mp h q hq
set_option maxRecDepth 20000 in
theorem lkr_1 : ∀ q ∈ kl_L_law_1, 204 ≤ q.1 ∧ q.1 ≤ 255 := by
  have h : kl_L_law_1.all (fun q => decide (204 ≤ q.1) && decide (q.1 ≤ 255)) = true := rfl
  intro q hq
  simpa using List.all_eq_true.mp h q hq
set_option maxRecDepth 20000 in
theorem lkr_2 : ∀ q ∈ kl_L_law_2, 256 ≤ q.1 ∧ q.1 ≤ 317 := by
  have h : kl_L_law_2.all (fun q => decide (256 ≤ q.1) && decide (q.1 ≤ 317)) = true := rfl
  intro q hq
  simpa using List.all_eq_true.mp h q hq
set_option maxRecDepth 20000 in
theorem lkr_3 : ∀ q ∈ kl_L_law_3, 318 ≤ q.1 ∧ q.1 ≤ 365 := by
  have h : kl_L_law_3.all (fun q => decide (318 ≤ q.1) && decide (q.1 ≤ 365)) = true := rfl
  intro q hq
  simpa using List.all_eq_true.mp h q hq
set_option maxRecDepth 20000 in
theorem lkr_4 : ∀ q ∈ kl_L_law_4, 366 ≤ q.1 ∧ q.1 ≤ 411 := by
  have h : kl_L_law_4.all (fun q => decide (366 ≤ q.1) && decide (q.1 ≤ 411)) = true := rfl
  intro q hq
  simpa using List.all_eq_true.mp h q hq
set_option maxRecDepth 20000 in
theorem lkr_5 : ∀ q ∈ kl_L_law_5, 412 ≤ q.1 ∧ q.1 ≤ 467 := by
  have h : kl_L_law_5.all (fun q => decide (412 ≤ q.1) && decide (q.1 ≤ 467)) = true := rfl
  intro q hq
  simpa using List.all_eq_true.mp h q hq
set_option maxRecDepth 20000 in
theorem lkr_6 : ∀ q ∈ kl_L_law_6, 468 ≤ q.1 ∧ q.1 ≤ 513 := by
  have h : kl_L_law_6.all (fun q => decide (468 ≤ q.1) && decide (q.1 ≤ 513)) = true := rfl
  intro q hq
  simpa using List.all_eq_true.mp h q hq
set_option maxRecDepth 20000 in
theorem lkr_7 : ∀ q ∈ kl_L_law_7, 514 ≤ q.1 ∧ q.1 ≤ 565 := by
  have h : kl_L_law_7.all (fun q => decide (514 ≤ q.1) && decide (q.1 ≤ 565)) = true := rfl
  intro q hq
  simpa using List.all_eq_true.mp h q hq
set_option maxRecDepth 20000 in
theorem lkr_8 : ∀ q ∈ kl_L_law_8, 566 ≤ q.1 ∧ q.1 ≤ 617 := by
  have h : kl_L_law_8.all (fun q => decide (566 ≤ q.1) && decide (q.1 ≤ 617)) = true := rfl
  intro q hq
  simpa using List.all_eq_true.mp h q hq
set_option maxRecDepth 20000 in
theorem lkr_9 : ∀ q ∈ kl_L_law_9, 618 ≤ q.1 ∧ q.1 ≤ 671 := by
  have h : kl_L_law_9.all (fun q => decide (618 ≤ q.1) && decide (q.1 ≤ 671)) = true := rfl
  intro q hq
  simpa using List.all_eq_true.mp h q hq
set_option maxRecDepth 20000 in
theorem lkr_10 : ∀ q ∈ kl_L_law_10, 672 ≤ q.1 ∧ q.1 ≤ 723 := by
  have h : kl_L_law_10.all (fun q => decide (672 ≤ q.1) && decide (q.1 ≤ 723)) = true := rfl
  intro q hq
  simpa using List.all_eq_true.mp h q hq
set_option maxRecDepth 20000 in
theorem lkr_11 : ∀ q ∈ kl_L_law_11, 724 ≤ q.1 ∧ q.1 ≤ 773 := by
  have h : kl_L_law_11.all (fun q => decide (724 ≤ q.1) && decide (q.1 ≤ 773)) = true := rfl
  intro q hq
  simpa using List.all_eq_true.mp h q hq
set_option maxRecDepth 20000 in
theorem lkr_12 : ∀ q ∈ kl_L_law_12, 774 ≤ q.1 ∧ q.1 ≤ 821 := by
  have h : kl_L_law_12.all (fun q => decide (774 ≤ q.1) && decide (q.1 ≤ 821)) = true := rfl
  intro q hq
  simpa using List.all_eq_true.mp h q hq
set_option maxRecDepth 20000 in
theorem lkr_13 : ∀ q ∈ kl_L_law_13, 822 ≤ q.1 ∧ q.1 ≤ 871 := by
  have h : kl_L_law_13.all (fun q => decide (822 ≤ q.1) && decide (q.1 ≤ 871)) = true := rfl
  intro q hq
  simpa using List.all_eq_true.mp h q hq
set_option maxRecDepth 20000 in
theorem lkr_14 : ∀ q ∈ kl_L_law_14, 874 ≤ q.1 ∧ q.1 ≤ 925 := by
  have h : kl_L_law_14.all (fun q => decide (874 ≤ q.1) && decide (q.1 ≤ 925)) = true := rfl
  intro q hq
  simpa using List.all_eq_true.mp h q hq
set_option maxRecDepth 20000 in
theorem lkr_15 : ∀ q ∈ kl_L_law_15, 926 ≤ q.1 ∧ q.1 ≤ 977 := by
  have h : kl_L_law_15.all (fun q => decide (926 ≤ q.1) && decide (q.1 ≤ 977)) = true := rfl
  intro q hq
  simpa using List.all_eq_true.mp h q hq
set_option maxRecDepth 20000 in
theorem lkr_16 : ∀ q ∈ kl_L_law_16, 978 ≤ q.1 ∧ q.1 ≤ 1027 := by
  have h : kl_L_law_16.all (fun q => decide (978 ≤ q.1) && decide (q.1 ≤ 1027)) = true := rfl
  intro q hq
  simpa using List.all_eq_true.mp h q hq
set_option maxRecDepth 20000 in
theorem lkr_17 : ∀ q ∈ kl_L_law_17, 1028 ≤ q.1 ∧ q.1 ≤ 1083 := by
  have h : kl_L_law_17.all (fun q => decide (1028 ≤ q.1) && decide (q.1 ≤ 1083)) = true := rfl
  intro q hq
  simpa using List.all_eq_true.mp h q hq
set_option maxRecDepth 20000 in
theorem lkr_18 : ∀ q ∈ kl_L_law_18, 1086 ≤ q.1 ∧ q.1 ≤ 1095 := by
  have h : kl_L_law_18.all (fun q => decide (1086 ≤ q.1) && decide (q.1 ≤ 1095)) = true := rfl
  intro q hq
  simpa using List.all_eq_true.mp h q hq
theorem lkc_0 (pc : Nat) (h1 : 0 ≤ pc) (h2 : pc ≤ 203) : KT 196 pc = kl_L_law_0.lookup pc := by
  show kl_L_law.lookup pc = _
  simp only [kl_L_law, List.lookup_append]
  rw [show kl_L_law_1.lookup pc = none from lk_none fun q hq => by have := lkr_1 q hq; omega]
  rw [show kl_L_law_2.lookup pc = none from lk_none fun q hq => by have := lkr_2 q hq; omega]
  rw [show kl_L_law_3.lookup pc = none from lk_none fun q hq => by have := lkr_3 q hq; omega]
  rw [show kl_L_law_4.lookup pc = none from lk_none fun q hq => by have := lkr_4 q hq; omega]
  rw [show kl_L_law_5.lookup pc = none from lk_none fun q hq => by have := lkr_5 q hq; omega]
  rw [show kl_L_law_6.lookup pc = none from lk_none fun q hq => by have := lkr_6 q hq; omega]
  rw [show kl_L_law_7.lookup pc = none from lk_none fun q hq => by have := lkr_7 q hq; omega]
  rw [show kl_L_law_8.lookup pc = none from lk_none fun q hq => by have := lkr_8 q hq; omega]
  rw [show kl_L_law_9.lookup pc = none from lk_none fun q hq => by have := lkr_9 q hq; omega]
  rw [show kl_L_law_10.lookup pc = none from lk_none fun q hq => by have := lkr_10 q hq; omega]
  rw [show kl_L_law_11.lookup pc = none from lk_none fun q hq => by have := lkr_11 q hq; omega]
  rw [show kl_L_law_12.lookup pc = none from lk_none fun q hq => by have := lkr_12 q hq; omega]
  rw [show kl_L_law_13.lookup pc = none from lk_none fun q hq => by have := lkr_13 q hq; omega]
  rw [show kl_L_law_14.lookup pc = none from lk_none fun q hq => by have := lkr_14 q hq; omega]
  rw [show kl_L_law_15.lookup pc = none from lk_none fun q hq => by have := lkr_15 q hq; omega]
  rw [show kl_L_law_16.lookup pc = none from lk_none fun q hq => by have := lkr_16 q hq; omega]
  rw [show kl_L_law_17.lookup pc = none from lk_none fun q hq => by have := lkr_17 q hq; omega]
  rw [show kl_L_law_18.lookup pc = none from lk_none fun q hq => by have := lkr_18 q hq; omega]
  simp
theorem lkc_1 (pc : Nat) (h1 : 204 ≤ pc) (h2 : pc ≤ 255) : KT 196 pc = kl_L_law_1.lookup pc := by
  show kl_L_law.lookup pc = _
  simp only [kl_L_law, List.lookup_append]
  rw [show kl_L_law_0.lookup pc = none from lk_none fun q hq => by have := lkr_0 q hq; omega]
  rw [show kl_L_law_2.lookup pc = none from lk_none fun q hq => by have := lkr_2 q hq; omega]
  rw [show kl_L_law_3.lookup pc = none from lk_none fun q hq => by have := lkr_3 q hq; omega]
  rw [show kl_L_law_4.lookup pc = none from lk_none fun q hq => by have := lkr_4 q hq; omega]
  rw [show kl_L_law_5.lookup pc = none from lk_none fun q hq => by have := lkr_5 q hq; omega]
  rw [show kl_L_law_6.lookup pc = none from lk_none fun q hq => by have := lkr_6 q hq; omega]
  rw [show kl_L_law_7.lookup pc = none from lk_none fun q hq => by have := lkr_7 q hq; omega]
  rw [show kl_L_law_8.lookup pc = none from lk_none fun q hq => by have := lkr_8 q hq; omega]
  rw [show kl_L_law_9.lookup pc = none from lk_none fun q hq => by have := lkr_9 q hq; omega]
  rw [show kl_L_law_10.lookup pc = none from lk_none fun q hq => by have := lkr_10 q hq; omega]
  rw [show kl_L_law_11.lookup pc = none from lk_none fun q hq => by have := lkr_11 q hq; omega]
  rw [show kl_L_law_12.lookup pc = none from lk_none fun q hq => by have := lkr_12 q hq; omega]
  rw [show kl_L_law_13.lookup pc = none from lk_none fun q hq => by have := lkr_13 q hq; omega]
  rw [show kl_L_law_14.lookup pc = none from lk_none fun q hq => by have := lkr_14 q hq; omega]
  rw [show kl_L_law_15.lookup pc = none from lk_none fun q hq => by have := lkr_15 q hq; omega]
  rw [show kl_L_law_16.lookup pc = none from lk_none fun q hq => by have := lkr_16 q hq; omega]
  rw [show kl_L_law_17.lookup pc = none from lk_none fun q hq => by have := lkr_17 q hq; omega]
  rw [show kl_L_law_18.lookup pc = none from lk_none fun q hq => by have := lkr_18 q hq; omega]
  simp
theorem lkc_2 (pc : Nat) (h1 : 256 ≤ pc) (h2 : pc ≤ 317) : KT 196 pc = kl_L_law_2.lookup pc := by
  show kl_L_law.lookup pc = _
  simp only [kl_L_law, List.lookup_append]
  rw [show kl_L_law_0.lookup pc = none from lk_none fun q hq => by have := lkr_0 q hq; omega]
  rw [show kl_L_law_1.lookup pc = none from lk_none fun q hq => by have := lkr_1 q hq; omega]
  rw [show kl_L_law_3.lookup pc = none from lk_none fun q hq => by have := lkr_3 q hq; omega]
  rw [show kl_L_law_4.lookup pc = none from lk_none fun q hq => by have := lkr_4 q hq; omega]
  rw [show kl_L_law_5.lookup pc = none from lk_none fun q hq => by have := lkr_5 q hq; omega]
  rw [show kl_L_law_6.lookup pc = none from lk_none fun q hq => by have := lkr_6 q hq; omega]
  rw [show kl_L_law_7.lookup pc = none from lk_none fun q hq => by have := lkr_7 q hq; omega]
  rw [show kl_L_law_8.lookup pc = none from lk_none fun q hq => by have := lkr_8 q hq; omega]
  rw [show kl_L_law_9.lookup pc = none from lk_none fun q hq => by have := lkr_9 q hq; omega]
  rw [show kl_L_law_10.lookup pc = none from lk_none fun q hq => by have := lkr_10 q hq; omega]
  rw [show kl_L_law_11.lookup pc = none from lk_none fun q hq => by have := lkr_11 q hq; omega]
  rw [show kl_L_law_12.lookup pc = none from lk_none fun q hq => by have := lkr_12 q hq; omega]
  rw [show kl_L_law_13.lookup pc = none from lk_none fun q hq => by have := lkr_13 q hq; omega]
  rw [show kl_L_law_14.lookup pc = none from lk_none fun q hq => by have := lkr_14 q hq; omega]
  rw [show kl_L_law_15.lookup pc = none from lk_none fun q hq => by have := lkr_15 q hq; omega]
  rw [show kl_L_law_16.lookup pc = none from lk_none fun q hq => by have := lkr_16 q hq; omega]
  rw [show kl_L_law_17.lookup pc = none from lk_none fun q hq => by have := lkr_17 q hq; omega]
  rw [show kl_L_law_18.lookup pc = none from lk_none fun q hq => by have := lkr_18 q hq; omega]
  simp
theorem lkc_3 (pc : Nat) (h1 : 318 ≤ pc) (h2 : pc ≤ 365) : KT 196 pc = kl_L_law_3.lookup pc := by
  show kl_L_law.lookup pc = _
  simp only [kl_L_law, List.lookup_append]
  rw [show kl_L_law_0.lookup pc = none from lk_none fun q hq => by have := lkr_0 q hq; omega]
  rw [show kl_L_law_1.lookup pc = none from lk_none fun q hq => by have := lkr_1 q hq; omega]
  rw [show kl_L_law_2.lookup pc = none from lk_none fun q hq => by have := lkr_2 q hq; omega]
  rw [show kl_L_law_4.lookup pc = none from lk_none fun q hq => by have := lkr_4 q hq; omega]
  rw [show kl_L_law_5.lookup pc = none from lk_none fun q hq => by have := lkr_5 q hq; omega]
  rw [show kl_L_law_6.lookup pc = none from lk_none fun q hq => by have := lkr_6 q hq; omega]
  rw [show kl_L_law_7.lookup pc = none from lk_none fun q hq => by have := lkr_7 q hq; omega]
  rw [show kl_L_law_8.lookup pc = none from lk_none fun q hq => by have := lkr_8 q hq; omega]
  rw [show kl_L_law_9.lookup pc = none from lk_none fun q hq => by have := lkr_9 q hq; omega]
  rw [show kl_L_law_10.lookup pc = none from lk_none fun q hq => by have := lkr_10 q hq; omega]
  rw [show kl_L_law_11.lookup pc = none from lk_none fun q hq => by have := lkr_11 q hq; omega]
  rw [show kl_L_law_12.lookup pc = none from lk_none fun q hq => by have := lkr_12 q hq; omega]
  rw [show kl_L_law_13.lookup pc = none from lk_none fun q hq => by have := lkr_13 q hq; omega]
  rw [show kl_L_law_14.lookup pc = none from lk_none fun q hq => by have := lkr_14 q hq; omega]
  rw [show kl_L_law_15.lookup pc = none from lk_none fun q hq => by have := lkr_15 q hq; omega]
  rw [show kl_L_law_16.lookup pc = none from lk_none fun q hq => by have := lkr_16 q hq; omega]
  rw [show kl_L_law_17.lookup pc = none from lk_none fun q hq => by have := lkr_17 q hq; omega]
  rw [show kl_L_law_18.lookup pc = none from lk_none fun q hq => by have := lkr_18 q hq; omega]
  simp
theorem lkc_4 (pc : Nat) (h1 : 366 ≤ pc) (h2 : pc ≤ 411) : KT 196 pc = kl_L_law_4.lookup pc := by
  show kl_L_law.lookup pc = _
  simp only [kl_L_law, List.lookup_append]
  rw [show kl_L_law_0.lookup pc = none from lk_none fun q hq => by have := lkr_0 q hq; omega]
  rw [show kl_L_law_1.lookup pc = none from lk_none fun q hq => by have := lkr_1 q hq; omega]
  rw [show kl_L_law_2.lookup pc = none from lk_none fun q hq => by have := lkr_2 q hq; omega]
  rw [show kl_L_law_3.lookup pc = none from lk_none fun q hq => by have := lkr_3 q hq; omega]
  rw [show kl_L_law_5.lookup pc = none from lk_none fun q hq => by have := lkr_5 q hq; omega]
  rw [show kl_L_law_6.lookup pc = none from lk_none fun q hq => by have := lkr_6 q hq; omega]
  rw [show kl_L_law_7.lookup pc = none from lk_none fun q hq => by have := lkr_7 q hq; omega]
  rw [show kl_L_law_8.lookup pc = none from lk_none fun q hq => by have := lkr_8 q hq; omega]
  rw [show kl_L_law_9.lookup pc = none from lk_none fun q hq => by have := lkr_9 q hq; omega]
  rw [show kl_L_law_10.lookup pc = none from lk_none fun q hq => by have := lkr_10 q hq; omega]
  rw [show kl_L_law_11.lookup pc = none from lk_none fun q hq => by have := lkr_11 q hq; omega]
  rw [show kl_L_law_12.lookup pc = none from lk_none fun q hq => by have := lkr_12 q hq; omega]
  rw [show kl_L_law_13.lookup pc = none from lk_none fun q hq => by have := lkr_13 q hq; omega]
  rw [show kl_L_law_14.lookup pc = none from lk_none fun q hq => by have := lkr_14 q hq; omega]
  rw [show kl_L_law_15.lookup pc = none from lk_none fun q hq => by have := lkr_15 q hq; omega]
  rw [show kl_L_law_16.lookup pc = none from lk_none fun q hq => by have := lkr_16 q hq; omega]
  rw [show kl_L_law_17.lookup pc = none from lk_none fun q hq => by have := lkr_17 q hq; omega]
  rw [show kl_L_law_18.lookup pc = none from lk_none fun q hq => by have := lkr_18 q hq; omega]
  simp
theorem lkc_5 (pc : Nat) (h1 : 412 ≤ pc) (h2 : pc ≤ 467) : KT 196 pc = kl_L_law_5.lookup pc := by
  show kl_L_law.lookup pc = _
  simp only [kl_L_law, List.lookup_append]
  rw [show kl_L_law_0.lookup pc = none from lk_none fun q hq => by have := lkr_0 q hq; omega]
  rw [show kl_L_law_1.lookup pc = none from lk_none fun q hq => by have := lkr_1 q hq; omega]
  rw [show kl_L_law_2.lookup pc = none from lk_none fun q hq => by have := lkr_2 q hq; omega]
  rw [show kl_L_law_3.lookup pc = none from lk_none fun q hq => by have := lkr_3 q hq; omega]
  rw [show kl_L_law_4.lookup pc = none from lk_none fun q hq => by have := lkr_4 q hq; omega]
  rw [show kl_L_law_6.lookup pc = none from lk_none fun q hq => by have := lkr_6 q hq; omega]
  rw [show kl_L_law_7.lookup pc = none from lk_none fun q hq => by have := lkr_7 q hq; omega]
  rw [show kl_L_law_8.lookup pc = none from lk_none fun q hq => by have := lkr_8 q hq; omega]
  rw [show kl_L_law_9.lookup pc = none from lk_none fun q hq => by have := lkr_9 q hq; omega]
  rw [show kl_L_law_10.lookup pc = none from lk_none fun q hq => by have := lkr_10 q hq; omega]
  rw [show kl_L_law_11.lookup pc = none from lk_none fun q hq => by have := lkr_11 q hq; omega]
  rw [show kl_L_law_12.lookup pc = none from lk_none fun q hq => by have := lkr_12 q hq; omega]
  rw [show kl_L_law_13.lookup pc = none from lk_none fun q hq => by have := lkr_13 q hq; omega]
  rw [show kl_L_law_14.lookup pc = none from lk_none fun q hq => by have := lkr_14 q hq; omega]
  rw [show kl_L_law_15.lookup pc = none from lk_none fun q hq => by have := lkr_15 q hq; omega]
  rw [show kl_L_law_16.lookup pc = none from lk_none fun q hq => by have := lkr_16 q hq; omega]
  rw [show kl_L_law_17.lookup pc = none from lk_none fun q hq => by have := lkr_17 q hq; omega]
  rw [show kl_L_law_18.lookup pc = none from lk_none fun q hq => by have := lkr_18 q hq; omega]
  simp
theorem lkc_6 (pc : Nat) (h1 : 468 ≤ pc) (h2 : pc ≤ 513) : KT 196 pc = kl_L_law_6.lookup pc := by
  show kl_L_law.lookup pc = _
  simp only [kl_L_law, List.lookup_append]
  rw [show kl_L_law_0.lookup pc = none from lk_none fun q hq => by have := lkr_0 q hq; omega]
  rw [show kl_L_law_1.lookup pc = none from lk_none fun q hq => by have := lkr_1 q hq; omega]
  rw [show kl_L_law_2.lookup pc = none from lk_none fun q hq => by have := lkr_2 q hq; omega]
  rw [show kl_L_law_3.lookup pc = none from lk_none fun q hq => by have := lkr_3 q hq; omega]
  rw [show kl_L_law_4.lookup pc = none from lk_none fun q hq => by have := lkr_4 q hq; omega]
  rw [show kl_L_law_5.lookup pc = none from lk_none fun q hq => by have := lkr_5 q hq; omega]
  rw [show kl_L_law_7.lookup pc = none from lk_none fun q hq => by have := lkr_7 q hq; omega]
  rw [show kl_L_law_8.lookup pc = none from lk_none fun q hq => by have := lkr_8 q hq; omega]
  rw [show kl_L_law_9.lookup pc = none from lk_none fun q hq => by have := lkr_9 q hq; omega]
  rw [show kl_L_law_10.lookup pc = none from lk_none fun q hq => by have := lkr_10 q hq; omega]
  rw [show kl_L_law_11.lookup pc = none from lk_none fun q hq => by have := lkr_11 q hq; omega]
  rw [show kl_L_law_12.lookup pc = none from lk_none fun q hq => by have := lkr_12 q hq; omega]
  rw [show kl_L_law_13.lookup pc = none from lk_none fun q hq => by have := lkr_13 q hq; omega]
  rw [show kl_L_law_14.lookup pc = none from lk_none fun q hq => by have := lkr_14 q hq; omega]
  rw [show kl_L_law_15.lookup pc = none from lk_none fun q hq => by have := lkr_15 q hq; omega]
  rw [show kl_L_law_16.lookup pc = none from lk_none fun q hq => by have := lkr_16 q hq; omega]
  rw [show kl_L_law_17.lookup pc = none from lk_none fun q hq => by have := lkr_17 q hq; omega]
  rw [show kl_L_law_18.lookup pc = none from lk_none fun q hq => by have := lkr_18 q hq; omega]
  simp
theorem lkc_7 (pc : Nat) (h1 : 514 ≤ pc) (h2 : pc ≤ 565) : KT 196 pc = kl_L_law_7.lookup pc := by
  show kl_L_law.lookup pc = _
  simp only [kl_L_law, List.lookup_append]
  rw [show kl_L_law_0.lookup pc = none from lk_none fun q hq => by have := lkr_0 q hq; omega]
  rw [show kl_L_law_1.lookup pc = none from lk_none fun q hq => by have := lkr_1 q hq; omega]
  rw [show kl_L_law_2.lookup pc = none from lk_none fun q hq => by have := lkr_2 q hq; omega]
  rw [show kl_L_law_3.lookup pc = none from lk_none fun q hq => by have := lkr_3 q hq; omega]
  rw [show kl_L_law_4.lookup pc = none from lk_none fun q hq => by have := lkr_4 q hq; omega]
  rw [show kl_L_law_5.lookup pc = none from lk_none fun q hq => by have := lkr_5 q hq; omega]
  rw [show kl_L_law_6.lookup pc = none from lk_none fun q hq => by have := lkr_6 q hq; omega]
  rw [show kl_L_law_8.lookup pc = none from lk_none fun q hq => by have := lkr_8 q hq; omega]
  rw [show kl_L_law_9.lookup pc = none from lk_none fun q hq => by have := lkr_9 q hq; omega]
  rw [show kl_L_law_10.lookup pc = none from lk_none fun q hq => by have := lkr_10 q hq; omega]
  rw [show kl_L_law_11.lookup pc = none from lk_none fun q hq => by have := lkr_11 q hq; omega]
  rw [show kl_L_law_12.lookup pc = none from lk_none fun q hq => by have := lkr_12 q hq; omega]
  rw [show kl_L_law_13.lookup pc = none from lk_none fun q hq => by have := lkr_13 q hq; omega]
  rw [show kl_L_law_14.lookup pc = none from lk_none fun q hq => by have := lkr_14 q hq; omega]
  rw [show kl_L_law_15.lookup pc = none from lk_none fun q hq => by have := lkr_15 q hq; omega]
  rw [show kl_L_law_16.lookup pc = none from lk_none fun q hq => by have := lkr_16 q hq; omega]
  rw [show kl_L_law_17.lookup pc = none from lk_none fun q hq => by have := lkr_17 q hq; omega]
  rw [show kl_L_law_18.lookup pc = none from lk_none fun q hq => by have := lkr_18 q hq; omega]
  simp
theorem lkc_8 (pc : Nat) (h1 : 566 ≤ pc) (h2 : pc ≤ 617) : KT 196 pc = kl_L_law_8.lookup pc := by
  show kl_L_law.lookup pc = _
  simp only [kl_L_law, List.lookup_append]
  rw [show kl_L_law_0.lookup pc = none from lk_none fun q hq => by have := lkr_0 q hq; omega]
  rw [show kl_L_law_1.lookup pc = none from lk_none fun q hq => by have := lkr_1 q hq; omega]
  rw [show kl_L_law_2.lookup pc = none from lk_none fun q hq => by have := lkr_2 q hq; omega]
  rw [show kl_L_law_3.lookup pc = none from lk_none fun q hq => by have := lkr_3 q hq; omega]
  rw [show kl_L_law_4.lookup pc = none from lk_none fun q hq => by have := lkr_4 q hq; omega]
  rw [show kl_L_law_5.lookup pc = none from lk_none fun q hq => by have := lkr_5 q hq; omega]
  rw [show kl_L_law_6.lookup pc = none from lk_none fun q hq => by have := lkr_6 q hq; omega]
  rw [show kl_L_law_7.lookup pc = none from lk_none fun q hq => by have := lkr_7 q hq; omega]
  rw [show kl_L_law_9.lookup pc = none from lk_none fun q hq => by have := lkr_9 q hq; omega]
  rw [show kl_L_law_10.lookup pc = none from lk_none fun q hq => by have := lkr_10 q hq; omega]
  rw [show kl_L_law_11.lookup pc = none from lk_none fun q hq => by have := lkr_11 q hq; omega]
  rw [show kl_L_law_12.lookup pc = none from lk_none fun q hq => by have := lkr_12 q hq; omega]
  rw [show kl_L_law_13.lookup pc = none from lk_none fun q hq => by have := lkr_13 q hq; omega]
  rw [show kl_L_law_14.lookup pc = none from lk_none fun q hq => by have := lkr_14 q hq; omega]
  rw [show kl_L_law_15.lookup pc = none from lk_none fun q hq => by have := lkr_15 q hq; omega]
  rw [show kl_L_law_16.lookup pc = none from lk_none fun q hq => by have := lkr_16 q hq; omega]
  rw [show kl_L_law_17.lookup pc = none from lk_none fun q hq => by have := lkr_17 q hq; omega]
  rw [show kl_L_law_18.lookup pc = none from lk_none fun q hq => by have := lkr_18 q hq; omega]
  simp
theorem lkc_9 (pc : Nat) (h1 : 618 ≤ pc) (h2 : pc ≤ 671) : KT 196 pc = kl_L_law_9.lookup pc := by
  show kl_L_law.lookup pc = _
  simp only [kl_L_law, List.lookup_append]
  rw [show kl_L_law_0.lookup pc = none from lk_none fun q hq => by have := lkr_0 q hq; omega]
  rw [show kl_L_law_1.lookup pc = none from lk_none fun q hq => by have := lkr_1 q hq; omega]
  rw [show kl_L_law_2.lookup pc = none from lk_none fun q hq => by have := lkr_2 q hq; omega]
  rw [show kl_L_law_3.lookup pc = none from lk_none fun q hq => by have := lkr_3 q hq; omega]
  rw [show kl_L_law_4.lookup pc = none from lk_none fun q hq => by have := lkr_4 q hq; omega]
  rw [show kl_L_law_5.lookup pc = none from lk_none fun q hq => by have := lkr_5 q hq; omega]
  rw [show kl_L_law_6.lookup pc = none from lk_none fun q hq => by have := lkr_6 q hq; omega]
  rw [show kl_L_law_7.lookup pc = none from lk_none fun q hq => by have := lkr_7 q hq; omega]
  rw [show kl_L_law_8.lookup pc = none from lk_none fun q hq => by have := lkr_8 q hq; omega]
  rw [show kl_L_law_10.lookup pc = none from lk_none fun q hq => by have := lkr_10 q hq; omega]
  rw [show kl_L_law_11.lookup pc = none from lk_none fun q hq => by have := lkr_11 q hq; omega]
  rw [show kl_L_law_12.lookup pc = none from lk_none fun q hq => by have := lkr_12 q hq; omega]
  rw [show kl_L_law_13.lookup pc = none from lk_none fun q hq => by have := lkr_13 q hq; omega]
  rw [show kl_L_law_14.lookup pc = none from lk_none fun q hq => by have := lkr_14 q hq; omega]
  rw [show kl_L_law_15.lookup pc = none from lk_none fun q hq => by have := lkr_15 q hq; omega]
  rw [show kl_L_law_16.lookup pc = none from lk_none fun q hq => by have := lkr_16 q hq; omega]
  rw [show kl_L_law_17.lookup pc = none from lk_none fun q hq => by have := lkr_17 q hq; omega]
  rw [show kl_L_law_18.lookup pc = none from lk_none fun q hq => by have := lkr_18 q hq; omega]
  simp
theorem lkc_10 (pc : Nat) (h1 : 672 ≤ pc) (h2 : pc ≤ 723) : KT 196 pc = kl_L_law_10.lookup pc := by
  show kl_L_law.lookup pc = _
  simp only [kl_L_law, List.lookup_append]
  rw [show kl_L_law_0.lookup pc = none from lk_none fun q hq => by have := lkr_0 q hq; omega]
  rw [show kl_L_law_1.lookup pc = none from lk_none fun q hq => by have := lkr_1 q hq; omega]
  rw [show kl_L_law_2.lookup pc = none from lk_none fun q hq => by have := lkr_2 q hq; omega]
  rw [show kl_L_law_3.lookup pc = none from lk_none fun q hq => by have := lkr_3 q hq; omega]
  rw [show kl_L_law_4.lookup pc = none from lk_none fun q hq => by have := lkr_4 q hq; omega]
  rw [show kl_L_law_5.lookup pc = none from lk_none fun q hq => by have := lkr_5 q hq; omega]
  rw [show kl_L_law_6.lookup pc = none from lk_none fun q hq => by have := lkr_6 q hq; omega]
  rw [show kl_L_law_7.lookup pc = none from lk_none fun q hq => by have := lkr_7 q hq; omega]
  rw [show kl_L_law_8.lookup pc = none from lk_none fun q hq => by have := lkr_8 q hq; omega]
  rw [show kl_L_law_9.lookup pc = none from lk_none fun q hq => by have := lkr_9 q hq; omega]
  rw [show kl_L_law_11.lookup pc = none from lk_none fun q hq => by have := lkr_11 q hq; omega]
  rw [show kl_L_law_12.lookup pc = none from lk_none fun q hq => by have := lkr_12 q hq; omega]
  rw [show kl_L_law_13.lookup pc = none from lk_none fun q hq => by have := lkr_13 q hq; omega]
  rw [show kl_L_law_14.lookup pc = none from lk_none fun q hq => by have := lkr_14 q hq; omega]
  rw [show kl_L_law_15.lookup pc = none from lk_none fun q hq => by have := lkr_15 q hq; omega]
  rw [show kl_L_law_16.lookup pc = none from lk_none fun q hq => by have := lkr_16 q hq; omega]
  rw [show kl_L_law_17.lookup pc = none from lk_none fun q hq => by have := lkr_17 q hq; omega]
  rw [show kl_L_law_18.lookup pc = none from lk_none fun q hq => by have := lkr_18 q hq; omega]
  simp
theorem lkc_11 (pc : Nat) (h1 : 724 ≤ pc) (h2 : pc ≤ 773) : KT 196 pc = kl_L_law_11.lookup pc := by
  show kl_L_law.lookup pc = _
  simp only [kl_L_law, List.lookup_append]
  rw [show kl_L_law_0.lookup pc = none from lk_none fun q hq => by have := lkr_0 q hq; omega]
  rw [show kl_L_law_1.lookup pc = none from lk_none fun q hq => by have := lkr_1 q hq; omega]
  rw [show kl_L_law_2.lookup pc = none from lk_none fun q hq => by have := lkr_2 q hq; omega]
  rw [show kl_L_law_3.lookup pc = none from lk_none fun q hq => by have := lkr_3 q hq; omega]
  rw [show kl_L_law_4.lookup pc = none from lk_none fun q hq => by have := lkr_4 q hq; omega]
  rw [show kl_L_law_5.lookup pc = none from lk_none fun q hq => by have := lkr_5 q hq; omega]
  rw [show kl_L_law_6.lookup pc = none from lk_none fun q hq => by have := lkr_6 q hq; omega]
  rw [show kl_L_law_7.lookup pc = none from lk_none fun q hq => by have := lkr_7 q hq; omega]
  rw [show kl_L_law_8.lookup pc = none from lk_none fun q hq => by have := lkr_8 q hq; omega]
  rw [show kl_L_law_9.lookup pc = none from lk_none fun q hq => by have := lkr_9 q hq; omega]
  rw [show kl_L_law_10.lookup pc = none from lk_none fun q hq => by have := lkr_10 q hq; omega]
  rw [show kl_L_law_12.lookup pc = none from lk_none fun q hq => by have := lkr_12 q hq; omega]
  rw [show kl_L_law_13.lookup pc = none from lk_none fun q hq => by have := lkr_13 q hq; omega]
  rw [show kl_L_law_14.lookup pc = none from lk_none fun q hq => by have := lkr_14 q hq; omega]
  rw [show kl_L_law_15.lookup pc = none from lk_none fun q hq => by have := lkr_15 q hq; omega]
  rw [show kl_L_law_16.lookup pc = none from lk_none fun q hq => by have := lkr_16 q hq; omega]
  rw [show kl_L_law_17.lookup pc = none from lk_none fun q hq => by have := lkr_17 q hq; omega]
  rw [show kl_L_law_18.lookup pc = none from lk_none fun q hq => by have := lkr_18 q hq; omega]
  simp
theorem lkc_12 (pc : Nat) (h1 : 774 ≤ pc) (h2 : pc ≤ 821) : KT 196 pc = kl_L_law_12.lookup pc := by
  show kl_L_law.lookup pc = _
  simp only [kl_L_law, List.lookup_append]
  rw [show kl_L_law_0.lookup pc = none from lk_none fun q hq => by have := lkr_0 q hq; omega]
  rw [show kl_L_law_1.lookup pc = none from lk_none fun q hq => by have := lkr_1 q hq; omega]
  rw [show kl_L_law_2.lookup pc = none from lk_none fun q hq => by have := lkr_2 q hq; omega]
  rw [show kl_L_law_3.lookup pc = none from lk_none fun q hq => by have := lkr_3 q hq; omega]
  rw [show kl_L_law_4.lookup pc = none from lk_none fun q hq => by have := lkr_4 q hq; omega]
  rw [show kl_L_law_5.lookup pc = none from lk_none fun q hq => by have := lkr_5 q hq; omega]
  rw [show kl_L_law_6.lookup pc = none from lk_none fun q hq => by have := lkr_6 q hq; omega]
  rw [show kl_L_law_7.lookup pc = none from lk_none fun q hq => by have := lkr_7 q hq; omega]
  rw [show kl_L_law_8.lookup pc = none from lk_none fun q hq => by have := lkr_8 q hq; omega]
  rw [show kl_L_law_9.lookup pc = none from lk_none fun q hq => by have := lkr_9 q hq; omega]
  rw [show kl_L_law_10.lookup pc = none from lk_none fun q hq => by have := lkr_10 q hq; omega]
  rw [show kl_L_law_11.lookup pc = none from lk_none fun q hq => by have := lkr_11 q hq; omega]
  rw [show kl_L_law_13.lookup pc = none from lk_none fun q hq => by have := lkr_13 q hq; omega]
  rw [show kl_L_law_14.lookup pc = none from lk_none fun q hq => by have := lkr_14 q hq; omega]
  rw [show kl_L_law_15.lookup pc = none from lk_none fun q hq => by have := lkr_15 q hq; omega]
  rw [show kl_L_law_16.lookup pc = none from lk_none fun q hq => by have := lkr_16 q hq; omega]
  rw [show kl_L_law_17.lookup pc = none from lk_none fun q hq => by have := lkr_17 q hq; omega]
  rw [show kl_L_law_18.lookup pc = none from lk_none fun q hq => by have := lkr_18 q hq; omega]
  simp
theorem lkc_13 (pc : Nat) (h1 : 822 ≤ pc) (h2 : pc ≤ 871) : KT 196 pc = kl_L_law_13.lookup pc := by
  show kl_L_law.lookup pc = _
  simp only [kl_L_law, List.lookup_append]
  rw [show kl_L_law_0.lookup pc = none from lk_none fun q hq => by have := lkr_0 q hq; omega]
  rw [show kl_L_law_1.lookup pc = none from lk_none fun q hq => by have := lkr_1 q hq; omega]
  rw [show kl_L_law_2.lookup pc = none from lk_none fun q hq => by have := lkr_2 q hq; omega]
  rw [show kl_L_law_3.lookup pc = none from lk_none fun q hq => by have := lkr_3 q hq; omega]
  rw [show kl_L_law_4.lookup pc = none from lk_none fun q hq => by have := lkr_4 q hq; omega]
  rw [show kl_L_law_5.lookup pc = none from lk_none fun q hq => by have := lkr_5 q hq; omega]
  rw [show kl_L_law_6.lookup pc = none from lk_none fun q hq => by have := lkr_6 q hq; omega]
  rw [show kl_L_law_7.lookup pc = none from lk_none fun q hq => by have := lkr_7 q hq; omega]
  rw [show kl_L_law_8.lookup pc = none from lk_none fun q hq => by have := lkr_8 q hq; omega]
  rw [show kl_L_law_9.lookup pc = none from lk_none fun q hq => by have := lkr_9 q hq; omega]
  rw [show kl_L_law_10.lookup pc = none from lk_none fun q hq => by have := lkr_10 q hq; omega]
  rw [show kl_L_law_11.lookup pc = none from lk_none fun q hq => by have := lkr_11 q hq; omega]
  rw [show kl_L_law_12.lookup pc = none from lk_none fun q hq => by have := lkr_12 q hq; omega]
  rw [show kl_L_law_14.lookup pc = none from lk_none fun q hq => by have := lkr_14 q hq; omega]
  rw [show kl_L_law_15.lookup pc = none from lk_none fun q hq => by have := lkr_15 q hq; omega]
  rw [show kl_L_law_16.lookup pc = none from lk_none fun q hq => by have := lkr_16 q hq; omega]
  rw [show kl_L_law_17.lookup pc = none from lk_none fun q hq => by have := lkr_17 q hq; omega]
  rw [show kl_L_law_18.lookup pc = none from lk_none fun q hq => by have := lkr_18 q hq; omega]
  simp
theorem lkc_14 (pc : Nat) (h1 : 874 ≤ pc) (h2 : pc ≤ 925) : KT 196 pc = kl_L_law_14.lookup pc := by
  show kl_L_law.lookup pc = _
  simp only [kl_L_law, List.lookup_append]
  rw [show kl_L_law_0.lookup pc = none from lk_none fun q hq => by have := lkr_0 q hq; omega]
  rw [show kl_L_law_1.lookup pc = none from lk_none fun q hq => by have := lkr_1 q hq; omega]
  rw [show kl_L_law_2.lookup pc = none from lk_none fun q hq => by have := lkr_2 q hq; omega]
  rw [show kl_L_law_3.lookup pc = none from lk_none fun q hq => by have := lkr_3 q hq; omega]
  rw [show kl_L_law_4.lookup pc = none from lk_none fun q hq => by have := lkr_4 q hq; omega]
  rw [show kl_L_law_5.lookup pc = none from lk_none fun q hq => by have := lkr_5 q hq; omega]
  rw [show kl_L_law_6.lookup pc = none from lk_none fun q hq => by have := lkr_6 q hq; omega]
  rw [show kl_L_law_7.lookup pc = none from lk_none fun q hq => by have := lkr_7 q hq; omega]
  rw [show kl_L_law_8.lookup pc = none from lk_none fun q hq => by have := lkr_8 q hq; omega]
  rw [show kl_L_law_9.lookup pc = none from lk_none fun q hq => by have := lkr_9 q hq; omega]
  rw [show kl_L_law_10.lookup pc = none from lk_none fun q hq => by have := lkr_10 q hq; omega]
  rw [show kl_L_law_11.lookup pc = none from lk_none fun q hq => by have := lkr_11 q hq; omega]
  rw [show kl_L_law_12.lookup pc = none from lk_none fun q hq => by have := lkr_12 q hq; omega]
  rw [show kl_L_law_13.lookup pc = none from lk_none fun q hq => by have := lkr_13 q hq; omega]
  rw [show kl_L_law_15.lookup pc = none from lk_none fun q hq => by have := lkr_15 q hq; omega]
  rw [show kl_L_law_16.lookup pc = none from lk_none fun q hq => by have := lkr_16 q hq; omega]
  rw [show kl_L_law_17.lookup pc = none from lk_none fun q hq => by have := lkr_17 q hq; omega]
  rw [show kl_L_law_18.lookup pc = none from lk_none fun q hq => by have := lkr_18 q hq; omega]
  simp
theorem lkc_15 (pc : Nat) (h1 : 926 ≤ pc) (h2 : pc ≤ 977) : KT 196 pc = kl_L_law_15.lookup pc := by
  show kl_L_law.lookup pc = _
  simp only [kl_L_law, List.lookup_append]
  rw [show kl_L_law_0.lookup pc = none from lk_none fun q hq => by have := lkr_0 q hq; omega]
  rw [show kl_L_law_1.lookup pc = none from lk_none fun q hq => by have := lkr_1 q hq; omega]
  rw [show kl_L_law_2.lookup pc = none from lk_none fun q hq => by have := lkr_2 q hq; omega]
  rw [show kl_L_law_3.lookup pc = none from lk_none fun q hq => by have := lkr_3 q hq; omega]
  rw [show kl_L_law_4.lookup pc = none from lk_none fun q hq => by have := lkr_4 q hq; omega]
  rw [show kl_L_law_5.lookup pc = none from lk_none fun q hq => by have := lkr_5 q hq; omega]
  rw [show kl_L_law_6.lookup pc = none from lk_none fun q hq => by have := lkr_6 q hq; omega]
  rw [show kl_L_law_7.lookup pc = none from lk_none fun q hq => by have := lkr_7 q hq; omega]
  rw [show kl_L_law_8.lookup pc = none from lk_none fun q hq => by have := lkr_8 q hq; omega]
  rw [show kl_L_law_9.lookup pc = none from lk_none fun q hq => by have := lkr_9 q hq; omega]
  rw [show kl_L_law_10.lookup pc = none from lk_none fun q hq => by have := lkr_10 q hq; omega]
  rw [show kl_L_law_11.lookup pc = none from lk_none fun q hq => by have := lkr_11 q hq; omega]
  rw [show kl_L_law_12.lookup pc = none from lk_none fun q hq => by have := lkr_12 q hq; omega]
  rw [show kl_L_law_13.lookup pc = none from lk_none fun q hq => by have := lkr_13 q hq; omega]
  rw [show kl_L_law_14.lookup pc = none from lk_none fun q hq => by have := lkr_14 q hq; omega]
  rw [show kl_L_law_16.lookup pc = none from lk_none fun q hq => by have := lkr_16 q hq; omega]
  rw [show kl_L_law_17.lookup pc = none from lk_none fun q hq => by have := lkr_17 q hq; omega]
  rw [show kl_L_law_18.lookup pc = none from lk_none fun q hq => by have := lkr_18 q hq; omega]
  simp
theorem lkc_16 (pc : Nat) (h1 : 978 ≤ pc) (h2 : pc ≤ 1027) : KT 196 pc = kl_L_law_16.lookup pc := by
  show kl_L_law.lookup pc = _
  simp only [kl_L_law, List.lookup_append]
  rw [show kl_L_law_0.lookup pc = none from lk_none fun q hq => by have := lkr_0 q hq; omega]
  rw [show kl_L_law_1.lookup pc = none from lk_none fun q hq => by have := lkr_1 q hq; omega]
  rw [show kl_L_law_2.lookup pc = none from lk_none fun q hq => by have := lkr_2 q hq; omega]
  rw [show kl_L_law_3.lookup pc = none from lk_none fun q hq => by have := lkr_3 q hq; omega]
  rw [show kl_L_law_4.lookup pc = none from lk_none fun q hq => by have := lkr_4 q hq; omega]
  rw [show kl_L_law_5.lookup pc = none from lk_none fun q hq => by have := lkr_5 q hq; omega]
  rw [show kl_L_law_6.lookup pc = none from lk_none fun q hq => by have := lkr_6 q hq; omega]
  rw [show kl_L_law_7.lookup pc = none from lk_none fun q hq => by have := lkr_7 q hq; omega]
  rw [show kl_L_law_8.lookup pc = none from lk_none fun q hq => by have := lkr_8 q hq; omega]
  rw [show kl_L_law_9.lookup pc = none from lk_none fun q hq => by have := lkr_9 q hq; omega]
  rw [show kl_L_law_10.lookup pc = none from lk_none fun q hq => by have := lkr_10 q hq; omega]
  rw [show kl_L_law_11.lookup pc = none from lk_none fun q hq => by have := lkr_11 q hq; omega]
  rw [show kl_L_law_12.lookup pc = none from lk_none fun q hq => by have := lkr_12 q hq; omega]
  rw [show kl_L_law_13.lookup pc = none from lk_none fun q hq => by have := lkr_13 q hq; omega]
  rw [show kl_L_law_14.lookup pc = none from lk_none fun q hq => by have := lkr_14 q hq; omega]
  rw [show kl_L_law_15.lookup pc = none from lk_none fun q hq => by have := lkr_15 q hq; omega]
  rw [show kl_L_law_17.lookup pc = none from lk_none fun q hq => by have := lkr_17 q hq; omega]
  rw [show kl_L_law_18.lookup pc = none from lk_none fun q hq => by have := lkr_18 q hq; omega]
  simp
theorem lkc_17 (pc : Nat) (h1 : 1028 ≤ pc) (h2 : pc ≤ 1083) : KT 196 pc = kl_L_law_17.lookup pc := by
  show kl_L_law.lookup pc = _
  simp only [kl_L_law, List.lookup_append]
  rw [show kl_L_law_0.lookup pc = none from lk_none fun q hq => by have := lkr_0 q hq; omega]
  rw [show kl_L_law_1.lookup pc = none from lk_none fun q hq => by have := lkr_1 q hq; omega]
  rw [show kl_L_law_2.lookup pc = none from lk_none fun q hq => by have := lkr_2 q hq; omega]
  rw [show kl_L_law_3.lookup pc = none from lk_none fun q hq => by have := lkr_3 q hq; omega]
  rw [show kl_L_law_4.lookup pc = none from lk_none fun q hq => by have := lkr_4 q hq; omega]
  rw [show kl_L_law_5.lookup pc = none from lk_none fun q hq => by have := lkr_5 q hq; omega]
  rw [show kl_L_law_6.lookup pc = none from lk_none fun q hq => by have := lkr_6 q hq; omega]
  rw [show kl_L_law_7.lookup pc = none from lk_none fun q hq => by have := lkr_7 q hq; omega]
  rw [show kl_L_law_8.lookup pc = none from lk_none fun q hq => by have := lkr_8 q hq; omega]
  rw [show kl_L_law_9.lookup pc = none from lk_none fun q hq => by have := lkr_9 q hq; omega]
  rw [show kl_L_law_10.lookup pc = none from lk_none fun q hq => by have := lkr_10 q hq; omega]
  rw [show kl_L_law_11.lookup pc = none from lk_none fun q hq => by have := lkr_11 q hq; omega]
  rw [show kl_L_law_12.lookup pc = none from lk_none fun q hq => by have := lkr_12 q hq; omega]
  rw [show kl_L_law_13.lookup pc = none from lk_none fun q hq => by have := lkr_13 q hq; omega]
  rw [show kl_L_law_14.lookup pc = none from lk_none fun q hq => by have := lkr_14 q hq; omega]
  rw [show kl_L_law_15.lookup pc = none from lk_none fun q hq => by have := lkr_15 q hq; omega]
  rw [show kl_L_law_16.lookup pc = none from lk_none fun q hq => by have := lkr_16 q hq; omega]
  rw [show kl_L_law_18.lookup pc = none from lk_none fun q hq => by have := lkr_18 q hq; omega]
  simp
theorem lkc_18 (pc : Nat) (h1 : 1086 ≤ pc) (h2 : pc ≤ 1095) : KT 196 pc = kl_L_law_18.lookup pc := by
  show kl_L_law.lookup pc = _
  simp only [kl_L_law, List.lookup_append]
  rw [show kl_L_law_0.lookup pc = none from lk_none fun q hq => by have := lkr_0 q hq; omega]
  rw [show kl_L_law_1.lookup pc = none from lk_none fun q hq => by have := lkr_1 q hq; omega]
  rw [show kl_L_law_2.lookup pc = none from lk_none fun q hq => by have := lkr_2 q hq; omega]
  rw [show kl_L_law_3.lookup pc = none from lk_none fun q hq => by have := lkr_3 q hq; omega]
  rw [show kl_L_law_4.lookup pc = none from lk_none fun q hq => by have := lkr_4 q hq; omega]
  rw [show kl_L_law_5.lookup pc = none from lk_none fun q hq => by have := lkr_5 q hq; omega]
  rw [show kl_L_law_6.lookup pc = none from lk_none fun q hq => by have := lkr_6 q hq; omega]
  rw [show kl_L_law_7.lookup pc = none from lk_none fun q hq => by have := lkr_7 q hq; omega]
  rw [show kl_L_law_8.lookup pc = none from lk_none fun q hq => by have := lkr_8 q hq; omega]
  rw [show kl_L_law_9.lookup pc = none from lk_none fun q hq => by have := lkr_9 q hq; omega]
  rw [show kl_L_law_10.lookup pc = none from lk_none fun q hq => by have := lkr_10 q hq; omega]
  rw [show kl_L_law_11.lookup pc = none from lk_none fun q hq => by have := lkr_11 q hq; omega]
  rw [show kl_L_law_12.lookup pc = none from lk_none fun q hq => by have := lkr_12 q hq; omega]
  rw [show kl_L_law_13.lookup pc = none from lk_none fun q hq => by have := lkr_13 q hq; omega]
  rw [show kl_L_law_14.lookup pc = none from lk_none fun q hq => by have := lkr_14 q hq; omega]
  rw [show kl_L_law_15.lookup pc = none from lk_none fun q hq => by have := lkr_15 q hq; omega]
  rw [show kl_L_law_16.lookup pc = none from lk_none fun q hq => by have := lkr_16 q hq; omega]
  rw [show kl_L_law_17.lookup pc = none from lk_none fun q hq => by have := lkr_17 q hq; omega]
  simp
theorem rq_L_law_0 {lo : Lo} {st : List Value} {h : Hp} {Q : Option Value → Hp → Prop} : Run 196 0 lo st h Q = Cnt 196 Q (xo_new 9 [.int 0, .int 0, .int 0, .null, .null, .null, .null, .null, .null, .null, .null, .null, .null] 3 lo st h) := run_s ((lkc_0 0 (by decide) (by decide)).trans rfl)
theorem rq_L_law_3 {lo : Lo} {st : List Value} {h : Hp} {Q : Option Value → Hp → Prop} : Run 196 3 lo st h Q = Cnt 196 Q (xo_dup 4 lo st h) := run_s ((lkc_0 3 (by decide) (by decide)).trans rfl)
theorem rq_L_law_4 {lo : Lo} {st : List Value} {h : Hp} {Q : Option Value → Hp → Prop} : Run 196 4 lo st h Q = CCall 63 1 (some 9) st h (Knt 196 7 lo (st.drop 1) Q) := run_c ((lkc_0 4 (by decide) (by decide)).trans rfl)
theorem rq_L_law_7 {lo : Lo} {st : List Value} {h : Hp} {Q : Option Value → Hp → Prop} : Run 196 7 lo st h Q = Cnt 196 Q (xo_astore 1 8 lo st h) := run_s ((lkc_0 7 (by decide) (by decide)).trans rfl)
theorem rq_L_law_8 {lo : Lo} {st : List Value} {h : Hp} {Q : Option Value → Hp → Prop} : Run 196 8 lo st h Q = Cnt 196 Q (xo_new 10 [.int 0, .int 0, .int 0, .null, .null, .null, .null, .null, .null, .null, .null, .null, .null, .int 0, .null, .null, .int 0, .null, .int 0, .int 0, .int 0, .null, .int 0, .null] 11 lo st h) := run_s ((lkc_0 8 (by decide) (by decide)).trans rfl)
theorem rq_L_law_11 {lo : Lo} {st : List Value} {h : Hp} {Q : Option Value → Hp → Prop} : Run 196 11 lo st h Q = Cnt 196 Q (xo_dup 12 lo st h) := run_s ((lkc_0 11 (by decide) (by decide)).trans rfl)
theorem rq_L_law_12 {lo : Lo} {st : List Value} {h : Hp} {Q : Option Value → Hp → Prop} : Run 196 12 lo st h Q = CCall 110 1 (some 10) st h (Knt 196 15 lo (st.drop 1) Q) := run_c ((lkc_0 12 (by decide) (by decide)).trans rfl)
theorem rq_L_law_15 {lo : Lo} {st : List Value} {h : Hp} {Q : Option Value → Hp → Prop} : Run 196 15 lo st h Q = Cnt 196 Q (xo_astore 2 16 lo st h) := run_s ((lkc_0 15 (by decide) (by decide)).trans rfl)
theorem rq_L_law_16 {lo : Lo} {st : List Value} {h : Hp} {Q : Option Value → Hp → Prop} : Run 196 16 lo st h Q = Cnt 196 Q (xo_const (.int 0) 17 lo st h) := run_s ((lkc_0 16 (by decide) (by decide)).trans rfl)
theorem rq_L_law_17 {lo : Lo} {st : List Value} {h : Hp} {Q : Option Value → Hp → Prop} : Run 196 17 lo st h Q = Cnt 196 Q (xo_istore 3 18 lo st h) := run_s ((lkc_0 17 (by decide) (by decide)).trans rfl)
theorem rq_L_law_18 {lo : Lo} {st : List Value} {h : Hp} {Q : Option Value → Hp → Prop} : Run 196 18 lo st h Q = Cnt 196 Q (xo_iload 3 19 lo st h) := run_s ((lkc_0 18 (by decide) (by decide)).trans rfl)
theorem rq_L_law_19 {lo : Lo} {st : List Value} {h : Hp} {Q : Option Value → Hp → Prop} : Run 196 19 lo st h Q = Cnt 196 Q (xo_aload 0 20 lo st h) := run_s ((lkc_0 19 (by decide) (by decide)).trans rfl)
theorem rq_L_law_20 {lo : Lo} {st : List Value} {h : Hp} {Q : Option Value → Hp → Prop} : Run 196 20 lo st h Q = Cnt 196 Q (xo_alen 21 lo st h) := run_s ((lkc_0 20 (by decide) (by decide)).trans rfl)
theorem rq_L_law_21 {lo : Lo} {st : List Value} {h : Hp} {Q : Option Value → Hp → Prop} : Run 196 21 lo st h Q = Cnt 196 Q (xo_const (.int 4) 22 lo st h) := run_s ((lkc_0 21 (by decide) (by decide)).trans rfl)
theorem rq_L_law_22 {lo : Lo} {st : List Value} {h : Hp} {Q : Option Value → Hp → Prop} : Run 196 22 lo st h Q = Cnt 196 Q (xo_bin (fun x y => x - y) 23 lo st h) := run_s ((lkc_0 22 (by decide) (by decide)).trans rfl)
theorem rq_L_law_23 {lo : Lo} {st : List Value} {h : Hp} {Q : Option Value → Hp → Prop} : Run 196 23 lo st h Q = Cnt 196 Q (xo_if2 (fun x y => decide (x > y)) 1094 26 lo st h) := run_s ((lkc_0 23 (by decide) (by decide)).trans rfl)
theorem rq_L_law_26 {lo : Lo} {st : List Value} {h : Hp} {Q : Option Value → Hp → Prop} : Run 196 26 lo st h Q = Cnt 196 Q (xo_aload 0 27 lo st h) := run_s ((lkc_0 26 (by decide) (by decide)).trans rfl)
theorem rq_L_law_27 {lo : Lo} {st : List Value} {h : Hp} {Q : Option Value → Hp → Prop} : Run 196 27 lo st h Q = Cnt 196 Q (xo_iload 3 28 lo st h) := run_s ((lkc_0 27 (by decide) (by decide)).trans rfl)
theorem rq_L_law_28 {lo : Lo} {st : List Value} {h : Hp} {Q : Option Value → Hp → Prop} : Run 196 28 lo st h Q = Cnt 196 Q (xo_iald 29 lo st h) := run_s ((lkc_0 28 (by decide) (by decide)).trans rfl)
theorem rq_L_law_29 {lo : Lo} {st : List Value} {h : Hp} {Q : Option Value → Hp → Prop} : Run 196 29 lo st h Q = Cnt 196 Q (xo_const (.int 63) 31 lo st h) := run_s ((lkc_0 29 (by decide) (by decide)).trans rfl)
theorem rq_L_law_31 {lo : Lo} {st : List Value} {h : Hp} {Q : Option Value → Hp → Prop} : Run 196 31 lo st h Q = Cnt 196 Q (xo_bin (fun x y => x &&& y) 32 lo st h) := run_s ((lkc_0 31 (by decide) (by decide)).trans rfl)
theorem rq_L_law_32 {lo : Lo} {st : List Value} {h : Hp} {Q : Option Value → Hp → Prop} : Run 196 32 lo st h Q = Cnt 196 Q (xo_sw (xtab 32 1056 0 33 #[152, 185, 208, 241, 254, 267, 280, 313, 356, 390, 413, 436, 479, 512, 525, 558, 581, 604, 627, 650, 673, 706, 729, 772, 805, 828, 861, 884, 907, 930, 963, 996, 1020, 1033]) lo st h) := run_s ((lkc_0 32 (by decide) (by decide)).trans rfl)
theorem rq_L_law_184 {lo : Lo} {st : List Value} {h : Hp} {Q : Option Value → Hp → Prop} : Run 196 184 lo st h Q = Cnt 196 Q (xo_aload 1 185 lo st h) := run_s ((lkc_0 184 (by decide) (by decide)).trans rfl)
theorem rq_L_law_185 {lo : Lo} {st : List Value} {h : Hp} {Q : Option Value → Hp → Prop} : Run 196 185 lo st h Q = Cnt 196 Q (xo_aload 0 186 lo st h) := run_s ((lkc_0 185 (by decide) (by decide)).trans rfl)
theorem rq_L_law_186 {lo : Lo} {st : List Value} {h : Hp} {Q : Option Value → Hp → Prop} : Run 196 186 lo st h Q = Cnt 196 Q (xo_iload 3 187 lo st h) := run_s ((lkc_0 186 (by decide) (by decide)).trans rfl)
theorem rq_L_law_187 {lo : Lo} {st : List Value} {h : Hp} {Q : Option Value → Hp → Prop} : Run 196 187 lo st h Q = Cnt 196 Q (xo_const (.int 1) 188 lo st h) := run_s ((lkc_0 187 (by decide) (by decide)).trans rfl)
theorem rq_L_law_188 {lo : Lo} {st : List Value} {h : Hp} {Q : Option Value → Hp → Prop} : Run 196 188 lo st h Q = Cnt 196 Q (xo_bin (fun x y => x + y) 189 lo st h) := run_s ((lkc_0 188 (by decide) (by decide)).trans rfl)
theorem rq_L_law_189 {lo : Lo} {st : List Value} {h : Hp} {Q : Option Value → Hp → Prop} : Run 196 189 lo st h Q = Cnt 196 Q (xo_iald 190 lo st h) := run_s ((lkc_0 189 (by decide) (by decide)).trans rfl)
theorem rq_L_law_190 {lo : Lo} {st : List Value} {h : Hp} {Q : Option Value → Hp → Prop} : Run 196 190 lo st h Q = Cnt 196 Q (xo_aload 0 191 lo st h) := run_s ((lkc_0 190 (by decide) (by decide)).trans rfl)
theorem rq_L_law_191 {lo : Lo} {st : List Value} {h : Hp} {Q : Option Value → Hp → Prop} : Run 196 191 lo st h Q = Cnt 196 Q (xo_iload 3 192 lo st h) := run_s ((lkc_0 191 (by decide) (by decide)).trans rfl)
theorem rq_L_law_192 {lo : Lo} {st : List Value} {h : Hp} {Q : Option Value → Hp → Prop} : Run 196 192 lo st h Q = Cnt 196 Q (xo_const (.int 2) 193 lo st h) := run_s ((lkc_0 192 (by decide) (by decide)).trans rfl)
theorem rq_L_law_193 {lo : Lo} {st : List Value} {h : Hp} {Q : Option Value → Hp → Prop} : Run 196 193 lo st h Q = Cnt 196 Q (xo_bin (fun x y => x + y) 194 lo st h) := run_s ((lkc_0 193 (by decide) (by decide)).trans rfl)
theorem rq_L_law_194 {lo : Lo} {st : List Value} {h : Hp} {Q : Option Value → Hp → Prop} : Run 196 194 lo st h Q = Cnt 196 Q (xo_iald 195 lo st h) := run_s ((lkc_0 194 (by decide) (by decide)).trans rfl)
theorem rq_L_law_195 {lo : Lo} {st : List Value} {h : Hp} {Q : Option Value → Hp → Prop} : Run 196 195 lo st h Q = CCall 64 3 (some 9) st h (Knt 196 198 lo (st.drop 3) Q) := run_c ((lkc_0 195 (by decide) (by decide)).trans rfl)
theorem rq_L_law_198 {lo : Lo} {st : List Value} {h : Hp} {Q : Option Value → Hp → Prop} : Run 196 198 lo st h Q = Cnt 196 Q (xo_aload 2 199 lo st h) := run_s ((lkc_0 198 (by decide) (by decide)).trans rfl)
theorem rq_L_law_199 {lo : Lo} {st : List Value} {h : Hp} {Q : Option Value → Hp → Prop} : Run 196 199 lo st h Q = Cnt 196 Q (xo_aload 0 200 lo st h) := run_s ((lkc_0 199 (by decide) (by decide)).trans rfl)
theorem rq_L_law_200 {lo : Lo} {st : List Value} {h : Hp} {Q : Option Value → Hp → Prop} : Run 196 200 lo st h Q = Cnt 196 Q (xo_iload 3 201 lo st h) := run_s ((lkc_0 200 (by decide) (by decide)).trans rfl)
theorem rq_L_law_201 {lo : Lo} {st : List Value} {h : Hp} {Q : Option Value → Hp → Prop} : Run 196 201 lo st h Q = Cnt 196 Q (xo_const (.int 1) 202 lo st h) := run_s ((lkc_0 201 (by decide) (by decide)).trans rfl)
theorem rq_L_law_202 {lo : Lo} {st : List Value} {h : Hp} {Q : Option Value → Hp → Prop} : Run 196 202 lo st h Q = Cnt 196 Q (xo_bin (fun x y => x + y) 203 lo st h) := run_s ((lkc_0 202 (by decide) (by decide)).trans rfl)
theorem rq_L_law_203 {lo : Lo} {st : List Value} {h : Hp} {Q : Option Value → Hp → Prop} : Run 196 203 lo st h Q = Cnt 196 Q (xo_iald 204 lo st h) := run_s ((lkc_0 203 (by decide) (by decide)).trans rfl)
theorem rq_L_law_204 {lo : Lo} {st : List Value} {h : Hp} {Q : Option Value → Hp → Prop} : Run 196 204 lo st h Q = Cnt 196 Q (xo_aload 0 205 lo st h) := run_s ((lkc_1 204 (by decide) (by decide)).trans rfl)
theorem rq_L_law_205 {lo : Lo} {st : List Value} {h : Hp} {Q : Option Value → Hp → Prop} : Run 196 205 lo st h Q = Cnt 196 Q (xo_iload 3 206 lo st h) := run_s ((lkc_1 205 (by decide) (by decide)).trans rfl)
theorem rq_L_law_206 {lo : Lo} {st : List Value} {h : Hp} {Q : Option Value → Hp → Prop} : Run 196 206 lo st h Q = Cnt 196 Q (xo_const (.int 2) 207 lo st h) := run_s ((lkc_1 206 (by decide) (by decide)).trans rfl)
theorem rq_L_law_207 {lo : Lo} {st : List Value} {h : Hp} {Q : Option Value → Hp → Prop} : Run 196 207 lo st h Q = Cnt 196 Q (xo_bin (fun x y => x + y) 208 lo st h) := run_s ((lkc_1 207 (by decide) (by decide)).trans rfl)
theorem rq_L_law_208 {lo : Lo} {st : List Value} {h : Hp} {Q : Option Value → Hp → Prop} : Run 196 208 lo st h Q = Cnt 196 Q (xo_iald 209 lo st h) := run_s ((lkc_1 208 (by decide) (by decide)).trans rfl)
theorem rq_L_law_209 {lo : Lo} {st : List Value} {h : Hp} {Q : Option Value → Hp → Prop} : Run 196 209 lo st h Q = CCall 112 3 (some 10) st h (Knt 196 212 lo (st.drop 3) Q) := run_c ((lkc_1 209 (by decide) (by decide)).trans rfl)
theorem rq_L_law_212 {lo : Lo} {st : List Value} {h : Hp} {Q : Option Value → Hp → Prop} : Run 196 212 lo st h Q = Cnt 196 Q (xo_if2 (fun x y => decide (x = y)) 1088 215 lo st h) := run_s ((lkc_1 212 (by decide) (by decide)).trans rfl)
theorem rq_L_law_215 {lo : Lo} {st : List Value} {h : Hp} {Q : Option Value → Hp → Prop} : Run 196 215 lo st h Q = Cnt 196 Q (xo_const (.int 0) 216 lo st h) := run_s ((lkc_1 215 (by decide) (by decide)).trans rfl)
theorem rq_L_law_216 {lo : Lo} {st : List Value} {h : Hp} {Q : Option Value → Hp → Prop} : Run 196 216 lo st h Q = Cnt 196 Q (xo_zret lo st h) := run_s ((lkc_1 216 (by decide) (by decide)).trans rfl)
theorem rq_L_law_217 {lo : Lo} {st : List Value} {h : Hp} {Q : Option Value → Hp → Prop} : Run 196 217 lo st h Q = Cnt 196 Q (xo_aload 1 218 lo st h) := run_s ((lkc_1 217 (by decide) (by decide)).trans rfl)
theorem rq_L_law_218 {lo : Lo} {st : List Value} {h : Hp} {Q : Option Value → Hp → Prop} : Run 196 218 lo st h Q = Cnt 196 Q (xo_aload 0 219 lo st h) := run_s ((lkc_1 218 (by decide) (by decide)).trans rfl)
theorem rq_L_law_219 {lo : Lo} {st : List Value} {h : Hp} {Q : Option Value → Hp → Prop} : Run 196 219 lo st h Q = Cnt 196 Q (xo_iload 3 220 lo st h) := run_s ((lkc_1 219 (by decide) (by decide)).trans rfl)
theorem rq_L_law_220 {lo : Lo} {st : List Value} {h : Hp} {Q : Option Value → Hp → Prop} : Run 196 220 lo st h Q = Cnt 196 Q (xo_const (.int 1) 221 lo st h) := run_s ((lkc_1 220 (by decide) (by decide)).trans rfl)
theorem rq_L_law_221 {lo : Lo} {st : List Value} {h : Hp} {Q : Option Value → Hp → Prop} : Run 196 221 lo st h Q = Cnt 196 Q (xo_bin (fun x y => x + y) 222 lo st h) := run_s ((lkc_1 221 (by decide) (by decide)).trans rfl)
theorem rq_L_law_222 {lo : Lo} {st : List Value} {h : Hp} {Q : Option Value → Hp → Prop} : Run 196 222 lo st h Q = Cnt 196 Q (xo_iald 223 lo st h) := run_s ((lkc_1 222 (by decide) (by decide)).trans rfl)
theorem rq_L_law_223 {lo : Lo} {st : List Value} {h : Hp} {Q : Option Value → Hp → Prop} : Run 196 223 lo st h Q = CCall 65 2 (some 9) st h (Knt 196 226 lo (st.drop 2) Q) := run_c ((lkc_1 223 (by decide) (by decide)).trans rfl)
theorem rq_L_law_226 {lo : Lo} {st : List Value} {h : Hp} {Q : Option Value → Hp → Prop} : Run 196 226 lo st h Q = Cnt 196 Q (xo_aload 2 227 lo st h) := run_s ((lkc_1 226 (by decide) (by decide)).trans rfl)
theorem rq_L_law_227 {lo : Lo} {st : List Value} {h : Hp} {Q : Option Value → Hp → Prop} : Run 196 227 lo st h Q = Cnt 196 Q (xo_aload 0 228 lo st h) := run_s ((lkc_1 227 (by decide) (by decide)).trans rfl)
theorem rq_L_law_228 {lo : Lo} {st : List Value} {h : Hp} {Q : Option Value → Hp → Prop} : Run 196 228 lo st h Q = Cnt 196 Q (xo_iload 3 229 lo st h) := run_s ((lkc_1 228 (by decide) (by decide)).trans rfl)
theorem rq_L_law_229 {lo : Lo} {st : List Value} {h : Hp} {Q : Option Value → Hp → Prop} : Run 196 229 lo st h Q = Cnt 196 Q (xo_const (.int 1) 230 lo st h) := run_s ((lkc_1 229 (by decide) (by decide)).trans rfl)
theorem rq_L_law_230 {lo : Lo} {st : List Value} {h : Hp} {Q : Option Value → Hp → Prop} : Run 196 230 lo st h Q = Cnt 196 Q (xo_bin (fun x y => x + y) 231 lo st h) := run_s ((lkc_1 230 (by decide) (by decide)).trans rfl)
theorem rq_L_law_231 {lo : Lo} {st : List Value} {h : Hp} {Q : Option Value → Hp → Prop} : Run 196 231 lo st h Q = Cnt 196 Q (xo_iald 232 lo st h) := run_s ((lkc_1 231 (by decide) (by decide)).trans rfl)
theorem rq_L_law_232 {lo : Lo} {st : List Value} {h : Hp} {Q : Option Value → Hp → Prop} : Run 196 232 lo st h Q = CCall 113 2 (some 10) st h (Knt 196 235 lo (st.drop 2) Q) := run_c ((lkc_1 232 (by decide) (by decide)).trans rfl)
theorem rq_L_law_235 {lo : Lo} {st : List Value} {h : Hp} {Q : Option Value → Hp → Prop} : Run 196 235 lo st h Q = Cnt 196 Q (xo_if2 (fun x y => decide (x = y)) 1088 238 lo st h) := run_s ((lkc_1 235 (by decide) (by decide)).trans rfl)
theorem rq_L_law_238 {lo : Lo} {st : List Value} {h : Hp} {Q : Option Value → Hp → Prop} : Run 196 238 lo st h Q = Cnt 196 Q (xo_const (.int 0) 239 lo st h) := run_s ((lkc_1 238 (by decide) (by decide)).trans rfl)
theorem rq_L_law_239 {lo : Lo} {st : List Value} {h : Hp} {Q : Option Value → Hp → Prop} : Run 196 239 lo st h Q = Cnt 196 Q (xo_zret lo st h) := run_s ((lkc_1 239 (by decide) (by decide)).trans rfl)
theorem rq_L_law_240 {lo : Lo} {st : List Value} {h : Hp} {Q : Option Value → Hp → Prop} : Run 196 240 lo st h Q = Cnt 196 Q (xo_aload 1 241 lo st h) := run_s ((lkc_1 240 (by decide) (by decide)).trans rfl)
theorem rq_L_law_241 {lo : Lo} {st : List Value} {h : Hp} {Q : Option Value → Hp → Prop} : Run 196 241 lo st h Q = Cnt 196 Q (xo_aload 0 242 lo st h) := run_s ((lkc_1 241 (by decide) (by decide)).trans rfl)
theorem rq_L_law_242 {lo : Lo} {st : List Value} {h : Hp} {Q : Option Value → Hp → Prop} : Run 196 242 lo st h Q = Cnt 196 Q (xo_iload 3 243 lo st h) := run_s ((lkc_1 242 (by decide) (by decide)).trans rfl)
theorem rq_L_law_243 {lo : Lo} {st : List Value} {h : Hp} {Q : Option Value → Hp → Prop} : Run 196 243 lo st h Q = Cnt 196 Q (xo_const (.int 1) 244 lo st h) := run_s ((lkc_1 243 (by decide) (by decide)).trans rfl)
theorem rq_L_law_244 {lo : Lo} {st : List Value} {h : Hp} {Q : Option Value → Hp → Prop} : Run 196 244 lo st h Q = Cnt 196 Q (xo_bin (fun x y => x + y) 245 lo st h) := run_s ((lkc_1 244 (by decide) (by decide)).trans rfl)
theorem rq_L_law_245 {lo : Lo} {st : List Value} {h : Hp} {Q : Option Value → Hp → Prop} : Run 196 245 lo st h Q = Cnt 196 Q (xo_iald 246 lo st h) := run_s ((lkc_1 245 (by decide) (by decide)).trans rfl)
theorem rq_L_law_246 {lo : Lo} {st : List Value} {h : Hp} {Q : Option Value → Hp → Prop} : Run 196 246 lo st h Q = Cnt 196 Q (xo_aload 0 247 lo st h) := run_s ((lkc_1 246 (by decide) (by decide)).trans rfl)
theorem rq_L_law_247 {lo : Lo} {st : List Value} {h : Hp} {Q : Option Value → Hp → Prop} : Run 196 247 lo st h Q = Cnt 196 Q (xo_iload 3 248 lo st h) := run_s ((lkc_1 247 (by decide) (by decide)).trans rfl)
theorem rq_L_law_248 {lo : Lo} {st : List Value} {h : Hp} {Q : Option Value → Hp → Prop} : Run 196 248 lo st h Q = Cnt 196 Q (xo_const (.int 2) 249 lo st h) := run_s ((lkc_1 248 (by decide) (by decide)).trans rfl)
theorem rq_L_law_249 {lo : Lo} {st : List Value} {h : Hp} {Q : Option Value → Hp → Prop} : Run 196 249 lo st h Q = Cnt 196 Q (xo_bin (fun x y => x + y) 250 lo st h) := run_s ((lkc_1 249 (by decide) (by decide)).trans rfl)
theorem rq_L_law_250 {lo : Lo} {st : List Value} {h : Hp} {Q : Option Value → Hp → Prop} : Run 196 250 lo st h Q = Cnt 196 Q (xo_iald 251 lo st h) := run_s ((lkc_1 250 (by decide) (by decide)).trans rfl)
theorem rq_L_law_251 {lo : Lo} {st : List Value} {h : Hp} {Q : Option Value → Hp → Prop} : Run 196 251 lo st h Q = CCall 66 3 (some 9) st h (Knt 196 254 lo (st.drop 3) Q) := run_c ((lkc_1 251 (by decide) (by decide)).trans rfl)
theorem rq_L_law_254 {lo : Lo} {st : List Value} {h : Hp} {Q : Option Value → Hp → Prop} : Run 196 254 lo st h Q = Cnt 196 Q (xo_aload 2 255 lo st h) := run_s ((lkc_1 254 (by decide) (by decide)).trans rfl)
theorem rq_L_law_255 {lo : Lo} {st : List Value} {h : Hp} {Q : Option Value → Hp → Prop} : Run 196 255 lo st h Q = Cnt 196 Q (xo_aload 0 256 lo st h) := run_s ((lkc_1 255 (by decide) (by decide)).trans rfl)
theorem rq_L_law_256 {lo : Lo} {st : List Value} {h : Hp} {Q : Option Value → Hp → Prop} : Run 196 256 lo st h Q = Cnt 196 Q (xo_iload 3 257 lo st h) := run_s ((lkc_2 256 (by decide) (by decide)).trans rfl)
theorem rq_L_law_257 {lo : Lo} {st : List Value} {h : Hp} {Q : Option Value → Hp → Prop} : Run 196 257 lo st h Q = Cnt 196 Q (xo_const (.int 1) 258 lo st h) := run_s ((lkc_2 257 (by decide) (by decide)).trans rfl)
theorem rq_L_law_258 {lo : Lo} {st : List Value} {h : Hp} {Q : Option Value → Hp → Prop} : Run 196 258 lo st h Q = Cnt 196 Q (xo_bin (fun x y => x + y) 259 lo st h) := run_s ((lkc_2 258 (by decide) (by decide)).trans rfl)
theorem rq_L_law_259 {lo : Lo} {st : List Value} {h : Hp} {Q : Option Value → Hp → Prop} : Run 196 259 lo st h Q = Cnt 196 Q (xo_iald 260 lo st h) := run_s ((lkc_2 259 (by decide) (by decide)).trans rfl)
theorem rq_L_law_260 {lo : Lo} {st : List Value} {h : Hp} {Q : Option Value → Hp → Prop} : Run 196 260 lo st h Q = Cnt 196 Q (xo_aload 0 261 lo st h) := run_s ((lkc_2 260 (by decide) (by decide)).trans rfl)
theorem rq_L_law_261 {lo : Lo} {st : List Value} {h : Hp} {Q : Option Value → Hp → Prop} : Run 196 261 lo st h Q = Cnt 196 Q (xo_iload 3 262 lo st h) := run_s ((lkc_2 261 (by decide) (by decide)).trans rfl)
theorem rq_L_law_262 {lo : Lo} {st : List Value} {h : Hp} {Q : Option Value → Hp → Prop} : Run 196 262 lo st h Q = Cnt 196 Q (xo_const (.int 2) 263 lo st h) := run_s ((lkc_2 262 (by decide) (by decide)).trans rfl)
theorem rq_L_law_263 {lo : Lo} {st : List Value} {h : Hp} {Q : Option Value → Hp → Prop} : Run 196 263 lo st h Q = Cnt 196 Q (xo_bin (fun x y => x + y) 264 lo st h) := run_s ((lkc_2 263 (by decide) (by decide)).trans rfl)
theorem rq_L_law_264 {lo : Lo} {st : List Value} {h : Hp} {Q : Option Value → Hp → Prop} : Run 196 264 lo st h Q = Cnt 196 Q (xo_iald 265 lo st h) := run_s ((lkc_2 264 (by decide) (by decide)).trans rfl)
theorem rq_L_law_265 {lo : Lo} {st : List Value} {h : Hp} {Q : Option Value → Hp → Prop} : Run 196 265 lo st h Q = CCall 114 3 (some 10) st h (Knt 196 268 lo (st.drop 3) Q) := run_c ((lkc_2 265 (by decide) (by decide)).trans rfl)
theorem rq_L_law_268 {lo : Lo} {st : List Value} {h : Hp} {Q : Option Value → Hp → Prop} : Run 196 268 lo st h Q = Cnt 196 Q (xo_if2 (fun x y => decide (x = y)) 1088 271 lo st h) := run_s ((lkc_2 268 (by decide) (by decide)).trans rfl)
theorem rq_L_law_271 {lo : Lo} {st : List Value} {h : Hp} {Q : Option Value → Hp → Prop} : Run 196 271 lo st h Q = Cnt 196 Q (xo_const (.int 0) 272 lo st h) := run_s ((lkc_2 271 (by decide) (by decide)).trans rfl)
theorem rq_L_law_272 {lo : Lo} {st : List Value} {h : Hp} {Q : Option Value → Hp → Prop} : Run 196 272 lo st h Q = Cnt 196 Q (xo_zret lo st h) := run_s ((lkc_2 272 (by decide) (by decide)).trans rfl)
theorem rq_L_law_273 {lo : Lo} {st : List Value} {h : Hp} {Q : Option Value → Hp → Prop} : Run 196 273 lo st h Q = Cnt 196 Q (xo_aload 1 274 lo st h) := run_s ((lkc_2 273 (by decide) (by decide)).trans rfl)
theorem rq_L_law_274 {lo : Lo} {st : List Value} {h : Hp} {Q : Option Value → Hp → Prop} : Run 196 274 lo st h Q = CCall 67 1 (some 9) st h (Knt 196 277 lo (st.drop 1) Q) := run_c ((lkc_2 274 (by decide) (by decide)).trans rfl)
theorem rq_L_law_277 {lo : Lo} {st : List Value} {h : Hp} {Q : Option Value → Hp → Prop} : Run 196 277 lo st h Q = Cnt 196 Q (xo_aload 2 278 lo st h) := run_s ((lkc_2 277 (by decide) (by decide)).trans rfl)
theorem rq_L_law_278 {lo : Lo} {st : List Value} {h : Hp} {Q : Option Value → Hp → Prop} : Run 196 278 lo st h Q = CCall 115 1 (some 10) st h (Knt 196 281 lo (st.drop 1) Q) := run_c ((lkc_2 278 (by decide) (by decide)).trans rfl)
theorem rq_L_law_281 {lo : Lo} {st : List Value} {h : Hp} {Q : Option Value → Hp → Prop} : Run 196 281 lo st h Q = Cnt 196 Q (xo_if2 (fun x y => decide (x = y)) 1088 284 lo st h) := run_s ((lkc_2 281 (by decide) (by decide)).trans rfl)
theorem rq_L_law_284 {lo : Lo} {st : List Value} {h : Hp} {Q : Option Value → Hp → Prop} : Run 196 284 lo st h Q = Cnt 196 Q (xo_const (.int 0) 285 lo st h) := run_s ((lkc_2 284 (by decide) (by decide)).trans rfl)
theorem rq_L_law_285 {lo : Lo} {st : List Value} {h : Hp} {Q : Option Value → Hp → Prop} : Run 196 285 lo st h Q = Cnt 196 Q (xo_zret lo st h) := run_s ((lkc_2 285 (by decide) (by decide)).trans rfl)
theorem rq_L_law_286 {lo : Lo} {st : List Value} {h : Hp} {Q : Option Value → Hp → Prop} : Run 196 286 lo st h Q = Cnt 196 Q (xo_aload 1 287 lo st h) := run_s ((lkc_2 286 (by decide) (by decide)).trans rfl)
theorem rq_L_law_287 {lo : Lo} {st : List Value} {h : Hp} {Q : Option Value → Hp → Prop} : Run 196 287 lo st h Q = CCall 68 1 (some 9) st h (Knt 196 290 lo (st.drop 1) Q) := run_c ((lkc_2 287 (by decide) (by decide)).trans rfl)
theorem rq_L_law_290 {lo : Lo} {st : List Value} {h : Hp} {Q : Option Value → Hp → Prop} : Run 196 290 lo st h Q = Cnt 196 Q (xo_aload 2 291 lo st h) := run_s ((lkc_2 290 (by decide) (by decide)).trans rfl)
theorem rq_L_law_291 {lo : Lo} {st : List Value} {h : Hp} {Q : Option Value → Hp → Prop} : Run 196 291 lo st h Q = CCall 116 1 (some 10) st h (Knt 196 294 lo (st.drop 1) Q) := run_c ((lkc_2 291 (by decide) (by decide)).trans rfl)
theorem rq_L_law_294 {lo : Lo} {st : List Value} {h : Hp} {Q : Option Value → Hp → Prop} : Run 196 294 lo st h Q = Cnt 196 Q (xo_if2 (fun x y => decide (x = y)) 1088 297 lo st h) := run_s ((lkc_2 294 (by decide) (by decide)).trans rfl)
theorem rq_L_law_297 {lo : Lo} {st : List Value} {h : Hp} {Q : Option Value → Hp → Prop} : Run 196 297 lo st h Q = Cnt 196 Q (xo_const (.int 0) 298 lo st h) := run_s ((lkc_2 297 (by decide) (by decide)).trans rfl)
theorem rq_L_law_298 {lo : Lo} {st : List Value} {h : Hp} {Q : Option Value → Hp → Prop} : Run 196 298 lo st h Q = Cnt 196 Q (xo_zret lo st h) := run_s ((lkc_2 298 (by decide) (by decide)).trans rfl)
theorem rq_L_law_299 {lo : Lo} {st : List Value} {h : Hp} {Q : Option Value → Hp → Prop} : Run 196 299 lo st h Q = Cnt 196 Q (xo_aload 1 300 lo st h) := run_s ((lkc_2 299 (by decide) (by decide)).trans rfl)
theorem rq_L_law_300 {lo : Lo} {st : List Value} {h : Hp} {Q : Option Value → Hp → Prop} : Run 196 300 lo st h Q = CCall 69 1 (some 9) st h (Knt 196 303 lo (st.drop 1) Q) := run_c ((lkc_2 300 (by decide) (by decide)).trans rfl)
theorem rq_L_law_303 {lo : Lo} {st : List Value} {h : Hp} {Q : Option Value → Hp → Prop} : Run 196 303 lo st h Q = Cnt 196 Q (xo_aload 2 304 lo st h) := run_s ((lkc_2 303 (by decide) (by decide)).trans rfl)
theorem rq_L_law_304 {lo : Lo} {st : List Value} {h : Hp} {Q : Option Value → Hp → Prop} : Run 196 304 lo st h Q = CCall 117 1 (some 10) st h (Knt 196 307 lo (st.drop 1) Q) := run_c ((lkc_2 304 (by decide) (by decide)).trans rfl)
theorem rq_L_law_307 {lo : Lo} {st : List Value} {h : Hp} {Q : Option Value → Hp → Prop} : Run 196 307 lo st h Q = Cnt 196 Q (xo_if2 (fun x y => decide (x = y)) 1088 310 lo st h) := run_s ((lkc_2 307 (by decide) (by decide)).trans rfl)
theorem rq_L_law_310 {lo : Lo} {st : List Value} {h : Hp} {Q : Option Value → Hp → Prop} : Run 196 310 lo st h Q = Cnt 196 Q (xo_const (.int 0) 311 lo st h) := run_s ((lkc_2 310 (by decide) (by decide)).trans rfl)
theorem rq_L_law_311 {lo : Lo} {st : List Value} {h : Hp} {Q : Option Value → Hp → Prop} : Run 196 311 lo st h Q = Cnt 196 Q (xo_zret lo st h) := run_s ((lkc_2 311 (by decide) (by decide)).trans rfl)
theorem rq_L_law_312 {lo : Lo} {st : List Value} {h : Hp} {Q : Option Value → Hp → Prop} : Run 196 312 lo st h Q = Cnt 196 Q (xo_aload 1 313 lo st h) := run_s ((lkc_2 312 (by decide) (by decide)).trans rfl)
theorem rq_L_law_313 {lo : Lo} {st : List Value} {h : Hp} {Q : Option Value → Hp → Prop} : Run 196 313 lo st h Q = Cnt 196 Q (xo_aload 0 314 lo st h) := run_s ((lkc_2 313 (by decide) (by decide)).trans rfl)
theorem rq_L_law_314 {lo : Lo} {st : List Value} {h : Hp} {Q : Option Value → Hp → Prop} : Run 196 314 lo st h Q = Cnt 196 Q (xo_iload 3 315 lo st h) := run_s ((lkc_2 314 (by decide) (by decide)).trans rfl)
theorem rq_L_law_315 {lo : Lo} {st : List Value} {h : Hp} {Q : Option Value → Hp → Prop} : Run 196 315 lo st h Q = Cnt 196 Q (xo_const (.int 1) 316 lo st h) := run_s ((lkc_2 315 (by decide) (by decide)).trans rfl)
theorem rq_L_law_316 {lo : Lo} {st : List Value} {h : Hp} {Q : Option Value → Hp → Prop} : Run 196 316 lo st h Q = Cnt 196 Q (xo_bin (fun x y => x + y) 317 lo st h) := run_s ((lkc_2 316 (by decide) (by decide)).trans rfl)
theorem rq_L_law_317 {lo : Lo} {st : List Value} {h : Hp} {Q : Option Value → Hp → Prop} : Run 196 317 lo st h Q = Cnt 196 Q (xo_iald 318 lo st h) := run_s ((lkc_2 317 (by decide) (by decide)).trans rfl)
theorem rq_L_law_318 {lo : Lo} {st : List Value} {h : Hp} {Q : Option Value → Hp → Prop} : Run 196 318 lo st h Q = Cnt 196 Q (xo_aload 0 319 lo st h) := run_s ((lkc_3 318 (by decide) (by decide)).trans rfl)
theorem rq_L_law_319 {lo : Lo} {st : List Value} {h : Hp} {Q : Option Value → Hp → Prop} : Run 196 319 lo st h Q = Cnt 196 Q (xo_iload 3 320 lo st h) := run_s ((lkc_3 319 (by decide) (by decide)).trans rfl)
theorem rq_L_law_320 {lo : Lo} {st : List Value} {h : Hp} {Q : Option Value → Hp → Prop} : Run 196 320 lo st h Q = Cnt 196 Q (xo_const (.int 2) 321 lo st h) := run_s ((lkc_3 320 (by decide) (by decide)).trans rfl)
theorem rq_L_law_321 {lo : Lo} {st : List Value} {h : Hp} {Q : Option Value → Hp → Prop} : Run 196 321 lo st h Q = Cnt 196 Q (xo_bin (fun x y => x + y) 322 lo st h) := run_s ((lkc_3 321 (by decide) (by decide)).trans rfl)
theorem rq_L_law_322 {lo : Lo} {st : List Value} {h : Hp} {Q : Option Value → Hp → Prop} : Run 196 322 lo st h Q = Cnt 196 Q (xo_iald 323 lo st h) := run_s ((lkc_3 322 (by decide) (by decide)).trans rfl)
theorem rq_L_law_323 {lo : Lo} {st : List Value} {h : Hp} {Q : Option Value → Hp → Prop} : Run 196 323 lo st h Q = CCall 70 3 (some 9) st h (Knt 196 326 lo (st.drop 3) Q) := run_c ((lkc_3 323 (by decide) (by decide)).trans rfl)
theorem rq_L_law_326 {lo : Lo} {st : List Value} {h : Hp} {Q : Option Value → Hp → Prop} : Run 196 326 lo st h Q = Cnt 196 Q (xo_aload 2 327 lo st h) := run_s ((lkc_3 326 (by decide) (by decide)).trans rfl)
theorem rq_L_law_327 {lo : Lo} {st : List Value} {h : Hp} {Q : Option Value → Hp → Prop} : Run 196 327 lo st h Q = Cnt 196 Q (xo_aload 0 328 lo st h) := run_s ((lkc_3 327 (by decide) (by decide)).trans rfl)
theorem rq_L_law_328 {lo : Lo} {st : List Value} {h : Hp} {Q : Option Value → Hp → Prop} : Run 196 328 lo st h Q = Cnt 196 Q (xo_iload 3 329 lo st h) := run_s ((lkc_3 328 (by decide) (by decide)).trans rfl)
theorem rq_L_law_329 {lo : Lo} {st : List Value} {h : Hp} {Q : Option Value → Hp → Prop} : Run 196 329 lo st h Q = Cnt 196 Q (xo_const (.int 1) 330 lo st h) := run_s ((lkc_3 329 (by decide) (by decide)).trans rfl)
theorem rq_L_law_330 {lo : Lo} {st : List Value} {h : Hp} {Q : Option Value → Hp → Prop} : Run 196 330 lo st h Q = Cnt 196 Q (xo_bin (fun x y => x + y) 331 lo st h) := run_s ((lkc_3 330 (by decide) (by decide)).trans rfl)
theorem rq_L_law_331 {lo : Lo} {st : List Value} {h : Hp} {Q : Option Value → Hp → Prop} : Run 196 331 lo st h Q = Cnt 196 Q (xo_iald 332 lo st h) := run_s ((lkc_3 331 (by decide) (by decide)).trans rfl)
theorem rq_L_law_332 {lo : Lo} {st : List Value} {h : Hp} {Q : Option Value → Hp → Prop} : Run 196 332 lo st h Q = Cnt 196 Q (xo_aload 0 333 lo st h) := run_s ((lkc_3 332 (by decide) (by decide)).trans rfl)
theorem rq_L_law_333 {lo : Lo} {st : List Value} {h : Hp} {Q : Option Value → Hp → Prop} : Run 196 333 lo st h Q = Cnt 196 Q (xo_iload 3 334 lo st h) := run_s ((lkc_3 333 (by decide) (by decide)).trans rfl)
theorem rq_L_law_334 {lo : Lo} {st : List Value} {h : Hp} {Q : Option Value → Hp → Prop} : Run 196 334 lo st h Q = Cnt 196 Q (xo_const (.int 2) 335 lo st h) := run_s ((lkc_3 334 (by decide) (by decide)).trans rfl)
theorem rq_L_law_335 {lo : Lo} {st : List Value} {h : Hp} {Q : Option Value → Hp → Prop} : Run 196 335 lo st h Q = Cnt 196 Q (xo_bin (fun x y => x + y) 336 lo st h) := run_s ((lkc_3 335 (by decide) (by decide)).trans rfl)
theorem rq_L_law_336 {lo : Lo} {st : List Value} {h : Hp} {Q : Option Value → Hp → Prop} : Run 196 336 lo st h Q = Cnt 196 Q (xo_iald 337 lo st h) := run_s ((lkc_3 336 (by decide) (by decide)).trans rfl)
theorem rq_L_law_337 {lo : Lo} {st : List Value} {h : Hp} {Q : Option Value → Hp → Prop} : Run 196 337 lo st h Q = CCall 119 3 (some 10) st h (Knt 196 340 lo (st.drop 3) Q) := run_c ((lkc_3 337 (by decide) (by decide)).trans rfl)
theorem rq_L_law_340 {lo : Lo} {st : List Value} {h : Hp} {Q : Option Value → Hp → Prop} : Run 196 340 lo st h Q = Cnt 196 Q (xo_if2 (fun x y => decide (x = y)) 1088 343 lo st h) := run_s ((lkc_3 340 (by decide) (by decide)).trans rfl)
theorem rq_L_law_343 {lo : Lo} {st : List Value} {h : Hp} {Q : Option Value → Hp → Prop} : Run 196 343 lo st h Q = Cnt 196 Q (xo_const (.int 0) 344 lo st h) := run_s ((lkc_3 343 (by decide) (by decide)).trans rfl)
theorem rq_L_law_344 {lo : Lo} {st : List Value} {h : Hp} {Q : Option Value → Hp → Prop} : Run 196 344 lo st h Q = Cnt 196 Q (xo_zret lo st h) := run_s ((lkc_3 344 (by decide) (by decide)).trans rfl)
theorem rq_L_law_345 {lo : Lo} {st : List Value} {h : Hp} {Q : Option Value → Hp → Prop} : Run 196 345 lo st h Q = Cnt 196 Q (xo_aload 1 346 lo st h) := run_s ((lkc_3 345 (by decide) (by decide)).trans rfl)
theorem rq_L_law_346 {lo : Lo} {st : List Value} {h : Hp} {Q : Option Value → Hp → Prop} : Run 196 346 lo st h Q = Cnt 196 Q (xo_aload 0 347 lo st h) := run_s ((lkc_3 346 (by decide) (by decide)).trans rfl)
theorem rq_L_law_347 {lo : Lo} {st : List Value} {h : Hp} {Q : Option Value → Hp → Prop} : Run 196 347 lo st h Q = Cnt 196 Q (xo_iload 3 348 lo st h) := run_s ((lkc_3 347 (by decide) (by decide)).trans rfl)
theorem rq_L_law_348 {lo : Lo} {st : List Value} {h : Hp} {Q : Option Value → Hp → Prop} : Run 196 348 lo st h Q = Cnt 196 Q (xo_const (.int 1) 349 lo st h) := run_s ((lkc_3 348 (by decide) (by decide)).trans rfl)
theorem rq_L_law_349 {lo : Lo} {st : List Value} {h : Hp} {Q : Option Value → Hp → Prop} : Run 196 349 lo st h Q = Cnt 196 Q (xo_bin (fun x y => x + y) 350 lo st h) := run_s ((lkc_3 349 (by decide) (by decide)).trans rfl)
theorem rq_L_law_350 {lo : Lo} {st : List Value} {h : Hp} {Q : Option Value → Hp → Prop} : Run 196 350 lo st h Q = Cnt 196 Q (xo_iald 351 lo st h) := run_s ((lkc_3 350 (by decide) (by decide)).trans rfl)
theorem rq_L_law_351 {lo : Lo} {st : List Value} {h : Hp} {Q : Option Value → Hp → Prop} : Run 196 351 lo st h Q = Cnt 196 Q (xo_aload 0 352 lo st h) := run_s ((lkc_3 351 (by decide) (by decide)).trans rfl)
theorem rq_L_law_352 {lo : Lo} {st : List Value} {h : Hp} {Q : Option Value → Hp → Prop} : Run 196 352 lo st h Q = Cnt 196 Q (xo_iload 3 353 lo st h) := run_s ((lkc_3 352 (by decide) (by decide)).trans rfl)
theorem rq_L_law_353 {lo : Lo} {st : List Value} {h : Hp} {Q : Option Value → Hp → Prop} : Run 196 353 lo st h Q = Cnt 196 Q (xo_const (.int 2) 354 lo st h) := run_s ((lkc_3 353 (by decide) (by decide)).trans rfl)
theorem rq_L_law_354 {lo : Lo} {st : List Value} {h : Hp} {Q : Option Value → Hp → Prop} : Run 196 354 lo st h Q = Cnt 196 Q (xo_bin (fun x y => x + y) 355 lo st h) := run_s ((lkc_3 354 (by decide) (by decide)).trans rfl)
theorem rq_L_law_355 {lo : Lo} {st : List Value} {h : Hp} {Q : Option Value → Hp → Prop} : Run 196 355 lo st h Q = Cnt 196 Q (xo_iald 356 lo st h) := run_s ((lkc_3 355 (by decide) (by decide)).trans rfl)
theorem rq_L_law_356 {lo : Lo} {st : List Value} {h : Hp} {Q : Option Value → Hp → Prop} : Run 196 356 lo st h Q = Cnt 196 Q (xo_aload 0 357 lo st h) := run_s ((lkc_3 356 (by decide) (by decide)).trans rfl)
theorem rq_L_law_357 {lo : Lo} {st : List Value} {h : Hp} {Q : Option Value → Hp → Prop} : Run 196 357 lo st h Q = Cnt 196 Q (xo_iload 3 358 lo st h) := run_s ((lkc_3 357 (by decide) (by decide)).trans rfl)
theorem rq_L_law_358 {lo : Lo} {st : List Value} {h : Hp} {Q : Option Value → Hp → Prop} : Run 196 358 lo st h Q = Cnt 196 Q (xo_const (.int 3) 359 lo st h) := run_s ((lkc_3 358 (by decide) (by decide)).trans rfl)
theorem rq_L_law_359 {lo : Lo} {st : List Value} {h : Hp} {Q : Option Value → Hp → Prop} : Run 196 359 lo st h Q = Cnt 196 Q (xo_bin (fun x y => x + y) 360 lo st h) := run_s ((lkc_3 359 (by decide) (by decide)).trans rfl)
theorem rq_L_law_360 {lo : Lo} {st : List Value} {h : Hp} {Q : Option Value → Hp → Prop} : Run 196 360 lo st h Q = Cnt 196 Q (xo_iald 361 lo st h) := run_s ((lkc_3 360 (by decide) (by decide)).trans rfl)
theorem rq_L_law_361 {lo : Lo} {st : List Value} {h : Hp} {Q : Option Value → Hp → Prop} : Run 196 361 lo st h Q = CCall 71 4 (some 9) st h (Knt 196 364 lo (st.drop 4) Q) := run_c ((lkc_3 361 (by decide) (by decide)).trans rfl)
theorem rq_L_law_364 {lo : Lo} {st : List Value} {h : Hp} {Q : Option Value → Hp → Prop} : Run 196 364 lo st h Q = Cnt 196 Q (xo_aload 2 365 lo st h) := run_s ((lkc_3 364 (by decide) (by decide)).trans rfl)
theorem rq_L_law_365 {lo : Lo} {st : List Value} {h : Hp} {Q : Option Value → Hp → Prop} : Run 196 365 lo st h Q = Cnt 196 Q (xo_aload 0 366 lo st h) := run_s ((lkc_3 365 (by decide) (by decide)).trans rfl)
theorem rq_L_law_366 {lo : Lo} {st : List Value} {h : Hp} {Q : Option Value → Hp → Prop} : Run 196 366 lo st h Q = Cnt 196 Q (xo_iload 3 367 lo st h) := run_s ((lkc_4 366 (by decide) (by decide)).trans rfl)
theorem rq_L_law_367 {lo : Lo} {st : List Value} {h : Hp} {Q : Option Value → Hp → Prop} : Run 196 367 lo st h Q = Cnt 196 Q (xo_const (.int 1) 368 lo st h) := run_s ((lkc_4 367 (by decide) (by decide)).trans rfl)
theorem rq_L_law_368 {lo : Lo} {st : List Value} {h : Hp} {Q : Option Value → Hp → Prop} : Run 196 368 lo st h Q = Cnt 196 Q (xo_bin (fun x y => x + y) 369 lo st h) := run_s ((lkc_4 368 (by decide) (by decide)).trans rfl)
theorem rq_L_law_369 {lo : Lo} {st : List Value} {h : Hp} {Q : Option Value → Hp → Prop} : Run 196 369 lo st h Q = Cnt 196 Q (xo_iald 370 lo st h) := run_s ((lkc_4 369 (by decide) (by decide)).trans rfl)
theorem rq_L_law_370 {lo : Lo} {st : List Value} {h : Hp} {Q : Option Value → Hp → Prop} : Run 196 370 lo st h Q = Cnt 196 Q (xo_aload 0 371 lo st h) := run_s ((lkc_4 370 (by decide) (by decide)).trans rfl)
theorem rq_L_law_371 {lo : Lo} {st : List Value} {h : Hp} {Q : Option Value → Hp → Prop} : Run 196 371 lo st h Q = Cnt 196 Q (xo_iload 3 372 lo st h) := run_s ((lkc_4 371 (by decide) (by decide)).trans rfl)
theorem rq_L_law_372 {lo : Lo} {st : List Value} {h : Hp} {Q : Option Value → Hp → Prop} : Run 196 372 lo st h Q = Cnt 196 Q (xo_const (.int 2) 373 lo st h) := run_s ((lkc_4 372 (by decide) (by decide)).trans rfl)
theorem rq_L_law_373 {lo : Lo} {st : List Value} {h : Hp} {Q : Option Value → Hp → Prop} : Run 196 373 lo st h Q = Cnt 196 Q (xo_bin (fun x y => x + y) 374 lo st h) := run_s ((lkc_4 373 (by decide) (by decide)).trans rfl)
theorem rq_L_law_374 {lo : Lo} {st : List Value} {h : Hp} {Q : Option Value → Hp → Prop} : Run 196 374 lo st h Q = Cnt 196 Q (xo_iald 375 lo st h) := run_s ((lkc_4 374 (by decide) (by decide)).trans rfl)
theorem rq_L_law_375 {lo : Lo} {st : List Value} {h : Hp} {Q : Option Value → Hp → Prop} : Run 196 375 lo st h Q = Cnt 196 Q (xo_aload 0 376 lo st h) := run_s ((lkc_4 375 (by decide) (by decide)).trans rfl)
theorem rq_L_law_376 {lo : Lo} {st : List Value} {h : Hp} {Q : Option Value → Hp → Prop} : Run 196 376 lo st h Q = Cnt 196 Q (xo_iload 3 377 lo st h) := run_s ((lkc_4 376 (by decide) (by decide)).trans rfl)
theorem rq_L_law_377 {lo : Lo} {st : List Value} {h : Hp} {Q : Option Value → Hp → Prop} : Run 196 377 lo st h Q = Cnt 196 Q (xo_const (.int 3) 378 lo st h) := run_s ((lkc_4 377 (by decide) (by decide)).trans rfl)
theorem rq_L_law_378 {lo : Lo} {st : List Value} {h : Hp} {Q : Option Value → Hp → Prop} : Run 196 378 lo st h Q = Cnt 196 Q (xo_bin (fun x y => x + y) 379 lo st h) := run_s ((lkc_4 378 (by decide) (by decide)).trans rfl)
theorem rq_L_law_379 {lo : Lo} {st : List Value} {h : Hp} {Q : Option Value → Hp → Prop} : Run 196 379 lo st h Q = Cnt 196 Q (xo_iald 380 lo st h) := run_s ((lkc_4 379 (by decide) (by decide)).trans rfl)
theorem rq_L_law_380 {lo : Lo} {st : List Value} {h : Hp} {Q : Option Value → Hp → Prop} : Run 196 380 lo st h Q = CCall 120 4 (some 10) st h (Knt 196 383 lo (st.drop 4) Q) := run_c ((lkc_4 380 (by decide) (by decide)).trans rfl)
theorem rq_L_law_383 {lo : Lo} {st : List Value} {h : Hp} {Q : Option Value → Hp → Prop} : Run 196 383 lo st h Q = Cnt 196 Q (xo_if2 (fun x y => decide (x = y)) 1088 386 lo st h) := run_s ((lkc_4 383 (by decide) (by decide)).trans rfl)
theorem rq_L_law_386 {lo : Lo} {st : List Value} {h : Hp} {Q : Option Value → Hp → Prop} : Run 196 386 lo st h Q = Cnt 196 Q (xo_const (.int 0) 387 lo st h) := run_s ((lkc_4 386 (by decide) (by decide)).trans rfl)
theorem rq_L_law_387 {lo : Lo} {st : List Value} {h : Hp} {Q : Option Value → Hp → Prop} : Run 196 387 lo st h Q = Cnt 196 Q (xo_zret lo st h) := run_s ((lkc_4 387 (by decide) (by decide)).trans rfl)
theorem rq_L_law_388 {lo : Lo} {st : List Value} {h : Hp} {Q : Option Value → Hp → Prop} : Run 196 388 lo st h Q = Cnt 196 Q (xo_aload 1 389 lo st h) := run_s ((lkc_4 388 (by decide) (by decide)).trans rfl)
theorem rq_L_law_389 {lo : Lo} {st : List Value} {h : Hp} {Q : Option Value → Hp → Prop} : Run 196 389 lo st h Q = Cnt 196 Q (xo_aload 0 390 lo st h) := run_s ((lkc_4 389 (by decide) (by decide)).trans rfl)
theorem rq_L_law_390 {lo : Lo} {st : List Value} {h : Hp} {Q : Option Value → Hp → Prop} : Run 196 390 lo st h Q = Cnt 196 Q (xo_iload 3 391 lo st h) := run_s ((lkc_4 390 (by decide) (by decide)).trans rfl)
theorem rq_L_law_391 {lo : Lo} {st : List Value} {h : Hp} {Q : Option Value → Hp → Prop} : Run 196 391 lo st h Q = Cnt 196 Q (xo_const (.int 1) 392 lo st h) := run_s ((lkc_4 391 (by decide) (by decide)).trans rfl)
theorem rq_L_law_392 {lo : Lo} {st : List Value} {h : Hp} {Q : Option Value → Hp → Prop} : Run 196 392 lo st h Q = Cnt 196 Q (xo_bin (fun x y => x + y) 393 lo st h) := run_s ((lkc_4 392 (by decide) (by decide)).trans rfl)
theorem rq_L_law_393 {lo : Lo} {st : List Value} {h : Hp} {Q : Option Value → Hp → Prop} : Run 196 393 lo st h Q = Cnt 196 Q (xo_iald 394 lo st h) := run_s ((lkc_4 393 (by decide) (by decide)).trans rfl)
theorem rq_L_law_394 {lo : Lo} {st : List Value} {h : Hp} {Q : Option Value → Hp → Prop} : Run 196 394 lo st h Q = Cnt 196 Q (xo_aload 0 395 lo st h) := run_s ((lkc_4 394 (by decide) (by decide)).trans rfl)
theorem rq_L_law_395 {lo : Lo} {st : List Value} {h : Hp} {Q : Option Value → Hp → Prop} : Run 196 395 lo st h Q = Cnt 196 Q (xo_iload 3 396 lo st h) := run_s ((lkc_4 395 (by decide) (by decide)).trans rfl)
theorem rq_L_law_396 {lo : Lo} {st : List Value} {h : Hp} {Q : Option Value → Hp → Prop} : Run 196 396 lo st h Q = Cnt 196 Q (xo_const (.int 2) 397 lo st h) := run_s ((lkc_4 396 (by decide) (by decide)).trans rfl)
theorem rq_L_law_397 {lo : Lo} {st : List Value} {h : Hp} {Q : Option Value → Hp → Prop} : Run 196 397 lo st h Q = Cnt 196 Q (xo_bin (fun x y => x + y) 398 lo st h) := run_s ((lkc_4 397 (by decide) (by decide)).trans rfl)
theorem rq_L_law_398 {lo : Lo} {st : List Value} {h : Hp} {Q : Option Value → Hp → Prop} : Run 196 398 lo st h Q = Cnt 196 Q (xo_iald 399 lo st h) := run_s ((lkc_4 398 (by decide) (by decide)).trans rfl)
theorem rq_L_law_399 {lo : Lo} {st : List Value} {h : Hp} {Q : Option Value → Hp → Prop} : Run 196 399 lo st h Q = CCall 72 3 (some 9) st h (Knt 196 402 lo (st.drop 3) Q) := run_c ((lkc_4 399 (by decide) (by decide)).trans rfl)
theorem rq_L_law_402 {lo : Lo} {st : List Value} {h : Hp} {Q : Option Value → Hp → Prop} : Run 196 402 lo st h Q = Cnt 196 Q (xo_aload 2 403 lo st h) := run_s ((lkc_4 402 (by decide) (by decide)).trans rfl)
theorem rq_L_law_403 {lo : Lo} {st : List Value} {h : Hp} {Q : Option Value → Hp → Prop} : Run 196 403 lo st h Q = Cnt 196 Q (xo_aload 0 404 lo st h) := run_s ((lkc_4 403 (by decide) (by decide)).trans rfl)
theorem rq_L_law_404 {lo : Lo} {st : List Value} {h : Hp} {Q : Option Value → Hp → Prop} : Run 196 404 lo st h Q = Cnt 196 Q (xo_iload 3 405 lo st h) := run_s ((lkc_4 404 (by decide) (by decide)).trans rfl)
theorem rq_L_law_405 {lo : Lo} {st : List Value} {h : Hp} {Q : Option Value → Hp → Prop} : Run 196 405 lo st h Q = Cnt 196 Q (xo_const (.int 1) 406 lo st h) := run_s ((lkc_4 405 (by decide) (by decide)).trans rfl)
theorem rq_L_law_406 {lo : Lo} {st : List Value} {h : Hp} {Q : Option Value → Hp → Prop} : Run 196 406 lo st h Q = Cnt 196 Q (xo_bin (fun x y => x + y) 407 lo st h) := run_s ((lkc_4 406 (by decide) (by decide)).trans rfl)
theorem rq_L_law_407 {lo : Lo} {st : List Value} {h : Hp} {Q : Option Value → Hp → Prop} : Run 196 407 lo st h Q = Cnt 196 Q (xo_iald 408 lo st h) := run_s ((lkc_4 407 (by decide) (by decide)).trans rfl)
theorem rq_L_law_408 {lo : Lo} {st : List Value} {h : Hp} {Q : Option Value → Hp → Prop} : Run 196 408 lo st h Q = Cnt 196 Q (xo_aload 0 409 lo st h) := run_s ((lkc_4 408 (by decide) (by decide)).trans rfl)
theorem rq_L_law_409 {lo : Lo} {st : List Value} {h : Hp} {Q : Option Value → Hp → Prop} : Run 196 409 lo st h Q = Cnt 196 Q (xo_iload 3 410 lo st h) := run_s ((lkc_4 409 (by decide) (by decide)).trans rfl)
theorem rq_L_law_410 {lo : Lo} {st : List Value} {h : Hp} {Q : Option Value → Hp → Prop} : Run 196 410 lo st h Q = Cnt 196 Q (xo_const (.int 2) 411 lo st h) := run_s ((lkc_4 410 (by decide) (by decide)).trans rfl)
theorem rq_L_law_411 {lo : Lo} {st : List Value} {h : Hp} {Q : Option Value → Hp → Prop} : Run 196 411 lo st h Q = Cnt 196 Q (xo_bin (fun x y => x + y) 412 lo st h) := run_s ((lkc_4 411 (by decide) (by decide)).trans rfl)
theorem rq_L_law_412 {lo : Lo} {st : List Value} {h : Hp} {Q : Option Value → Hp → Prop} : Run 196 412 lo st h Q = Cnt 196 Q (xo_iald 413 lo st h) := run_s ((lkc_5 412 (by decide) (by decide)).trans rfl)
theorem rq_L_law_413 {lo : Lo} {st : List Value} {h : Hp} {Q : Option Value → Hp → Prop} : Run 196 413 lo st h Q = CCall 131 3 (some 10) st h (Knt 196 416 lo (st.drop 3) Q) := run_c ((lkc_5 413 (by decide) (by decide)).trans rfl)
theorem rq_L_law_416 {lo : Lo} {st : List Value} {h : Hp} {Q : Option Value → Hp → Prop} : Run 196 416 lo st h Q = Cnt 196 Q (xo_lcmp 417 lo st h) := run_s ((lkc_5 416 (by decide) (by decide)).trans rfl)
theorem rq_L_law_417 {lo : Lo} {st : List Value} {h : Hp} {Q : Option Value → Hp → Prop} : Run 196 417 lo st h Q = Cnt 196 Q (xo_if1 (fun x => decide (x = 0)) 1088 420 lo st h) := run_s ((lkc_5 417 (by decide) (by decide)).trans rfl)
theorem rq_L_law_420 {lo : Lo} {st : List Value} {h : Hp} {Q : Option Value → Hp → Prop} : Run 196 420 lo st h Q = Cnt 196 Q (xo_const (.int 0) 421 lo st h) := run_s ((lkc_5 420 (by decide) (by decide)).trans rfl)
theorem rq_L_law_421 {lo : Lo} {st : List Value} {h : Hp} {Q : Option Value → Hp → Prop} : Run 196 421 lo st h Q = Cnt 196 Q (xo_zret lo st h) := run_s ((lkc_5 421 (by decide) (by decide)).trans rfl)
theorem rq_L_law_422 {lo : Lo} {st : List Value} {h : Hp} {Q : Option Value → Hp → Prop} : Run 196 422 lo st h Q = Cnt 196 Q (xo_aload 1 423 lo st h) := run_s ((lkc_5 422 (by decide) (by decide)).trans rfl)
theorem rq_L_law_423 {lo : Lo} {st : List Value} {h : Hp} {Q : Option Value → Hp → Prop} : Run 196 423 lo st h Q = Cnt 196 Q (xo_aload 0 424 lo st h) := run_s ((lkc_5 423 (by decide) (by decide)).trans rfl)
theorem rq_L_law_424 {lo : Lo} {st : List Value} {h : Hp} {Q : Option Value → Hp → Prop} : Run 196 424 lo st h Q = Cnt 196 Q (xo_iload 3 425 lo st h) := run_s ((lkc_5 424 (by decide) (by decide)).trans rfl)
theorem rq_L_law_425 {lo : Lo} {st : List Value} {h : Hp} {Q : Option Value → Hp → Prop} : Run 196 425 lo st h Q = Cnt 196 Q (xo_const (.int 1) 426 lo st h) := run_s ((lkc_5 425 (by decide) (by decide)).trans rfl)
theorem rq_L_law_426 {lo : Lo} {st : List Value} {h : Hp} {Q : Option Value → Hp → Prop} : Run 196 426 lo st h Q = Cnt 196 Q (xo_bin (fun x y => x + y) 427 lo st h) := run_s ((lkc_5 426 (by decide) (by decide)).trans rfl)
theorem rq_L_law_427 {lo : Lo} {st : List Value} {h : Hp} {Q : Option Value → Hp → Prop} : Run 196 427 lo st h Q = Cnt 196 Q (xo_iald 428 lo st h) := run_s ((lkc_5 427 (by decide) (by decide)).trans rfl)
theorem rq_L_law_428 {lo : Lo} {st : List Value} {h : Hp} {Q : Option Value → Hp → Prop} : Run 196 428 lo st h Q = CCall 73 2 (some 9) st h (Knt 196 431 lo (st.drop 2) Q) := run_c ((lkc_5 428 (by decide) (by decide)).trans rfl)
theorem rq_L_law_431 {lo : Lo} {st : List Value} {h : Hp} {Q : Option Value → Hp → Prop} : Run 196 431 lo st h Q = Cnt 196 Q (xo_aload 2 432 lo st h) := run_s ((lkc_5 431 (by decide) (by decide)).trans rfl)
theorem rq_L_law_432 {lo : Lo} {st : List Value} {h : Hp} {Q : Option Value → Hp → Prop} : Run 196 432 lo st h Q = Cnt 196 Q (xo_aload 0 433 lo st h) := run_s ((lkc_5 432 (by decide) (by decide)).trans rfl)
theorem rq_L_law_433 {lo : Lo} {st : List Value} {h : Hp} {Q : Option Value → Hp → Prop} : Run 196 433 lo st h Q = Cnt 196 Q (xo_iload 3 434 lo st h) := run_s ((lkc_5 433 (by decide) (by decide)).trans rfl)
theorem rq_L_law_434 {lo : Lo} {st : List Value} {h : Hp} {Q : Option Value → Hp → Prop} : Run 196 434 lo st h Q = Cnt 196 Q (xo_const (.int 1) 435 lo st h) := run_s ((lkc_5 434 (by decide) (by decide)).trans rfl)
theorem rq_L_law_435 {lo : Lo} {st : List Value} {h : Hp} {Q : Option Value → Hp → Prop} : Run 196 435 lo st h Q = Cnt 196 Q (xo_bin (fun x y => x + y) 436 lo st h) := run_s ((lkc_5 435 (by decide) (by decide)).trans rfl)
theorem rq_L_law_436 {lo : Lo} {st : List Value} {h : Hp} {Q : Option Value → Hp → Prop} : Run 196 436 lo st h Q = Cnt 196 Q (xo_iald 437 lo st h) := run_s ((lkc_5 436 (by decide) (by decide)).trans rfl)
theorem rq_L_law_437 {lo : Lo} {st : List Value} {h : Hp} {Q : Option Value → Hp → Prop} : Run 196 437 lo st h Q = CCall 132 2 (some 10) st h (Knt 196 440 lo (st.drop 2) Q) := run_c ((lkc_5 437 (by decide) (by decide)).trans rfl)
theorem rq_L_law_440 {lo : Lo} {st : List Value} {h : Hp} {Q : Option Value → Hp → Prop} : Run 196 440 lo st h Q = Cnt 196 Q (xo_if2 (fun x y => decide (x = y)) 1088 443 lo st h) := run_s ((lkc_5 440 (by decide) (by decide)).trans rfl)
theorem rq_L_law_443 {lo : Lo} {st : List Value} {h : Hp} {Q : Option Value → Hp → Prop} : Run 196 443 lo st h Q = Cnt 196 Q (xo_const (.int 0) 444 lo st h) := run_s ((lkc_5 443 (by decide) (by decide)).trans rfl)
theorem rq_L_law_444 {lo : Lo} {st : List Value} {h : Hp} {Q : Option Value → Hp → Prop} : Run 196 444 lo st h Q = Cnt 196 Q (xo_zret lo st h) := run_s ((lkc_5 444 (by decide) (by decide)).trans rfl)
theorem rq_L_law_445 {lo : Lo} {st : List Value} {h : Hp} {Q : Option Value → Hp → Prop} : Run 196 445 lo st h Q = Cnt 196 Q (xo_aload 1 446 lo st h) := run_s ((lkc_5 445 (by decide) (by decide)).trans rfl)
theorem rq_L_law_446 {lo : Lo} {st : List Value} {h : Hp} {Q : Option Value → Hp → Prop} : Run 196 446 lo st h Q = Cnt 196 Q (xo_aload 0 447 lo st h) := run_s ((lkc_5 446 (by decide) (by decide)).trans rfl)
theorem rq_L_law_447 {lo : Lo} {st : List Value} {h : Hp} {Q : Option Value → Hp → Prop} : Run 196 447 lo st h Q = Cnt 196 Q (xo_iload 3 448 lo st h) := run_s ((lkc_5 447 (by decide) (by decide)).trans rfl)
theorem rq_L_law_448 {lo : Lo} {st : List Value} {h : Hp} {Q : Option Value → Hp → Prop} : Run 196 448 lo st h Q = Cnt 196 Q (xo_const (.int 1) 449 lo st h) := run_s ((lkc_5 448 (by decide) (by decide)).trans rfl)
theorem rq_L_law_449 {lo : Lo} {st : List Value} {h : Hp} {Q : Option Value → Hp → Prop} : Run 196 449 lo st h Q = Cnt 196 Q (xo_bin (fun x y => x + y) 450 lo st h) := run_s ((lkc_5 449 (by decide) (by decide)).trans rfl)
theorem rq_L_law_450 {lo : Lo} {st : List Value} {h : Hp} {Q : Option Value → Hp → Prop} : Run 196 450 lo st h Q = Cnt 196 Q (xo_iald 451 lo st h) := run_s ((lkc_5 450 (by decide) (by decide)).trans rfl)
theorem rq_L_law_451 {lo : Lo} {st : List Value} {h : Hp} {Q : Option Value → Hp → Prop} : Run 196 451 lo st h Q = CCall 74 2 (some 9) st h (Knt 196 454 lo (st.drop 2) Q) := run_c ((lkc_5 451 (by decide) (by decide)).trans rfl)
theorem rq_L_law_454 {lo : Lo} {st : List Value} {h : Hp} {Q : Option Value → Hp → Prop} : Run 196 454 lo st h Q = Cnt 196 Q (xo_aload 2 455 lo st h) := run_s ((lkc_5 454 (by decide) (by decide)).trans rfl)
theorem rq_L_law_455 {lo : Lo} {st : List Value} {h : Hp} {Q : Option Value → Hp → Prop} : Run 196 455 lo st h Q = Cnt 196 Q (xo_aload 0 456 lo st h) := run_s ((lkc_5 455 (by decide) (by decide)).trans rfl)
theorem rq_L_law_456 {lo : Lo} {st : List Value} {h : Hp} {Q : Option Value → Hp → Prop} : Run 196 456 lo st h Q = Cnt 196 Q (xo_iload 3 457 lo st h) := run_s ((lkc_5 456 (by decide) (by decide)).trans rfl)
theorem rq_L_law_457 {lo : Lo} {st : List Value} {h : Hp} {Q : Option Value → Hp → Prop} : Run 196 457 lo st h Q = Cnt 196 Q (xo_const (.int 1) 458 lo st h) := run_s ((lkc_5 457 (by decide) (by decide)).trans rfl)
theorem rq_L_law_458 {lo : Lo} {st : List Value} {h : Hp} {Q : Option Value → Hp → Prop} : Run 196 458 lo st h Q = Cnt 196 Q (xo_bin (fun x y => x + y) 459 lo st h) := run_s ((lkc_5 458 (by decide) (by decide)).trans rfl)
theorem rq_L_law_459 {lo : Lo} {st : List Value} {h : Hp} {Q : Option Value → Hp → Prop} : Run 196 459 lo st h Q = Cnt 196 Q (xo_iald 460 lo st h) := run_s ((lkc_5 459 (by decide) (by decide)).trans rfl)
theorem rq_L_law_460 {lo : Lo} {st : List Value} {h : Hp} {Q : Option Value → Hp → Prop} : Run 196 460 lo st h Q = CCall 133 2 (some 10) st h (Knt 196 463 lo (st.drop 2) Q) := run_c ((lkc_5 460 (by decide) (by decide)).trans rfl)
theorem rq_L_law_463 {lo : Lo} {st : List Value} {h : Hp} {Q : Option Value → Hp → Prop} : Run 196 463 lo st h Q = Cnt 196 Q (xo_if2 (fun x y => decide (x = y)) 1088 466 lo st h) := run_s ((lkc_5 463 (by decide) (by decide)).trans rfl)
theorem rq_L_law_466 {lo : Lo} {st : List Value} {h : Hp} {Q : Option Value → Hp → Prop} : Run 196 466 lo st h Q = Cnt 196 Q (xo_const (.int 0) 467 lo st h) := run_s ((lkc_5 466 (by decide) (by decide)).trans rfl)
theorem rq_L_law_467 {lo : Lo} {st : List Value} {h : Hp} {Q : Option Value → Hp → Prop} : Run 196 467 lo st h Q = Cnt 196 Q (xo_zret lo st h) := run_s ((lkc_5 467 (by decide) (by decide)).trans rfl)
theorem rq_L_law_468 {lo : Lo} {st : List Value} {h : Hp} {Q : Option Value → Hp → Prop} : Run 196 468 lo st h Q = Cnt 196 Q (xo_aload 1 469 lo st h) := run_s ((lkc_6 468 (by decide) (by decide)).trans rfl)
theorem rq_L_law_469 {lo : Lo} {st : List Value} {h : Hp} {Q : Option Value → Hp → Prop} : Run 196 469 lo st h Q = Cnt 196 Q (xo_aload 0 470 lo st h) := run_s ((lkc_6 469 (by decide) (by decide)).trans rfl)
theorem rq_L_law_470 {lo : Lo} {st : List Value} {h : Hp} {Q : Option Value → Hp → Prop} : Run 196 470 lo st h Q = Cnt 196 Q (xo_iload 3 471 lo st h) := run_s ((lkc_6 470 (by decide) (by decide)).trans rfl)
theorem rq_L_law_471 {lo : Lo} {st : List Value} {h : Hp} {Q : Option Value → Hp → Prop} : Run 196 471 lo st h Q = Cnt 196 Q (xo_const (.int 1) 472 lo st h) := run_s ((lkc_6 471 (by decide) (by decide)).trans rfl)
theorem rq_L_law_472 {lo : Lo} {st : List Value} {h : Hp} {Q : Option Value → Hp → Prop} : Run 196 472 lo st h Q = Cnt 196 Q (xo_bin (fun x y => x + y) 473 lo st h) := run_s ((lkc_6 472 (by decide) (by decide)).trans rfl)
theorem rq_L_law_473 {lo : Lo} {st : List Value} {h : Hp} {Q : Option Value → Hp → Prop} : Run 196 473 lo st h Q = Cnt 196 Q (xo_iald 474 lo st h) := run_s ((lkc_6 473 (by decide) (by decide)).trans rfl)
theorem rq_L_law_474 {lo : Lo} {st : List Value} {h : Hp} {Q : Option Value → Hp → Prop} : Run 196 474 lo st h Q = Cnt 196 Q (xo_aload 0 475 lo st h) := run_s ((lkc_6 474 (by decide) (by decide)).trans rfl)
theorem rq_L_law_475 {lo : Lo} {st : List Value} {h : Hp} {Q : Option Value → Hp → Prop} : Run 196 475 lo st h Q = Cnt 196 Q (xo_iload 3 476 lo st h) := run_s ((lkc_6 475 (by decide) (by decide)).trans rfl)
theorem rq_L_law_476 {lo : Lo} {st : List Value} {h : Hp} {Q : Option Value → Hp → Prop} : Run 196 476 lo st h Q = Cnt 196 Q (xo_const (.int 2) 477 lo st h) := run_s ((lkc_6 476 (by decide) (by decide)).trans rfl)
theorem rq_L_law_477 {lo : Lo} {st : List Value} {h : Hp} {Q : Option Value → Hp → Prop} : Run 196 477 lo st h Q = Cnt 196 Q (xo_bin (fun x y => x + y) 478 lo st h) := run_s ((lkc_6 477 (by decide) (by decide)).trans rfl)
theorem rq_L_law_478 {lo : Lo} {st : List Value} {h : Hp} {Q : Option Value → Hp → Prop} : Run 196 478 lo st h Q = Cnt 196 Q (xo_iald 479 lo st h) := run_s ((lkc_6 478 (by decide) (by decide)).trans rfl)
theorem rq_L_law_479 {lo : Lo} {st : List Value} {h : Hp} {Q : Option Value → Hp → Prop} : Run 196 479 lo st h Q = Cnt 196 Q (xo_aload 0 480 lo st h) := run_s ((lkc_6 479 (by decide) (by decide)).trans rfl)
theorem rq_L_law_480 {lo : Lo} {st : List Value} {h : Hp} {Q : Option Value → Hp → Prop} : Run 196 480 lo st h Q = Cnt 196 Q (xo_iload 3 481 lo st h) := run_s ((lkc_6 480 (by decide) (by decide)).trans rfl)
theorem rq_L_law_481 {lo : Lo} {st : List Value} {h : Hp} {Q : Option Value → Hp → Prop} : Run 196 481 lo st h Q = Cnt 196 Q (xo_const (.int 3) 482 lo st h) := run_s ((lkc_6 481 (by decide) (by decide)).trans rfl)
theorem rq_L_law_482 {lo : Lo} {st : List Value} {h : Hp} {Q : Option Value → Hp → Prop} : Run 196 482 lo st h Q = Cnt 196 Q (xo_bin (fun x y => x + y) 483 lo st h) := run_s ((lkc_6 482 (by decide) (by decide)).trans rfl)
theorem rq_L_law_483 {lo : Lo} {st : List Value} {h : Hp} {Q : Option Value → Hp → Prop} : Run 196 483 lo st h Q = Cnt 196 Q (xo_iald 484 lo st h) := run_s ((lkc_6 483 (by decide) (by decide)).trans rfl)
theorem rq_L_law_484 {lo : Lo} {st : List Value} {h : Hp} {Q : Option Value → Hp → Prop} : Run 196 484 lo st h Q = CCall 75 4 (some 9) st h (Knt 196 487 lo (st.drop 4) Q) := run_c ((lkc_6 484 (by decide) (by decide)).trans rfl)
theorem rq_L_law_487 {lo : Lo} {st : List Value} {h : Hp} {Q : Option Value → Hp → Prop} : Run 196 487 lo st h Q = Cnt 196 Q (xo_aload 2 488 lo st h) := run_s ((lkc_6 487 (by decide) (by decide)).trans rfl)
theorem rq_L_law_488 {lo : Lo} {st : List Value} {h : Hp} {Q : Option Value → Hp → Prop} : Run 196 488 lo st h Q = Cnt 196 Q (xo_aload 0 489 lo st h) := run_s ((lkc_6 488 (by decide) (by decide)).trans rfl)
theorem rq_L_law_489 {lo : Lo} {st : List Value} {h : Hp} {Q : Option Value → Hp → Prop} : Run 196 489 lo st h Q = Cnt 196 Q (xo_iload 3 490 lo st h) := run_s ((lkc_6 489 (by decide) (by decide)).trans rfl)
theorem rq_L_law_490 {lo : Lo} {st : List Value} {h : Hp} {Q : Option Value → Hp → Prop} : Run 196 490 lo st h Q = Cnt 196 Q (xo_const (.int 1) 491 lo st h) := run_s ((lkc_6 490 (by decide) (by decide)).trans rfl)
theorem rq_L_law_491 {lo : Lo} {st : List Value} {h : Hp} {Q : Option Value → Hp → Prop} : Run 196 491 lo st h Q = Cnt 196 Q (xo_bin (fun x y => x + y) 492 lo st h) := run_s ((lkc_6 491 (by decide) (by decide)).trans rfl)
theorem rq_L_law_492 {lo : Lo} {st : List Value} {h : Hp} {Q : Option Value → Hp → Prop} : Run 196 492 lo st h Q = Cnt 196 Q (xo_iald 493 lo st h) := run_s ((lkc_6 492 (by decide) (by decide)).trans rfl)
theorem rq_L_law_493 {lo : Lo} {st : List Value} {h : Hp} {Q : Option Value → Hp → Prop} : Run 196 493 lo st h Q = Cnt 196 Q (xo_aload 0 494 lo st h) := run_s ((lkc_6 493 (by decide) (by decide)).trans rfl)
theorem rq_L_law_494 {lo : Lo} {st : List Value} {h : Hp} {Q : Option Value → Hp → Prop} : Run 196 494 lo st h Q = Cnt 196 Q (xo_iload 3 495 lo st h) := run_s ((lkc_6 494 (by decide) (by decide)).trans rfl)
theorem rq_L_law_495 {lo : Lo} {st : List Value} {h : Hp} {Q : Option Value → Hp → Prop} : Run 196 495 lo st h Q = Cnt 196 Q (xo_const (.int 2) 496 lo st h) := run_s ((lkc_6 495 (by decide) (by decide)).trans rfl)
theorem rq_L_law_496 {lo : Lo} {st : List Value} {h : Hp} {Q : Option Value → Hp → Prop} : Run 196 496 lo st h Q = Cnt 196 Q (xo_bin (fun x y => x + y) 497 lo st h) := run_s ((lkc_6 496 (by decide) (by decide)).trans rfl)
theorem rq_L_law_497 {lo : Lo} {st : List Value} {h : Hp} {Q : Option Value → Hp → Prop} : Run 196 497 lo st h Q = Cnt 196 Q (xo_iald 498 lo st h) := run_s ((lkc_6 497 (by decide) (by decide)).trans rfl)
theorem rq_L_law_498 {lo : Lo} {st : List Value} {h : Hp} {Q : Option Value → Hp → Prop} : Run 196 498 lo st h Q = Cnt 196 Q (xo_aload 0 499 lo st h) := run_s ((lkc_6 498 (by decide) (by decide)).trans rfl)
theorem rq_L_law_499 {lo : Lo} {st : List Value} {h : Hp} {Q : Option Value → Hp → Prop} : Run 196 499 lo st h Q = Cnt 196 Q (xo_iload 3 500 lo st h) := run_s ((lkc_6 499 (by decide) (by decide)).trans rfl)
theorem rq_L_law_500 {lo : Lo} {st : List Value} {h : Hp} {Q : Option Value → Hp → Prop} : Run 196 500 lo st h Q = Cnt 196 Q (xo_const (.int 3) 501 lo st h) := run_s ((lkc_6 500 (by decide) (by decide)).trans rfl)
theorem rq_L_law_501 {lo : Lo} {st : List Value} {h : Hp} {Q : Option Value → Hp → Prop} : Run 196 501 lo st h Q = Cnt 196 Q (xo_bin (fun x y => x + y) 502 lo st h) := run_s ((lkc_6 501 (by decide) (by decide)).trans rfl)
theorem rq_L_law_502 {lo : Lo} {st : List Value} {h : Hp} {Q : Option Value → Hp → Prop} : Run 196 502 lo st h Q = Cnt 196 Q (xo_iald 503 lo st h) := run_s ((lkc_6 502 (by decide) (by decide)).trans rfl)
theorem rq_L_law_503 {lo : Lo} {st : List Value} {h : Hp} {Q : Option Value → Hp → Prop} : Run 196 503 lo st h Q = CCall 138 4 (some 10) st h (Knt 196 506 lo (st.drop 4) Q) := run_c ((lkc_6 503 (by decide) (by decide)).trans rfl)
theorem rq_L_law_506 {lo : Lo} {st : List Value} {h : Hp} {Q : Option Value → Hp → Prop} : Run 196 506 lo st h Q = Cnt 196 Q (xo_if2 (fun x y => decide (x = y)) 1088 509 lo st h) := run_s ((lkc_6 506 (by decide) (by decide)).trans rfl)
theorem rq_L_law_509 {lo : Lo} {st : List Value} {h : Hp} {Q : Option Value → Hp → Prop} : Run 196 509 lo st h Q = Cnt 196 Q (xo_const (.int 0) 510 lo st h) := run_s ((lkc_6 509 (by decide) (by decide)).trans rfl)
theorem rq_L_law_510 {lo : Lo} {st : List Value} {h : Hp} {Q : Option Value → Hp → Prop} : Run 196 510 lo st h Q = Cnt 196 Q (xo_zret lo st h) := run_s ((lkc_6 510 (by decide) (by decide)).trans rfl)
theorem rq_L_law_511 {lo : Lo} {st : List Value} {h : Hp} {Q : Option Value → Hp → Prop} : Run 196 511 lo st h Q = Cnt 196 Q (xo_aload 1 512 lo st h) := run_s ((lkc_6 511 (by decide) (by decide)).trans rfl)
theorem rq_L_law_512 {lo : Lo} {st : List Value} {h : Hp} {Q : Option Value → Hp → Prop} : Run 196 512 lo st h Q = Cnt 196 Q (xo_aload 0 513 lo st h) := run_s ((lkc_6 512 (by decide) (by decide)).trans rfl)
theorem rq_L_law_513 {lo : Lo} {st : List Value} {h : Hp} {Q : Option Value → Hp → Prop} : Run 196 513 lo st h Q = Cnt 196 Q (xo_iload 3 514 lo st h) := run_s ((lkc_6 513 (by decide) (by decide)).trans rfl)
theorem rq_L_law_514 {lo : Lo} {st : List Value} {h : Hp} {Q : Option Value → Hp → Prop} : Run 196 514 lo st h Q = Cnt 196 Q (xo_const (.int 1) 515 lo st h) := run_s ((lkc_7 514 (by decide) (by decide)).trans rfl)
theorem rq_L_law_515 {lo : Lo} {st : List Value} {h : Hp} {Q : Option Value → Hp → Prop} : Run 196 515 lo st h Q = Cnt 196 Q (xo_bin (fun x y => x + y) 516 lo st h) := run_s ((lkc_7 515 (by decide) (by decide)).trans rfl)
theorem rq_L_law_516 {lo : Lo} {st : List Value} {h : Hp} {Q : Option Value → Hp → Prop} : Run 196 516 lo st h Q = Cnt 196 Q (xo_iald 517 lo st h) := run_s ((lkc_7 516 (by decide) (by decide)).trans rfl)
theorem rq_L_law_517 {lo : Lo} {st : List Value} {h : Hp} {Q : Option Value → Hp → Prop} : Run 196 517 lo st h Q = Cnt 196 Q (xo_aload 0 518 lo st h) := run_s ((lkc_7 517 (by decide) (by decide)).trans rfl)
theorem rq_L_law_518 {lo : Lo} {st : List Value} {h : Hp} {Q : Option Value → Hp → Prop} : Run 196 518 lo st h Q = Cnt 196 Q (xo_iload 3 519 lo st h) := run_s ((lkc_7 518 (by decide) (by decide)).trans rfl)
theorem rq_L_law_519 {lo : Lo} {st : List Value} {h : Hp} {Q : Option Value → Hp → Prop} : Run 196 519 lo st h Q = Cnt 196 Q (xo_const (.int 2) 520 lo st h) := run_s ((lkc_7 519 (by decide) (by decide)).trans rfl)
theorem rq_L_law_520 {lo : Lo} {st : List Value} {h : Hp} {Q : Option Value → Hp → Prop} : Run 196 520 lo st h Q = Cnt 196 Q (xo_bin (fun x y => x + y) 521 lo st h) := run_s ((lkc_7 520 (by decide) (by decide)).trans rfl)
theorem rq_L_law_521 {lo : Lo} {st : List Value} {h : Hp} {Q : Option Value → Hp → Prop} : Run 196 521 lo st h Q = Cnt 196 Q (xo_iald 522 lo st h) := run_s ((lkc_7 521 (by decide) (by decide)).trans rfl)
theorem rq_L_law_522 {lo : Lo} {st : List Value} {h : Hp} {Q : Option Value → Hp → Prop} : Run 196 522 lo st h Q = CCall 76 3 (some 9) st h (Knt 196 525 lo (st.drop 3) Q) := run_c ((lkc_7 522 (by decide) (by decide)).trans rfl)
theorem rq_L_law_525 {lo : Lo} {st : List Value} {h : Hp} {Q : Option Value → Hp → Prop} : Run 196 525 lo st h Q = Cnt 196 Q (xo_aload 2 526 lo st h) := run_s ((lkc_7 525 (by decide) (by decide)).trans rfl)
theorem rq_L_law_526 {lo : Lo} {st : List Value} {h : Hp} {Q : Option Value → Hp → Prop} : Run 196 526 lo st h Q = Cnt 196 Q (xo_aload 0 527 lo st h) := run_s ((lkc_7 526 (by decide) (by decide)).trans rfl)
theorem rq_L_law_527 {lo : Lo} {st : List Value} {h : Hp} {Q : Option Value → Hp → Prop} : Run 196 527 lo st h Q = Cnt 196 Q (xo_iload 3 528 lo st h) := run_s ((lkc_7 527 (by decide) (by decide)).trans rfl)
theorem rq_L_law_528 {lo : Lo} {st : List Value} {h : Hp} {Q : Option Value → Hp → Prop} : Run 196 528 lo st h Q = Cnt 196 Q (xo_const (.int 1) 529 lo st h) := run_s ((lkc_7 528 (by decide) (by decide)).trans rfl)
theorem rq_L_law_529 {lo : Lo} {st : List Value} {h : Hp} {Q : Option Value → Hp → Prop} : Run 196 529 lo st h Q = Cnt 196 Q (xo_bin (fun x y => x + y) 530 lo st h) := run_s ((lkc_7 529 (by decide) (by decide)).trans rfl)
theorem rq_L_law_530 {lo : Lo} {st : List Value} {h : Hp} {Q : Option Value → Hp → Prop} : Run 196 530 lo st h Q = Cnt 196 Q (xo_iald 531 lo st h) := run_s ((lkc_7 530 (by decide) (by decide)).trans rfl)
theorem rq_L_law_531 {lo : Lo} {st : List Value} {h : Hp} {Q : Option Value → Hp → Prop} : Run 196 531 lo st h Q = Cnt 196 Q (xo_aload 0 532 lo st h) := run_s ((lkc_7 531 (by decide) (by decide)).trans rfl)
theorem rq_L_law_532 {lo : Lo} {st : List Value} {h : Hp} {Q : Option Value → Hp → Prop} : Run 196 532 lo st h Q = Cnt 196 Q (xo_iload 3 533 lo st h) := run_s ((lkc_7 532 (by decide) (by decide)).trans rfl)
theorem rq_L_law_533 {lo : Lo} {st : List Value} {h : Hp} {Q : Option Value → Hp → Prop} : Run 196 533 lo st h Q = Cnt 196 Q (xo_const (.int 2) 534 lo st h) := run_s ((lkc_7 533 (by decide) (by decide)).trans rfl)
theorem rq_L_law_534 {lo : Lo} {st : List Value} {h : Hp} {Q : Option Value → Hp → Prop} : Run 196 534 lo st h Q = Cnt 196 Q (xo_bin (fun x y => x + y) 535 lo st h) := run_s ((lkc_7 534 (by decide) (by decide)).trans rfl)
theorem rq_L_law_535 {lo : Lo} {st : List Value} {h : Hp} {Q : Option Value → Hp → Prop} : Run 196 535 lo st h Q = Cnt 196 Q (xo_iald 536 lo st h) := run_s ((lkc_7 535 (by decide) (by decide)).trans rfl)
theorem rq_L_law_536 {lo : Lo} {st : List Value} {h : Hp} {Q : Option Value → Hp → Prop} : Run 196 536 lo st h Q = CCall 140 3 (some 10) st h (Knt 196 539 lo (st.drop 3) Q) := run_c ((lkc_7 536 (by decide) (by decide)).trans rfl)
theorem rq_L_law_539 {lo : Lo} {st : List Value} {h : Hp} {Q : Option Value → Hp → Prop} : Run 196 539 lo st h Q = Cnt 196 Q (xo_if2 (fun x y => decide (x = y)) 1088 542 lo st h) := run_s ((lkc_7 539 (by decide) (by decide)).trans rfl)
theorem rq_L_law_542 {lo : Lo} {st : List Value} {h : Hp} {Q : Option Value → Hp → Prop} : Run 196 542 lo st h Q = Cnt 196 Q (xo_const (.int 0) 543 lo st h) := run_s ((lkc_7 542 (by decide) (by decide)).trans rfl)
theorem rq_L_law_543 {lo : Lo} {st : List Value} {h : Hp} {Q : Option Value → Hp → Prop} : Run 196 543 lo st h Q = Cnt 196 Q (xo_zret lo st h) := run_s ((lkc_7 543 (by decide) (by decide)).trans rfl)
theorem rq_L_law_544 {lo : Lo} {st : List Value} {h : Hp} {Q : Option Value → Hp → Prop} : Run 196 544 lo st h Q = Cnt 196 Q (xo_aload 1 545 lo st h) := run_s ((lkc_7 544 (by decide) (by decide)).trans rfl)
theorem rq_L_law_545 {lo : Lo} {st : List Value} {h : Hp} {Q : Option Value → Hp → Prop} : Run 196 545 lo st h Q = CCall 77 1 (some 9) st h (Knt 196 548 lo (st.drop 1) Q) := run_c ((lkc_7 545 (by decide) (by decide)).trans rfl)
theorem rq_L_law_548 {lo : Lo} {st : List Value} {h : Hp} {Q : Option Value → Hp → Prop} : Run 196 548 lo st h Q = Cnt 196 Q (xo_aload 2 549 lo st h) := run_s ((lkc_7 548 (by decide) (by decide)).trans rfl)
theorem rq_L_law_549 {lo : Lo} {st : List Value} {h : Hp} {Q : Option Value → Hp → Prop} : Run 196 549 lo st h Q = CCall 143 1 (some 10) st h (Knt 196 552 lo (st.drop 1) Q) := run_c ((lkc_7 549 (by decide) (by decide)).trans rfl)
theorem rq_L_law_552 {lo : Lo} {st : List Value} {h : Hp} {Q : Option Value → Hp → Prop} : Run 196 552 lo st h Q = Cnt 196 Q (xo_if2 (fun x y => decide (x = y)) 1088 555 lo st h) := run_s ((lkc_7 552 (by decide) (by decide)).trans rfl)
theorem rq_L_law_555 {lo : Lo} {st : List Value} {h : Hp} {Q : Option Value → Hp → Prop} : Run 196 555 lo st h Q = Cnt 196 Q (xo_const (.int 0) 556 lo st h) := run_s ((lkc_7 555 (by decide) (by decide)).trans rfl)
theorem rq_L_law_556 {lo : Lo} {st : List Value} {h : Hp} {Q : Option Value → Hp → Prop} : Run 196 556 lo st h Q = Cnt 196 Q (xo_zret lo st h) := run_s ((lkc_7 556 (by decide) (by decide)).trans rfl)
theorem rq_L_law_557 {lo : Lo} {st : List Value} {h : Hp} {Q : Option Value → Hp → Prop} : Run 196 557 lo st h Q = Cnt 196 Q (xo_aload 1 558 lo st h) := run_s ((lkc_7 557 (by decide) (by decide)).trans rfl)
theorem rq_L_law_558 {lo : Lo} {st : List Value} {h : Hp} {Q : Option Value → Hp → Prop} : Run 196 558 lo st h Q = Cnt 196 Q (xo_aload 0 559 lo st h) := run_s ((lkc_7 558 (by decide) (by decide)).trans rfl)
theorem rq_L_law_559 {lo : Lo} {st : List Value} {h : Hp} {Q : Option Value → Hp → Prop} : Run 196 559 lo st h Q = Cnt 196 Q (xo_iload 3 560 lo st h) := run_s ((lkc_7 559 (by decide) (by decide)).trans rfl)
theorem rq_L_law_560 {lo : Lo} {st : List Value} {h : Hp} {Q : Option Value → Hp → Prop} : Run 196 560 lo st h Q = Cnt 196 Q (xo_const (.int 1) 561 lo st h) := run_s ((lkc_7 560 (by decide) (by decide)).trans rfl)
theorem rq_L_law_561 {lo : Lo} {st : List Value} {h : Hp} {Q : Option Value → Hp → Prop} : Run 196 561 lo st h Q = Cnt 196 Q (xo_bin (fun x y => x + y) 562 lo st h) := run_s ((lkc_7 561 (by decide) (by decide)).trans rfl)
theorem rq_L_law_562 {lo : Lo} {st : List Value} {h : Hp} {Q : Option Value → Hp → Prop} : Run 196 562 lo st h Q = Cnt 196 Q (xo_iald 563 lo st h) := run_s ((lkc_7 562 (by decide) (by decide)).trans rfl)
theorem rq_L_law_563 {lo : Lo} {st : List Value} {h : Hp} {Q : Option Value → Hp → Prop} : Run 196 563 lo st h Q = Cnt 196 Q (xo_aload 0 564 lo st h) := run_s ((lkc_7 563 (by decide) (by decide)).trans rfl)
theorem rq_L_law_564 {lo : Lo} {st : List Value} {h : Hp} {Q : Option Value → Hp → Prop} : Run 196 564 lo st h Q = Cnt 196 Q (xo_iload 3 565 lo st h) := run_s ((lkc_7 564 (by decide) (by decide)).trans rfl)
theorem rq_L_law_565 {lo : Lo} {st : List Value} {h : Hp} {Q : Option Value → Hp → Prop} : Run 196 565 lo st h Q = Cnt 196 Q (xo_const (.int 2) 566 lo st h) := run_s ((lkc_7 565 (by decide) (by decide)).trans rfl)
theorem rq_L_law_566 {lo : Lo} {st : List Value} {h : Hp} {Q : Option Value → Hp → Prop} : Run 196 566 lo st h Q = Cnt 196 Q (xo_bin (fun x y => x + y) 567 lo st h) := run_s ((lkc_8 566 (by decide) (by decide)).trans rfl)
theorem rq_L_law_567 {lo : Lo} {st : List Value} {h : Hp} {Q : Option Value → Hp → Prop} : Run 196 567 lo st h Q = Cnt 196 Q (xo_iald 568 lo st h) := run_s ((lkc_8 567 (by decide) (by decide)).trans rfl)
theorem rq_L_law_568 {lo : Lo} {st : List Value} {h : Hp} {Q : Option Value → Hp → Prop} : Run 196 568 lo st h Q = CCall 78 3 (some 9) st h (Knt 196 571 lo (st.drop 3) Q) := run_c ((lkc_8 568 (by decide) (by decide)).trans rfl)
theorem rq_L_law_571 {lo : Lo} {st : List Value} {h : Hp} {Q : Option Value → Hp → Prop} : Run 196 571 lo st h Q = Cnt 196 Q (xo_aload 2 572 lo st h) := run_s ((lkc_8 571 (by decide) (by decide)).trans rfl)
theorem rq_L_law_572 {lo : Lo} {st : List Value} {h : Hp} {Q : Option Value → Hp → Prop} : Run 196 572 lo st h Q = Cnt 196 Q (xo_aload 0 573 lo st h) := run_s ((lkc_8 572 (by decide) (by decide)).trans rfl)
theorem rq_L_law_573 {lo : Lo} {st : List Value} {h : Hp} {Q : Option Value → Hp → Prop} : Run 196 573 lo st h Q = Cnt 196 Q (xo_iload 3 574 lo st h) := run_s ((lkc_8 573 (by decide) (by decide)).trans rfl)
theorem rq_L_law_574 {lo : Lo} {st : List Value} {h : Hp} {Q : Option Value → Hp → Prop} : Run 196 574 lo st h Q = Cnt 196 Q (xo_const (.int 1) 575 lo st h) := run_s ((lkc_8 574 (by decide) (by decide)).trans rfl)
theorem rq_L_law_575 {lo : Lo} {st : List Value} {h : Hp} {Q : Option Value → Hp → Prop} : Run 196 575 lo st h Q = Cnt 196 Q (xo_bin (fun x y => x + y) 576 lo st h) := run_s ((lkc_8 575 (by decide) (by decide)).trans rfl)
theorem rq_L_law_576 {lo : Lo} {st : List Value} {h : Hp} {Q : Option Value → Hp → Prop} : Run 196 576 lo st h Q = Cnt 196 Q (xo_iald 577 lo st h) := run_s ((lkc_8 576 (by decide) (by decide)).trans rfl)
theorem rq_L_law_577 {lo : Lo} {st : List Value} {h : Hp} {Q : Option Value → Hp → Prop} : Run 196 577 lo st h Q = Cnt 196 Q (xo_aload 0 578 lo st h) := run_s ((lkc_8 577 (by decide) (by decide)).trans rfl)
theorem rq_L_law_578 {lo : Lo} {st : List Value} {h : Hp} {Q : Option Value → Hp → Prop} : Run 196 578 lo st h Q = Cnt 196 Q (xo_iload 3 579 lo st h) := run_s ((lkc_8 578 (by decide) (by decide)).trans rfl)
theorem rq_L_law_579 {lo : Lo} {st : List Value} {h : Hp} {Q : Option Value → Hp → Prop} : Run 196 579 lo st h Q = Cnt 196 Q (xo_const (.int 2) 580 lo st h) := run_s ((lkc_8 579 (by decide) (by decide)).trans rfl)
theorem rq_L_law_580 {lo : Lo} {st : List Value} {h : Hp} {Q : Option Value → Hp → Prop} : Run 196 580 lo st h Q = Cnt 196 Q (xo_bin (fun x y => x + y) 581 lo st h) := run_s ((lkc_8 580 (by decide) (by decide)).trans rfl)
theorem rq_L_law_581 {lo : Lo} {st : List Value} {h : Hp} {Q : Option Value → Hp → Prop} : Run 196 581 lo st h Q = Cnt 196 Q (xo_iald 582 lo st h) := run_s ((lkc_8 581 (by decide) (by decide)).trans rfl)
theorem rq_L_law_582 {lo : Lo} {st : List Value} {h : Hp} {Q : Option Value → Hp → Prop} : Run 196 582 lo st h Q = CCall 149 3 (some 10) st h (Knt 196 585 lo (st.drop 3) Q) := run_c ((lkc_8 582 (by decide) (by decide)).trans rfl)
theorem rq_L_law_585 {lo : Lo} {st : List Value} {h : Hp} {Q : Option Value → Hp → Prop} : Run 196 585 lo st h Q = Cnt 196 Q (xo_if2 (fun x y => decide (x = y)) 1088 588 lo st h) := run_s ((lkc_8 585 (by decide) (by decide)).trans rfl)
theorem rq_L_law_588 {lo : Lo} {st : List Value} {h : Hp} {Q : Option Value → Hp → Prop} : Run 196 588 lo st h Q = Cnt 196 Q (xo_const (.int 0) 589 lo st h) := run_s ((lkc_8 588 (by decide) (by decide)).trans rfl)
theorem rq_L_law_589 {lo : Lo} {st : List Value} {h : Hp} {Q : Option Value → Hp → Prop} : Run 196 589 lo st h Q = Cnt 196 Q (xo_zret lo st h) := run_s ((lkc_8 589 (by decide) (by decide)).trans rfl)
theorem rq_L_law_590 {lo : Lo} {st : List Value} {h : Hp} {Q : Option Value → Hp → Prop} : Run 196 590 lo st h Q = Cnt 196 Q (xo_aload 1 591 lo st h) := run_s ((lkc_8 590 (by decide) (by decide)).trans rfl)
theorem rq_L_law_591 {lo : Lo} {st : List Value} {h : Hp} {Q : Option Value → Hp → Prop} : Run 196 591 lo st h Q = Cnt 196 Q (xo_aload 0 592 lo st h) := run_s ((lkc_8 591 (by decide) (by decide)).trans rfl)
theorem rq_L_law_592 {lo : Lo} {st : List Value} {h : Hp} {Q : Option Value → Hp → Prop} : Run 196 592 lo st h Q = Cnt 196 Q (xo_iload 3 593 lo st h) := run_s ((lkc_8 592 (by decide) (by decide)).trans rfl)
theorem rq_L_law_593 {lo : Lo} {st : List Value} {h : Hp} {Q : Option Value → Hp → Prop} : Run 196 593 lo st h Q = Cnt 196 Q (xo_const (.int 1) 594 lo st h) := run_s ((lkc_8 593 (by decide) (by decide)).trans rfl)
theorem rq_L_law_594 {lo : Lo} {st : List Value} {h : Hp} {Q : Option Value → Hp → Prop} : Run 196 594 lo st h Q = Cnt 196 Q (xo_bin (fun x y => x + y) 595 lo st h) := run_s ((lkc_8 594 (by decide) (by decide)).trans rfl)
theorem rq_L_law_595 {lo : Lo} {st : List Value} {h : Hp} {Q : Option Value → Hp → Prop} : Run 196 595 lo st h Q = Cnt 196 Q (xo_iald 596 lo st h) := run_s ((lkc_8 595 (by decide) (by decide)).trans rfl)
theorem rq_L_law_596 {lo : Lo} {st : List Value} {h : Hp} {Q : Option Value → Hp → Prop} : Run 196 596 lo st h Q = CCall 79 2 (some 9) st h (Knt 196 599 lo (st.drop 2) Q) := run_c ((lkc_8 596 (by decide) (by decide)).trans rfl)
theorem rq_L_law_599 {lo : Lo} {st : List Value} {h : Hp} {Q : Option Value → Hp → Prop} : Run 196 599 lo st h Q = Cnt 196 Q (xo_aload 2 600 lo st h) := run_s ((lkc_8 599 (by decide) (by decide)).trans rfl)
theorem rq_L_law_600 {lo : Lo} {st : List Value} {h : Hp} {Q : Option Value → Hp → Prop} : Run 196 600 lo st h Q = Cnt 196 Q (xo_aload 0 601 lo st h) := run_s ((lkc_8 600 (by decide) (by decide)).trans rfl)
theorem rq_L_law_601 {lo : Lo} {st : List Value} {h : Hp} {Q : Option Value → Hp → Prop} : Run 196 601 lo st h Q = Cnt 196 Q (xo_iload 3 602 lo st h) := run_s ((lkc_8 601 (by decide) (by decide)).trans rfl)
theorem rq_L_law_602 {lo : Lo} {st : List Value} {h : Hp} {Q : Option Value → Hp → Prop} : Run 196 602 lo st h Q = Cnt 196 Q (xo_const (.int 1) 603 lo st h) := run_s ((lkc_8 602 (by decide) (by decide)).trans rfl)
theorem rq_L_law_603 {lo : Lo} {st : List Value} {h : Hp} {Q : Option Value → Hp → Prop} : Run 196 603 lo st h Q = Cnt 196 Q (xo_bin (fun x y => x + y) 604 lo st h) := run_s ((lkc_8 603 (by decide) (by decide)).trans rfl)
theorem rq_L_law_604 {lo : Lo} {st : List Value} {h : Hp} {Q : Option Value → Hp → Prop} : Run 196 604 lo st h Q = Cnt 196 Q (xo_iald 605 lo st h) := run_s ((lkc_8 604 (by decide) (by decide)).trans rfl)
theorem rq_L_law_605 {lo : Lo} {st : List Value} {h : Hp} {Q : Option Value → Hp → Prop} : Run 196 605 lo st h Q = CCall 153 2 (some 10) st h (Knt 196 608 lo (st.drop 2) Q) := run_c ((lkc_8 605 (by decide) (by decide)).trans rfl)
theorem rq_L_law_608 {lo : Lo} {st : List Value} {h : Hp} {Q : Option Value → Hp → Prop} : Run 196 608 lo st h Q = Cnt 196 Q (xo_if2 (fun x y => decide (x = y)) 1088 611 lo st h) := run_s ((lkc_8 608 (by decide) (by decide)).trans rfl)
theorem rq_L_law_611 {lo : Lo} {st : List Value} {h : Hp} {Q : Option Value → Hp → Prop} : Run 196 611 lo st h Q = Cnt 196 Q (xo_const (.int 0) 612 lo st h) := run_s ((lkc_8 611 (by decide) (by decide)).trans rfl)
theorem rq_L_law_612 {lo : Lo} {st : List Value} {h : Hp} {Q : Option Value → Hp → Prop} : Run 196 612 lo st h Q = Cnt 196 Q (xo_zret lo st h) := run_s ((lkc_8 612 (by decide) (by decide)).trans rfl)
theorem rq_L_law_613 {lo : Lo} {st : List Value} {h : Hp} {Q : Option Value → Hp → Prop} : Run 196 613 lo st h Q = Cnt 196 Q (xo_aload 1 614 lo st h) := run_s ((lkc_8 613 (by decide) (by decide)).trans rfl)
theorem rq_L_law_614 {lo : Lo} {st : List Value} {h : Hp} {Q : Option Value → Hp → Prop} : Run 196 614 lo st h Q = Cnt 196 Q (xo_aload 0 615 lo st h) := run_s ((lkc_8 614 (by decide) (by decide)).trans rfl)
theorem rq_L_law_615 {lo : Lo} {st : List Value} {h : Hp} {Q : Option Value → Hp → Prop} : Run 196 615 lo st h Q = Cnt 196 Q (xo_iload 3 616 lo st h) := run_s ((lkc_8 615 (by decide) (by decide)).trans rfl)
theorem rq_L_law_616 {lo : Lo} {st : List Value} {h : Hp} {Q : Option Value → Hp → Prop} : Run 196 616 lo st h Q = Cnt 196 Q (xo_const (.int 1) 617 lo st h) := run_s ((lkc_8 616 (by decide) (by decide)).trans rfl)
theorem rq_L_law_617 {lo : Lo} {st : List Value} {h : Hp} {Q : Option Value → Hp → Prop} : Run 196 617 lo st h Q = Cnt 196 Q (xo_bin (fun x y => x + y) 618 lo st h) := run_s ((lkc_8 617 (by decide) (by decide)).trans rfl)
theorem rq_L_law_618 {lo : Lo} {st : List Value} {h : Hp} {Q : Option Value → Hp → Prop} : Run 196 618 lo st h Q = Cnt 196 Q (xo_iald 619 lo st h) := run_s ((lkc_9 618 (by decide) (by decide)).trans rfl)
theorem rq_L_law_619 {lo : Lo} {st : List Value} {h : Hp} {Q : Option Value → Hp → Prop} : Run 196 619 lo st h Q = CCall 80 2 (some 9) st h (Knt 196 622 lo (st.drop 2) Q) := run_c ((lkc_9 619 (by decide) (by decide)).trans rfl)
theorem rq_L_law_622 {lo : Lo} {st : List Value} {h : Hp} {Q : Option Value → Hp → Prop} : Run 196 622 lo st h Q = Cnt 196 Q (xo_aload 2 623 lo st h) := run_s ((lkc_9 622 (by decide) (by decide)).trans rfl)
theorem rq_L_law_623 {lo : Lo} {st : List Value} {h : Hp} {Q : Option Value → Hp → Prop} : Run 196 623 lo st h Q = Cnt 196 Q (xo_aload 0 624 lo st h) := run_s ((lkc_9 623 (by decide) (by decide)).trans rfl)
theorem rq_L_law_624 {lo : Lo} {st : List Value} {h : Hp} {Q : Option Value → Hp → Prop} : Run 196 624 lo st h Q = Cnt 196 Q (xo_iload 3 625 lo st h) := run_s ((lkc_9 624 (by decide) (by decide)).trans rfl)
theorem rq_L_law_625 {lo : Lo} {st : List Value} {h : Hp} {Q : Option Value → Hp → Prop} : Run 196 625 lo st h Q = Cnt 196 Q (xo_const (.int 1) 626 lo st h) := run_s ((lkc_9 625 (by decide) (by decide)).trans rfl)
theorem rq_L_law_626 {lo : Lo} {st : List Value} {h : Hp} {Q : Option Value → Hp → Prop} : Run 196 626 lo st h Q = Cnt 196 Q (xo_bin (fun x y => x + y) 627 lo st h) := run_s ((lkc_9 626 (by decide) (by decide)).trans rfl)
theorem rq_L_law_627 {lo : Lo} {st : List Value} {h : Hp} {Q : Option Value → Hp → Prop} : Run 196 627 lo st h Q = Cnt 196 Q (xo_iald 628 lo st h) := run_s ((lkc_9 627 (by decide) (by decide)).trans rfl)
theorem rq_L_law_628 {lo : Lo} {st : List Value} {h : Hp} {Q : Option Value → Hp → Prop} : Run 196 628 lo st h Q = CCall 157 2 (some 10) st h (Knt 196 631 lo (st.drop 2) Q) := run_c ((lkc_9 628 (by decide) (by decide)).trans rfl)
theorem rq_L_law_631 {lo : Lo} {st : List Value} {h : Hp} {Q : Option Value → Hp → Prop} : Run 196 631 lo st h Q = Cnt 196 Q (xo_if2 (fun x y => decide (x = y)) 1088 634 lo st h) := run_s ((lkc_9 631 (by decide) (by decide)).trans rfl)
theorem rq_L_law_634 {lo : Lo} {st : List Value} {h : Hp} {Q : Option Value → Hp → Prop} : Run 196 634 lo st h Q = Cnt 196 Q (xo_const (.int 0) 635 lo st h) := run_s ((lkc_9 634 (by decide) (by decide)).trans rfl)
theorem rq_L_law_635 {lo : Lo} {st : List Value} {h : Hp} {Q : Option Value → Hp → Prop} : Run 196 635 lo st h Q = Cnt 196 Q (xo_zret lo st h) := run_s ((lkc_9 635 (by decide) (by decide)).trans rfl)
theorem rq_L_law_636 {lo : Lo} {st : List Value} {h : Hp} {Q : Option Value → Hp → Prop} : Run 196 636 lo st h Q = Cnt 196 Q (xo_aload 1 637 lo st h) := run_s ((lkc_9 636 (by decide) (by decide)).trans rfl)
theorem rq_L_law_637 {lo : Lo} {st : List Value} {h : Hp} {Q : Option Value → Hp → Prop} : Run 196 637 lo st h Q = Cnt 196 Q (xo_aload 0 638 lo st h) := run_s ((lkc_9 637 (by decide) (by decide)).trans rfl)
theorem rq_L_law_638 {lo : Lo} {st : List Value} {h : Hp} {Q : Option Value → Hp → Prop} : Run 196 638 lo st h Q = Cnt 196 Q (xo_iload 3 639 lo st h) := run_s ((lkc_9 638 (by decide) (by decide)).trans rfl)
theorem rq_L_law_639 {lo : Lo} {st : List Value} {h : Hp} {Q : Option Value → Hp → Prop} : Run 196 639 lo st h Q = Cnt 196 Q (xo_const (.int 1) 640 lo st h) := run_s ((lkc_9 639 (by decide) (by decide)).trans rfl)
theorem rq_L_law_640 {lo : Lo} {st : List Value} {h : Hp} {Q : Option Value → Hp → Prop} : Run 196 640 lo st h Q = Cnt 196 Q (xo_bin (fun x y => x + y) 641 lo st h) := run_s ((lkc_9 640 (by decide) (by decide)).trans rfl)
theorem rq_L_law_641 {lo : Lo} {st : List Value} {h : Hp} {Q : Option Value → Hp → Prop} : Run 196 641 lo st h Q = Cnt 196 Q (xo_iald 642 lo st h) := run_s ((lkc_9 641 (by decide) (by decide)).trans rfl)
theorem rq_L_law_642 {lo : Lo} {st : List Value} {h : Hp} {Q : Option Value → Hp → Prop} : Run 196 642 lo st h Q = CCall 81 2 (some 9) st h (Knt 196 645 lo (st.drop 2) Q) := run_c ((lkc_9 642 (by decide) (by decide)).trans rfl)
theorem rq_L_law_645 {lo : Lo} {st : List Value} {h : Hp} {Q : Option Value → Hp → Prop} : Run 196 645 lo st h Q = Cnt 196 Q (xo_aload 2 646 lo st h) := run_s ((lkc_9 645 (by decide) (by decide)).trans rfl)
theorem rq_L_law_646 {lo : Lo} {st : List Value} {h : Hp} {Q : Option Value → Hp → Prop} : Run 196 646 lo st h Q = Cnt 196 Q (xo_aload 0 647 lo st h) := run_s ((lkc_9 646 (by decide) (by decide)).trans rfl)
theorem rq_L_law_647 {lo : Lo} {st : List Value} {h : Hp} {Q : Option Value → Hp → Prop} : Run 196 647 lo st h Q = Cnt 196 Q (xo_iload 3 648 lo st h) := run_s ((lkc_9 647 (by decide) (by decide)).trans rfl)
theorem rq_L_law_648 {lo : Lo} {st : List Value} {h : Hp} {Q : Option Value → Hp → Prop} : Run 196 648 lo st h Q = Cnt 196 Q (xo_const (.int 1) 649 lo st h) := run_s ((lkc_9 648 (by decide) (by decide)).trans rfl)
theorem rq_L_law_649 {lo : Lo} {st : List Value} {h : Hp} {Q : Option Value → Hp → Prop} : Run 196 649 lo st h Q = Cnt 196 Q (xo_bin (fun x y => x + y) 650 lo st h) := run_s ((lkc_9 649 (by decide) (by decide)).trans rfl)
theorem rq_L_law_650 {lo : Lo} {st : List Value} {h : Hp} {Q : Option Value → Hp → Prop} : Run 196 650 lo st h Q = Cnt 196 Q (xo_iald 651 lo st h) := run_s ((lkc_9 650 (by decide) (by decide)).trans rfl)
theorem rq_L_law_651 {lo : Lo} {st : List Value} {h : Hp} {Q : Option Value → Hp → Prop} : Run 196 651 lo st h Q = CCall 158 2 (some 10) st h (Knt 196 654 lo (st.drop 2) Q) := run_c ((lkc_9 651 (by decide) (by decide)).trans rfl)
theorem rq_L_law_654 {lo : Lo} {st : List Value} {h : Hp} {Q : Option Value → Hp → Prop} : Run 196 654 lo st h Q = Cnt 196 Q (xo_if2 (fun x y => decide (x = y)) 1088 657 lo st h) := run_s ((lkc_9 654 (by decide) (by decide)).trans rfl)
theorem rq_L_law_657 {lo : Lo} {st : List Value} {h : Hp} {Q : Option Value → Hp → Prop} : Run 196 657 lo st h Q = Cnt 196 Q (xo_const (.int 0) 658 lo st h) := run_s ((lkc_9 657 (by decide) (by decide)).trans rfl)
theorem rq_L_law_658 {lo : Lo} {st : List Value} {h : Hp} {Q : Option Value → Hp → Prop} : Run 196 658 lo st h Q = Cnt 196 Q (xo_zret lo st h) := run_s ((lkc_9 658 (by decide) (by decide)).trans rfl)
theorem rq_L_law_659 {lo : Lo} {st : List Value} {h : Hp} {Q : Option Value → Hp → Prop} : Run 196 659 lo st h Q = Cnt 196 Q (xo_aload 1 660 lo st h) := run_s ((lkc_9 659 (by decide) (by decide)).trans rfl)
theorem rq_L_law_660 {lo : Lo} {st : List Value} {h : Hp} {Q : Option Value → Hp → Prop} : Run 196 660 lo st h Q = Cnt 196 Q (xo_aload 0 661 lo st h) := run_s ((lkc_9 660 (by decide) (by decide)).trans rfl)
theorem rq_L_law_661 {lo : Lo} {st : List Value} {h : Hp} {Q : Option Value → Hp → Prop} : Run 196 661 lo st h Q = Cnt 196 Q (xo_iload 3 662 lo st h) := run_s ((lkc_9 661 (by decide) (by decide)).trans rfl)
theorem rq_L_law_662 {lo : Lo} {st : List Value} {h : Hp} {Q : Option Value → Hp → Prop} : Run 196 662 lo st h Q = Cnt 196 Q (xo_const (.int 1) 663 lo st h) := run_s ((lkc_9 662 (by decide) (by decide)).trans rfl)
theorem rq_L_law_663 {lo : Lo} {st : List Value} {h : Hp} {Q : Option Value → Hp → Prop} : Run 196 663 lo st h Q = Cnt 196 Q (xo_bin (fun x y => x + y) 664 lo st h) := run_s ((lkc_9 663 (by decide) (by decide)).trans rfl)
theorem rq_L_law_664 {lo : Lo} {st : List Value} {h : Hp} {Q : Option Value → Hp → Prop} : Run 196 664 lo st h Q = Cnt 196 Q (xo_iald 665 lo st h) := run_s ((lkc_9 664 (by decide) (by decide)).trans rfl)
theorem rq_L_law_665 {lo : Lo} {st : List Value} {h : Hp} {Q : Option Value → Hp → Prop} : Run 196 665 lo st h Q = CCall 82 2 (some 9) st h (Knt 196 668 lo (st.drop 2) Q) := run_c ((lkc_9 665 (by decide) (by decide)).trans rfl)
theorem rq_L_law_668 {lo : Lo} {st : List Value} {h : Hp} {Q : Option Value → Hp → Prop} : Run 196 668 lo st h Q = Cnt 196 Q (xo_aload 2 669 lo st h) := run_s ((lkc_9 668 (by decide) (by decide)).trans rfl)
theorem rq_L_law_669 {lo : Lo} {st : List Value} {h : Hp} {Q : Option Value → Hp → Prop} : Run 196 669 lo st h Q = Cnt 196 Q (xo_aload 0 670 lo st h) := run_s ((lkc_9 669 (by decide) (by decide)).trans rfl)
theorem rq_L_law_670 {lo : Lo} {st : List Value} {h : Hp} {Q : Option Value → Hp → Prop} : Run 196 670 lo st h Q = Cnt 196 Q (xo_iload 3 671 lo st h) := run_s ((lkc_9 670 (by decide) (by decide)).trans rfl)
theorem rq_L_law_671 {lo : Lo} {st : List Value} {h : Hp} {Q : Option Value → Hp → Prop} : Run 196 671 lo st h Q = Cnt 196 Q (xo_const (.int 1) 672 lo st h) := run_s ((lkc_9 671 (by decide) (by decide)).trans rfl)
theorem rq_L_law_672 {lo : Lo} {st : List Value} {h : Hp} {Q : Option Value → Hp → Prop} : Run 196 672 lo st h Q = Cnt 196 Q (xo_bin (fun x y => x + y) 673 lo st h) := run_s ((lkc_10 672 (by decide) (by decide)).trans rfl)
theorem rq_L_law_673 {lo : Lo} {st : List Value} {h : Hp} {Q : Option Value → Hp → Prop} : Run 196 673 lo st h Q = Cnt 196 Q (xo_iald 674 lo st h) := run_s ((lkc_10 673 (by decide) (by decide)).trans rfl)
theorem rq_L_law_674 {lo : Lo} {st : List Value} {h : Hp} {Q : Option Value → Hp → Prop} : Run 196 674 lo st h Q = CCall 159 2 (some 10) st h (Knt 196 677 lo (st.drop 2) Q) := run_c ((lkc_10 674 (by decide) (by decide)).trans rfl)
theorem rq_L_law_677 {lo : Lo} {st : List Value} {h : Hp} {Q : Option Value → Hp → Prop} : Run 196 677 lo st h Q = Cnt 196 Q (xo_if2 (fun x y => decide (x = y)) 1088 680 lo st h) := run_s ((lkc_10 677 (by decide) (by decide)).trans rfl)
theorem rq_L_law_680 {lo : Lo} {st : List Value} {h : Hp} {Q : Option Value → Hp → Prop} : Run 196 680 lo st h Q = Cnt 196 Q (xo_const (.int 0) 681 lo st h) := run_s ((lkc_10 680 (by decide) (by decide)).trans rfl)
theorem rq_L_law_681 {lo : Lo} {st : List Value} {h : Hp} {Q : Option Value → Hp → Prop} : Run 196 681 lo st h Q = Cnt 196 Q (xo_zret lo st h) := run_s ((lkc_10 681 (by decide) (by decide)).trans rfl)
theorem rq_L_law_682 {lo : Lo} {st : List Value} {h : Hp} {Q : Option Value → Hp → Prop} : Run 196 682 lo st h Q = Cnt 196 Q (xo_aload 1 683 lo st h) := run_s ((lkc_10 682 (by decide) (by decide)).trans rfl)
theorem rq_L_law_683 {lo : Lo} {st : List Value} {h : Hp} {Q : Option Value → Hp → Prop} : Run 196 683 lo st h Q = Cnt 196 Q (xo_aload 0 684 lo st h) := run_s ((lkc_10 683 (by decide) (by decide)).trans rfl)
theorem rq_L_law_684 {lo : Lo} {st : List Value} {h : Hp} {Q : Option Value → Hp → Prop} : Run 196 684 lo st h Q = Cnt 196 Q (xo_iload 3 685 lo st h) := run_s ((lkc_10 684 (by decide) (by decide)).trans rfl)
theorem rq_L_law_685 {lo : Lo} {st : List Value} {h : Hp} {Q : Option Value → Hp → Prop} : Run 196 685 lo st h Q = Cnt 196 Q (xo_const (.int 1) 686 lo st h) := run_s ((lkc_10 685 (by decide) (by decide)).trans rfl)
theorem rq_L_law_686 {lo : Lo} {st : List Value} {h : Hp} {Q : Option Value → Hp → Prop} : Run 196 686 lo st h Q = Cnt 196 Q (xo_bin (fun x y => x + y) 687 lo st h) := run_s ((lkc_10 686 (by decide) (by decide)).trans rfl)
theorem rq_L_law_687 {lo : Lo} {st : List Value} {h : Hp} {Q : Option Value → Hp → Prop} : Run 196 687 lo st h Q = Cnt 196 Q (xo_iald 688 lo st h) := run_s ((lkc_10 687 (by decide) (by decide)).trans rfl)
theorem rq_L_law_688 {lo : Lo} {st : List Value} {h : Hp} {Q : Option Value → Hp → Prop} : Run 196 688 lo st h Q = CCall 83 2 (some 9) st h (Knt 196 691 lo (st.drop 2) Q) := run_c ((lkc_10 688 (by decide) (by decide)).trans rfl)
theorem rq_L_law_691 {lo : Lo} {st : List Value} {h : Hp} {Q : Option Value → Hp → Prop} : Run 196 691 lo st h Q = Cnt 196 Q (xo_aload 2 692 lo st h) := run_s ((lkc_10 691 (by decide) (by decide)).trans rfl)
theorem rq_L_law_692 {lo : Lo} {st : List Value} {h : Hp} {Q : Option Value → Hp → Prop} : Run 196 692 lo st h Q = Cnt 196 Q (xo_aload 0 693 lo st h) := run_s ((lkc_10 692 (by decide) (by decide)).trans rfl)
theorem rq_L_law_693 {lo : Lo} {st : List Value} {h : Hp} {Q : Option Value → Hp → Prop} : Run 196 693 lo st h Q = Cnt 196 Q (xo_iload 3 694 lo st h) := run_s ((lkc_10 693 (by decide) (by decide)).trans rfl)
theorem rq_L_law_694 {lo : Lo} {st : List Value} {h : Hp} {Q : Option Value → Hp → Prop} : Run 196 694 lo st h Q = Cnt 196 Q (xo_const (.int 1) 695 lo st h) := run_s ((lkc_10 694 (by decide) (by decide)).trans rfl)
theorem rq_L_law_695 {lo : Lo} {st : List Value} {h : Hp} {Q : Option Value → Hp → Prop} : Run 196 695 lo st h Q = Cnt 196 Q (xo_bin (fun x y => x + y) 696 lo st h) := run_s ((lkc_10 695 (by decide) (by decide)).trans rfl)
theorem rq_L_law_696 {lo : Lo} {st : List Value} {h : Hp} {Q : Option Value → Hp → Prop} : Run 196 696 lo st h Q = Cnt 196 Q (xo_iald 697 lo st h) := run_s ((lkc_10 696 (by decide) (by decide)).trans rfl)
theorem rq_L_law_697 {lo : Lo} {st : List Value} {h : Hp} {Q : Option Value → Hp → Prop} : Run 196 697 lo st h Q = CCall 160 2 (some 10) st h (Knt 196 700 lo (st.drop 2) Q) := run_c ((lkc_10 697 (by decide) (by decide)).trans rfl)
theorem rq_L_law_700 {lo : Lo} {st : List Value} {h : Hp} {Q : Option Value → Hp → Prop} : Run 196 700 lo st h Q = Cnt 196 Q (xo_if2 (fun x y => decide (x = y)) 1088 703 lo st h) := run_s ((lkc_10 700 (by decide) (by decide)).trans rfl)
theorem rq_L_law_703 {lo : Lo} {st : List Value} {h : Hp} {Q : Option Value → Hp → Prop} : Run 196 703 lo st h Q = Cnt 196 Q (xo_const (.int 0) 704 lo st h) := run_s ((lkc_10 703 (by decide) (by decide)).trans rfl)
theorem rq_L_law_704 {lo : Lo} {st : List Value} {h : Hp} {Q : Option Value → Hp → Prop} : Run 196 704 lo st h Q = Cnt 196 Q (xo_zret lo st h) := run_s ((lkc_10 704 (by decide) (by decide)).trans rfl)
theorem rq_L_law_705 {lo : Lo} {st : List Value} {h : Hp} {Q : Option Value → Hp → Prop} : Run 196 705 lo st h Q = Cnt 196 Q (xo_aload 1 706 lo st h) := run_s ((lkc_10 705 (by decide) (by decide)).trans rfl)
theorem rq_L_law_706 {lo : Lo} {st : List Value} {h : Hp} {Q : Option Value → Hp → Prop} : Run 196 706 lo st h Q = Cnt 196 Q (xo_aload 0 707 lo st h) := run_s ((lkc_10 706 (by decide) (by decide)).trans rfl)
theorem rq_L_law_707 {lo : Lo} {st : List Value} {h : Hp} {Q : Option Value → Hp → Prop} : Run 196 707 lo st h Q = Cnt 196 Q (xo_iload 3 708 lo st h) := run_s ((lkc_10 707 (by decide) (by decide)).trans rfl)
theorem rq_L_law_708 {lo : Lo} {st : List Value} {h : Hp} {Q : Option Value → Hp → Prop} : Run 196 708 lo st h Q = Cnt 196 Q (xo_const (.int 1) 709 lo st h) := run_s ((lkc_10 708 (by decide) (by decide)).trans rfl)
theorem rq_L_law_709 {lo : Lo} {st : List Value} {h : Hp} {Q : Option Value → Hp → Prop} : Run 196 709 lo st h Q = Cnt 196 Q (xo_bin (fun x y => x + y) 710 lo st h) := run_s ((lkc_10 709 (by decide) (by decide)).trans rfl)
theorem rq_L_law_710 {lo : Lo} {st : List Value} {h : Hp} {Q : Option Value → Hp → Prop} : Run 196 710 lo st h Q = Cnt 196 Q (xo_iald 711 lo st h) := run_s ((lkc_10 710 (by decide) (by decide)).trans rfl)
theorem rq_L_law_711 {lo : Lo} {st : List Value} {h : Hp} {Q : Option Value → Hp → Prop} : Run 196 711 lo st h Q = Cnt 196 Q (xo_aload 0 712 lo st h) := run_s ((lkc_10 711 (by decide) (by decide)).trans rfl)
theorem rq_L_law_712 {lo : Lo} {st : List Value} {h : Hp} {Q : Option Value → Hp → Prop} : Run 196 712 lo st h Q = Cnt 196 Q (xo_iload 3 713 lo st h) := run_s ((lkc_10 712 (by decide) (by decide)).trans rfl)
theorem rq_L_law_713 {lo : Lo} {st : List Value} {h : Hp} {Q : Option Value → Hp → Prop} : Run 196 713 lo st h Q = Cnt 196 Q (xo_const (.int 2) 714 lo st h) := run_s ((lkc_10 713 (by decide) (by decide)).trans rfl)
theorem rq_L_law_714 {lo : Lo} {st : List Value} {h : Hp} {Q : Option Value → Hp → Prop} : Run 196 714 lo st h Q = Cnt 196 Q (xo_bin (fun x y => x + y) 715 lo st h) := run_s ((lkc_10 714 (by decide) (by decide)).trans rfl)
theorem rq_L_law_715 {lo : Lo} {st : List Value} {h : Hp} {Q : Option Value → Hp → Prop} : Run 196 715 lo st h Q = Cnt 196 Q (xo_iald 716 lo st h) := run_s ((lkc_10 715 (by decide) (by decide)).trans rfl)
theorem rq_L_law_716 {lo : Lo} {st : List Value} {h : Hp} {Q : Option Value → Hp → Prop} : Run 196 716 lo st h Q = CCall 84 3 (some 9) st h (Knt 196 719 lo (st.drop 3) Q) := run_c ((lkc_10 716 (by decide) (by decide)).trans rfl)
theorem rq_L_law_719 {lo : Lo} {st : List Value} {h : Hp} {Q : Option Value → Hp → Prop} : Run 196 719 lo st h Q = Cnt 196 Q (xo_aload 2 720 lo st h) := run_s ((lkc_10 719 (by decide) (by decide)).trans rfl)
theorem rq_L_law_720 {lo : Lo} {st : List Value} {h : Hp} {Q : Option Value → Hp → Prop} : Run 196 720 lo st h Q = Cnt 196 Q (xo_aload 0 721 lo st h) := run_s ((lkc_10 720 (by decide) (by decide)).trans rfl)
theorem rq_L_law_721 {lo : Lo} {st : List Value} {h : Hp} {Q : Option Value → Hp → Prop} : Run 196 721 lo st h Q = Cnt 196 Q (xo_iload 3 722 lo st h) := run_s ((lkc_10 721 (by decide) (by decide)).trans rfl)
theorem rq_L_law_722 {lo : Lo} {st : List Value} {h : Hp} {Q : Option Value → Hp → Prop} : Run 196 722 lo st h Q = Cnt 196 Q (xo_const (.int 1) 723 lo st h) := run_s ((lkc_10 722 (by decide) (by decide)).trans rfl)
theorem rq_L_law_723 {lo : Lo} {st : List Value} {h : Hp} {Q : Option Value → Hp → Prop} : Run 196 723 lo st h Q = Cnt 196 Q (xo_bin (fun x y => x + y) 724 lo st h) := run_s ((lkc_10 723 (by decide) (by decide)).trans rfl)
theorem rq_L_law_724 {lo : Lo} {st : List Value} {h : Hp} {Q : Option Value → Hp → Prop} : Run 196 724 lo st h Q = Cnt 196 Q (xo_iald 725 lo st h) := run_s ((lkc_11 724 (by decide) (by decide)).trans rfl)
theorem rq_L_law_725 {lo : Lo} {st : List Value} {h : Hp} {Q : Option Value → Hp → Prop} : Run 196 725 lo st h Q = Cnt 196 Q (xo_aload 0 726 lo st h) := run_s ((lkc_11 725 (by decide) (by decide)).trans rfl)
theorem rq_L_law_726 {lo : Lo} {st : List Value} {h : Hp} {Q : Option Value → Hp → Prop} : Run 196 726 lo st h Q = Cnt 196 Q (xo_iload 3 727 lo st h) := run_s ((lkc_11 726 (by decide) (by decide)).trans rfl)
theorem rq_L_law_727 {lo : Lo} {st : List Value} {h : Hp} {Q : Option Value → Hp → Prop} : Run 196 727 lo st h Q = Cnt 196 Q (xo_const (.int 2) 728 lo st h) := run_s ((lkc_11 727 (by decide) (by decide)).trans rfl)
theorem rq_L_law_728 {lo : Lo} {st : List Value} {h : Hp} {Q : Option Value → Hp → Prop} : Run 196 728 lo st h Q = Cnt 196 Q (xo_bin (fun x y => x + y) 729 lo st h) := run_s ((lkc_11 728 (by decide) (by decide)).trans rfl)
theorem rq_L_law_729 {lo : Lo} {st : List Value} {h : Hp} {Q : Option Value → Hp → Prop} : Run 196 729 lo st h Q = Cnt 196 Q (xo_iald 730 lo st h) := run_s ((lkc_11 729 (by decide) (by decide)).trans rfl)
theorem rq_L_law_730 {lo : Lo} {st : List Value} {h : Hp} {Q : Option Value → Hp → Prop} : Run 196 730 lo st h Q = CCall 167 3 (some 10) st h (Knt 196 733 lo (st.drop 3) Q) := run_c ((lkc_11 730 (by decide) (by decide)).trans rfl)
theorem rq_L_law_733 {lo : Lo} {st : List Value} {h : Hp} {Q : Option Value → Hp → Prop} : Run 196 733 lo st h Q = Cnt 196 Q (xo_if2 (fun x y => decide (x = y)) 1088 736 lo st h) := run_s ((lkc_11 733 (by decide) (by decide)).trans rfl)
theorem rq_L_law_736 {lo : Lo} {st : List Value} {h : Hp} {Q : Option Value → Hp → Prop} : Run 196 736 lo st h Q = Cnt 196 Q (xo_const (.int 0) 737 lo st h) := run_s ((lkc_11 736 (by decide) (by decide)).trans rfl)
theorem rq_L_law_737 {lo : Lo} {st : List Value} {h : Hp} {Q : Option Value → Hp → Prop} : Run 196 737 lo st h Q = Cnt 196 Q (xo_zret lo st h) := run_s ((lkc_11 737 (by decide) (by decide)).trans rfl)
theorem rq_L_law_738 {lo : Lo} {st : List Value} {h : Hp} {Q : Option Value → Hp → Prop} : Run 196 738 lo st h Q = Cnt 196 Q (xo_aload 1 739 lo st h) := run_s ((lkc_11 738 (by decide) (by decide)).trans rfl)
theorem rq_L_law_739 {lo : Lo} {st : List Value} {h : Hp} {Q : Option Value → Hp → Prop} : Run 196 739 lo st h Q = Cnt 196 Q (xo_aload 0 740 lo st h) := run_s ((lkc_11 739 (by decide) (by decide)).trans rfl)
theorem rq_L_law_740 {lo : Lo} {st : List Value} {h : Hp} {Q : Option Value → Hp → Prop} : Run 196 740 lo st h Q = Cnt 196 Q (xo_iload 3 741 lo st h) := run_s ((lkc_11 740 (by decide) (by decide)).trans rfl)
theorem rq_L_law_741 {lo : Lo} {st : List Value} {h : Hp} {Q : Option Value → Hp → Prop} : Run 196 741 lo st h Q = Cnt 196 Q (xo_const (.int 1) 742 lo st h) := run_s ((lkc_11 741 (by decide) (by decide)).trans rfl)
theorem rq_L_law_742 {lo : Lo} {st : List Value} {h : Hp} {Q : Option Value → Hp → Prop} : Run 196 742 lo st h Q = Cnt 196 Q (xo_bin (fun x y => x + y) 743 lo st h) := run_s ((lkc_11 742 (by decide) (by decide)).trans rfl)
theorem rq_L_law_743 {lo : Lo} {st : List Value} {h : Hp} {Q : Option Value → Hp → Prop} : Run 196 743 lo st h Q = Cnt 196 Q (xo_iald 744 lo st h) := run_s ((lkc_11 743 (by decide) (by decide)).trans rfl)
theorem rq_L_law_744 {lo : Lo} {st : List Value} {h : Hp} {Q : Option Value → Hp → Prop} : Run 196 744 lo st h Q = CCall 85 2 (some 9) st h (Knt 196 747 lo (st.drop 2) Q) := run_c ((lkc_11 744 (by decide) (by decide)).trans rfl)
theorem rq_L_law_747 {lo : Lo} {st : List Value} {h : Hp} {Q : Option Value → Hp → Prop} : Run 196 747 lo st h Q = Cnt 196 Q (xo_aload 2 748 lo st h) := run_s ((lkc_11 747 (by decide) (by decide)).trans rfl)
theorem rq_L_law_748 {lo : Lo} {st : List Value} {h : Hp} {Q : Option Value → Hp → Prop} : Run 196 748 lo st h Q = Cnt 196 Q (xo_aload 0 749 lo st h) := run_s ((lkc_11 748 (by decide) (by decide)).trans rfl)
theorem rq_L_law_749 {lo : Lo} {st : List Value} {h : Hp} {Q : Option Value → Hp → Prop} : Run 196 749 lo st h Q = Cnt 196 Q (xo_iload 3 750 lo st h) := run_s ((lkc_11 749 (by decide) (by decide)).trans rfl)
theorem rq_L_law_750 {lo : Lo} {st : List Value} {h : Hp} {Q : Option Value → Hp → Prop} : Run 196 750 lo st h Q = Cnt 196 Q (xo_const (.int 1) 751 lo st h) := run_s ((lkc_11 750 (by decide) (by decide)).trans rfl)
theorem rq_L_law_751 {lo : Lo} {st : List Value} {h : Hp} {Q : Option Value → Hp → Prop} : Run 196 751 lo st h Q = Cnt 196 Q (xo_bin (fun x y => x + y) 752 lo st h) := run_s ((lkc_11 751 (by decide) (by decide)).trans rfl)
theorem rq_L_law_752 {lo : Lo} {st : List Value} {h : Hp} {Q : Option Value → Hp → Prop} : Run 196 752 lo st h Q = Cnt 196 Q (xo_iald 753 lo st h) := run_s ((lkc_11 752 (by decide) (by decide)).trans rfl)
theorem rq_L_law_753 {lo : Lo} {st : List Value} {h : Hp} {Q : Option Value → Hp → Prop} : Run 196 753 lo st h Q = CCall 168 2 (some 10) st h (Knt 196 756 lo (st.drop 2) Q) := run_c ((lkc_11 753 (by decide) (by decide)).trans rfl)
theorem rq_L_law_756 {lo : Lo} {st : List Value} {h : Hp} {Q : Option Value → Hp → Prop} : Run 196 756 lo st h Q = Cnt 196 Q (xo_if2 (fun x y => decide (x = y)) 1088 759 lo st h) := run_s ((lkc_11 756 (by decide) (by decide)).trans rfl)
theorem rq_L_law_759 {lo : Lo} {st : List Value} {h : Hp} {Q : Option Value → Hp → Prop} : Run 196 759 lo st h Q = Cnt 196 Q (xo_const (.int 0) 760 lo st h) := run_s ((lkc_11 759 (by decide) (by decide)).trans rfl)
theorem rq_L_law_760 {lo : Lo} {st : List Value} {h : Hp} {Q : Option Value → Hp → Prop} : Run 196 760 lo st h Q = Cnt 196 Q (xo_zret lo st h) := run_s ((lkc_11 760 (by decide) (by decide)).trans rfl)
theorem rq_L_law_761 {lo : Lo} {st : List Value} {h : Hp} {Q : Option Value → Hp → Prop} : Run 196 761 lo st h Q = Cnt 196 Q (xo_aload 1 762 lo st h) := run_s ((lkc_11 761 (by decide) (by decide)).trans rfl)
theorem rq_L_law_762 {lo : Lo} {st : List Value} {h : Hp} {Q : Option Value → Hp → Prop} : Run 196 762 lo st h Q = Cnt 196 Q (xo_aload 0 763 lo st h) := run_s ((lkc_11 762 (by decide) (by decide)).trans rfl)
theorem rq_L_law_763 {lo : Lo} {st : List Value} {h : Hp} {Q : Option Value → Hp → Prop} : Run 196 763 lo st h Q = Cnt 196 Q (xo_iload 3 764 lo st h) := run_s ((lkc_11 763 (by decide) (by decide)).trans rfl)
theorem rq_L_law_764 {lo : Lo} {st : List Value} {h : Hp} {Q : Option Value → Hp → Prop} : Run 196 764 lo st h Q = Cnt 196 Q (xo_const (.int 1) 765 lo st h) := run_s ((lkc_11 764 (by decide) (by decide)).trans rfl)
theorem rq_L_law_765 {lo : Lo} {st : List Value} {h : Hp} {Q : Option Value → Hp → Prop} : Run 196 765 lo st h Q = Cnt 196 Q (xo_bin (fun x y => x + y) 766 lo st h) := run_s ((lkc_11 765 (by decide) (by decide)).trans rfl)
theorem rq_L_law_766 {lo : Lo} {st : List Value} {h : Hp} {Q : Option Value → Hp → Prop} : Run 196 766 lo st h Q = Cnt 196 Q (xo_iald 767 lo st h) := run_s ((lkc_11 766 (by decide) (by decide)).trans rfl)
theorem rq_L_law_767 {lo : Lo} {st : List Value} {h : Hp} {Q : Option Value → Hp → Prop} : Run 196 767 lo st h Q = Cnt 196 Q (xo_aload 0 768 lo st h) := run_s ((lkc_11 767 (by decide) (by decide)).trans rfl)
theorem rq_L_law_768 {lo : Lo} {st : List Value} {h : Hp} {Q : Option Value → Hp → Prop} : Run 196 768 lo st h Q = Cnt 196 Q (xo_iload 3 769 lo st h) := run_s ((lkc_11 768 (by decide) (by decide)).trans rfl)
theorem rq_L_law_769 {lo : Lo} {st : List Value} {h : Hp} {Q : Option Value → Hp → Prop} : Run 196 769 lo st h Q = Cnt 196 Q (xo_const (.int 2) 770 lo st h) := run_s ((lkc_11 769 (by decide) (by decide)).trans rfl)
theorem rq_L_law_770 {lo : Lo} {st : List Value} {h : Hp} {Q : Option Value → Hp → Prop} : Run 196 770 lo st h Q = Cnt 196 Q (xo_bin (fun x y => x + y) 771 lo st h) := run_s ((lkc_11 770 (by decide) (by decide)).trans rfl)
theorem rq_L_law_771 {lo : Lo} {st : List Value} {h : Hp} {Q : Option Value → Hp → Prop} : Run 196 771 lo st h Q = Cnt 196 Q (xo_iald 772 lo st h) := run_s ((lkc_11 771 (by decide) (by decide)).trans rfl)
theorem rq_L_law_772 {lo : Lo} {st : List Value} {h : Hp} {Q : Option Value → Hp → Prop} : Run 196 772 lo st h Q = Cnt 196 Q (xo_aload 0 773 lo st h) := run_s ((lkc_11 772 (by decide) (by decide)).trans rfl)
theorem rq_L_law_773 {lo : Lo} {st : List Value} {h : Hp} {Q : Option Value → Hp → Prop} : Run 196 773 lo st h Q = Cnt 196 Q (xo_iload 3 774 lo st h) := run_s ((lkc_11 773 (by decide) (by decide)).trans rfl)
theorem rq_L_law_774 {lo : Lo} {st : List Value} {h : Hp} {Q : Option Value → Hp → Prop} : Run 196 774 lo st h Q = Cnt 196 Q (xo_const (.int 3) 775 lo st h) := run_s ((lkc_12 774 (by decide) (by decide)).trans rfl)
theorem rq_L_law_775 {lo : Lo} {st : List Value} {h : Hp} {Q : Option Value → Hp → Prop} : Run 196 775 lo st h Q = Cnt 196 Q (xo_bin (fun x y => x + y) 776 lo st h) := run_s ((lkc_12 775 (by decide) (by decide)).trans rfl)
theorem rq_L_law_776 {lo : Lo} {st : List Value} {h : Hp} {Q : Option Value → Hp → Prop} : Run 196 776 lo st h Q = Cnt 196 Q (xo_iald 777 lo st h) := run_s ((lkc_12 776 (by decide) (by decide)).trans rfl)
theorem rq_L_law_777 {lo : Lo} {st : List Value} {h : Hp} {Q : Option Value → Hp → Prop} : Run 196 777 lo st h Q = CCall 86 4 (some 9) st h (Knt 196 780 lo (st.drop 4) Q) := run_c ((lkc_12 777 (by decide) (by decide)).trans rfl)
theorem rq_L_law_780 {lo : Lo} {st : List Value} {h : Hp} {Q : Option Value → Hp → Prop} : Run 196 780 lo st h Q = Cnt 196 Q (xo_aload 2 781 lo st h) := run_s ((lkc_12 780 (by decide) (by decide)).trans rfl)
theorem rq_L_law_781 {lo : Lo} {st : List Value} {h : Hp} {Q : Option Value → Hp → Prop} : Run 196 781 lo st h Q = Cnt 196 Q (xo_aload 0 782 lo st h) := run_s ((lkc_12 781 (by decide) (by decide)).trans rfl)
theorem rq_L_law_782 {lo : Lo} {st : List Value} {h : Hp} {Q : Option Value → Hp → Prop} : Run 196 782 lo st h Q = Cnt 196 Q (xo_iload 3 783 lo st h) := run_s ((lkc_12 782 (by decide) (by decide)).trans rfl)
theorem rq_L_law_783 {lo : Lo} {st : List Value} {h : Hp} {Q : Option Value → Hp → Prop} : Run 196 783 lo st h Q = Cnt 196 Q (xo_const (.int 1) 784 lo st h) := run_s ((lkc_12 783 (by decide) (by decide)).trans rfl)
theorem rq_L_law_784 {lo : Lo} {st : List Value} {h : Hp} {Q : Option Value → Hp → Prop} : Run 196 784 lo st h Q = Cnt 196 Q (xo_bin (fun x y => x + y) 785 lo st h) := run_s ((lkc_12 784 (by decide) (by decide)).trans rfl)
theorem rq_L_law_785 {lo : Lo} {st : List Value} {h : Hp} {Q : Option Value → Hp → Prop} : Run 196 785 lo st h Q = Cnt 196 Q (xo_iald 786 lo st h) := run_s ((lkc_12 785 (by decide) (by decide)).trans rfl)
theorem rq_L_law_786 {lo : Lo} {st : List Value} {h : Hp} {Q : Option Value → Hp → Prop} : Run 196 786 lo st h Q = Cnt 196 Q (xo_aload 0 787 lo st h) := run_s ((lkc_12 786 (by decide) (by decide)).trans rfl)
theorem rq_L_law_787 {lo : Lo} {st : List Value} {h : Hp} {Q : Option Value → Hp → Prop} : Run 196 787 lo st h Q = Cnt 196 Q (xo_iload 3 788 lo st h) := run_s ((lkc_12 787 (by decide) (by decide)).trans rfl)
theorem rq_L_law_788 {lo : Lo} {st : List Value} {h : Hp} {Q : Option Value → Hp → Prop} : Run 196 788 lo st h Q = Cnt 196 Q (xo_const (.int 2) 789 lo st h) := run_s ((lkc_12 788 (by decide) (by decide)).trans rfl)
theorem rq_L_law_789 {lo : Lo} {st : List Value} {h : Hp} {Q : Option Value → Hp → Prop} : Run 196 789 lo st h Q = Cnt 196 Q (xo_bin (fun x y => x + y) 790 lo st h) := run_s ((lkc_12 789 (by decide) (by decide)).trans rfl)
theorem rq_L_law_790 {lo : Lo} {st : List Value} {h : Hp} {Q : Option Value → Hp → Prop} : Run 196 790 lo st h Q = Cnt 196 Q (xo_iald 791 lo st h) := run_s ((lkc_12 790 (by decide) (by decide)).trans rfl)
theorem rq_L_law_791 {lo : Lo} {st : List Value} {h : Hp} {Q : Option Value → Hp → Prop} : Run 196 791 lo st h Q = Cnt 196 Q (xo_aload 0 792 lo st h) := run_s ((lkc_12 791 (by decide) (by decide)).trans rfl)
theorem rq_L_law_792 {lo : Lo} {st : List Value} {h : Hp} {Q : Option Value → Hp → Prop} : Run 196 792 lo st h Q = Cnt 196 Q (xo_iload 3 793 lo st h) := run_s ((lkc_12 792 (by decide) (by decide)).trans rfl)
theorem rq_L_law_793 {lo : Lo} {st : List Value} {h : Hp} {Q : Option Value → Hp → Prop} : Run 196 793 lo st h Q = Cnt 196 Q (xo_const (.int 3) 794 lo st h) := run_s ((lkc_12 793 (by decide) (by decide)).trans rfl)
theorem rq_L_law_794 {lo : Lo} {st : List Value} {h : Hp} {Q : Option Value → Hp → Prop} : Run 196 794 lo st h Q = Cnt 196 Q (xo_bin (fun x y => x + y) 795 lo st h) := run_s ((lkc_12 794 (by decide) (by decide)).trans rfl)
theorem rq_L_law_795 {lo : Lo} {st : List Value} {h : Hp} {Q : Option Value → Hp → Prop} : Run 196 795 lo st h Q = Cnt 196 Q (xo_iald 796 lo st h) := run_s ((lkc_12 795 (by decide) (by decide)).trans rfl)
theorem rq_L_law_796 {lo : Lo} {st : List Value} {h : Hp} {Q : Option Value → Hp → Prop} : Run 196 796 lo st h Q = CCall 172 4 (some 10) st h (Knt 196 799 lo (st.drop 4) Q) := run_c ((lkc_12 796 (by decide) (by decide)).trans rfl)
theorem rq_L_law_799 {lo : Lo} {st : List Value} {h : Hp} {Q : Option Value → Hp → Prop} : Run 196 799 lo st h Q = Cnt 196 Q (xo_if2 (fun x y => decide (x = y)) 1088 802 lo st h) := run_s ((lkc_12 799 (by decide) (by decide)).trans rfl)
theorem rq_L_law_802 {lo : Lo} {st : List Value} {h : Hp} {Q : Option Value → Hp → Prop} : Run 196 802 lo st h Q = Cnt 196 Q (xo_const (.int 0) 803 lo st h) := run_s ((lkc_12 802 (by decide) (by decide)).trans rfl)
theorem rq_L_law_803 {lo : Lo} {st : List Value} {h : Hp} {Q : Option Value → Hp → Prop} : Run 196 803 lo st h Q = Cnt 196 Q (xo_zret lo st h) := run_s ((lkc_12 803 (by decide) (by decide)).trans rfl)
theorem rq_L_law_804 {lo : Lo} {st : List Value} {h : Hp} {Q : Option Value → Hp → Prop} : Run 196 804 lo st h Q = Cnt 196 Q (xo_aload 1 805 lo st h) := run_s ((lkc_12 804 (by decide) (by decide)).trans rfl)
theorem rq_L_law_805 {lo : Lo} {st : List Value} {h : Hp} {Q : Option Value → Hp → Prop} : Run 196 805 lo st h Q = Cnt 196 Q (xo_aload 0 806 lo st h) := run_s ((lkc_12 805 (by decide) (by decide)).trans rfl)
theorem rq_L_law_806 {lo : Lo} {st : List Value} {h : Hp} {Q : Option Value → Hp → Prop} : Run 196 806 lo st h Q = Cnt 196 Q (xo_iload 3 807 lo st h) := run_s ((lkc_12 806 (by decide) (by decide)).trans rfl)
theorem rq_L_law_807 {lo : Lo} {st : List Value} {h : Hp} {Q : Option Value → Hp → Prop} : Run 196 807 lo st h Q = Cnt 196 Q (xo_const (.int 1) 808 lo st h) := run_s ((lkc_12 807 (by decide) (by decide)).trans rfl)
theorem rq_L_law_808 {lo : Lo} {st : List Value} {h : Hp} {Q : Option Value → Hp → Prop} : Run 196 808 lo st h Q = Cnt 196 Q (xo_bin (fun x y => x + y) 809 lo st h) := run_s ((lkc_12 808 (by decide) (by decide)).trans rfl)
theorem rq_L_law_809 {lo : Lo} {st : List Value} {h : Hp} {Q : Option Value → Hp → Prop} : Run 196 809 lo st h Q = Cnt 196 Q (xo_iald 810 lo st h) := run_s ((lkc_12 809 (by decide) (by decide)).trans rfl)
theorem rq_L_law_810 {lo : Lo} {st : List Value} {h : Hp} {Q : Option Value → Hp → Prop} : Run 196 810 lo st h Q = Cnt 196 Q (xo_aload 0 811 lo st h) := run_s ((lkc_12 810 (by decide) (by decide)).trans rfl)
theorem rq_L_law_811 {lo : Lo} {st : List Value} {h : Hp} {Q : Option Value → Hp → Prop} : Run 196 811 lo st h Q = Cnt 196 Q (xo_iload 3 812 lo st h) := run_s ((lkc_12 811 (by decide) (by decide)).trans rfl)
theorem rq_L_law_812 {lo : Lo} {st : List Value} {h : Hp} {Q : Option Value → Hp → Prop} : Run 196 812 lo st h Q = Cnt 196 Q (xo_const (.int 2) 813 lo st h) := run_s ((lkc_12 812 (by decide) (by decide)).trans rfl)
theorem rq_L_law_813 {lo : Lo} {st : List Value} {h : Hp} {Q : Option Value → Hp → Prop} : Run 196 813 lo st h Q = Cnt 196 Q (xo_bin (fun x y => x + y) 814 lo st h) := run_s ((lkc_12 813 (by decide) (by decide)).trans rfl)
theorem rq_L_law_814 {lo : Lo} {st : List Value} {h : Hp} {Q : Option Value → Hp → Prop} : Run 196 814 lo st h Q = Cnt 196 Q (xo_iald 815 lo st h) := run_s ((lkc_12 814 (by decide) (by decide)).trans rfl)
theorem rq_L_law_815 {lo : Lo} {st : List Value} {h : Hp} {Q : Option Value → Hp → Prop} : Run 196 815 lo st h Q = CCall 87 3 (some 9) st h (Knt 196 818 lo (st.drop 3) Q) := run_c ((lkc_12 815 (by decide) (by decide)).trans rfl)
theorem rq_L_law_818 {lo : Lo} {st : List Value} {h : Hp} {Q : Option Value → Hp → Prop} : Run 196 818 lo st h Q = Cnt 196 Q (xo_aload 2 819 lo st h) := run_s ((lkc_12 818 (by decide) (by decide)).trans rfl)
theorem rq_L_law_819 {lo : Lo} {st : List Value} {h : Hp} {Q : Option Value → Hp → Prop} : Run 196 819 lo st h Q = Cnt 196 Q (xo_aload 0 820 lo st h) := run_s ((lkc_12 819 (by decide) (by decide)).trans rfl)
theorem rq_L_law_820 {lo : Lo} {st : List Value} {h : Hp} {Q : Option Value → Hp → Prop} : Run 196 820 lo st h Q = Cnt 196 Q (xo_iload 3 821 lo st h) := run_s ((lkc_12 820 (by decide) (by decide)).trans rfl)
theorem rq_L_law_821 {lo : Lo} {st : List Value} {h : Hp} {Q : Option Value → Hp → Prop} : Run 196 821 lo st h Q = Cnt 196 Q (xo_const (.int 1) 822 lo st h) := run_s ((lkc_12 821 (by decide) (by decide)).trans rfl)
theorem rq_L_law_822 {lo : Lo} {st : List Value} {h : Hp} {Q : Option Value → Hp → Prop} : Run 196 822 lo st h Q = Cnt 196 Q (xo_bin (fun x y => x + y) 823 lo st h) := run_s ((lkc_13 822 (by decide) (by decide)).trans rfl)
theorem rq_L_law_823 {lo : Lo} {st : List Value} {h : Hp} {Q : Option Value → Hp → Prop} : Run 196 823 lo st h Q = Cnt 196 Q (xo_iald 824 lo st h) := run_s ((lkc_13 823 (by decide) (by decide)).trans rfl)
theorem rq_L_law_824 {lo : Lo} {st : List Value} {h : Hp} {Q : Option Value → Hp → Prop} : Run 196 824 lo st h Q = Cnt 196 Q (xo_aload 0 825 lo st h) := run_s ((lkc_13 824 (by decide) (by decide)).trans rfl)
theorem rq_L_law_825 {lo : Lo} {st : List Value} {h : Hp} {Q : Option Value → Hp → Prop} : Run 196 825 lo st h Q = Cnt 196 Q (xo_iload 3 826 lo st h) := run_s ((lkc_13 825 (by decide) (by decide)).trans rfl)
theorem rq_L_law_826 {lo : Lo} {st : List Value} {h : Hp} {Q : Option Value → Hp → Prop} : Run 196 826 lo st h Q = Cnt 196 Q (xo_const (.int 2) 827 lo st h) := run_s ((lkc_13 826 (by decide) (by decide)).trans rfl)
theorem rq_L_law_827 {lo : Lo} {st : List Value} {h : Hp} {Q : Option Value → Hp → Prop} : Run 196 827 lo st h Q = Cnt 196 Q (xo_bin (fun x y => x + y) 828 lo st h) := run_s ((lkc_13 827 (by decide) (by decide)).trans rfl)
theorem rq_L_law_828 {lo : Lo} {st : List Value} {h : Hp} {Q : Option Value → Hp → Prop} : Run 196 828 lo st h Q = Cnt 196 Q (xo_iald 829 lo st h) := run_s ((lkc_13 828 (by decide) (by decide)).trans rfl)
theorem rq_L_law_829 {lo : Lo} {st : List Value} {h : Hp} {Q : Option Value → Hp → Prop} : Run 196 829 lo st h Q = CCall 174 3 (some 10) st h (Knt 196 832 lo (st.drop 3) Q) := run_c ((lkc_13 829 (by decide) (by decide)).trans rfl)
theorem rq_L_law_832 {lo : Lo} {st : List Value} {h : Hp} {Q : Option Value → Hp → Prop} : Run 196 832 lo st h Q = Cnt 196 Q (xo_if2 (fun x y => decide (x = y)) 1088 835 lo st h) := run_s ((lkc_13 832 (by decide) (by decide)).trans rfl)
theorem rq_L_law_835 {lo : Lo} {st : List Value} {h : Hp} {Q : Option Value → Hp → Prop} : Run 196 835 lo st h Q = Cnt 196 Q (xo_const (.int 0) 836 lo st h) := run_s ((lkc_13 835 (by decide) (by decide)).trans rfl)
theorem rq_L_law_836 {lo : Lo} {st : List Value} {h : Hp} {Q : Option Value → Hp → Prop} : Run 196 836 lo st h Q = Cnt 196 Q (xo_zret lo st h) := run_s ((lkc_13 836 (by decide) (by decide)).trans rfl)
theorem rq_L_law_837 {lo : Lo} {st : List Value} {h : Hp} {Q : Option Value → Hp → Prop} : Run 196 837 lo st h Q = Cnt 196 Q (xo_aload 1 838 lo st h) := run_s ((lkc_13 837 (by decide) (by decide)).trans rfl)
theorem rq_L_law_838 {lo : Lo} {st : List Value} {h : Hp} {Q : Option Value → Hp → Prop} : Run 196 838 lo st h Q = Cnt 196 Q (xo_aload 0 839 lo st h) := run_s ((lkc_13 838 (by decide) (by decide)).trans rfl)
theorem rq_L_law_839 {lo : Lo} {st : List Value} {h : Hp} {Q : Option Value → Hp → Prop} : Run 196 839 lo st h Q = Cnt 196 Q (xo_iload 3 840 lo st h) := run_s ((lkc_13 839 (by decide) (by decide)).trans rfl)
theorem rq_L_law_840 {lo : Lo} {st : List Value} {h : Hp} {Q : Option Value → Hp → Prop} : Run 196 840 lo st h Q = Cnt 196 Q (xo_const (.int 1) 841 lo st h) := run_s ((lkc_13 840 (by decide) (by decide)).trans rfl)
theorem rq_L_law_841 {lo : Lo} {st : List Value} {h : Hp} {Q : Option Value → Hp → Prop} : Run 196 841 lo st h Q = Cnt 196 Q (xo_bin (fun x y => x + y) 842 lo st h) := run_s ((lkc_13 841 (by decide) (by decide)).trans rfl)
theorem rq_L_law_842 {lo : Lo} {st : List Value} {h : Hp} {Q : Option Value → Hp → Prop} : Run 196 842 lo st h Q = Cnt 196 Q (xo_iald 843 lo st h) := run_s ((lkc_13 842 (by decide) (by decide)).trans rfl)
theorem rq_L_law_843 {lo : Lo} {st : List Value} {h : Hp} {Q : Option Value → Hp → Prop} : Run 196 843 lo st h Q = CCall 88 2 (some 9) st h (Knt 196 846 lo (st.drop 2) Q) := run_c ((lkc_13 843 (by decide) (by decide)).trans rfl)
theorem rq_L_law_846 {lo : Lo} {st : List Value} {h : Hp} {Q : Option Value → Hp → Prop} : Run 196 846 lo st h Q = Cnt 196 Q (xo_aload 2 847 lo st h) := run_s ((lkc_13 846 (by decide) (by decide)).trans rfl)
theorem rq_L_law_847 {lo : Lo} {st : List Value} {h : Hp} {Q : Option Value → Hp → Prop} : Run 196 847 lo st h Q = Cnt 196 Q (xo_aload 0 848 lo st h) := run_s ((lkc_13 847 (by decide) (by decide)).trans rfl)
theorem rq_L_law_848 {lo : Lo} {st : List Value} {h : Hp} {Q : Option Value → Hp → Prop} : Run 196 848 lo st h Q = Cnt 196 Q (xo_iload 3 849 lo st h) := run_s ((lkc_13 848 (by decide) (by decide)).trans rfl)
theorem rq_L_law_849 {lo : Lo} {st : List Value} {h : Hp} {Q : Option Value → Hp → Prop} : Run 196 849 lo st h Q = Cnt 196 Q (xo_const (.int 1) 850 lo st h) := run_s ((lkc_13 849 (by decide) (by decide)).trans rfl)
theorem rq_L_law_850 {lo : Lo} {st : List Value} {h : Hp} {Q : Option Value → Hp → Prop} : Run 196 850 lo st h Q = Cnt 196 Q (xo_bin (fun x y => x + y) 851 lo st h) := run_s ((lkc_13 850 (by decide) (by decide)).trans rfl)
theorem rq_L_law_851 {lo : Lo} {st : List Value} {h : Hp} {Q : Option Value → Hp → Prop} : Run 196 851 lo st h Q = Cnt 196 Q (xo_iald 852 lo st h) := run_s ((lkc_13 851 (by decide) (by decide)).trans rfl)
theorem rq_L_law_852 {lo : Lo} {st : List Value} {h : Hp} {Q : Option Value → Hp → Prop} : Run 196 852 lo st h Q = CCall 175 2 (some 10) st h (Knt 196 855 lo (st.drop 2) Q) := run_c ((lkc_13 852 (by decide) (by decide)).trans rfl)
theorem rq_L_law_855 {lo : Lo} {st : List Value} {h : Hp} {Q : Option Value → Hp → Prop} : Run 196 855 lo st h Q = Cnt 196 Q (xo_if2 (fun x y => decide (x = y)) 1088 858 lo st h) := run_s ((lkc_13 855 (by decide) (by decide)).trans rfl)
theorem rq_L_law_858 {lo : Lo} {st : List Value} {h : Hp} {Q : Option Value → Hp → Prop} : Run 196 858 lo st h Q = Cnt 196 Q (xo_const (.int 0) 859 lo st h) := run_s ((lkc_13 858 (by decide) (by decide)).trans rfl)
theorem rq_L_law_859 {lo : Lo} {st : List Value} {h : Hp} {Q : Option Value → Hp → Prop} : Run 196 859 lo st h Q = Cnt 196 Q (xo_zret lo st h) := run_s ((lkc_13 859 (by decide) (by decide)).trans rfl)
theorem rq_L_law_860 {lo : Lo} {st : List Value} {h : Hp} {Q : Option Value → Hp → Prop} : Run 196 860 lo st h Q = Cnt 196 Q (xo_aload 1 861 lo st h) := run_s ((lkc_13 860 (by decide) (by decide)).trans rfl)
theorem rq_L_law_861 {lo : Lo} {st : List Value} {h : Hp} {Q : Option Value → Hp → Prop} : Run 196 861 lo st h Q = Cnt 196 Q (xo_aload 0 862 lo st h) := run_s ((lkc_13 861 (by decide) (by decide)).trans rfl)
theorem rq_L_law_862 {lo : Lo} {st : List Value} {h : Hp} {Q : Option Value → Hp → Prop} : Run 196 862 lo st h Q = Cnt 196 Q (xo_iload 3 863 lo st h) := run_s ((lkc_13 862 (by decide) (by decide)).trans rfl)
theorem rq_L_law_863 {lo : Lo} {st : List Value} {h : Hp} {Q : Option Value → Hp → Prop} : Run 196 863 lo st h Q = Cnt 196 Q (xo_const (.int 1) 864 lo st h) := run_s ((lkc_13 863 (by decide) (by decide)).trans rfl)
theorem rq_L_law_864 {lo : Lo} {st : List Value} {h : Hp} {Q : Option Value → Hp → Prop} : Run 196 864 lo st h Q = Cnt 196 Q (xo_bin (fun x y => x + y) 865 lo st h) := run_s ((lkc_13 864 (by decide) (by decide)).trans rfl)
theorem rq_L_law_865 {lo : Lo} {st : List Value} {h : Hp} {Q : Option Value → Hp → Prop} : Run 196 865 lo st h Q = Cnt 196 Q (xo_iald 866 lo st h) := run_s ((lkc_13 865 (by decide) (by decide)).trans rfl)
theorem rq_L_law_866 {lo : Lo} {st : List Value} {h : Hp} {Q : Option Value → Hp → Prop} : Run 196 866 lo st h Q = Cnt 196 Q (xo_aload 0 867 lo st h) := run_s ((lkc_13 866 (by decide) (by decide)).trans rfl)
theorem rq_L_law_867 {lo : Lo} {st : List Value} {h : Hp} {Q : Option Value → Hp → Prop} : Run 196 867 lo st h Q = Cnt 196 Q (xo_iload 3 868 lo st h) := run_s ((lkc_13 867 (by decide) (by decide)).trans rfl)
theorem rq_L_law_868 {lo : Lo} {st : List Value} {h : Hp} {Q : Option Value → Hp → Prop} : Run 196 868 lo st h Q = Cnt 196 Q (xo_const (.int 2) 869 lo st h) := run_s ((lkc_13 868 (by decide) (by decide)).trans rfl)
theorem rq_L_law_869 {lo : Lo} {st : List Value} {h : Hp} {Q : Option Value → Hp → Prop} : Run 196 869 lo st h Q = Cnt 196 Q (xo_bin (fun x y => x + y) 870 lo st h) := run_s ((lkc_13 869 (by decide) (by decide)).trans rfl)
theorem rq_L_law_870 {lo : Lo} {st : List Value} {h : Hp} {Q : Option Value → Hp → Prop} : Run 196 870 lo st h Q = Cnt 196 Q (xo_iald 871 lo st h) := run_s ((lkc_13 870 (by decide) (by decide)).trans rfl)
theorem rq_L_law_871 {lo : Lo} {st : List Value} {h : Hp} {Q : Option Value → Hp → Prop} : Run 196 871 lo st h Q = CCall 89 3 (some 9) st h (Knt 196 874 lo (st.drop 3) Q) := run_c ((lkc_13 871 (by decide) (by decide)).trans rfl)
theorem rq_L_law_874 {lo : Lo} {st : List Value} {h : Hp} {Q : Option Value → Hp → Prop} : Run 196 874 lo st h Q = Cnt 196 Q (xo_aload 2 875 lo st h) := run_s ((lkc_14 874 (by decide) (by decide)).trans rfl)
theorem rq_L_law_875 {lo : Lo} {st : List Value} {h : Hp} {Q : Option Value → Hp → Prop} : Run 196 875 lo st h Q = Cnt 196 Q (xo_aload 0 876 lo st h) := run_s ((lkc_14 875 (by decide) (by decide)).trans rfl)
theorem rq_L_law_876 {lo : Lo} {st : List Value} {h : Hp} {Q : Option Value → Hp → Prop} : Run 196 876 lo st h Q = Cnt 196 Q (xo_iload 3 877 lo st h) := run_s ((lkc_14 876 (by decide) (by decide)).trans rfl)
theorem rq_L_law_877 {lo : Lo} {st : List Value} {h : Hp} {Q : Option Value → Hp → Prop} : Run 196 877 lo st h Q = Cnt 196 Q (xo_const (.int 1) 878 lo st h) := run_s ((lkc_14 877 (by decide) (by decide)).trans rfl)
theorem rq_L_law_878 {lo : Lo} {st : List Value} {h : Hp} {Q : Option Value → Hp → Prop} : Run 196 878 lo st h Q = Cnt 196 Q (xo_bin (fun x y => x + y) 879 lo st h) := run_s ((lkc_14 878 (by decide) (by decide)).trans rfl)
theorem rq_L_law_879 {lo : Lo} {st : List Value} {h : Hp} {Q : Option Value → Hp → Prop} : Run 196 879 lo st h Q = Cnt 196 Q (xo_iald 880 lo st h) := run_s ((lkc_14 879 (by decide) (by decide)).trans rfl)
theorem rq_L_law_880 {lo : Lo} {st : List Value} {h : Hp} {Q : Option Value → Hp → Prop} : Run 196 880 lo st h Q = Cnt 196 Q (xo_aload 0 881 lo st h) := run_s ((lkc_14 880 (by decide) (by decide)).trans rfl)
theorem rq_L_law_881 {lo : Lo} {st : List Value} {h : Hp} {Q : Option Value → Hp → Prop} : Run 196 881 lo st h Q = Cnt 196 Q (xo_iload 3 882 lo st h) := run_s ((lkc_14 881 (by decide) (by decide)).trans rfl)
theorem rq_L_law_882 {lo : Lo} {st : List Value} {h : Hp} {Q : Option Value → Hp → Prop} : Run 196 882 lo st h Q = Cnt 196 Q (xo_const (.int 2) 883 lo st h) := run_s ((lkc_14 882 (by decide) (by decide)).trans rfl)
theorem rq_L_law_883 {lo : Lo} {st : List Value} {h : Hp} {Q : Option Value → Hp → Prop} : Run 196 883 lo st h Q = Cnt 196 Q (xo_bin (fun x y => x + y) 884 lo st h) := run_s ((lkc_14 883 (by decide) (by decide)).trans rfl)
theorem rq_L_law_884 {lo : Lo} {st : List Value} {h : Hp} {Q : Option Value → Hp → Prop} : Run 196 884 lo st h Q = Cnt 196 Q (xo_iald 885 lo st h) := run_s ((lkc_14 884 (by decide) (by decide)).trans rfl)
theorem rq_L_law_885 {lo : Lo} {st : List Value} {h : Hp} {Q : Option Value → Hp → Prop} : Run 196 885 lo st h Q = CCall 178 3 (some 10) st h (Knt 196 888 lo (st.drop 3) Q) := run_c ((lkc_14 885 (by decide) (by decide)).trans rfl)
theorem rq_L_law_888 {lo : Lo} {st : List Value} {h : Hp} {Q : Option Value → Hp → Prop} : Run 196 888 lo st h Q = Cnt 196 Q (xo_if2 (fun x y => decide (x = y)) 1088 891 lo st h) := run_s ((lkc_14 888 (by decide) (by decide)).trans rfl)
theorem rq_L_law_891 {lo : Lo} {st : List Value} {h : Hp} {Q : Option Value → Hp → Prop} : Run 196 891 lo st h Q = Cnt 196 Q (xo_const (.int 0) 892 lo st h) := run_s ((lkc_14 891 (by decide) (by decide)).trans rfl)
theorem rq_L_law_892 {lo : Lo} {st : List Value} {h : Hp} {Q : Option Value → Hp → Prop} : Run 196 892 lo st h Q = Cnt 196 Q (xo_zret lo st h) := run_s ((lkc_14 892 (by decide) (by decide)).trans rfl)
theorem rq_L_law_893 {lo : Lo} {st : List Value} {h : Hp} {Q : Option Value → Hp → Prop} : Run 196 893 lo st h Q = Cnt 196 Q (xo_aload 1 894 lo st h) := run_s ((lkc_14 893 (by decide) (by decide)).trans rfl)
theorem rq_L_law_894 {lo : Lo} {st : List Value} {h : Hp} {Q : Option Value → Hp → Prop} : Run 196 894 lo st h Q = Cnt 196 Q (xo_aload 0 895 lo st h) := run_s ((lkc_14 894 (by decide) (by decide)).trans rfl)
theorem rq_L_law_895 {lo : Lo} {st : List Value} {h : Hp} {Q : Option Value → Hp → Prop} : Run 196 895 lo st h Q = Cnt 196 Q (xo_iload 3 896 lo st h) := run_s ((lkc_14 895 (by decide) (by decide)).trans rfl)
theorem rq_L_law_896 {lo : Lo} {st : List Value} {h : Hp} {Q : Option Value → Hp → Prop} : Run 196 896 lo st h Q = Cnt 196 Q (xo_const (.int 1) 897 lo st h) := run_s ((lkc_14 896 (by decide) (by decide)).trans rfl)
theorem rq_L_law_897 {lo : Lo} {st : List Value} {h : Hp} {Q : Option Value → Hp → Prop} : Run 196 897 lo st h Q = Cnt 196 Q (xo_bin (fun x y => x + y) 898 lo st h) := run_s ((lkc_14 897 (by decide) (by decide)).trans rfl)
theorem rq_L_law_898 {lo : Lo} {st : List Value} {h : Hp} {Q : Option Value → Hp → Prop} : Run 196 898 lo st h Q = Cnt 196 Q (xo_iald 899 lo st h) := run_s ((lkc_14 898 (by decide) (by decide)).trans rfl)
theorem rq_L_law_899 {lo : Lo} {st : List Value} {h : Hp} {Q : Option Value → Hp → Prop} : Run 196 899 lo st h Q = CCall 90 2 (some 9) st h (Knt 196 902 lo (st.drop 2) Q) := run_c ((lkc_14 899 (by decide) (by decide)).trans rfl)
theorem rq_L_law_902 {lo : Lo} {st : List Value} {h : Hp} {Q : Option Value → Hp → Prop} : Run 196 902 lo st h Q = Cnt 196 Q (xo_aload 2 903 lo st h) := run_s ((lkc_14 902 (by decide) (by decide)).trans rfl)
theorem rq_L_law_903 {lo : Lo} {st : List Value} {h : Hp} {Q : Option Value → Hp → Prop} : Run 196 903 lo st h Q = Cnt 196 Q (xo_aload 0 904 lo st h) := run_s ((lkc_14 903 (by decide) (by decide)).trans rfl)
theorem rq_L_law_904 {lo : Lo} {st : List Value} {h : Hp} {Q : Option Value → Hp → Prop} : Run 196 904 lo st h Q = Cnt 196 Q (xo_iload 3 905 lo st h) := run_s ((lkc_14 904 (by decide) (by decide)).trans rfl)
theorem rq_L_law_905 {lo : Lo} {st : List Value} {h : Hp} {Q : Option Value → Hp → Prop} : Run 196 905 lo st h Q = Cnt 196 Q (xo_const (.int 1) 906 lo st h) := run_s ((lkc_14 905 (by decide) (by decide)).trans rfl)
theorem rq_L_law_906 {lo : Lo} {st : List Value} {h : Hp} {Q : Option Value → Hp → Prop} : Run 196 906 lo st h Q = Cnt 196 Q (xo_bin (fun x y => x + y) 907 lo st h) := run_s ((lkc_14 906 (by decide) (by decide)).trans rfl)
theorem rq_L_law_907 {lo : Lo} {st : List Value} {h : Hp} {Q : Option Value → Hp → Prop} : Run 196 907 lo st h Q = Cnt 196 Q (xo_iald 908 lo st h) := run_s ((lkc_14 907 (by decide) (by decide)).trans rfl)
theorem rq_L_law_908 {lo : Lo} {st : List Value} {h : Hp} {Q : Option Value → Hp → Prop} : Run 196 908 lo st h Q = CCall 180 2 (some 10) st h (Knt 196 911 lo (st.drop 2) Q) := run_c ((lkc_14 908 (by decide) (by decide)).trans rfl)
theorem rq_L_law_911 {lo : Lo} {st : List Value} {h : Hp} {Q : Option Value → Hp → Prop} : Run 196 911 lo st h Q = Cnt 196 Q (xo_if2 (fun x y => decide (x = y)) 1088 914 lo st h) := run_s ((lkc_14 911 (by decide) (by decide)).trans rfl)
theorem rq_L_law_914 {lo : Lo} {st : List Value} {h : Hp} {Q : Option Value → Hp → Prop} : Run 196 914 lo st h Q = Cnt 196 Q (xo_const (.int 0) 915 lo st h) := run_s ((lkc_14 914 (by decide) (by decide)).trans rfl)
theorem rq_L_law_915 {lo : Lo} {st : List Value} {h : Hp} {Q : Option Value → Hp → Prop} : Run 196 915 lo st h Q = Cnt 196 Q (xo_zret lo st h) := run_s ((lkc_14 915 (by decide) (by decide)).trans rfl)
theorem rq_L_law_916 {lo : Lo} {st : List Value} {h : Hp} {Q : Option Value → Hp → Prop} : Run 196 916 lo st h Q = Cnt 196 Q (xo_aload 1 917 lo st h) := run_s ((lkc_14 916 (by decide) (by decide)).trans rfl)
theorem rq_L_law_917 {lo : Lo} {st : List Value} {h : Hp} {Q : Option Value → Hp → Prop} : Run 196 917 lo st h Q = Cnt 196 Q (xo_aload 0 918 lo st h) := run_s ((lkc_14 917 (by decide) (by decide)).trans rfl)
theorem rq_L_law_918 {lo : Lo} {st : List Value} {h : Hp} {Q : Option Value → Hp → Prop} : Run 196 918 lo st h Q = Cnt 196 Q (xo_iload 3 919 lo st h) := run_s ((lkc_14 918 (by decide) (by decide)).trans rfl)
theorem rq_L_law_919 {lo : Lo} {st : List Value} {h : Hp} {Q : Option Value → Hp → Prop} : Run 196 919 lo st h Q = Cnt 196 Q (xo_const (.int 1) 920 lo st h) := run_s ((lkc_14 919 (by decide) (by decide)).trans rfl)
theorem rq_L_law_920 {lo : Lo} {st : List Value} {h : Hp} {Q : Option Value → Hp → Prop} : Run 196 920 lo st h Q = Cnt 196 Q (xo_bin (fun x y => x + y) 921 lo st h) := run_s ((lkc_14 920 (by decide) (by decide)).trans rfl)
theorem rq_L_law_921 {lo : Lo} {st : List Value} {h : Hp} {Q : Option Value → Hp → Prop} : Run 196 921 lo st h Q = Cnt 196 Q (xo_iald 922 lo st h) := run_s ((lkc_14 921 (by decide) (by decide)).trans rfl)
theorem rq_L_law_922 {lo : Lo} {st : List Value} {h : Hp} {Q : Option Value → Hp → Prop} : Run 196 922 lo st h Q = CCall 91 2 (some 9) st h (Knt 196 925 lo (st.drop 2) Q) := run_c ((lkc_14 922 (by decide) (by decide)).trans rfl)
theorem rq_L_law_925 {lo : Lo} {st : List Value} {h : Hp} {Q : Option Value → Hp → Prop} : Run 196 925 lo st h Q = Cnt 196 Q (xo_aload 2 926 lo st h) := run_s ((lkc_14 925 (by decide) (by decide)).trans rfl)
theorem rq_L_law_926 {lo : Lo} {st : List Value} {h : Hp} {Q : Option Value → Hp → Prop} : Run 196 926 lo st h Q = Cnt 196 Q (xo_aload 0 927 lo st h) := run_s ((lkc_15 926 (by decide) (by decide)).trans rfl)
theorem rq_L_law_927 {lo : Lo} {st : List Value} {h : Hp} {Q : Option Value → Hp → Prop} : Run 196 927 lo st h Q = Cnt 196 Q (xo_iload 3 928 lo st h) := run_s ((lkc_15 927 (by decide) (by decide)).trans rfl)
theorem rq_L_law_928 {lo : Lo} {st : List Value} {h : Hp} {Q : Option Value → Hp → Prop} : Run 196 928 lo st h Q = Cnt 196 Q (xo_const (.int 1) 929 lo st h) := run_s ((lkc_15 928 (by decide) (by decide)).trans rfl)
theorem rq_L_law_929 {lo : Lo} {st : List Value} {h : Hp} {Q : Option Value → Hp → Prop} : Run 196 929 lo st h Q = Cnt 196 Q (xo_bin (fun x y => x + y) 930 lo st h) := run_s ((lkc_15 929 (by decide) (by decide)).trans rfl)
theorem rq_L_law_930 {lo : Lo} {st : List Value} {h : Hp} {Q : Option Value → Hp → Prop} : Run 196 930 lo st h Q = Cnt 196 Q (xo_iald 931 lo st h) := run_s ((lkc_15 930 (by decide) (by decide)).trans rfl)
theorem rq_L_law_931 {lo : Lo} {st : List Value} {h : Hp} {Q : Option Value → Hp → Prop} : Run 196 931 lo st h Q = CCall 181 2 (some 10) st h (Knt 196 934 lo (st.drop 2) Q) := run_c ((lkc_15 931 (by decide) (by decide)).trans rfl)
theorem rq_L_law_934 {lo : Lo} {st : List Value} {h : Hp} {Q : Option Value → Hp → Prop} : Run 196 934 lo st h Q = Cnt 196 Q (xo_if2 (fun x y => decide (x = y)) 1088 937 lo st h) := run_s ((lkc_15 934 (by decide) (by decide)).trans rfl)
theorem rq_L_law_937 {lo : Lo} {st : List Value} {h : Hp} {Q : Option Value → Hp → Prop} : Run 196 937 lo st h Q = Cnt 196 Q (xo_const (.int 0) 938 lo st h) := run_s ((lkc_15 937 (by decide) (by decide)).trans rfl)
theorem rq_L_law_938 {lo : Lo} {st : List Value} {h : Hp} {Q : Option Value → Hp → Prop} : Run 196 938 lo st h Q = Cnt 196 Q (xo_zret lo st h) := run_s ((lkc_15 938 (by decide) (by decide)).trans rfl)
theorem rq_L_law_939 {lo : Lo} {st : List Value} {h : Hp} {Q : Option Value → Hp → Prop} : Run 196 939 lo st h Q = Cnt 196 Q (xo_aload 1 940 lo st h) := run_s ((lkc_15 939 (by decide) (by decide)).trans rfl)
theorem rq_L_law_940 {lo : Lo} {st : List Value} {h : Hp} {Q : Option Value → Hp → Prop} : Run 196 940 lo st h Q = Cnt 196 Q (xo_aload 0 941 lo st h) := run_s ((lkc_15 940 (by decide) (by decide)).trans rfl)
theorem rq_L_law_941 {lo : Lo} {st : List Value} {h : Hp} {Q : Option Value → Hp → Prop} : Run 196 941 lo st h Q = Cnt 196 Q (xo_iload 3 942 lo st h) := run_s ((lkc_15 941 (by decide) (by decide)).trans rfl)
theorem rq_L_law_942 {lo : Lo} {st : List Value} {h : Hp} {Q : Option Value → Hp → Prop} : Run 196 942 lo st h Q = Cnt 196 Q (xo_const (.int 1) 943 lo st h) := run_s ((lkc_15 942 (by decide) (by decide)).trans rfl)
theorem rq_L_law_943 {lo : Lo} {st : List Value} {h : Hp} {Q : Option Value → Hp → Prop} : Run 196 943 lo st h Q = Cnt 196 Q (xo_bin (fun x y => x + y) 944 lo st h) := run_s ((lkc_15 943 (by decide) (by decide)).trans rfl)
theorem rq_L_law_944 {lo : Lo} {st : List Value} {h : Hp} {Q : Option Value → Hp → Prop} : Run 196 944 lo st h Q = Cnt 196 Q (xo_iald 945 lo st h) := run_s ((lkc_15 944 (by decide) (by decide)).trans rfl)
theorem rq_L_law_945 {lo : Lo} {st : List Value} {h : Hp} {Q : Option Value → Hp → Prop} : Run 196 945 lo st h Q = CCall 92 2 (some 9) st h (Knt 196 948 lo (st.drop 2) Q) := run_c ((lkc_15 945 (by decide) (by decide)).trans rfl)
theorem rq_L_law_948 {lo : Lo} {st : List Value} {h : Hp} {Q : Option Value → Hp → Prop} : Run 196 948 lo st h Q = Cnt 196 Q (xo_aload 2 949 lo st h) := run_s ((lkc_15 948 (by decide) (by decide)).trans rfl)
theorem rq_L_law_949 {lo : Lo} {st : List Value} {h : Hp} {Q : Option Value → Hp → Prop} : Run 196 949 lo st h Q = Cnt 196 Q (xo_aload 0 950 lo st h) := run_s ((lkc_15 949 (by decide) (by decide)).trans rfl)
theorem rq_L_law_950 {lo : Lo} {st : List Value} {h : Hp} {Q : Option Value → Hp → Prop} : Run 196 950 lo st h Q = Cnt 196 Q (xo_iload 3 951 lo st h) := run_s ((lkc_15 950 (by decide) (by decide)).trans rfl)
theorem rq_L_law_951 {lo : Lo} {st : List Value} {h : Hp} {Q : Option Value → Hp → Prop} : Run 196 951 lo st h Q = Cnt 196 Q (xo_const (.int 1) 952 lo st h) := run_s ((lkc_15 951 (by decide) (by decide)).trans rfl)
theorem rq_L_law_952 {lo : Lo} {st : List Value} {h : Hp} {Q : Option Value → Hp → Prop} : Run 196 952 lo st h Q = Cnt 196 Q (xo_bin (fun x y => x + y) 953 lo st h) := run_s ((lkc_15 952 (by decide) (by decide)).trans rfl)
theorem rq_L_law_953 {lo : Lo} {st : List Value} {h : Hp} {Q : Option Value → Hp → Prop} : Run 196 953 lo st h Q = Cnt 196 Q (xo_iald 954 lo st h) := run_s ((lkc_15 953 (by decide) (by decide)).trans rfl)
theorem rq_L_law_954 {lo : Lo} {st : List Value} {h : Hp} {Q : Option Value → Hp → Prop} : Run 196 954 lo st h Q = CCall 182 2 (some 10) st h (Knt 196 957 lo (st.drop 2) Q) := run_c ((lkc_15 954 (by decide) (by decide)).trans rfl)
theorem rq_L_law_957 {lo : Lo} {st : List Value} {h : Hp} {Q : Option Value → Hp → Prop} : Run 196 957 lo st h Q = Cnt 196 Q (xo_if2 (fun x y => decide (x = y)) 1088 960 lo st h) := run_s ((lkc_15 957 (by decide) (by decide)).trans rfl)
theorem rq_L_law_960 {lo : Lo} {st : List Value} {h : Hp} {Q : Option Value → Hp → Prop} : Run 196 960 lo st h Q = Cnt 196 Q (xo_const (.int 0) 961 lo st h) := run_s ((lkc_15 960 (by decide) (by decide)).trans rfl)
theorem rq_L_law_961 {lo : Lo} {st : List Value} {h : Hp} {Q : Option Value → Hp → Prop} : Run 196 961 lo st h Q = Cnt 196 Q (xo_zret lo st h) := run_s ((lkc_15 961 (by decide) (by decide)).trans rfl)
theorem rq_L_law_962 {lo : Lo} {st : List Value} {h : Hp} {Q : Option Value → Hp → Prop} : Run 196 962 lo st h Q = Cnt 196 Q (xo_aload 1 963 lo st h) := run_s ((lkc_15 962 (by decide) (by decide)).trans rfl)
theorem rq_L_law_963 {lo : Lo} {st : List Value} {h : Hp} {Q : Option Value → Hp → Prop} : Run 196 963 lo st h Q = Cnt 196 Q (xo_aload 0 964 lo st h) := run_s ((lkc_15 963 (by decide) (by decide)).trans rfl)
theorem rq_L_law_964 {lo : Lo} {st : List Value} {h : Hp} {Q : Option Value → Hp → Prop} : Run 196 964 lo st h Q = Cnt 196 Q (xo_iload 3 965 lo st h) := run_s ((lkc_15 964 (by decide) (by decide)).trans rfl)
theorem rq_L_law_965 {lo : Lo} {st : List Value} {h : Hp} {Q : Option Value → Hp → Prop} : Run 196 965 lo st h Q = Cnt 196 Q (xo_const (.int 1) 966 lo st h) := run_s ((lkc_15 965 (by decide) (by decide)).trans rfl)
theorem rq_L_law_966 {lo : Lo} {st : List Value} {h : Hp} {Q : Option Value → Hp → Prop} : Run 196 966 lo st h Q = Cnt 196 Q (xo_bin (fun x y => x + y) 967 lo st h) := run_s ((lkc_15 966 (by decide) (by decide)).trans rfl)
theorem rq_L_law_967 {lo : Lo} {st : List Value} {h : Hp} {Q : Option Value → Hp → Prop} : Run 196 967 lo st h Q = Cnt 196 Q (xo_iald 968 lo st h) := run_s ((lkc_15 967 (by decide) (by decide)).trans rfl)
theorem rq_L_law_968 {lo : Lo} {st : List Value} {h : Hp} {Q : Option Value → Hp → Prop} : Run 196 968 lo st h Q = Cnt 196 Q (xo_aload 0 969 lo st h) := run_s ((lkc_15 968 (by decide) (by decide)).trans rfl)
theorem rq_L_law_969 {lo : Lo} {st : List Value} {h : Hp} {Q : Option Value → Hp → Prop} : Run 196 969 lo st h Q = Cnt 196 Q (xo_iload 3 970 lo st h) := run_s ((lkc_15 969 (by decide) (by decide)).trans rfl)
theorem rq_L_law_970 {lo : Lo} {st : List Value} {h : Hp} {Q : Option Value → Hp → Prop} : Run 196 970 lo st h Q = Cnt 196 Q (xo_const (.int 2) 971 lo st h) := run_s ((lkc_15 970 (by decide) (by decide)).trans rfl)
theorem rq_L_law_971 {lo : Lo} {st : List Value} {h : Hp} {Q : Option Value → Hp → Prop} : Run 196 971 lo st h Q = Cnt 196 Q (xo_bin (fun x y => x + y) 972 lo st h) := run_s ((lkc_15 971 (by decide) (by decide)).trans rfl)
theorem rq_L_law_972 {lo : Lo} {st : List Value} {h : Hp} {Q : Option Value → Hp → Prop} : Run 196 972 lo st h Q = Cnt 196 Q (xo_iald 973 lo st h) := run_s ((lkc_15 972 (by decide) (by decide)).trans rfl)
theorem rq_L_law_973 {lo : Lo} {st : List Value} {h : Hp} {Q : Option Value → Hp → Prop} : Run 196 973 lo st h Q = CCall 93 3 (some 9) st h (Knt 196 976 lo (st.drop 3) Q) := run_c ((lkc_15 973 (by decide) (by decide)).trans rfl)
theorem rq_L_law_976 {lo : Lo} {st : List Value} {h : Hp} {Q : Option Value → Hp → Prop} : Run 196 976 lo st h Q = Cnt 196 Q (xo_aload 2 977 lo st h) := run_s ((lkc_15 976 (by decide) (by decide)).trans rfl)
theorem rq_L_law_977 {lo : Lo} {st : List Value} {h : Hp} {Q : Option Value → Hp → Prop} : Run 196 977 lo st h Q = Cnt 196 Q (xo_aload 0 978 lo st h) := run_s ((lkc_15 977 (by decide) (by decide)).trans rfl)
theorem rq_L_law_978 {lo : Lo} {st : List Value} {h : Hp} {Q : Option Value → Hp → Prop} : Run 196 978 lo st h Q = Cnt 196 Q (xo_iload 3 979 lo st h) := run_s ((lkc_16 978 (by decide) (by decide)).trans rfl)
theorem rq_L_law_979 {lo : Lo} {st : List Value} {h : Hp} {Q : Option Value → Hp → Prop} : Run 196 979 lo st h Q = Cnt 196 Q (xo_const (.int 1) 980 lo st h) := run_s ((lkc_16 979 (by decide) (by decide)).trans rfl)
theorem rq_L_law_980 {lo : Lo} {st : List Value} {h : Hp} {Q : Option Value → Hp → Prop} : Run 196 980 lo st h Q = Cnt 196 Q (xo_bin (fun x y => x + y) 981 lo st h) := run_s ((lkc_16 980 (by decide) (by decide)).trans rfl)
theorem rq_L_law_981 {lo : Lo} {st : List Value} {h : Hp} {Q : Option Value → Hp → Prop} : Run 196 981 lo st h Q = Cnt 196 Q (xo_iald 982 lo st h) := run_s ((lkc_16 981 (by decide) (by decide)).trans rfl)
theorem rq_L_law_982 {lo : Lo} {st : List Value} {h : Hp} {Q : Option Value → Hp → Prop} : Run 196 982 lo st h Q = Cnt 196 Q (xo_aload 0 983 lo st h) := run_s ((lkc_16 982 (by decide) (by decide)).trans rfl)
theorem rq_L_law_983 {lo : Lo} {st : List Value} {h : Hp} {Q : Option Value → Hp → Prop} : Run 196 983 lo st h Q = Cnt 196 Q (xo_iload 3 984 lo st h) := run_s ((lkc_16 983 (by decide) (by decide)).trans rfl)
theorem rq_L_law_984 {lo : Lo} {st : List Value} {h : Hp} {Q : Option Value → Hp → Prop} : Run 196 984 lo st h Q = Cnt 196 Q (xo_const (.int 2) 985 lo st h) := run_s ((lkc_16 984 (by decide) (by decide)).trans rfl)
theorem rq_L_law_985 {lo : Lo} {st : List Value} {h : Hp} {Q : Option Value → Hp → Prop} : Run 196 985 lo st h Q = Cnt 196 Q (xo_bin (fun x y => x + y) 986 lo st h) := run_s ((lkc_16 985 (by decide) (by decide)).trans rfl)
theorem rq_L_law_986 {lo : Lo} {st : List Value} {h : Hp} {Q : Option Value → Hp → Prop} : Run 196 986 lo st h Q = Cnt 196 Q (xo_iald 987 lo st h) := run_s ((lkc_16 986 (by decide) (by decide)).trans rfl)
theorem rq_L_law_987 {lo : Lo} {st : List Value} {h : Hp} {Q : Option Value → Hp → Prop} : Run 196 987 lo st h Q = CCall 184 3 (some 10) st h (Knt 196 990 lo (st.drop 3) Q) := run_c ((lkc_16 987 (by decide) (by decide)).trans rfl)
theorem rq_L_law_990 {lo : Lo} {st : List Value} {h : Hp} {Q : Option Value → Hp → Prop} : Run 196 990 lo st h Q = Cnt 196 Q (xo_if2 (fun x y => decide (x = y)) 1088 993 lo st h) := run_s ((lkc_16 990 (by decide) (by decide)).trans rfl)
theorem rq_L_law_993 {lo : Lo} {st : List Value} {h : Hp} {Q : Option Value → Hp → Prop} : Run 196 993 lo st h Q = Cnt 196 Q (xo_const (.int 0) 994 lo st h) := run_s ((lkc_16 993 (by decide) (by decide)).trans rfl)
theorem rq_L_law_994 {lo : Lo} {st : List Value} {h : Hp} {Q : Option Value → Hp → Prop} : Run 196 994 lo st h Q = Cnt 196 Q (xo_zret lo st h) := run_s ((lkc_16 994 (by decide) (by decide)).trans rfl)
theorem rq_L_law_995 {lo : Lo} {st : List Value} {h : Hp} {Q : Option Value → Hp → Prop} : Run 196 995 lo st h Q = Cnt 196 Q (xo_aload 1 996 lo st h) := run_s ((lkc_16 995 (by decide) (by decide)).trans rfl)
theorem rq_L_law_996 {lo : Lo} {st : List Value} {h : Hp} {Q : Option Value → Hp → Prop} : Run 196 996 lo st h Q = Cnt 196 Q (xo_aload 0 997 lo st h) := run_s ((lkc_16 996 (by decide) (by decide)).trans rfl)
theorem rq_L_law_997 {lo : Lo} {st : List Value} {h : Hp} {Q : Option Value → Hp → Prop} : Run 196 997 lo st h Q = Cnt 196 Q (xo_iload 3 998 lo st h) := run_s ((lkc_16 997 (by decide) (by decide)).trans rfl)
theorem rq_L_law_998 {lo : Lo} {st : List Value} {h : Hp} {Q : Option Value → Hp → Prop} : Run 196 998 lo st h Q = Cnt 196 Q (xo_const (.int 1) 999 lo st h) := run_s ((lkc_16 998 (by decide) (by decide)).trans rfl)
theorem rq_L_law_999 {lo : Lo} {st : List Value} {h : Hp} {Q : Option Value → Hp → Prop} : Run 196 999 lo st h Q = Cnt 196 Q (xo_bin (fun x y => x + y) 1000 lo st h) := run_s ((lkc_16 999 (by decide) (by decide)).trans rfl)
theorem rq_L_law_1000 {lo : Lo} {st : List Value} {h : Hp} {Q : Option Value → Hp → Prop} : Run 196 1000 lo st h Q = Cnt 196 Q (xo_iald 1001 lo st h) := run_s ((lkc_16 1000 (by decide) (by decide)).trans rfl)
theorem rq_L_law_1001 {lo : Lo} {st : List Value} {h : Hp} {Q : Option Value → Hp → Prop} : Run 196 1001 lo st h Q = Cnt 196 Q (xo_aload 0 1002 lo st h) := run_s ((lkc_16 1001 (by decide) (by decide)).trans rfl)
theorem rq_L_law_1002 {lo : Lo} {st : List Value} {h : Hp} {Q : Option Value → Hp → Prop} : Run 196 1002 lo st h Q = Cnt 196 Q (xo_iload 3 1003 lo st h) := run_s ((lkc_16 1002 (by decide) (by decide)).trans rfl)
theorem rq_L_law_1003 {lo : Lo} {st : List Value} {h : Hp} {Q : Option Value → Hp → Prop} : Run 196 1003 lo st h Q = Cnt 196 Q (xo_const (.int 2) 1004 lo st h) := run_s ((lkc_16 1003 (by decide) (by decide)).trans rfl)
theorem rq_L_law_1004 {lo : Lo} {st : List Value} {h : Hp} {Q : Option Value → Hp → Prop} : Run 196 1004 lo st h Q = Cnt 196 Q (xo_bin (fun x y => x + y) 1005 lo st h) := run_s ((lkc_16 1004 (by decide) (by decide)).trans rfl)
theorem rq_L_law_1005 {lo : Lo} {st : List Value} {h : Hp} {Q : Option Value → Hp → Prop} : Run 196 1005 lo st h Q = Cnt 196 Q (xo_iald 1006 lo st h) := run_s ((lkc_16 1005 (by decide) (by decide)).trans rfl)
theorem rq_L_law_1006 {lo : Lo} {st : List Value} {h : Hp} {Q : Option Value → Hp → Prop} : Run 196 1006 lo st h Q = CCall 94 3 (some 9) st h (Knt 196 1009 lo (st.drop 3) Q) := run_c ((lkc_16 1006 (by decide) (by decide)).trans rfl)
theorem rq_L_law_1009 {lo : Lo} {st : List Value} {h : Hp} {Q : Option Value → Hp → Prop} : Run 196 1009 lo st h Q = Cnt 196 Q (xo_aload 2 1010 lo st h) := run_s ((lkc_16 1009 (by decide) (by decide)).trans rfl)
theorem rq_L_law_1010 {lo : Lo} {st : List Value} {h : Hp} {Q : Option Value → Hp → Prop} : Run 196 1010 lo st h Q = Cnt 196 Q (xo_aload 0 1011 lo st h) := run_s ((lkc_16 1010 (by decide) (by decide)).trans rfl)
theorem rq_L_law_1011 {lo : Lo} {st : List Value} {h : Hp} {Q : Option Value → Hp → Prop} : Run 196 1011 lo st h Q = Cnt 196 Q (xo_iload 3 1012 lo st h) := run_s ((lkc_16 1011 (by decide) (by decide)).trans rfl)
theorem rq_L_law_1012 {lo : Lo} {st : List Value} {h : Hp} {Q : Option Value → Hp → Prop} : Run 196 1012 lo st h Q = Cnt 196 Q (xo_const (.int 1) 1013 lo st h) := run_s ((lkc_16 1012 (by decide) (by decide)).trans rfl)
theorem rq_L_law_1013 {lo : Lo} {st : List Value} {h : Hp} {Q : Option Value → Hp → Prop} : Run 196 1013 lo st h Q = Cnt 196 Q (xo_bin (fun x y => x + y) 1014 lo st h) := run_s ((lkc_16 1013 (by decide) (by decide)).trans rfl)
theorem rq_L_law_1014 {lo : Lo} {st : List Value} {h : Hp} {Q : Option Value → Hp → Prop} : Run 196 1014 lo st h Q = Cnt 196 Q (xo_iald 1015 lo st h) := run_s ((lkc_16 1014 (by decide) (by decide)).trans rfl)
theorem rq_L_law_1015 {lo : Lo} {st : List Value} {h : Hp} {Q : Option Value → Hp → Prop} : Run 196 1015 lo st h Q = Cnt 196 Q (xo_aload 0 1016 lo st h) := run_s ((lkc_16 1015 (by decide) (by decide)).trans rfl)
theorem rq_L_law_1016 {lo : Lo} {st : List Value} {h : Hp} {Q : Option Value → Hp → Prop} : Run 196 1016 lo st h Q = Cnt 196 Q (xo_iload 3 1017 lo st h) := run_s ((lkc_16 1016 (by decide) (by decide)).trans rfl)
theorem rq_L_law_1017 {lo : Lo} {st : List Value} {h : Hp} {Q : Option Value → Hp → Prop} : Run 196 1017 lo st h Q = Cnt 196 Q (xo_const (.int 2) 1018 lo st h) := run_s ((lkc_16 1017 (by decide) (by decide)).trans rfl)
theorem rq_L_law_1018 {lo : Lo} {st : List Value} {h : Hp} {Q : Option Value → Hp → Prop} : Run 196 1018 lo st h Q = Cnt 196 Q (xo_bin (fun x y => x + y) 1019 lo st h) := run_s ((lkc_16 1018 (by decide) (by decide)).trans rfl)
theorem rq_L_law_1019 {lo : Lo} {st : List Value} {h : Hp} {Q : Option Value → Hp → Prop} : Run 196 1019 lo st h Q = Cnt 196 Q (xo_iald 1020 lo st h) := run_s ((lkc_16 1019 (by decide) (by decide)).trans rfl)
theorem rq_L_law_1020 {lo : Lo} {st : List Value} {h : Hp} {Q : Option Value → Hp → Prop} : Run 196 1020 lo st h Q = CCall 185 3 (some 10) st h (Knt 196 1023 lo (st.drop 3) Q) := run_c ((lkc_16 1020 (by decide) (by decide)).trans rfl)
theorem rq_L_law_1023 {lo : Lo} {st : List Value} {h : Hp} {Q : Option Value → Hp → Prop} : Run 196 1023 lo st h Q = Cnt 196 Q (xo_if2 (fun x y => decide (x = y)) 1088 1026 lo st h) := run_s ((lkc_16 1023 (by decide) (by decide)).trans rfl)
theorem rq_L_law_1026 {lo : Lo} {st : List Value} {h : Hp} {Q : Option Value → Hp → Prop} : Run 196 1026 lo st h Q = Cnt 196 Q (xo_const (.int 0) 1027 lo st h) := run_s ((lkc_16 1026 (by decide) (by decide)).trans rfl)
theorem rq_L_law_1027 {lo : Lo} {st : List Value} {h : Hp} {Q : Option Value → Hp → Prop} : Run 196 1027 lo st h Q = Cnt 196 Q (xo_zret lo st h) := run_s ((lkc_16 1027 (by decide) (by decide)).trans rfl)
theorem rq_L_law_1028 {lo : Lo} {st : List Value} {h : Hp} {Q : Option Value → Hp → Prop} : Run 196 1028 lo st h Q = Cnt 196 Q (xo_aload 1 1029 lo st h) := run_s ((lkc_17 1028 (by decide) (by decide)).trans rfl)
theorem rq_L_law_1029 {lo : Lo} {st : List Value} {h : Hp} {Q : Option Value → Hp → Prop} : Run 196 1029 lo st h Q = Cnt 196 Q (xo_aload 0 1030 lo st h) := run_s ((lkc_17 1029 (by decide) (by decide)).trans rfl)
theorem rq_L_law_1030 {lo : Lo} {st : List Value} {h : Hp} {Q : Option Value → Hp → Prop} : Run 196 1030 lo st h Q = Cnt 196 Q (xo_iload 3 1031 lo st h) := run_s ((lkc_17 1030 (by decide) (by decide)).trans rfl)
theorem rq_L_law_1031 {lo : Lo} {st : List Value} {h : Hp} {Q : Option Value → Hp → Prop} : Run 196 1031 lo st h Q = Cnt 196 Q (xo_const (.int 1) 1032 lo st h) := run_s ((lkc_17 1031 (by decide) (by decide)).trans rfl)
theorem rq_L_law_1032 {lo : Lo} {st : List Value} {h : Hp} {Q : Option Value → Hp → Prop} : Run 196 1032 lo st h Q = Cnt 196 Q (xo_bin (fun x y => x + y) 1033 lo st h) := run_s ((lkc_17 1032 (by decide) (by decide)).trans rfl)
theorem rq_L_law_1033 {lo : Lo} {st : List Value} {h : Hp} {Q : Option Value → Hp → Prop} : Run 196 1033 lo st h Q = Cnt 196 Q (xo_iald 1034 lo st h) := run_s ((lkc_17 1033 (by decide) (by decide)).trans rfl)
theorem rq_L_law_1034 {lo : Lo} {st : List Value} {h : Hp} {Q : Option Value → Hp → Prop} : Run 196 1034 lo st h Q = CCall 95 2 (some 9) st h (Knt 196 1037 lo (st.drop 2) Q) := run_c ((lkc_17 1034 (by decide) (by decide)).trans rfl)
theorem rq_L_law_1037 {lo : Lo} {st : List Value} {h : Hp} {Q : Option Value → Hp → Prop} : Run 196 1037 lo st h Q = Cnt 196 Q (xo_aload 2 1038 lo st h) := run_s ((lkc_17 1037 (by decide) (by decide)).trans rfl)
theorem rq_L_law_1038 {lo : Lo} {st : List Value} {h : Hp} {Q : Option Value → Hp → Prop} : Run 196 1038 lo st h Q = Cnt 196 Q (xo_aload 0 1039 lo st h) := run_s ((lkc_17 1038 (by decide) (by decide)).trans rfl)
theorem rq_L_law_1039 {lo : Lo} {st : List Value} {h : Hp} {Q : Option Value → Hp → Prop} : Run 196 1039 lo st h Q = Cnt 196 Q (xo_iload 3 1040 lo st h) := run_s ((lkc_17 1039 (by decide) (by decide)).trans rfl)
theorem rq_L_law_1040 {lo : Lo} {st : List Value} {h : Hp} {Q : Option Value → Hp → Prop} : Run 196 1040 lo st h Q = Cnt 196 Q (xo_const (.int 1) 1041 lo st h) := run_s ((lkc_17 1040 (by decide) (by decide)).trans rfl)
theorem rq_L_law_1041 {lo : Lo} {st : List Value} {h : Hp} {Q : Option Value → Hp → Prop} : Run 196 1041 lo st h Q = Cnt 196 Q (xo_bin (fun x y => x + y) 1042 lo st h) := run_s ((lkc_17 1041 (by decide) (by decide)).trans rfl)
theorem rq_L_law_1042 {lo : Lo} {st : List Value} {h : Hp} {Q : Option Value → Hp → Prop} : Run 196 1042 lo st h Q = Cnt 196 Q (xo_iald 1043 lo st h) := run_s ((lkc_17 1042 (by decide) (by decide)).trans rfl)
theorem rq_L_law_1043 {lo : Lo} {st : List Value} {h : Hp} {Q : Option Value → Hp → Prop} : Run 196 1043 lo st h Q = CCall 186 2 (some 10) st h (Knt 196 1046 lo (st.drop 2) Q) := run_c ((lkc_17 1043 (by decide) (by decide)).trans rfl)
theorem rq_L_law_1046 {lo : Lo} {st : List Value} {h : Hp} {Q : Option Value → Hp → Prop} : Run 196 1046 lo st h Q = Cnt 196 Q (xo_lcmp 1047 lo st h) := run_s ((lkc_17 1046 (by decide) (by decide)).trans rfl)
theorem rq_L_law_1047 {lo : Lo} {st : List Value} {h : Hp} {Q : Option Value → Hp → Prop} : Run 196 1047 lo st h Q = Cnt 196 Q (xo_if1 (fun x => decide (x = 0)) 1088 1050 lo st h) := run_s ((lkc_17 1047 (by decide) (by decide)).trans rfl)
theorem rq_L_law_1050 {lo : Lo} {st : List Value} {h : Hp} {Q : Option Value → Hp → Prop} : Run 196 1050 lo st h Q = Cnt 196 Q (xo_const (.int 0) 1051 lo st h) := run_s ((lkc_17 1050 (by decide) (by decide)).trans rfl)
theorem rq_L_law_1051 {lo : Lo} {st : List Value} {h : Hp} {Q : Option Value → Hp → Prop} : Run 196 1051 lo st h Q = Cnt 196 Q (xo_zret lo st h) := run_s ((lkc_17 1051 (by decide) (by decide)).trans rfl)
theorem rq_L_law_1052 {lo : Lo} {st : List Value} {h : Hp} {Q : Option Value → Hp → Prop} : Run 196 1052 lo st h Q = Cnt 196 Q (xo_aload 1 1053 lo st h) := run_s ((lkc_17 1052 (by decide) (by decide)).trans rfl)
theorem rq_L_law_1053 {lo : Lo} {st : List Value} {h : Hp} {Q : Option Value → Hp → Prop} : Run 196 1053 lo st h Q = CCall 96 1 (some 9) st h (Knt 196 1056 lo (st.drop 1) Q) := run_c ((lkc_17 1053 (by decide) (by decide)).trans rfl)
theorem rq_L_law_1056 {lo : Lo} {st : List Value} {h : Hp} {Q : Option Value → Hp → Prop} : Run 196 1056 lo st h Q = Cnt 196 Q (xo_aload 2 1057 lo st h) := run_s ((lkc_17 1056 (by decide) (by decide)).trans rfl)
theorem rq_L_law_1057 {lo : Lo} {st : List Value} {h : Hp} {Q : Option Value → Hp → Prop} : Run 196 1057 lo st h Q = CCall 187 1 (some 10) st h (Knt 196 1060 lo (st.drop 1) Q) := run_c ((lkc_17 1057 (by decide) (by decide)).trans rfl)
theorem rq_L_law_1060 {lo : Lo} {st : List Value} {h : Hp} {Q : Option Value → Hp → Prop} : Run 196 1060 lo st h Q = Cnt 196 Q (xo_if2 (fun x y => decide (x = y)) 1088 1063 lo st h) := run_s ((lkc_17 1060 (by decide) (by decide)).trans rfl)
theorem rq_L_law_1063 {lo : Lo} {st : List Value} {h : Hp} {Q : Option Value → Hp → Prop} : Run 196 1063 lo st h Q = Cnt 196 Q (xo_const (.int 0) 1064 lo st h) := run_s ((lkc_17 1063 (by decide) (by decide)).trans rfl)
theorem rq_L_law_1064 {lo : Lo} {st : List Value} {h : Hp} {Q : Option Value → Hp → Prop} : Run 196 1064 lo st h Q = Cnt 196 Q (xo_zret lo st h) := run_s ((lkc_17 1064 (by decide) (by decide)).trans rfl)
theorem rq_L_law_1065 {lo : Lo} {st : List Value} {h : Hp} {Q : Option Value → Hp → Prop} : Run 196 1065 lo st h Q = Cnt 196 Q (xo_aload 1 1066 lo st h) := run_s ((lkc_17 1065 (by decide) (by decide)).trans rfl)
theorem rq_L_law_1066 {lo : Lo} {st : List Value} {h : Hp} {Q : Option Value → Hp → Prop} : Run 196 1066 lo st h Q = Cnt 196 Q (xo_aload 0 1067 lo st h) := run_s ((lkc_17 1066 (by decide) (by decide)).trans rfl)
theorem rq_L_law_1067 {lo : Lo} {st : List Value} {h : Hp} {Q : Option Value → Hp → Prop} : Run 196 1067 lo st h Q = Cnt 196 Q (xo_iload 3 1068 lo st h) := run_s ((lkc_17 1067 (by decide) (by decide)).trans rfl)
theorem rq_L_law_1068 {lo : Lo} {st : List Value} {h : Hp} {Q : Option Value → Hp → Prop} : Run 196 1068 lo st h Q = Cnt 196 Q (xo_const (.int 1) 1069 lo st h) := run_s ((lkc_17 1068 (by decide) (by decide)).trans rfl)
theorem rq_L_law_1069 {lo : Lo} {st : List Value} {h : Hp} {Q : Option Value → Hp → Prop} : Run 196 1069 lo st h Q = Cnt 196 Q (xo_bin (fun x y => x + y) 1070 lo st h) := run_s ((lkc_17 1069 (by decide) (by decide)).trans rfl)
theorem rq_L_law_1070 {lo : Lo} {st : List Value} {h : Hp} {Q : Option Value → Hp → Prop} : Run 196 1070 lo st h Q = Cnt 196 Q (xo_iald 1071 lo st h) := run_s ((lkc_17 1070 (by decide) (by decide)).trans rfl)
theorem rq_L_law_1071 {lo : Lo} {st : List Value} {h : Hp} {Q : Option Value → Hp → Prop} : Run 196 1071 lo st h Q = CCall 97 2 (some 9) st h (Knt 196 1074 lo (st.drop 2) Q) := run_c ((lkc_17 1071 (by decide) (by decide)).trans rfl)
theorem rq_L_law_1074 {lo : Lo} {st : List Value} {h : Hp} {Q : Option Value → Hp → Prop} : Run 196 1074 lo st h Q = Cnt 196 Q (xo_aload 2 1075 lo st h) := run_s ((lkc_17 1074 (by decide) (by decide)).trans rfl)
theorem rq_L_law_1075 {lo : Lo} {st : List Value} {h : Hp} {Q : Option Value → Hp → Prop} : Run 196 1075 lo st h Q = Cnt 196 Q (xo_aload 0 1076 lo st h) := run_s ((lkc_17 1075 (by decide) (by decide)).trans rfl)
theorem rq_L_law_1076 {lo : Lo} {st : List Value} {h : Hp} {Q : Option Value → Hp → Prop} : Run 196 1076 lo st h Q = Cnt 196 Q (xo_iload 3 1077 lo st h) := run_s ((lkc_17 1076 (by decide) (by decide)).trans rfl)
theorem rq_L_law_1077 {lo : Lo} {st : List Value} {h : Hp} {Q : Option Value → Hp → Prop} : Run 196 1077 lo st h Q = Cnt 196 Q (xo_const (.int 1) 1078 lo st h) := run_s ((lkc_17 1077 (by decide) (by decide)).trans rfl)
theorem rq_L_law_1078 {lo : Lo} {st : List Value} {h : Hp} {Q : Option Value → Hp → Prop} : Run 196 1078 lo st h Q = Cnt 196 Q (xo_bin (fun x y => x + y) 1079 lo st h) := run_s ((lkc_17 1078 (by decide) (by decide)).trans rfl)
theorem rq_L_law_1079 {lo : Lo} {st : List Value} {h : Hp} {Q : Option Value → Hp → Prop} : Run 196 1079 lo st h Q = Cnt 196 Q (xo_iald 1080 lo st h) := run_s ((lkc_17 1079 (by decide) (by decide)).trans rfl)
theorem rq_L_law_1080 {lo : Lo} {st : List Value} {h : Hp} {Q : Option Value → Hp → Prop} : Run 196 1080 lo st h Q = CCall 189 2 (some 10) st h (Knt 196 1083 lo (st.drop 2) Q) := run_c ((lkc_17 1080 (by decide) (by decide)).trans rfl)
theorem rq_L_law_1083 {lo : Lo} {st : List Value} {h : Hp} {Q : Option Value → Hp → Prop} : Run 196 1083 lo st h Q = Cnt 196 Q (xo_if2 (fun x y => decide (x = y)) 1088 1086 lo st h) := run_s ((lkc_17 1083 (by decide) (by decide)).trans rfl)
theorem rq_L_law_1086 {lo : Lo} {st : List Value} {h : Hp} {Q : Option Value → Hp → Prop} : Run 196 1086 lo st h Q = Cnt 196 Q (xo_const (.int 0) 1087 lo st h) := run_s ((lkc_18 1086 (by decide) (by decide)).trans rfl)
theorem rq_L_law_1087 {lo : Lo} {st : List Value} {h : Hp} {Q : Option Value → Hp → Prop} : Run 196 1087 lo st h Q = Cnt 196 Q (xo_zret lo st h) := run_s ((lkc_18 1087 (by decide) (by decide)).trans rfl)
theorem rq_L_law_1088 {lo : Lo} {st : List Value} {h : Hp} {Q : Option Value → Hp → Prop} : Run 196 1088 lo st h Q = Cnt 196 Q (xo_iinc 3 4 1091 lo st h) := run_s ((lkc_18 1088 (by decide) (by decide)).trans rfl)
theorem rq_L_law_1091 {lo : Lo} {st : List Value} {h : Hp} {Q : Option Value → Hp → Prop} : Run 196 1091 lo st h Q = Cnt 196 Q (xo_goto 18 lo st h) := run_s ((lkc_18 1091 (by decide) (by decide)).trans rfl)
theorem rq_L_law_1094 {lo : Lo} {st : List Value} {h : Hp} {Q : Option Value → Hp → Prop} : Run 196 1094 lo st h Q = Cnt 196 Q (xo_const (.int 1) 1095 lo st h) := run_s ((lkc_18 1094 (by decide) (by decide)).trans rfl)
theorem rq_L_law_1095 {lo : Lo} {st : List Value} {h : Hp} {Q : Option Value → Hp → Prop} : Run 196 1095 lo st h Q = Cnt 196 Q (xo_zret lo st h) := run_s ((lkc_18 1095 (by decide) (by decide)).trans rfl)
